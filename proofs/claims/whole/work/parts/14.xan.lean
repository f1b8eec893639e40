section LFA1
variable {na n nl ns : Nat} {ph gX gY rc : Int32} {tmp con sca ini ori fus lLo lHi lF lC xg xj xd gf gl sl so sk sa sc sv yg yj yd dA dC dO kd ar co va : Nat → Int32} {F L Lo Hi G gp : Nat → Nat}
/-! least distance: the component -/
theorem lf_mn_n {r : Int32} (h : r ≤ 1000) : lf_mn 1000 r = r := by
  unfold lf_mn
  rw [if_neg (Int32.not_lt.mpr h)]
theorem lf_mn_g {d r : Int32} {P : Int32 → Prop} (k : P (lf_mn d r)) : (r ≤ d → P r) ∧ (¬ r ≤ d → P d) := by
  unfold lf_mn at k
  constructor
  · intro h
    rw [if_neg (Int32.not_lt.mpr h)] at k; exact k
  · intro h
    rw [if_pos (Int32.not_le.mp h)] at k; exact k
theorem lf_gl_b {D : Nat → Nat → Int32} {S : Nat → Nat → Prop} {r : Int32} (h : lf_gl D S r) : r ≤ 1000 := ((h r).mp (lf_rfl r)).1
theorem lf_gl_x {D : Nat → Nat → Int32} (hD : ∀ p q, D p q ≤ 1000) (gs ls le p : Nat) : ∃ r, lf_gl D (fun a b => gs ≤ a ∧ a < gs + p ∧ ls ≤ b ∧ b < ls + le) r := by
  have H : ∀ p0 m, ∃ r, lf_gl D (fun a b => a = p0 ∧ ls ≤ b ∧ b < ls + m) r := by
    intro p0 m
    induction m with
    | zero => exact ⟨1000, lf_gl_0 (fun a b z => by omega)⟩
    | succ m ih =>
      obtain ⟨r, hr⟩ := ih
      exact ⟨_, lf_gl_j hr (lf_gl_1 (hD p0 (ls + m))) (fun a b => by omega)⟩
  induction p with
  | zero => exact ⟨1000, lf_gl_0 (fun a b z => by omega)⟩
  | succ p ih =>
    obtain ⟨r, hr⟩ := ih
    obtain ⟨r', hr'⟩ := H (gs + p) le
    exact ⟨_, lf_gl_j hr hr' (fun a b => by omega)⟩
theorem lx_isW {post : Int32 → Prop} {z : Nat} (hz : z < 36) (f : z % 3 = 2 → post 1) (g : ¬ z % 3 = 2 → post 0) : wpX_isWrite post (nI z) := by
  refine ⟨lf_30, ?_⟩
  rw [lf_r3 (by omega)]
  exact pk_eq (z % 3) 2 f g rfl rfl (by omega) (by decide)
theorem lx_isAcc {post : Int32 → Prop} {z : Nat} (hz : z < 36) (f : sk z = 2 → post 1) (g : ¬ sk z = 2 → post 0) : wpX_isAccess post (nI na, nI n, ph, nI nl, nI ns, gX, rc, tmp, con, sca, ini, ori, fus, lLo, lHi, lF, lC, xg, xj, xd, gf, gl, sl, so, sk, sa, sc, sv) (nI z) := by
  have e : (nI z).toNatClampNeg = z := nI_clamp (by omega)
  refine ⟨vp_in_nI hz (by decide), br_c (fun h => f ?_) (fun h => g ?_)⟩
  · rw [e] at h; exact h
  · rw [e] at h; exact h
theorem lx_conf {post : Int32 → Prop} {p q : Nat} (hp : p < 36) (hq : q < 36) (f : (sk p = 2 ∧ sk q = 2 ∧ sa p = sa q ∧ (p % 3 = 2 ∨ q % 3 = 2)) → post 1) (g : ¬ (sk p = 2 ∧ sk q = 2 ∧ sa p = sa q ∧ (p % 3 = 2 ∨ q % 3 = 2)) → post 0) : wpX_canConflict post (nI na, nI n, ph, nI nl, nI ns, gX, rc, tmp, con, sca, ini, ori, fus, lLo, lHi, lF, lC, xg, xj, xd, gf, gl, sl, so, sk, sa, sc, sv) (nI p) (nI q) := by
  have ep : (nI p).toNatClampNeg = p := nI_clamp (by omega)
  have eq : (nI q).toNatClampNeg = q := nI_clamp (by omega)
  unfold wpX_canConflict
  refine lx_isAcc hp (fun h1 => br_f lf_10 ?_) (fun h1 => br_t rfl (g (fun z => h1 z.1)))
  refine lx_isAcc hq (fun h2 => br_f lf_10 ?_) (fun h2 => br_t rfl (g (fun z => h2 z.2.1)))
  refine ⟨vp_in_nI hp (by decide), vp_in_nI hq (by decide), br_c (fun h3 => ?_) (fun h3 => g (fun z => h3 ?_))⟩
  · rw [ep, eq] at h3
    refine lx_isW hp (fun h4 => br_f lf_10 (f ⟨h1, h2, h3, Or.inl h4⟩)) (fun h4 => br_t rfl ?_)
    exact lx_isW hq (fun h5 => br_f lf_10 (f ⟨h1, h2, h3, Or.inr h5⟩)) (fun h5 => br_t rfl (g (fun z => z.2.2.2.elim h4 h5)))
  · rw [ep, eq]; exact z.2.2.1
theorem lf_st1_t {n : Nat} {cp op cq oq : Int32} {i j : Nat} {b : Int32} (h : cp * nI i + op = cq * nI j + oq ∧ ¬ cp * nI i + op < 0 ∧ cp * nI i + op < nI n) (h2 : ¬ b ≤ nI j - nI i) : lf_st1 n cp op cq oq i j b = nI j - nI i := if_pos ⟨h, Int32.not_le.mp h2⟩
theorem lf_st1_f {n : Nat} {cp op cq oq : Int32} {i j : Nat} {b : Int32} (h : ¬ (cp * nI i + op = cq * nI j + oq ∧ ¬ cp * nI i + op < 0 ∧ cp * nI i + op < nI n) ∨ b ≤ nI j - nI i) : lf_st1 n cp op cq oq i j b = b :=
  if_neg (fun z => h.elim (fun q => q z.1) (fun q => absurd z.2 (Int32.not_lt.mpr q)))
theorem lx_pd41 {post : Int32 → Prop} {J13 : Int32 → Int32 → Prop} {p q l i a : Nat} {b : Int32} (hq : q < 36) (hl : l < nl) (hnl : nl ≤ 8) (hn : n ≤ 16) (hLP : lf_LP nl F Lo Hi lLo lHi lF lC) (ha : a < 6) (eq : sa q = nI a)
    (k : J13 (lf_pi n (sc p) (sv p) (sc q) (sv q) (Lo l) (Hi l) i b) (nI (i + 1))) :
    ∃ m, wX_pairDistance_41 post J13 (nI p) (nI q) (nI l) (nI i) (lf_cell n (nI a) (sc p * nI i + sv p)) (nI na) (nI n) ph (nI nl) (nI ns) gX rc tmp con sca ini ori fus lLo lHi lF lC xg xj xd gf gl sl so sk sa sc sv m b (nI (Lo l)) := by
  have hi : vp_in (nI l) 8 := vp_in_nI (by omega) (by decide)
  have ec : (nI l).toNatClampNeg = l := nI_clamp (by omega)
  obtain ⟨q1, q2, q3, q4, q5, q6⟩ := hLP l hl
  have ex : ∀ j d, Hi l < j → j ≤ 16 → (j ≤ Hi l + 1 ∨ j = Lo l) → wX_pairDistance_41 post J13 (nI p) (nI q) (nI l) (nI i) (lf_cell n (nI a) (sc p * nI i + sv p)) (nI na) (nI n) ph (nI nl) (nI ns) gX rc tmp con sca ini ori fus lLo lHi lF lC xg xj xd gf gl sl so sk sa sc sv (d + 1) (lf_to (fun j b => lf_st1 n (sc p) (sv p) (sc q) (sv q) i j b) (Lo l) j b) (nI j) := by
    intro j d h1 h2 h3
    refine ⟨hi, br_t ?_ (nm_r (nI_1 i) ?_)⟩
    · rw [ec, q2]; exact nI_lt h1 (by omega)
    · rw [lf_to_x h1 h3]; exact k
  have H : ∀ d j, Lo l ≤ j → Hi l + 1 ≤ j + d → (j ≤ Hi l + 1 ∨ j = Lo l) → wX_pairDistance_41 post J13 (nI p) (nI q) (nI l) (nI i) (lf_cell n (nI a) (sc p * nI i + sv p)) (nI na) (nI n) ph (nI nl) (nI ns) gX rc tmp con sca ini ori fus lLo lHi lF lC xg xj xd gf gl sl so sk sa sc sv (d + 1) (lf_to (fun j b => lf_st1 n (sc p) (sv p) (sc q) (sv q) i j b) (Lo l) j b) (nI j) := by
    intro d
    induction d with
    | zero =>
      intro j h1 h2 h3
      exact ex j 0 (by omega) (by omega) h3
    | succ d ih =>
      intro j h1 h2 h3
      by_cases hh : Hi l < j
      · exact ex j (d + 1) hh (by omega) h3
      · have h := ih (j + 1) (by omega) (by omega) (by omega)
        rw [lf_to_s h1] at h
        have hx : ¬ lHi (nI l).toNatClampNeg < nI j := by rw [ec, q2]; exact nI_nlt (by omega) (by omega)
        have hiff := lf_cell_iff (n := n) (a := a) (x := sc p * nI i + sv p) (y := sc q * nI j + sv q) hn ha
        refine ⟨hi, br_f hx (br_c (fun hc => ?_) (fun hc => ?_))⟩
        · rw [lf_st1_f (Or.inl (fun z => (hiff.mpr z).1 hc))] at h
          exact nm_r (nI_1 j) h
        · refine lx_cellAt hq ?_
          rw [eq]
          refine br_c (fun hd => br_c (fun he => ?_) (fun he => ?_)) (fun hd => ?_)
          · rw [lf_st1_f (Or.inr he)] at h
            exact nm_r (nI_1 j) h
          · rw [lf_st1_t (hiff.mp ⟨hc, hd⟩) he] at h
            exact nm_e (nm_r (nI_1 j) h)
          · rw [lf_st1_f (Or.inl (fun z => hd (hiff.mpr z).2))] at h
            exact nm_r (nI_1 j) h
  have h := H (Hi l + 1) (Lo l) (Nat.le_refl _) (by omega) (Or.inr rfl)
  rw [lf_to_e (Nat.le_refl _)] at h
  exact ⟨_, h⟩
theorem lx_pd {post : Int32 → Prop} {p q l : Nat} (hp : p < 36) (hq : q < 36) (hl : l < nl) (hnl : nl ≤ 8) (hna : na ≤ 6) (hn : n ≤ 16) (hLP : lf_LP nl F Lo Hi lLo lHi lF lC) (ha : ∃ a, a < na ∧ sa p = nI a) (epq : sa p = sa q)
    (k : post (lf_pd n (Lo l) (Hi l) (sc p) (sv p) (sc q) (sv q))) : wpX_pairDistance post (nI na, nI n, ph, nI nl, nI ns, gX, rc, tmp, con, sca, ini, ori, fus, lLo, lHi, lF, lC, xg, xj, xd, gf, gl, sl, so, sk, sa, sc, sv) (nI p) (nI q) (nI l) := by
  have hi : vp_in (nI l) 8 := vp_in_nI (by omega) (by decide)
  have ec : (nI l).toNatClampNeg = l := nI_clamp (by omega)
  obtain ⟨q1, q2, q3, q4, q5, q6⟩ := id (hLP l hl)
  obtain ⟨a, ha, ea⟩ := ha
  have ex : ∀ i d, Hi l < i → i ≤ 16 → (i ≤ Hi l + 1 ∨ i = Lo l) → wX_pairDistance_13 post (nI p) (nI q) (nI l) (nI na) (nI n) ph (nI nl) (nI ns) gX rc tmp con sca ini ori fus lLo lHi lF lC xg xj xd gf gl sl so sk sa sc sv (d + 1) (lf_to (fun i b => lf_pi n (sc p) (sv p) (sc q) (sv q) (Lo l) (Hi l) i b) (Lo l) i 1000) (nI i) := by
    intro i d h1 h2 h3
    refine ⟨hi, br_t ?_ ?_⟩
    · rw [ec, q2]; exact nI_lt h1 (by omega)
    · rw [lf_to_x h1 h3]; exact k
  have H : ∀ d i, Lo l ≤ i → Hi l + 1 ≤ i + d → (i ≤ Hi l + 1 ∨ i = Lo l) → wX_pairDistance_13 post (nI p) (nI q) (nI l) (nI na) (nI n) ph (nI nl) (nI ns) gX rc tmp con sca ini ori fus lLo lHi lF lC xg xj xd gf gl sl so sk sa sc sv (d + 1) (lf_to (fun i b => lf_pi n (sc p) (sv p) (sc q) (sv q) (Lo l) (Hi l) i b) (Lo l) i 1000) (nI i) := by
    intro d
    induction d with
    | zero =>
      intro i h1 h2 h3
      exact ex i 0 (by omega) (by omega) h3
    | succ d ih =>
      intro i h1 h2 h3
      by_cases hh : Hi l < i
      · exact ex i (d + 1) hh (by omega) h3
      · have h := ih (i + 1) (by omega) (by omega) (by omega)
        rw [lf_to_s h1] at h
        have hx : ¬ lHi (nI l).toNatClampNeg < nI i := by rw [ec, q2]; exact nI_nlt (by omega) (by omega)
        refine ⟨hi, br_f hx ?_⟩
        refine lx_cellAt hp ?_
        rw [ea]
        exact ⟨hi, nm_r (e' := nI (Lo l)) (by rw [ec]; exact q1) (lx_pd41 hq hl hnl hn hLP (by omega) (epq.symm.trans ea) h)⟩
  refine ⟨hi, nm_r (e' := nI (Lo l)) (by rw [ec]; exact q1) ⟨Hi l + 1 + 1, ?_⟩⟩
  have h := H (Hi l + 1) (Lo l) (Nat.le_refl _) (by omega) (Or.inr rfl)
  rw [lf_to_e (Nat.le_refl _)] at h
  exact h
theorem lf_D_t {n lo hi : Nat} {sk sa sc sv : Nat → Int32} {p q : Nat} (h : sk p = 2 ∧ sk q = 2 ∧ sa p = sa q ∧ (p % 3 = 2 ∨ q % 3 = 2)) : lf_D n lo hi sk sa sc sv p q = lf_pd n lo hi (sc p) (sv p) (sc q) (sv q) := if_pos h
theorem lf_D_f {n lo hi : Nat} {sk sa sc sv : Nat → Int32} {p q : Nat} (h : ¬ (sk p = 2 ∧ sk q = 2 ∧ sa p = sa q ∧ (p % 3 = 2 ∨ q % 3 = 2))) : lf_D n lo hi sk sa sc sv p q = 1000 := if_neg h
theorem lf_WF2 {z : Nat} (hz : z < 3 * ns) (hw : lf_WF na ns sk sa) (h : sk z = 2) : ∃ a, a < na ∧ sa z = nI a := by
  rcases hw z hz with h1 | h1 | h1
  · exact absurd (h1.symm.trans h) (by decide)
  · exact absurd (h1.symm.trans h) (by decide)
  · exact h1.2
theorem lx_ld57 {post : Int32 → Prop} {J48 : Int32 → Int32 → Prop} {l gs ls le p : Nat} {r0 : Int32} (hls : ls ≤ le) (hp : gs ≤ p) (hp2 : p < ls) (hle : le ≤ 3 * ns) (hns : ns ≤ 12) (hl : l < nl) (hnl : nl ≤ 8) (hna : na ≤ 6) (hn : n ≤ 16) (hLP : lf_LP nl F Lo Hi lLo lHi lF lC) (hw : lf_WF na ns sk sa)
    (h0 : lf_gl (lf_D n (Lo l) (Hi l) sk sa sc sv) (fun a b => gs ≤ a ∧ a < p ∧ ls ≤ b ∧ b < le) r0)
    (k : ∀ r, lf_gl (lf_D n (Lo l) (Hi l) sk sa sc sv) (fun a b => gs ≤ a ∧ a < p + 1 ∧ ls ≤ b ∧ b < le) r → J48 r (nI (p + 1))) :
    ∃ m, wX_leastDistance_57 post J48 (nI l) (nI ls) (nI le) (nI p) (nI na) (nI n) ph (nI nl) (nI ns) gX rc tmp con sca ini ori fus lLo lHi lF lC xg xj xd gf gl sl so sk sa sc sv m r0 (nI ls) := by
  have H : ∀ d q r, ls ≤ q → q + d = le → lf_gl (lf_D n (Lo l) (Hi l) sk sa sc sv) (fun a b => (gs ≤ a ∧ a < p ∧ ls ≤ b ∧ b < le) ∨ (a = p ∧ ls ≤ b ∧ b < q)) r → wX_leastDistance_57 post J48 (nI l) (nI ls) (nI le) (nI p) (nI na) (nI n) ph (nI nl) (nI ns) gX rc tmp con sca ini ori fus lLo lHi lF lC xg xj xd gf gl sl so sk sa sc sv (d + 1) r (nI q) := by
    intro d
    induction d with
    | zero =>
      intro q r h1 h2 h3
      obtain rfl : q = le := by omega
      exact br_t (lf_rfl _) (nm_r (nI_1 p) (k r (lf_gl_e h3 (fun a b => by omega))))
    | succ d ih =>
      intro q r h1 h2 h3
      have hj := lf_gl_j (S' := fun a b => (gs ≤ a ∧ a < p ∧ ls ≤ b ∧ b < le) ∨ (a = p ∧ ls ≤ b ∧ b < q + 1)) h3 (lf_gl_1 (p := p) (q := q) lf_D_le) (fun a b => by omega)
      refine br_f (nI_ge (by omega) (by omega)) ?_
      refine lx_conf (by omega) (by omega) (fun hc => br_f lf_10 ?_) (fun hc => br_t rfl ?_)
      · rw [lf_D_t hc] at hj
        refine lx_pd (by omega) (by omega) hl hnl hna hn hLP (lf_WF2 (by omega) hw hc.1) hc.2.2.1 ?_
        exact lf_mn_g (P := fun v => ∀ x7, x7 = nI q + 1 → wX_leastDistance_57 post J48 (nI l) (nI ls) (nI le) (nI p) (nI na) (nI n) ph (nI nl) (nI ns) gX rc tmp con sca ini ori fus lLo lHi lF lC xg xj xd gf gl sl so sk sa sc sv (d + 1) v x7) (nm_r (nI_1 q) (ih (q + 1) _ (by omega) (by omega) hj))
      · rw [lf_D_f hc, lf_mn_n (lf_gl_b h3)] at hj
        exact nm_r (nI_1 q) (ih (q + 1) r (by omega) (by omega) hj)
  exact ⟨_, H (le - ls) ls r0 (Nat.le_refl _) (by omega) (lf_gl_e h0 (fun a b => by omega))⟩
theorem lx_ld {post : Int32 → Prop} {l g : Nat} {r : Int32} (hB : lf_B na n nl ns F L Lo Hi lLo lHi lF lC sl sk sa sc sv kd ar co va dA dC dO) (hG : lf_G l g G gp xg gf gl yg) (h0 : 0 < l) (hl : l < nl)
    (hr : lf_gl (lf_D n (Lo l) (Hi l) sk sa sc sv) (fun a b => 3 * F (G (g - 1)) ≤ a ∧ a < 3 * F l ∧ 3 * F l ≤ b ∧ b < 3 * F (l + 1)) r) (k : post r) : wpX_leastDistance post (nI na, nI n, ph, nI nl, nI ns, nI g, rc, tmp, con, sca, ini, ori, fus, lLo, lHi, lF, lC, xg, xj, xd, gf, gl, sl, so, sk, sa, sc, sv) (nI l) := by
  obtain ⟨⟨_, hna, _, hn, hnl, hns⟩, hPT, hLP, hsl, hSR, hw⟩ := hB
  have hg : g ≤ l := lf_PT_sn hG.1 (fun a ha => (hG.2.1 a ha).1)
  have hg0 : 0 < g := by have := (hG.1.2.2.2 0 h0).1; omega
  obtain ⟨p1, p2, p3⟩ := hG.2.1 (g - 1) (by omega)
  rw [show g - 1 + 1 = g by omega, hG.1.2.1] at p1
  have e1 : (nI g - 1).toNatClampNeg = g - 1 := by rw [lf_p1 hg0]; exact nI_clamp (by omega)
  have i1 : vp_in (nI g - 1) 8 := by rw [lf_p1 hg0]; exact vp_in_nI (by omega) (by decide)
  have i2 : vp_in (nI (G (g - 1))) 8 := vp_in_nI (by omega) (by decide)
  have e2 : (nI (G (g - 1))).toNatClampNeg = G (g - 1) := nI_clamp (by omega)
  have i3 : vp_in (nI l) 8 := vp_in_nI (by omega) (by decide)
  have e3 : (nI l).toNatClampNeg = l := nI_clamp (by omega)
  have hm : F (G (g - 1)) ≤ F l := lf_PT_mono hPT _ (by omega) (by omega)
  have hm2 : F l ≤ F (l + 1) := hPT.2.2.1 l hl
  have hle : F (l + 1) ≤ ns := lf_PT_le hPT (by omega)
  refine ⟨i1, ?_, nm_r (e' := nI (3 * F (G (g - 1)))) ?_ ⟨i3, nm_r (e' := nI (3 * F l)) ?_ ⟨i3, nm_r (e' := nI (3 * F (l + 1))) ?_ ⟨3 * F l - 3 * F (G (g - 1)) + 1, ?_⟩⟩⟩⟩
  · rw [e1, p2]; exact i2
  · rw [e1, p2, e2, (hLP (G (g - 1)) (by omega)).2.2.2.2.1, lf_m3]
  · rw [e3, (hLP l hl).2.2.2.2.1, lf_m3]
  · rw [e3, (hLP l hl).2.2.2.2.2, lf_m3, nI_add]
    exact congrArg nI (by omega)
  · have H : ∀ d p r', 3 * F (G (g - 1)) ≤ p → p + d = 3 * F l → lf_gl (lf_D n (Lo l) (Hi l) sk sa sc sv) (fun a b => 3 * F (G (g - 1)) ≤ a ∧ a < p ∧ 3 * F l ≤ b ∧ b < 3 * F (l + 1)) r' → wX_leastDistance_48 post (nI l) (nI (3 * F l)) (nI (3 * F (l + 1))) (nI na) (nI n) ph (nI nl) (nI ns) (nI g) rc tmp con sca ini ori fus lLo lHi lF lC xg xj xd gf gl sl so sk sa sc sv (d + 1) r' (nI p) := by
      intro d
      induction d with
      | zero =>
        intro p r' h1 h2 h3
        obtain rfl : p = 3 * F l := by omega
        obtain rfl := lf_gl_u hr h3 (fun a b => Iff.rfl)
        exact br_t (lf_rfl _) k
      | succ d ih =>
        intro p r' h1 h2 h3
        exact br_f (nI_ge (by omega) (by omega)) (lx_ld57 (by omega) h1 (by omega) (by omega) hns hl hnl hna hn hLP hw h3 (fun r hr => ih (p + 1) r (by omega) (by omega) hr))
    exact H (3 * F l - 3 * F (G (g - 1))) (3 * F (G (g - 1))) 1000 (Nat.le_refl _) (by omega) (lf_gl_0 (fun a b z => by omega))
end LFA1
