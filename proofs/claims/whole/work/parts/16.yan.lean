section LFA3
variable {na n nl ns : Nat} {ph gX gY rc : Int32} {tmp con sca ini ori fus lLo lHi lF lC xg xj xd gf gl sl so sk sa sc sv yg yj yd dA dC dO kd ar co va : Nat → Int32} {F L Lo Hi G gp : Nat → Nat}
/-! least distance: the reference -/
theorem lf_SRw {s w : Nat} (hs : s < ns) (hw : w < 2) (hSR : lf_SR ns sk sa sc sv kd ar co va dA dC dO) : sk (3 * s + w) = kd (2 * s + w) ∧ sa (3 * s + w) = ar (2 * s + w) ∧ sc (3 * s + w) = co (2 * s + w) ∧ sv (3 * s + w) = va (2 * s + w) := by
  rcases (show w = 0 ∨ w = 1 by omega) with e | e
  · subst e; exact (hSR s hs).1
  · subst e; exact (hSR s hs).2.1
theorem ly_z {s w : Nat} (hs : s < 12) (hw : w < 2) : vp_in (nI s * 2 + nI w) 24 ∧ (nI s * 2 + nI w).toNatClampNeg = 2 * s + w := by
  rw [lf_m2, nI_add]
  exact ⟨vp_in_nI (by omega) (by decide), nI_clamp (by omega)⟩
theorem lf_n2 {p : Nat} (h : p < 2) : ¬ nI p = 2 := lf_eq1 (b := 2) (by omega) (by decide) (by omega)
theorem ly_accArr {post : Int32 → Prop} {s p : Nat} (hs : s < ns) (hns : ns ≤ 12) (hp : p < 3) (hSR : lf_SR ns sk sa sc sv kd ar co va dA dC dO) (f : sk (3 * s + p) = 2 → post (sa (3 * s + p))) (g : ¬ sk (3 * s + p) = 2 → post (-1)) : wpY_accArr post (nI na, nI n, nI nl, nI ns, ph, gY, rc, tmp, con, lLo, lHi, lF, lC, yg, yj, yd, sl, so, dA, dC, dO, kd, ar, co, va, ini, ori, fus, sca) (nI s) (nI p) := by
  have e : (nI s).toNatClampNeg = s := nI_clamp (by omega)
  by_cases hp2 : p = 2
  · subst hp2
    obtain ⟨c1, c2, c3, c4⟩ := (hSR s hs).2.2
    have h := f c1
    rw [c2] at h
    exact br_t rfl ⟨vp_in_nI (by omega) (by decide), by rw [e]; exact h⟩
  · obtain ⟨a1, a2, a3, a4⟩ := lf_SRw (w := p) hs (by omega) hSR
    obtain ⟨i1, e1⟩ := ly_z (s := s) (w := p) (by omega) (by omega)
    rw [a1, a2] at f
    rw [a1] at g
    refine br_f (lf_n2 (by omega)) ⟨i1, br_c (fun h => ⟨i1, ?_⟩) (fun h => g ?_)⟩
    · rw [e1] at h ⊢; exact f h
    · rw [e1] at h; exact h
theorem ly_accCoef {post : Int32 → Prop} {s p : Nat} (hs : s < ns) (hns : ns ≤ 12) (hp : p < 3) (hSR : lf_SR ns sk sa sc sv kd ar co va dA dC dO) (k : post (sc (3 * s + p))) : wpY_accCoef post (nI na, nI n, nI nl, nI ns, ph, gY, rc, tmp, con, lLo, lHi, lF, lC, yg, yj, yd, sl, so, dA, dC, dO, kd, ar, co, va, ini, ori, fus, sca) (nI s) (nI p) := by
  have e : (nI s).toNatClampNeg = s := nI_clamp (by omega)
  by_cases hp2 : p = 2
  · subst hp2
    obtain ⟨c1, c2, c3, c4⟩ := (hSR s hs).2.2
    rw [c3] at k
    exact br_t rfl ⟨vp_in_nI (by omega) (by decide), by rw [e]; exact k⟩
  · obtain ⟨a1, a2, a3, a4⟩ := lf_SRw (w := p) hs (by omega) hSR
    obtain ⟨i1, e1⟩ := ly_z (s := s) (w := p) (by omega) (by omega)
    rw [a3] at k
    exact br_f (lf_n2 (by omega)) ⟨i1, by rw [e1]; exact k⟩
theorem ly_accOff {post : Int32 → Prop} {s p : Nat} (hs : s < ns) (hns : ns ≤ 12) (hp : p < 3) (hSR : lf_SR ns sk sa sc sv kd ar co va dA dC dO) (k : post (sv (3 * s + p))) : wpY_accOff post (nI na, nI n, nI nl, nI ns, ph, gY, rc, tmp, con, lLo, lHi, lF, lC, yg, yj, yd, sl, so, dA, dC, dO, kd, ar, co, va, ini, ori, fus, sca) (nI s) (nI p) := by
  have e : (nI s).toNatClampNeg = s := nI_clamp (by omega)
  by_cases hp2 : p = 2
  · subst hp2
    obtain ⟨c1, c2, c3, c4⟩ := (hSR s hs).2.2
    rw [c4] at k
    exact br_t rfl ⟨vp_in_nI (by omega) (by decide), by rw [e]; exact k⟩
  · obtain ⟨a1, a2, a3, a4⟩ := lf_SRw (w := p) hs (by omega) hSR
    obtain ⟨i1, e1⟩ := ly_z (s := s) (w := p) (by omega) (by omega)
    rw [a4] at k
    exact br_f (lf_n2 (by omega)) ⟨i1, by rw [e1]; exact k⟩
theorem ly_pd94 {post : Int32 → Prop} {J83 : Int32 → Int32 → Prop} {cp op cq oq b : Int32} {lo hi i : Nat} (hlo : lo ≤ 15) (hhi : hi ≤ 15)
    (k : J83 (lf_pi n cp op cq oq lo hi i b) (nI (i + 1))) : ∃ m, wY_pairDist_94 post J83 (nI lo) (nI hi) cp op cq oq (nI i) (nI na) (nI n) (nI nl) (nI ns) ph gY rc tmp con lLo lHi lF lC yg yj yd sl so dA dC dO kd ar co va ini ori fus sca m b (nI lo) := by
  have ex : ∀ j d, hi < j → j ≤ 16 → (j ≤ hi + 1 ∨ j = lo) → wY_pairDist_94 post J83 (nI lo) (nI hi) cp op cq oq (nI i) (nI na) (nI n) (nI nl) (nI ns) ph gY rc tmp con lLo lHi lF lC yg yj yd sl so dA dC dO kd ar co va ini ori fus sca (d + 1) (lf_to (fun j b => lf_st1 n cp op cq oq i j b) lo j b) (nI j) := by
    intro j d h1 h2 h3
    refine br_t (nI_lt h1 (by omega)) (nm_r (nI_1 i) ?_)
    rw [lf_to_x h1 h3]; exact k
  have H : ∀ d j, lo ≤ j → hi + 1 ≤ j + d → (j ≤ hi + 1 ∨ j = lo) → wY_pairDist_94 post J83 (nI lo) (nI hi) cp op cq oq (nI i) (nI na) (nI n) (nI nl) (nI ns) ph gY rc tmp con lLo lHi lF lC yg yj yd sl so dA dC dO kd ar co va ini ori fus sca (d + 1) (lf_to (fun j b => lf_st1 n cp op cq oq i j b) lo j b) (nI j) := by
    intro d
    induction d with
    | zero =>
      intro j h1 h2 h3
      exact ex j 0 (by omega) (by omega) h3
    | succ d ih =>
      intro j h1 h2 h3
      by_cases hh : hi < j
      · exact ex j (d + 1) hh (by omega) h3
      · have h := ih (j + 1) (by omega) (by omega) (by omega)
        rw [lf_to_s h1] at h
        refine br_f (nI_nlt (by omega) (by omega)) (nm_e (br_c (fun c1 => br_c (fun c2 => ?_) (fun c2 => br_c (fun c3 => ?_) (fun c3 => br_c (fun c4 => ?_) (fun c4 => ?_)))) (fun c1 => ?_)))
        · rw [lf_st1_f (Or.inl (fun z => z.2.1 c2))] at h
          exact nm_r (nI_1 j) h
        · rw [lf_st1_f (Or.inl (fun z => absurd z.2.2 (Int32.not_lt.mpr c3)))] at h
          exact nm_r (nI_1 j) h
        · rw [lf_st1_f (Or.inr c4)] at h
          exact nm_r (nI_1 j) h
        · rw [lf_st1_t ⟨c1, c2, Int32.not_le.mp c3⟩ c4] at h
          exact nm_e (nm_r (nI_1 j) h)
        · rw [lf_st1_f (Or.inl (fun z => c1 z.1))] at h
          exact nm_r (nI_1 j) h
  have h := H (hi + 1) lo (Nat.le_refl _) (by omega) (Or.inr rfl)
  rw [lf_to_e (Nat.le_refl _)] at h
  exact ⟨_, h⟩
theorem ly_pd83 {post : Int32 → Prop} {cp op cq oq : Int32} {lo hi : Nat} (hlo : lo ≤ 15) (hhi : hi ≤ 15)
    (k : post (lf_pd n lo hi cp op cq oq)) : ∃ m, wY_pairDist_83 post (nI lo) (nI hi) cp op cq oq (nI na) (nI n) (nI nl) (nI ns) ph gY rc tmp con lLo lHi lF lC yg yj yd sl so dA dC dO kd ar co va ini ori fus sca m 1000 (nI lo) := by
  have ex : ∀ i d, hi < i → i ≤ 16 → (i ≤ hi + 1 ∨ i = lo) → wY_pairDist_83 post (nI lo) (nI hi) cp op cq oq (nI na) (nI n) (nI nl) (nI ns) ph gY rc tmp con lLo lHi lF lC yg yj yd sl so dA dC dO kd ar co va ini ori fus sca (d + 1) (lf_to (fun i b => lf_pi n cp op cq oq lo hi i b) lo i 1000) (nI i) := by
    intro i d h1 h2 h3
    refine br_t (nI_lt h1 (by omega)) ?_
    rw [lf_to_x h1 h3]; exact k
  have H : ∀ d i, lo ≤ i → hi + 1 ≤ i + d → (i ≤ hi + 1 ∨ i = lo) → wY_pairDist_83 post (nI lo) (nI hi) cp op cq oq (nI na) (nI n) (nI nl) (nI ns) ph gY rc tmp con lLo lHi lF lC yg yj yd sl so dA dC dO kd ar co va ini ori fus sca (d + 1) (lf_to (fun i b => lf_pi n cp op cq oq lo hi i b) lo i 1000) (nI i) := by
    intro d
    induction d with
    | zero =>
      intro i h1 h2 h3
      exact ex i 0 (by omega) (by omega) h3
    | succ d ih =>
      intro i h1 h2 h3
      by_cases hh : hi < i
      · exact ex i (d + 1) hh (by omega) h3
      · have h := ih (i + 1) (by omega) (by omega) (by omega)
        rw [lf_to_s h1] at h
        exact br_f (nI_nlt (by omega) (by omega)) (ly_pd94 hlo hhi h)
  have h := H (hi + 1) lo (Nat.le_refl _) (by omega) (Or.inr rfl)
  rw [lf_to_e (Nat.le_refl _)] at h
  exact ⟨_, h⟩
theorem ly_pd40 {post : Int32 → Prop} {s p t q lo hi : Nat} (hs : s < ns) (ht : t < ns) (hns : ns ≤ 12) (hp : p < 3) (hq : q < 3) (hSR : lf_SR ns sk sa sc sv kd ar co va dA dC dO) (hlo : lo ≤ 15) (hhi : hi ≤ 15)
    (k : post (lf_pd n lo hi (sc (3 * s + p)) (sv (3 * s + p)) (sc (3 * t + q)) (sv (3 * t + q)))) : wY_pairDist_40 post (nI s) (nI p) (nI t) (nI q) (nI lo) (nI hi) (nI na) (nI n) (nI nl) (nI ns) ph gY rc tmp con lLo lHi lF lC yg yj yd sl so dA dC dO kd ar co va ini ori fus sca := by
  unfold wY_pairDist_40
  refine ly_accCoef hs hns hp hSR ?_
  refine ly_accOff hs hns hp hSR ?_
  refine ly_accCoef ht hns hq hSR ?_
  refine ly_accOff ht hns hq hSR ?_
  exact ly_pd83 hlo hhi k
theorem ly_pd {post : Int32 → Prop} {s p t q lo hi : Nat} (hs : s < ns) (ht : t < ns) (hns : ns ≤ 12) (hna : na ≤ 6) (hp : p < 3) (hq : q < 3) (hSR : lf_SR ns sk sa sc sv kd ar co va dA dC dO) (hw : lf_WF na ns sk sa) (hlo : lo ≤ 15) (hhi : hi ≤ 15)
    (k : post (lf_D n lo hi sk sa sc sv (3 * s + p) (3 * t + q))) : wpY_pairDist post (nI na, nI n, nI nl, nI ns, ph, gY, rc, tmp, con, lLo, lHi, lF, lC, yg, yj, yd, sl, so, dA, dC, dO, kd, ar, co, va, ini, ori, fus, sca) (nI s) (nI p) (nI t) (nI q) (nI lo) (nI hi) := by
  have m1 : (3 * s + p) % 3 = p := by omega
  have m2 : (3 * t + q) % 3 = q := by omega
  have kf : ¬ (sk (3 * s + p) = 2 ∧ sk (3 * t + q) = 2 ∧ sa (3 * s + p) = sa (3 * t + q) ∧ ((3 * s + p) % 3 = 2 ∨ (3 * t + q) % 3 = 2)) → post 1000 := fun h => by rw [lf_D_f h] at k; exact k
  have kt : (sk (3 * s + p) = 2 ∧ sk (3 * t + q) = 2 ∧ sa (3 * s + p) = sa (3 * t + q) ∧ ((3 * s + p) % 3 = 2 ∨ (3 * t + q) % 3 = 2)) → wY_pairDist_40 post (nI s) (nI p) (nI t) (nI q) (nI lo) (nI hi) (nI na) (nI n) (nI nl) (nI ns) ph gY rc tmp con lLo lHi lF lC yg yj yd sl so dA dC dO kd ar co va ini ori fus sca := fun h => by
    rw [lf_D_t h] at k; exact ly_pd40 hs ht hns hp hq hSR hlo hhi k
  rw [m1, m2] at kf kt
  unfold wpY_pairDist
  refine ly_accArr hs hns hp hSR (fun h1 => ?_) (fun h1 => br_t (by decide) (kf (fun z => h1 z.1)))
  obtain ⟨a, ha, ea⟩ := lf_WF2 (z := 3 * s + p) (by omega) hw h1
  refine br_f (by rw [ea]; exact nI_pos (by omega)) ?_
  refine ly_accArr ht hns hq hSR (fun h2 => ?_) (fun h2 => br_f (by rw [ea]; exact lf_ne1 (by omega)) (kf (fun z => h2 z.2.1)))
  refine br_c (fun h3 => ?_) (fun h3 => kf (fun z => h3 z.2.2.1))
  refine pk_eq p 2 (fun h4 => kt ⟨h1, h2, h3, Or.inl h4⟩) (fun h4 => ?_) rfl rfl (by omega) (by decide)
  exact pk_eq q 2 (fun h5 => kt ⟨h1, h2, h3, Or.inr h5⟩) (fun h5 => kf (fun z => z.2.2.2.elim h4 h5)) rfl rfl (by omega) (by decide)
theorem ly_sd17 {post : Int32 → Prop} {J8 : Int32 → Int32 → Prop} {s p t lo hi : Nat} {r0 : Int32} (hs : s < ns) (ht : t < ns) (hns : ns ≤ 12) (hna : na ≤ 6) (hp : p < 3) (hSR : lf_SR ns sk sa sc sv kd ar co va dA dC dO) (hw : lf_WF na ns sk sa) (hlo : lo ≤ 15) (hhi : hi ≤ 15)
    (h0 : lf_gl (lf_D n lo hi sk sa sc sv) (fun a b => a / 3 = s ∧ b / 3 = t ∧ a % 3 < p) r0)
    (k : ∀ r, lf_gl (lf_D n lo hi sk sa sc sv) (fun a b => a / 3 = s ∧ b / 3 = t ∧ a % 3 < p + 1) r → J8 r (nI (p + 1))) :
    ∃ m, wY_stmtDist_17 post J8 (nI s) (nI t) (nI lo) (nI hi) (nI p) (nI na) (nI n) (nI nl) (nI ns) ph gY rc tmp con lLo lHi lF lC yg yj yd sl so dA dC dO kd ar co va ini ori fus sca m r0 0 := by
  have H : ∀ d q r, q + d = 3 → lf_gl (lf_D n lo hi sk sa sc sv) (fun a b => a / 3 = s ∧ b / 3 = t ∧ (a % 3 < p ∨ (a % 3 = p ∧ b % 3 < q))) r → wY_stmtDist_17 post J8 (nI s) (nI t) (nI lo) (nI hi) (nI p) (nI na) (nI n) (nI nl) (nI ns) ph gY rc tmp con lLo lHi lF lC yg yj yd sl so dA dC dO kd ar co va ini ori fus sca (d + 1) r (nI q) := by
    intro d
    induction d with
    | zero =>
      intro q r h1 h2
      obtain rfl : q = 3 := by omega
      exact br_t (by decide) (nm_r (nI_1 p) (k r (lf_gl_e h2 (fun a b => by omega))))
    | succ d ih =>
      intro q r h1 h2
      have hj := lf_gl_j (S' := fun a b => a / 3 = s ∧ b / 3 = t ∧ (a % 3 < p ∨ (a % 3 = p ∧ b % 3 < q + 1))) h2 (lf_gl_1 (p := 3 * s + p) (q := 3 * t + q) lf_D_le) (fun a b => by omega)
      refine br_f (nI_ge (b := 3) (by omega) (by decide)) ?_
      refine ly_pd hs ht hns hna hp (by omega) hSR hw hlo hhi ?_
      exact lf_mn_g (P := fun v => ∀ x7, x7 = nI q + 1 → wY_stmtDist_17 post J8 (nI s) (nI t) (nI lo) (nI hi) (nI p) (nI na) (nI n) (nI nl) (nI ns) ph gY rc tmp con lLo lHi lF lC yg yj yd sl so dA dC dO kd ar co va ini ori fus sca (d + 1) v x7) (nm_r (nI_1 q) (ih (q + 1) _ (by omega) hj))
  exact ⟨_, H 3 0 r0 rfl (lf_gl_e h0 (fun a b => by omega))⟩
theorem ly_sd {post : Int32 → Prop} {s t lo hi : Nat} (hs : s < ns) (ht : t < ns) (hns : ns ≤ 12) (hna : na ≤ 6) (hSR : lf_SR ns sk sa sc sv kd ar co va dA dC dO) (hw : lf_WF na ns sk sa) (hlo : lo ≤ 15) (hhi : hi ≤ 15)
    (k : ∀ r, lf_gl (lf_D n lo hi sk sa sc sv) (fun a b => a / 3 = s ∧ b / 3 = t) r → post r) : wpY_stmtDist post (nI na, nI n, nI nl, nI ns, ph, gY, rc, tmp, con, lLo, lHi, lF, lC, yg, yj, yd, sl, so, dA, dC, dO, kd, ar, co, va, ini, ori, fus, sca) (nI s) (nI t) (nI lo) (nI hi) := by
  have H : ∀ d p r, p + d = 3 → lf_gl (lf_D n lo hi sk sa sc sv) (fun a b => a / 3 = s ∧ b / 3 = t ∧ a % 3 < p) r → wY_stmtDist_8 post (nI s) (nI t) (nI lo) (nI hi) (nI na) (nI n) (nI nl) (nI ns) ph gY rc tmp con lLo lHi lF lC yg yj yd sl so dA dC dO kd ar co va ini ori fus sca (d + 1) r (nI p) := by
    intro d
    induction d with
    | zero =>
      intro p r h1 h2
      obtain rfl : p = 3 := by omega
      exact br_t (by decide) (k r (lf_gl_e h2 (fun a b => by omega)))
    | succ d ih =>
      intro p r h1 h2
      exact br_f (nI_ge (b := 3) (by omega) (by decide)) (ly_sd17 hs ht hns hna (by omega) hSR hw hlo hhi h2 (fun r hr => ih (p + 1) r (by omega) hr))
  exact ⟨_, H 3 0 1000 rfl (lf_gl_0 (fun a b z => by omega))⟩
theorem lf_set1 {s x : Nat} {C : Nat → Prop} {B : Prop} (hC : C s) : ((x < s + 1 ∧ C x) ∧ B) ↔ ((x < s ∧ C x) ∧ B) ∨ (x = s ∧ B) := by
  constructor
  · intro ⟨⟨h1, h2⟩, h3⟩
    by_cases e : x = s
    · exact Or.inr ⟨e, h3⟩
    · exact Or.inl ⟨⟨by omega, h2⟩, h3⟩
  · intro h
    rcases h with ⟨⟨h1, h2⟩, h3⟩ | ⟨e, h3⟩
    · exact ⟨⟨by omega, h2⟩, h3⟩
    · subst e; exact ⟨⟨by omega, hC⟩, h3⟩
theorem lf_set0 {s x : Nat} {C : Nat → Prop} (hC : ¬ C s) : (x < s + 1 ∧ C x) ↔ (x < s ∧ C x) := by
  constructor
  · intro ⟨h1, h2⟩
    by_cases e : x = s
    · subst e; exact absurd h2 hC
    · exact ⟨by omega, h2⟩
  · intro ⟨h1, h2⟩
    exact ⟨by omega, h2⟩
theorem ly_gd39 {post : Int32 → Prop} {J8 : Int32 → Int32 → Prop} {x1 : Int32} {s c lo hi : Nat} {A : Nat → Nat → Prop} {r0 : Int32} (hs : s < ns) (hc : c < nl) (hB : lf_B na n nl ns F L Lo Hi lLo lHi lF lC sl sk sa sc sv kd ar co va dA dC dO) (hlo : lo ≤ 15) (hhi : hi ≤ 15)
    (h0 : lf_gl (lf_D n lo hi sk sa sc sv) A r0)
    (k : ∀ r, lf_gl (lf_D n lo hi sk sa sc sv) (fun a b => A a b ∨ ((b / 3 < ns ∧ L (b / 3) = c) ∧ a / 3 = s)) r → J8 r (nI (s + 1))) :
    ∃ m, wY_groupDist_39 post J8 x1 (nI c) (nI lo) (nI hi) (nI s) (nI na) (nI n) (nI nl) (nI ns) ph gY rc tmp con lLo lHi lF lC yg yj yd sl so dA dC dO kd ar co va ini ori fus sca m r0 0 := by
  obtain ⟨⟨_, hna, _, hn, hnl, hns⟩, hPT, hLP, hsl, hSR, hw⟩ := hB
  have H : ∀ d t r, t + d = ns → lf_gl (lf_D n lo hi sk sa sc sv) (fun a b => A a b ∨ ((b / 3 < t ∧ L (b / 3) = c) ∧ a / 3 = s)) r → wY_groupDist_39 post J8 x1 (nI c) (nI lo) (nI hi) (nI s) (nI na) (nI n) (nI nl) (nI ns) ph gY rc tmp con lLo lHi lF lC yg yj yd sl so dA dC dO kd ar co va ini ori fus sca (d + 1) r (nI t) := by
    intro d
    induction d with
    | zero =>
      intro t r h1 h2
      obtain rfl : t = ns := by omega
      exact br_t (lf_rfl _) (nm_r (nI_1 s) (k r h2))
    | succ d ih =>
      intro t r h1 h2
      have ec : (nI t).toNatClampNeg = t := nI_clamp (by omega)
      have hL := (hPT.2.2.2 t (by omega)).1
      refine br_f (nI_ge (by omega) (by omega)) ⟨vp_in_nI (by omega) (by decide), br_c (fun z => ?_) (fun z => ?_)⟩
      · rw [ec, hsl t (by omega), nI_eq (by omega) (by omega)] at z
        refine ly_sd hs (by omega) hns hna hSR hw hlo hhi (fun d' hd => ?_)
        have hj := lf_gl_j (S' := fun a b => A a b ∨ ((b / 3 < t + 1 ∧ L (b / 3) = c) ∧ a / 3 = s)) h2 hd (fun a b => by
          rw [lf_set1 (C := fun x => L x = c) (B := a / 3 = s) z]
          constructor
          · intro q
            rcases q with q | q | q
            · exact Or.inl (Or.inl q)
            · exact Or.inl (Or.inr q)
            · exact Or.inr ⟨q.2, q.1⟩
          · intro q
            rcases q with (q | q) | q
            · exact Or.inl q
            · exact Or.inr (Or.inl q)
            · exact Or.inr (Or.inr ⟨q.2, q.1⟩))
        exact lf_mn_g (P := fun v => ∀ x7, x7 = nI t + 1 → wY_groupDist_39 post J8 x1 (nI c) (nI lo) (nI hi) (nI s) (nI na) (nI n) (nI nl) (nI ns) ph gY rc tmp con lLo lHi lF lC yg yj yd sl so dA dC dO kd ar co va ini ori fus sca (d + 1) v x7) (nm_r (nI_1 t) (ih (t + 1) _ (by omega) hj))
      · rw [ec, hsl t (by omega), nI_eq (by omega) (by omega)] at z
        exact nm_r (nI_1 t) (ih (t + 1) r (by omega) (lf_gl_e h2 (fun a b => by rw [lf_set0 (C := fun x => L x = c) z])))
  exact ⟨_, H ns 0 r0 (by omega) (lf_gl_e h0 (fun a b => ⟨Or.inl, fun q => q.elim id (fun q => absurd q.1.1 (by omega))⟩))⟩
theorem ly_gd {post : Int32 → Prop} {c g lo hi : Nat} {r : Int32} (hB : lf_B na n nl ns F L Lo Hi lLo lHi lF lC sl sk sa sc sv kd ar co va dA dC dO) (hG : lf_G c g G gp xg gf gl yg) (hy : ∀ l, c ≤ l → l < 8 → yg l = -1) (h0 : 0 < c) (hc : c < nl) (elo : lo = Lo c) (ehi : hi = Hi c)
    (hr : lf_gl (lf_D n (Lo c) (Hi c) sk sa sc sv) (fun a b => 3 * F (G (g - 1)) ≤ a ∧ a < 3 * F c ∧ 3 * F c ≤ b ∧ b < 3 * F (c + 1)) r) (k : post r) : wpY_groupDist post (nI na, nI n, nI nl, nI ns, ph, gY, rc, tmp, con, lLo, lHi, lF, lC, yg, yj, yd, sl, so, dA, dC, dO, kd, ar, co, va, ini, ori, fus, sca) (nI (g - 1)) (nI c) (nI lo) (nI hi) := by
  obtain ⟨⟨_, hna, _, hn, hnl, hns⟩, hPT, hLP, hsl, hSR, hw⟩ := id hB
  have hg : g ≤ c := lf_PT_sn hG.1 (fun a ha => (hG.2.1 a ha).1)
  have hg0 : 0 < g := by have := (hG.1.2.2.2 0 h0).1; omega
  subst elo ehi
  obtain ⟨q1, q2, q3, q4, q5, q6⟩ := hLP c hc
  have p1 := (hG.2.1 (g - 1) (by omega)).1
  have eG : G (g - 1 + 1) = c := by rw [show g - 1 + 1 = g by omega]; exact hG.1.2.1
  rw [eG] at p1
  have hm2 : F (c + 1) ≤ ns := lf_PT_le hPT (by omega)
  have hcond : ∀ s, s < ns → (yg (L s) = nI (g - 1) ↔ (L s < c ∧ gp (L s) = g - 1)) := by
    intro s hs
    have hL := (hPT.2.2.2 s hs).1
    by_cases h : L s < c
    · have := (hG.1.2.2.2 _ h).1
      rw [(hG.2.2 _ h).2, nI_eq (by omega) (by omega)]
      omega
    · rw [hy _ (by omega) (by omega)]
      constructor
      · intro z; exact absurd z.symm (lf_ne1 (by omega))
      · intro z; omega
  have H : ∀ d s r', s + d = ns → lf_gl (lf_D n (Lo c) (Hi c) sk sa sc sv) (fun a b => (a / 3 < s ∧ (L (a / 3) < c ∧ gp (L (a / 3)) = g - 1)) ∧ (b / 3 < ns ∧ L (b / 3) = c)) r' → wY_groupDist_8 post (nI (g - 1)) (nI c) (nI (Lo c)) (nI (Hi c)) (nI na) (nI n) (nI nl) (nI ns) ph gY rc tmp con lLo lHi lF lC yg yj yd sl so dA dC dO kd ar co va ini ori fus sca (d + 1) r' (nI s) := by
    intro d
    induction d with
    | zero =>
      intro s r' h1 h2
      obtain rfl : s = ns := by omega
      have e : r = r' := lf_gl_u hr h2 (fun a b => by
        by_cases ha : a / 3 < s
        · by_cases hb : b / 3 < s
          · have i1 := lf_PT_ge hPT (s := a / 3) (l := G (g - 1)) ha (by omega)
            have i2 := lf_PT_ge hPT (s := a / 3) (l := c) ha (by omega)
            have i3 := lf_PT_iff hPT (s := b / 3) (l := c) hb hc
            by_cases h : L (a / 3) < c
            · have i4 := lf_PT_iff hG.1 (s := L (a / 3)) (l := g - 1) h (by omega)
              rw [eG] at i4
              omega
            · omega
          · omega
        · have i5 : F c ≤ s := lf_PT_le hPT (by omega)
          omega)
      subst e
      exact br_t (lf_rfl _) k
    | succ d ih =>
      intro s r' h1 h2
      have ec : (nI s).toNatClampNeg = s := nI_clamp (by omega)
      have hL := (hPT.2.2.2 s (by omega)).1
      have el : (nI (L s)).toNatClampNeg = L s := nI_clamp (by omega)
      refine br_f (nI_ge (by omega) (by omega)) ⟨vp_in_nI (by omega) (by decide), ?_, br_c (fun z => ?_) (fun z => ?_)⟩
      · rw [ec, hsl s (by omega)]; exact vp_in_nI (by omega) (by decide)
      · rw [ec, hsl s (by omega), el, hcond s (by omega)] at z
        exact ly_gd39 (by omega) hc hB q3 q4 h2 (fun r hr => ih (s + 1) r (by omega) (lf_gl_e hr (fun a b => by
          rw [lf_set1 (C := fun x => L x < c ∧ gp (L x) = g - 1) z]
          exact ⟨fun q => q.elim Or.inl (fun q => Or.inr ⟨q.2, q.1⟩), fun q => q.elim Or.inl (fun q => Or.inr ⟨q.2, q.1⟩)⟩)))
      · rw [ec, hsl s (by omega), el, hcond s (by omega)] at z
        exact nm_r (nI_1 s) (ih (s + 1) r' (by omega) (lf_gl_e h2 (fun a b => by rw [lf_set0 (C := fun x => L x < c ∧ gp (L x) = g - 1) z])))
  exact ⟨_, H ns 0 1000 (by omega) (lf_gl_0 (fun a b z => absurd z.1.1 (by omega)))⟩
end LFA3
