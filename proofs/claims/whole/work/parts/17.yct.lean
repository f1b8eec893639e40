section LFA4
variable {na n nl ns : Nat} {ph gX gY rc : Int32} {tmp con sca ini ori fus lLo lHi lF lC xg xj xd gf gl sl so sk sa sc sv yg yj yd dA dC dO kd ar co va : Nat → Int32} {F L Lo Hi G gp : Nat → Nat}
/-! contraction: the reference -/
/-- what the scan knows before slot z -/
def lf_I (ns : Nat) (sk sa sc sv : Nat → Int32) (L gp : Nat → Nat) (x z : Nat) (x2 x3 x4 x5 x6 x7 : Int32) : Prop :=
  (x2 = 0 ∧ ∀ y, y < z → ¬ lf_acc sk sa x y) ∨
  (x2 = 1 ∧ ∃ f, f < z ∧ f < 3 * ns ∧ lf_acc sk sa x f ∧ (∀ y, y < f → ¬ lf_acc sk sa x y) ∧ (∀ y, y < z → lf_acc sk sa x y → lf_mat L gp sc sv y f) ∧
    x3 = (if f % 3 = 2 then 1 else 0) ∧ x4 = nI (gp (L (f / 3))) ∧ x5 = sc f ∧ x6 = sv f ∧ x7 = nI (L (f / 3)))
theorem lf_I_n {x z : Nat} {x2 x3 x4 x5 x6 x7 : Int32} (h : lf_I ns sk sa sc sv L gp x z x2 x3 x4 x5 x6 x7) (hn : ¬ lf_acc sk sa x z) : lf_I ns sk sa sc sv L gp x (z + 1) x2 x3 x4 x5 x6 x7 := by
  rcases h with ⟨e, h⟩ | ⟨e, f, h1, h2, h3, h4, h5, h6⟩
  · refine Or.inl ⟨e, fun y hy => ?_⟩
    by_cases c : y = z
    · subst c; exact hn
    · exact h y (by omega)
  · refine Or.inr ⟨e, f, by omega, h2, h3, h4, fun y hy => ?_, h6⟩
    by_cases c : y = z
    · subst c; exact fun q => absurd q hn
    · exact h5 y (by omega)
theorem ly_ct42 {post : Int32 → Prop} {J30 : Int32 → Int32 → Int32 → Int32 → Int32 → Int32 → Int32 → Prop} {g s x : Nat} (hB : lf_B na n nl ns F L Lo Hi lLo lHi lF lC sl sk sa sc sv kd ar co va dA dC dO) (hG : lf_G nl g G gp xg gf gl yg) (hs : s < ns) (hx : x < na)
    (k0 : ¬ lf_CT n ns tmp sk sa sc sv L gp G Lo Hi x → post 0)
    (K : ∀ x2 x3 x4 x5 x6 x7, lf_I ns sk sa sc sv L gp x (3 * (s + 1)) x2 x3 x4 x5 x6 x7 → J30 x2 x3 x4 x5 x6 x7 (nI (s + 1))) :
    ∀ d p x2 x3 x4 x5 x6 x7, p + d = 3 → lf_I ns sk sa sc sv L gp x (3 * s + p) x2 x3 x4 x5 x6 x7 → wY_checkContract_42 post J30 (nI x) (nI s) (nI na) (nI n) (nI nl) (nI ns) ph gY rc tmp con lLo lHi lF lC yg yj yd sl so dA dC dO kd ar co va ini ori fus sca (d + 1) x2 x3 x4 x5 x6 x7 (nI p) := by
  obtain ⟨⟨_, hna, _, hn, hnl, hns⟩, hPT, hLP, hsl, hSR, hw⟩ := id hB
  have hg : g ≤ nl := lf_PT_sn hG.1 (fun a ha => (hG.2.1 a ha).1)
  have ec : (nI s).toNatClampNeg = s := nI_clamp (by omega)
  have is : vp_in (nI s) 12 := vp_in_nI (by omega) (by decide)
  have hL := (hPT.2.2.2 s hs).1
  have hgp := (hG.1.2.2.2 _ hL).1
  have el : (nI (L s)).toNatClampNeg = L s := nI_clamp (by omega)
  have il : vp_in (sl (nI s).toNatClampNeg) 8 := by rw [ec, hsl s hs]; exact vp_in_nI (by omega) (by decide)
  have eg : yg (sl (nI s).toNatClampNeg).toNatClampNeg = nI (gp (L s)) := by rw [ec, hsl s hs, el]; exact (hG.2.2 _ hL).2
  intro d
  induction d with
  | zero =>
    intro p x2 x3 x4 x5 x6 x7 h1 h2
    obtain rfl : p = 3 := by omega
    exact br_t (by decide) (nm_r (nI_1 s) (K _ _ _ _ _ _ h2))
  | succ d ih =>
    intro p x2 x3 x4 x5 x6 x7 h1 h2
    have m3 : (3 * s + p) % 3 = p := by omega
    have d3 : (3 * s + p) / 3 = s := by omega
    have hnext : ¬ lf_acc sk sa x (3 * s + p) → wY_checkContract_42 post J30 (nI x) (nI s) (nI na) (nI n) (nI nl) (nI ns) ph gY rc tmp con lLo lHi lF lC yg yj yd sl so dA dC dO kd ar co va ini ori fus sca (d + 1) x2 x3 x4 x5 x6 x7 (nI (p + 1)) := fun h3 => ih (p + 1) x2 x3 x4 x5 x6 x7 (by omega) (lf_I_n h2 h3)
    refine br_f (nI_ge (b := 3) (by omega) (by decide)) ?_
    refine ly_accArr hs hns (by omega) hSR (fun h3 => br_c (fun h4 => ?_) (fun h4 => nm_r (nI_1 p) (hnext (fun q => h4 q.2)))) (fun h3 => br_f (fun q => lf_ne1 (by omega) q.symm) (nm_r (nI_1 p) (hnext (fun q => h3 q.1))))
    have hacc : lf_acc sk sa x (3 * s + p) := ⟨h3, h4⟩
    refine ⟨is, il, nm_r eg (br_c (fun h5 => ?_) (fun h5 => ?_))⟩
    · rcases h2 with ⟨e, h6⟩ | ⟨e, _⟩
      · refine ly_accCoef hs hns (by omega) hSR ?_
        refine ly_accOff hs hns (by omega) hSR ?_
        have hI : ∀ v : Int32, v = (if p = 2 then 1 else 0) → lf_I ns sk sa sc sv L gp x (3 * s + p + 1) 1 v (nI (gp (L s))) (sc (3 * s + p)) (sv (3 * s + p)) (nI (L s)) := by
          intro v hv
          refine Or.inr ⟨rfl, 3 * s + p, by omega, by omega, hacc, h6, fun y hy q => ?_, ?_, ?_, rfl, rfl, ?_⟩
          · by_cases c : y = 3 * s + p
            · subst c; exact ⟨rfl, rfl, rfl⟩
            · exact absurd q (h6 y (by omega))
          · rw [m3]; exact hv
          · rw [d3]
          · rw [d3]
        refine ⟨is, nm_r (e' := nI (L s)) (by rw [ec]; exact hsl s hs) (pk_eq p 2 (fun h7 => nm_r (nI_1 p) (ih (p + 1) _ _ _ _ _ _ (by omega) (hI 1 (by rw [if_pos h7])))) (fun h7 => nm_r (nI_1 p) (ih (p + 1) _ _ _ _ _ _ (by omega) (hI 0 (by rw [if_neg h7])))) rfl rfl (by omega) (by decide))⟩
      · exact absurd (e.symm.trans h5) lf_10
    · rcases h2 with ⟨e, _⟩ | ⟨e, f, q1, q2, q3, q4, q5, q6, q7, q8, q9, q10⟩
      · exact absurd e h5
      · have hl2 := (hPT.2.2.2 (f / 3) (by omega)).1
        have hgp2 := (hG.1.2.2.2 _ hl2).1
        have hbad : ¬ lf_mat L gp sc sv (3 * s + p) f → post 0 := fun q => k0 (by
          rw [lf_CT_f q2 q3 q4]
          exact fun w => q (w.2.1 _ (by omega) hacc))
        refine br_c (fun h6 => ?_) (fun h6 => hbad (fun q => h6 (by rw [q7, ← q.1, d3])))
        rw [q7, nI_eq (by omega) (by omega)] at h6
        refine ly_accCoef hs hns (by omega) hSR (br_c (fun h7 => ?_) (fun h7 => hbad (fun q => h7 (by rw [q8]; exact q.2.1))))
        refine ly_accOff hs hns (by omega) hSR (br_c (fun h8 => ?_) (fun h8 => hbad (fun q => h8 (by rw [q9]; exact q.2.2))))
        refine nm_r (nI_1 p) (ih (p + 1) _ _ _ _ _ _ (by omega) (Or.inr ⟨e, f, by omega, q2, q3, q4, fun y hy q => ?_, q6, q7, q8, q9, q10⟩))
        by_cases c : y = 3 * s + p
        · subst c
          exact ⟨by rw [d3]; exact h6, h7.trans q8, h8.trans q9⟩
        · exact q5 y (by omega) q
theorem ly_ct242 {post : Int32 → Prop} {l : Nat} {x3 co' ov : Int32} (hl : l < nl) (hnl : nl ≤ 8) (hn : n ≤ 16) (hLP : lf_LP nl F Lo Hi lLo lHi lF lC) (hx3 : x3 = 0 ∨ x3 = 1) (a : lf_ran n (Lo l) (Hi l) co' ov → post x3) (b : ¬ lf_ran n (Lo l) (Hi l) co' ov → post 0) : ∃ m, wY_checkContract_242 post x3 co' ov (nI l) (nI na) (nI n) (nI nl) (nI ns) ph gY rc tmp con lLo lHi lF lC yg yj yd sl so dA dC dO kd ar co va ini ori fus sca m (nI (Lo l)) := by
  have hi : vp_in (nI l) 8 := vp_in_nI (by omega) (by decide)
  have ec : (nI l).toNatClampNeg = l := nI_clamp (by omega)
  obtain ⟨q1, q2, q3, q4, q5, q6⟩ := hLP l hl
  have hnar : narrow .boolean (.int x3) = .int x3 := by
    rcases hx3 with e | e
    · subst e; rfl
    · subst e; rfl
  have ex : ∀ i d, Hi l < i → i ≤ 16 → (∀ j, Lo l ≤ j → j < i → ¬ (co' * nI j + ov < 0 ∨ ¬ co' * nI j + ov < nI n)) → wY_checkContract_242 post x3 co' ov (nI l) (nI na) (nI n) (nI nl) (nI ns) ph gY rc tmp con lLo lHi lF lC yg yj yd sl so dA dC dO kd ar co va ini ori fus sca (d + 1) (nI i) := by
    intro i d h1 h2 h3
    refine ⟨hi, br_t ?_ ⟨hnar, a (fun j hj hj2 => h3 j hj (by omega))⟩⟩
    rw [ec, q2]; exact nI_lt h1 (by omega)
  have H : ∀ d i, Hi l + 1 ≤ i + d → Lo l ≤ i → i ≤ 16 → (∀ j, Lo l ≤ j → j < i → ¬ (co' * nI j + ov < 0 ∨ ¬ co' * nI j + ov < nI n)) → wY_checkContract_242 post x3 co' ov (nI l) (nI na) (nI n) (nI nl) (nI ns) ph gY rc tmp con lLo lHi lF lC yg yj yd sl so dA dC dO kd ar co va ini ori fus sca (d + 1) (nI i) := by
    intro d
    induction d with
    | zero =>
      intro i h1 h0 h2 h3
      exact ex i 0 (by omega) h2 h3
    | succ d ih =>
      intro i h1 h0 h2 h3
      by_cases hh : Hi l < i
      · exact ex i (d + 1) hh h2 h3
      · have hx : ¬ lHi (nI l).toNatClampNeg < nI i := by rw [ec, q2]; exact nI_nlt (by omega) (by omega)
        refine ⟨hi, br_f hx (nm_e (br_c (fun h4 => b (fun q => q i h0 (by omega) (Or.inl h4))) (fun h4 => br_c (fun h5 => nm_r (nI_1 i) (ih (i + 1) (by omega) (by omega) (by omega) ?_)) (fun h5 => b (fun q => q i h0 (by omega) (Or.inr h5))))))⟩
        intro j hj1 hj2
        by_cases e : j = i
        · subst e; exact fun q => q.elim h4 (fun q => q h5)
        · exact h3 j hj1 (by omega)
  exact ⟨_, H (Hi l + 1) (Lo l) (by omega) (Nat.le_refl _) (by omega) (fun j h1 h2 => absurd h2 (by omega))⟩
theorem ly_ct190 {post : Int32 → Prop} {g a l : Nat} {x3 co' ov : Int32} (hl : l < nl) (hnl : nl ≤ 8) (hn : n ≤ 16) (hLP : lf_LP nl F Lo Hi lLo lHi lF lC) (hG : lf_G nl g G gp xg gf gl yg) (ha : a < g) (hx3 : x3 = 0 ∨ x3 = 1)
    (f : (G a + 2 ≤ G (a + 1) ∧ ¬ co' = 0 ∧ lf_ran n (Lo l) (Hi l) co' ov) → post x3) (b : ¬ (G a + 2 ≤ G (a + 1) ∧ ¬ co' = 0 ∧ lf_ran n (Lo l) (Hi l) co' ov) → post 0) : ∃ m, wY_checkContract_190 post x3 (nI a) co' ov (nI l) (nI na) (nI n) (nI nl) (nI ns) ph gY rc tmp con lLo lHi lF lC yg yj yd sl so dA dC dO kd ar co va ini ori fus sca m 0 0 := by
  have hg : g ≤ nl := lf_PT_sn hG.1 (fun a ha => (hG.2.1 a ha).1)
  have hle : G (a + 1) ≤ nl := lf_PT_le hG.1 (by omega)
  have hlt := (hG.2.1 a ha).1
  have hi : vp_in (nI l) 8 := vp_in_nI (by omega) (by decide)
  have ec : (nI l).toNatClampNeg = l := nI_clamp (by omega)
  have H : ∀ d i, i + d = nl → wY_checkContract_190 post x3 (nI a) co' ov (nI l) (nI na) (nI n) (nI nl) (nI ns) ph gY rc tmp con lLo lHi lF lC yg yj yd sl so dA dC dO kd ar co va ini ori fus sca (d + 1) (nI (min i (G (a + 1)) - G a)) (nI i) := by
    intro d
    induction d with
    | zero =>
      intro i h
      obtain rfl : i = nl := by omega
      refine br_t (lf_rfl _) ?_
      rw [show min i (G (a + 1)) - G a = G (a + 1) - G a by omega]
      refine pk_lt (G (a + 1) - G a) 2 (fun h1 => b (fun q => by have := q.1; omega)) (fun h1 => br_c (fun h2 => b (fun q => q.2.1 h2)) (fun h2 => ⟨hi, nm_r (e' := nI (Lo l)) (by rw [ec]; exact (hLP l hl).1) ?_⟩)) rfl rfl (by omega) (by decide)
      exact ly_ct242 hl hnl hn hLP hx3 (fun h3 => f ⟨by omega, h2, h3⟩) (fun h3 => b (fun q => h3 q.2.2))
    | succ d ih =>
      intro i h
      have h1 := ih (i + 1) (by omega)
      have ei : (nI i).toNatClampNeg = i := nI_clamp (by omega)
      have hgi := (hG.1.2.2.2 i (by omega)).1
      refine br_f (nI_ge (by omega) (by omega)) ⟨vp_in_nI (by omega) (by decide), br_c (fun z => ?_) (fun z => ?_)⟩
      · rw [ei, (hG.2.2 i (by omega)).2, nI_eq (by omega) (by omega), lf_PT_iff hG.1 (by omega) ha] at z
        rw [show min (i + 1) (G (a + 1)) - G a = (min i (G (a + 1)) - G a) + 1 by omega] at h1
        exact nm_r (nI_1 _) (nm_r (nI_1 i) h1)
      · rw [ei, (hG.2.2 i (by omega)).2, nI_eq (by omega) (by omega), lf_PT_iff hG.1 (by omega) ha] at z
        rw [show min (i + 1) (G (a + 1)) - G a = min i (G (a + 1)) - G a by omega] at h1
        exact nm_r (nI_1 i) h1
  have h := H nl 0 (by omega)
  rw [show min 0 (G (a + 1)) - G a = 0 by omega] at h
  exact ⟨_, h⟩
theorem ly_contr {post : Int32 → Prop} {g x : Nat} (hB : lf_B na n nl ns F L Lo Hi lLo lHi lF lC sl sk sa sc sv kd ar co va dA dC dO) (hG : lf_G nl g G gp xg gf gl yg) (hx : x < na) (k : post (lf_b (lf_CT n ns tmp sk sa sc sv L gp G Lo Hi x))) : wpY_checkContract post (nI na, nI n, nI nl, nI ns, ph, gY, rc, tmp, con, lLo, lHi, lF, lC, yg, yj, yd, sl, so, dA, dC, dO, kd, ar, co, va, ini, ori, fus, sca) (nI x) := by
  obtain ⟨⟨_, hna, _, hn, hnl, hns⟩, hPT, hLP, hsl, hSR, hw⟩ := id hB
  obtain ⟨k1, k0⟩ := lf_b_k k
  have hi : vp_in (nI x) 6 := vp_in_nI (by omega) (by decide)
  have ec : (nI x).toNatClampNeg = x := nI_clamp (by omega)
  have hg : g ≤ nl := lf_PT_sn hG.1 (fun a ha => (hG.2.1 a ha).1)
  refine ⟨hi, br_c (fun h => k0 ?_) (fun h => ?_)⟩
  · rw [ec] at h
    exact fun q => q.1 h
  · rw [ec] at h
    have H : ∀ d s x2 x3 x4 x5 x6 x7, s + d = ns → lf_I ns sk sa sc sv L gp x (3 * s) x2 x3 x4 x5 x6 x7 → wY_checkContract_30 post (nI x) (nI na) (nI n) (nI nl) (nI ns) ph gY rc tmp con lLo lHi lF lC yg yj yd sl so dA dC dO kd ar co va ini ori fus sca (d + 1) x2 x3 x4 x5 x6 x7 (nI s) := by
      intro d
      induction d with
      | zero =>
        intro s x2 x3 x4 x5 x6 x7 h1 h2
        obtain rfl : s = ns := by omega
        rcases h2 with ⟨e, h3⟩ | ⟨e, f, q1, q2, q3, q4, q5, q6, q7, q8, q9, q10⟩
        · exact br_t (lf_rfl _) (br_t e (k0 (lf_CT_n h3)))
        · subst e
          have hl2 := (hPT.2.2.2 (f / 3) (by omega)).1
          have hgp2 := (hG.1.2.2.2 _ hl2).1
          have hCT := lf_CT_f (n := n) (tmp := tmp) (sc := sc) (sv := sv) (L := L) (gp := gp) (G := G) (lo := Lo) (hi := Hi) q2 q3 q4
          refine br_t (lf_rfl _) (br_f lf_10 ?_)
          rw [q7, q8, q9, q10]
          by_cases hf : f % 3 = 2
          · rw [if_pos hf] at q6
            subst q6
            exact ly_ct190 hl2 hnl hn hLP hG hgp2 (Or.inr rfl) (fun h3 => k1 (by rw [hCT]; exact ⟨h, q5, h3.1, h3.2.1, hf, h3.2.2⟩)) (fun h3 => k0 (by rw [hCT]; exact fun w => h3 ⟨w.2.2.1, w.2.2.2.1, w.2.2.2.2.2⟩))
          · rw [if_neg hf] at q6
            subst q6
            exact ly_ct190 hl2 hnl hn hLP hG hgp2 (Or.inl rfl) (fun _ => k0 (by rw [hCT]; exact fun w => hf w.2.2.2.2.1)) (fun _ => k0 (by rw [hCT]; exact fun w => hf w.2.2.2.2.1))
      | succ d ih =>
        intro s x2 x3 x4 x5 x6 x7 h1 h2
        exact br_f (nI_ge (by omega) (by omega)) ⟨_, ly_ct42 hB hG (by omega) hx k0 (fun y2 y3 y4 y5 y6 y7 hI => ih (s + 1) y2 y3 y4 y5 y6 y7 (by omega) hI) 3 0 x2 x3 x4 x5 x6 x7 rfl h2⟩
    exact ⟨_, H ns 0 0 0 (-1) 0 0 0 (by omega) (Or.inl ⟨rfl, fun y hy => absurd hy (by omega)⟩)⟩
theorem ly_an245 {post : Int32 → SY → Prop} {g : Nat} (hB : lf_B na n nl ns F L Lo Hi lLo lHi lF lC sl sk sa sc sv kd ar co va dA dC dO) (hG : lf_G nl g G gp xg gf gl yg)
    (k : post (nI g) (nI na, nI n, nI nl, nI ns, 1, nI g, rc, tmp, lf_cp (fun x => lf_b (lf_CT n ns tmp sk sa sc sv L gp G Lo Hi x)) na con, lLo, lHi, lF, lC, yg, yj, yd, sl, so, dA, dC, dO, kd, ar, co, va, ini, ori, fus, sca)) : ∃ q, wY_analyze_245 post (nI na) (nI n) (nI nl) (nI ns) ph (nI g) rc q 0 tmp con lLo lHi lF lC yg yj yd sl so dA dC dO kd ar co va ini ori fus sca := by
  have hna := hB.1.2.1
  have H : ∀ d i, i + d = na → wY_analyze_245 post (nI na) (nI n) (nI nl) (nI ns) ph (nI g) rc (d + 1) (nI i) tmp (lf_cp (fun x => lf_b (lf_CT n ns tmp sk sa sc sv L gp G Lo Hi x)) i con) lLo lHi lF lC yg yj yd sl so dA dC dO kd ar co va ini ori fus sca := by
    intro d
    induction d with
    | zero =>
      intro i h
      obtain rfl : i = na := by omega
      exact br_t (lf_rfl _) k
    | succ d ih =>
      intro i h
      have h1 := ih (i + 1) (by omega)
      rw [← lf_cp_s] at h1
      have hi : vp_in (nI i) 6 := vp_in_nI (by omega) (by decide)
      have ec : (nI i).toNatClampNeg = i := nI_clamp (by omega)
      refine br_f (nI_ge (by omega) (by omega)) ?_
      refine ly_contr hB hG (by omega) ?_
      exact ⟨hi, nm_r (by rw [ec, lf_nb]) (nm_r (nI_1 i) h1)⟩
  have h := H na 0 (by omega)
  rw [lf_cp0] at h
  exact ⟨_, h⟩
end LFA4
