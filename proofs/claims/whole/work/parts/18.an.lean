section LFA5
variable {na n nl ns : Nat} {ph gX gY rc : Int32} {tmp con sca ini ori fus lLo lHi lF lC xg xj xd gf gl sl so sk sa sc sv yg yj yd dA dC dO kd ar co va : Nat → Int32} {F L Lo Hi G gp : Nat → Nat}
theorem lf_PT_new {G gp : Nat → Nat} {g k : Nat} (h : lf_PT G gp g k) : lf_PT (lf_un G (g + 1) (k + 1)) (lf_un gp k g) (g + 1) (k + 1) := by
  have h2 := lf_PT_ext (Nat.succ_pos g) (lf_PT_app h)
  have e : lf_un (lf_un G (g + 1) k) (g + 1) (k + 1) = lf_un G (g + 1) (k + 1) := by
    funext j
    unfold lf_un
    by_cases c : j = g + 1
    · rw [if_pos c, if_pos c]
    · rw [if_neg c, if_neg c, if_neg c]
  rw [e] at h2
  exact h2
theorem lf_G_new {G gp : Nat → Nat} {g k : Nat} {xg gf gl yg : Nat → Int32} (h : lf_G k g G gp xg gf gl yg) :
    lf_G (k + 1) (g + 1) (lf_un G (g + 1) (k + 1)) (lf_un gp k g) (upd xg k (nI g)) (upd gf g (nI k)) (upd (upd gl g 0) g (upd gl g 0 g + 1)) (upd yg k (nI g)) := by
  refine ⟨lf_PT_new h.1, fun a ha => ?_, fun l hl => ?_⟩
  · by_cases c : a = g
    · subst c
      rw [lf_ue (show a ≠ a + 1 by omega), lf_us, pk_us, pk_us, pk_us, h.1.2.1]
      exact ⟨by omega, rfl, by rw [show k + 1 - k = 1 by omega]; decide⟩
    · rw [lf_ue (show a ≠ g + 1 by omega), lf_ue (show a + 1 ≠ g + 1 by omega), pk_un c, pk_un c, pk_un c]
      exact h.2.1 a (by omega)
  · by_cases c : l = k
    · subst c
      rw [pk_us, pk_us, lf_us]
      exact ⟨rfl, rfl⟩
    · rw [pk_un c, pk_un c, lf_ue c]
      exact h.2.2 l (by omega)
theorem lf_G_app {G gp : Nat → Nat} {g k : Nat} {xg gf gl yg : Nat → Int32} (hg : 0 < g) (h : lf_G k g G gp xg gf gl yg) :
    lf_G (k + 1) g (lf_un G g (k + 1)) (lf_un gp k (g - 1)) (upd xg k (nI (g - 1))) gf (upd gl (g - 1) (gl (g - 1) + 1)) (upd yg k (nI (g - 1))) := by
  refine ⟨lf_PT_ext hg h.1, fun a ha => ?_, fun l hl => ?_⟩
  · obtain ⟨p1, p2, p3⟩ := h.2.1 a ha
    rw [lf_ue (show a ≠ g by omega)]
    by_cases c : a = g - 1
    · have e : a + 1 = g := by omega
      rw [e, h.1.2.1] at p1 p3
      rw [e, lf_us, c, pk_us, ← c, p3, nI_1]
      exact ⟨by omega, p2, congrArg nI (by omega)⟩
    · rw [lf_ue (show a + 1 ≠ g by omega), pk_un c]
      exact ⟨p1, p2, p3⟩
  · by_cases c : l = k
    · subst c
      rw [pk_us, pk_us, lf_us]
      exact ⟨rfl, rfl⟩
    · rw [pk_un c, pk_un c, lf_ue c]
      exact h.2.2 l (by omega)
theorem lf_J_up {k : Nat} {xj xd yj yd : Nat → Int32} {j d : Int32} (h : lf_J k xj xd yj yd) : lf_J (k + 1) (upd xj k j) (upd xd k d) (upd yj k j) (upd yd k d) := by
  intro l hl
  by_cases c : l = k
  · subst c
    rw [pk_us, pk_us, pk_us, pk_us]
    exact ⟨rfl, rfl⟩
  · rw [pk_un c, pk_un c, pk_un c, pk_un c]
    exact h l (by omega)
theorem lf_y_up {k : Nat} {yg : Nat → Int32} {v : Int32} (h : ∀ l, k ≤ l → l < 8 → yg l = -1) : ∀ l, k + 1 ≤ l → l < 8 → upd yg k v l = -1 := by
  intro l h1 h2
  rw [pk_un (by omega)]
  exact h l (by omega) h2
/-! the reference's step -/
theorem ly_stA {post : Int32 → SY → Prop} {d : Nat} (hnl : 0 < nl) (hnl8 : nl ≤ 8) (h : wY_analyze_38 post (nI na) (nI n) (nI nl) (nI ns) ph rc (d + 1) (nI (0 + 1)) (nI (0 + 1)) tmp con lLo lHi lF lC (upd yg 0 (nI 0)) (upd yj 0 0) (upd yd 0 1000) sl so dA dC dO kd ar co va ini ori fus sca) : wY_analyze_38 post (nI na) (nI n) (nI nl) (nI ns) ph rc (d + 1 + 1) (nI 0) (nI 0) tmp con lLo lHi lF lC yg yj yd sl so dA dC dO kd ar co va ini ori fus sca :=
  br_f (nI_ge hnl (by omega)) (br_t rfl (nm_e (nm_e (nm_e (nm_r (nI_1 0) h)))))
theorem ly_st130 {post : Int32 → SY → Prop} {J38 : Int32 → Int32 → (Nat → Int32) → (Nat → Int32) → (Nat → Int32) → (Nat → Int32) → (Nat → Int32) → (Nat → Int32) → (Nat → Int32) → (Nat → Int32) → (Nat → Int32) → (Nat → Int32) → (Nat → Int32) → (Nat → Int32) → (Nat → Int32) → (Nat → Int32) → (Nat → Int32) → (Nat → Int32) → (Nat → Int32) → (Nat → Int32) → (Nat → Int32) → (Nat → Int32) → (Nat → Int32) → (Nat → Int32) → Prop} {k g : Nat} (hk : k < 8) (h : J38 (nI (k + 1)) (nI (g + 1)) tmp con lLo lHi lF lC (upd yg k (nI g)) (upd yj k 2) (upd yd k 1000) sl so dA dC dO kd ar co va ini ori fus sca) : wY_analyze_130 post J38 (nI k) (nI na) (nI n) (nI nl) (nI ns) ph (nI g) rc tmp con lLo lHi lF lC yg yj yd sl so dA dC dO kd ar co va ini ori fus sca := by
  have i3 : vp_in (nI k) 8 := vp_in_nI (by omega) (by decide)
  have e3 : (nI k).toNatClampNeg = k := nI_clamp (by omega)
  exact ⟨i3, nm_r (by rw [e3]) ⟨i3, nm_r (by rw [e3]) ⟨i3, nm_r (by rw [e3]) (nm_r (nI_1 g) (nm_r (nI_1 k) h))⟩⟩⟩
theorem ly_stB {post : Int32 → SY → Prop} {d k g : Nat} (h0 : 0 < k) (hk : k < nl) (hnl : nl ≤ 8) (hLP : lf_LP nl F Lo Hi lLo lHi lF lC) (hb : ¬ (Lo k = Lo (k - 1) ∧ Hi k = Hi (k - 1)))
    (h : wY_analyze_38 post (nI na) (nI n) (nI nl) (nI ns) ph rc (d + 1) (nI (k + 1)) (nI (g + 1)) tmp con lLo lHi lF lC (upd yg k (nI g)) (upd yj k 2) (upd yd k 1000) sl so dA dC dO kd ar co va ini ori fus sca) : wY_analyze_38 post (nI na) (nI n) (nI nl) (nI ns) ph rc (d + 1 + 1) (nI k) (nI g) tmp con lLo lHi lF lC yg yj yd sl so dA dC dO kd ar co va ini ori fus sca := by
  have i1 : vp_in (nI k) 8 := vp_in_nI (by omega) (by decide)
  have e1 : (nI k).toNatClampNeg = k := nI_clamp (by omega)
  have i2 : vp_in (nI k - 1) 8 := by rw [lf_p1 h0]; exact vp_in_nI (by omega) (by decide)
  have e2 : (nI k - 1).toNatClampNeg = k - 1 := by rw [lf_p1 h0]; exact nI_clamp (by omega)
  obtain ⟨a1, a2, a3, a4, _⟩ := hLP k hk
  obtain ⟨b1, b2, b3, b4, _⟩ := hLP (k - 1) (by omega)
  refine br_f (nI_ge hk (by omega)) (br_f (nI_ne0 h0 (by omega)) ⟨i2, nm_e ⟨i2, nm_r (e' := nI (Lo (k - 1))) (by rw [e2, b1]) ⟨i2, nm_r (e' := nI (Hi (k - 1))) (by rw [e2, b2]) ⟨i1, br_c (fun z => ⟨i1, br_c (fun z2 => ?_) (fun _ => ly_st130 (by omega) h)⟩) (fun _ => ly_st130 (by omega) h)⟩⟩⟩⟩)
  rw [e1, a1, nI_eq (by omega) (by omega)] at z
  rw [e1, a2, nI_eq (by omega) (by omega)] at z2
  exact absurd ⟨z, z2⟩ hb
theorem ly_stCD {post : Int32 → SY → Prop} {d k g : Nat} {r : Int32} (hB : lf_B na n nl ns F L Lo Hi lLo lHi lF lC sl sk sa sc sv kd ar co va dA dC dO) (hG : lf_G k g G gp xg gf gl yg) (hy : ∀ l, k ≤ l → l < 8 → yg l = -1) (h0 : 0 < k) (hk : k < nl) (hb : Lo k = Lo (k - 1) ∧ Hi k = Hi (k - 1))
    (hr : lf_gl (lf_D n (Lo k) (Hi k) sk sa sc sv) (fun a b => 3 * F (G (g - 1)) ≤ a ∧ a < 3 * F k ∧ 3 * F k ≤ b ∧ b < 3 * F (k + 1)) r)
    (h1 : ¬ 0 ≤ r → wY_analyze_38 post (nI na) (nI n) (nI nl) (nI ns) ph rc (d + 1) (nI (k + 1)) (nI (g + 1)) tmp con lLo lHi lF lC (upd yg k (nI g)) (upd yj k 3) (upd yd k r) sl so dA dC dO kd ar co va ini ori fus sca)
    (h2 : 0 ≤ r → wY_analyze_38 post (nI na) (nI n) (nI nl) (nI ns) ph rc (d + 1) (nI (k + 1)) (nI g) tmp con lLo lHi lF lC (upd yg k (nI (g - 1))) (upd yj k 1) (upd yd k r) sl so dA dC dO kd ar co va ini ori fus sca) : wY_analyze_38 post (nI na) (nI n) (nI nl) (nI ns) ph rc (d + 1 + 1) (nI k) (nI g) tmp con lLo lHi lF lC yg yj yd sl so dA dC dO kd ar co va ini ori fus sca := by
  obtain ⟨⟨_, hna, _, hn, hnl, hns⟩, hPT, hLP, hsl, hSR, hw⟩ := id hB
  have hg : g ≤ k := lf_PT_sn hG.1 (fun a ha => (hG.2.1 a ha).1)
  have hg0 : 0 < g := by have := (hG.1.2.2.2 0 h0).1; omega
  have i1 : vp_in (nI k) 8 := vp_in_nI (by omega) (by decide)
  have e1 : (nI k).toNatClampNeg = k := nI_clamp (by omega)
  have i2 : vp_in (nI k - 1) 8 := by rw [lf_p1 h0]; exact vp_in_nI (by omega) (by decide)
  have e2 : (nI k - 1).toNatClampNeg = k - 1 := by rw [lf_p1 h0]; exact nI_clamp (by omega)
  obtain ⟨a1, a2, a3, a4, _⟩ := hLP k hk
  obtain ⟨b1, b2, b3, b4, _⟩ := hLP (k - 1) (by omega)
  have eg : yg (nI k - 1).toNatClampNeg = nI (g - 1) := by
    rw [e2, (hG.2.2 (k - 1) (by omega)).2]
    have p1 := (hG.2.1 (g - 1) (by omega)).1
    rw [show g - 1 + 1 = g by omega, hG.1.2.1] at p1
    have := (lf_PT_iff hG.1 (s := k - 1) (l := g - 1) (by omega) (by omega)).mpr (by rw [show g - 1 + 1 = g by omega, hG.1.2.1]; omega)
    rw [this]
  refine br_f (nI_ge hk (by omega)) (br_f (nI_ne0 h0 (by omega)) ⟨i2, nm_r eg ⟨i2, nm_r (e' := nI (Lo (k - 1))) (by rw [e2, b1]) ⟨i2, nm_r (e' := nI (Hi (k - 1))) (by rw [e2, b2]) ⟨i1, br_t ?_ ⟨i1, br_t ?_ ?_⟩⟩⟩⟩⟩)
  · rw [e1, a1, hb.1]
  · rw [e1, a2, hb.2]
  · refine ly_gd hB hG hy h0 hk hb.1.symm hb.2.symm hr ?_
    refine ⟨i1, nm_r (by rw [e1]) (br_c (fun z => ⟨i1, nm_r (by rw [e1]) ⟨i1, nm_r (by rw [e1]) (nm_r (nI_1 k) (h2 z))⟩⟩) (fun z => ⟨i1, nm_r (by rw [e1]) ⟨i1, nm_r (by rw [e1]) (nm_r (nI_1 g) (nm_r (nI_1 k) (h1 z)))⟩⟩))⟩
/-! both sides, loop by loop -/
theorem lz_an11 (hB : lf_B na n nl ns F L Lo Hi lLo lHi lF lC sl sk sa sc sv kd ar co va dA dC dO) : ∀ d k g (G gp : Nat → Nat) (xg xj xd gf gl yg yj yd : Nat → Int32), k + d = nl → lf_G k g G gp xg gf gl yg → lf_J k xj xd yj yd → (∀ l, k ≤ l → l < 8 → yg l = -1) →
    ∃ g' G' gp' xg' xj' xd' gf' gl' yg' yj' yd', lf_G nl g' G' gp' xg' gf' gl' yg' ∧ lf_J nl xj' xd' yj' yd' ∧
      (∀ post, (∃ q, wX_analyze_32 post (nI na) (nI n) ph (nI nl) (nI ns) (nI g') rc q 0 tmp con sca ini ori fus lLo lHi lF lC xg' xj' xd' gf' gl' sl so sk sa sc sv) → wX_analyze_11 post (d + 1) (nI k) (nI na) (nI n) ph (nI nl) (nI ns) (nI g) rc tmp con sca ini ori fus lLo lHi lF lC xg xj xd gf gl sl so sk sa sc sv) ∧
      (∀ post, (∃ q, wY_analyze_245 post (nI na) (nI n) (nI nl) (nI ns) ph (nI g') rc q 0 tmp con lLo lHi lF lC yg' yj' yd' sl so dA dC dO kd ar co va ini ori fus sca) → wY_analyze_38 post (nI na) (nI n) (nI nl) (nI ns) ph rc (d + 1) (nI k) (nI g) tmp con lLo lHi lF lC yg yj yd sl so dA dC dO kd ar co va ini ori fus sca) := by
  obtain ⟨⟨_, hna, _, hn, hnl, hns⟩, hPT, hLP, hsl, hSR, hw⟩ := id hB
  intro d
  induction d with
  | zero =>
    intro k g G gp xg xj xd gf gl yg yj yd hk hG hJ hy
    obtain rfl : k = nl := by omega
    exact ⟨g, G, gp, xg, xj, xd, gf, gl, yg, yj, yd, hG, hJ, fun post q => br_t (lf_rfl _) q, fun post q => br_t (lf_rfl _) q⟩
  | succ d ih =>
    intro k g G gp xg xj xd gf gl yg yj yd hk hG hJ hy
    have hg : g ≤ k := lf_PT_sn hG.1 (fun a ha => (hG.2.1 a ha).1)
    by_cases h0 : k = 0
    · subst h0
      obtain rfl : g = 0 := by omega
      obtain ⟨g', G', gp', xg', xj', xd', gf', gl', yg', yj', yd', h1, h2, h3, h4⟩ := ih (0 + 1) (0 + 1) _ _ _ _ _ _ _ _ _ _ (by omega) (lf_G_new hG) (lf_J_up (j := 0) (d := 1000) hJ) (lf_y_up hy)
      refine ⟨g', G', gp', xg', xj', xd', gf', gl', yg', yj', yd', h1, h2, fun post q => ?_, fun post q => ?_⟩
      · refine br_f (nI_ge (by omega) (by omega)) ?_
        refine lx_placeA ?_
        exact nm_r (nI_1 0) (h3 post q)
      · exact ly_stA (by omega) hnl (h4 post q)
    · by_cases hb : Lo k = Lo (k - 1) ∧ Hi k = Hi (k - 1)
      · have hm1 : F (G (g - 1)) ≤ F k := by
          have hg0 : 0 < g := by have := (hG.1.2.2.2 0 (by omega)).1; omega
          have : G (g - 1) ≤ k := lf_PT_le hG.1 (by omega)
          exact lf_PT_mono hPT _ this (by omega)
        have hm2 : F k ≤ F (k + 1) := hPT.2.2.1 k (by omega)
        obtain ⟨r, hr⟩ := lf_gl_x (D := lf_D n (Lo k) (Hi k) sk sa sc sv) (fun _ _ => lf_D_le) (3 * F (G (g - 1))) (3 * F k) (3 * F (k + 1) - 3 * F k) (3 * F k - 3 * F (G (g - 1)))
        have hr' := lf_gl_e (S' := fun a b => 3 * F (G (g - 1)) ≤ a ∧ a < 3 * F k ∧ 3 * F k ≤ b ∧ b < 3 * F (k + 1)) hr (fun a b => by omega)
        by_cases hr0 : 0 ≤ r
        · have hg0 : 0 < g := by have := (hG.1.2.2.2 0 (by omega)).1; omega
          obtain ⟨g', G', gp', xg', xj', xd', gf', gl', yg', yj', yd', h1, h2, h3, h4⟩ := ih (k + 1) g _ _ _ _ _ _ _ _ _ _ (by omega) (lf_G_app hg0 hG) (lf_J_up (j := 1) (d := r) hJ) (lf_y_up hy)
          refine ⟨g', G', gp', xg', xj', xd', gf', gl', yg', yj', yd', h1, h2, fun post q => ?_, fun post q => ?_⟩
          · refine br_f (nI_ge (by omega) (by omega)) ?_
            refine lx_placeD hB hG (by omega) (by omega) hb hr' hr0 ?_
            exact nm_r (nI_1 k) (h3 post q)
          · exact ly_stCD hB hG hy (by omega) (by omega) hb hr' (fun z => absurd hr0 z) (fun _ => h4 post q)
        · obtain ⟨g', G', gp', xg', xj', xd', gf', gl', yg', yj', yd', h1, h2, h3, h4⟩ := ih (k + 1) (g + 1) _ _ _ _ _ _ _ _ _ _ (by omega) (lf_G_new hG) (lf_J_up (j := 3) (d := r) hJ) (lf_y_up hy)
          refine ⟨g', G', gp', xg', xj', xd', gf', gl', yg', yj', yd', h1, h2, fun post q => ?_, fun post q => ?_⟩
          · refine br_f (nI_ge (by omega) (by omega)) ?_
            refine lx_placeC hB hG (by omega) (by omega) hb hr' hr0 ?_
            exact nm_r (nI_1 k) (h3 post q)
          · exact ly_stCD hB hG hy (by omega) (by omega) hb hr' (fun _ => h4 post q) (fun z => absurd z hr0)
      · obtain ⟨g', G', gp', xg', xj', xd', gf', gl', yg', yj', yd', h1, h2, h3, h4⟩ := ih (k + 1) (g + 1) _ _ _ _ _ _ _ _ _ _ (by omega) (lf_G_new hG) (lf_J_up (j := 2) (d := 1000) hJ) (lf_y_up hy)
        refine ⟨g', G', gp', xg', xj', xd', gf', gl', yg', yj', yd', h1, h2, fun post q => ?_, fun post q => ?_⟩
        · refine br_f (nI_ge (by omega) (by omega)) ?_
          refine lx_placeB (by omega) (by omega) hnl (by omega) hLP hb ?_
          exact nm_r (nI_1 k) (h3 post q)
        · exact ly_stB (by omega) (by omega) hnl hLP hb (h4 post q)
theorem ly_an12 {post : Int32 → SY → Prop} (k : ∃ q, wY_analyze_38 post (nI na) (nI n) (nI nl) (nI ns) ph rc q 0 0 tmp con lLo lHi lF lC (lf_clr (-1) 8 yg) yj yd sl so dA dC dO kd ar co va ini ori fus sca) : ∃ q, wY_analyze_12 post (nI na) (nI n) (nI nl) (nI ns) ph gY rc q 0 tmp con lLo lHi lF lC yg yj yd sl so dA dC dO kd ar co va ini ori fus sca := by
  have H : ∀ d i, i + d = 8 → wY_analyze_12 post (nI na) (nI n) (nI nl) (nI ns) ph gY rc (d + 1) (nI i) tmp con lLo lHi lF lC (lf_clr (-1) i yg) yj yd sl so dA dC dO kd ar co va ini ori fus sca := by
    intro d
    induction d with
    | zero =>
      intro i h
      obtain rfl : i = 8 := by omega
      exact br_t (by decide) k
    | succ d ih =>
      intro i h
      have h1 := ih (i + 1) (by omega)
      rw [← lf_clr_s] at h1
      have hi : vp_in (nI i) 8 := vp_in_nI (by omega) (by decide)
      have ec : (nI i).toNatClampNeg = i := nI_clamp (by omega)
      exact br_f (nI_ge (b := 8) (by omega) (by decide)) ⟨hi, nm_r (by rw [ec]) (nm_r (nI_1 i) h1)⟩
  have h := H 8 0 rfl
  rw [lf_clr0] at h
  exact ⟨_, h⟩
theorem lz_analyze {k : Nat} (hB : lf_B na n nl ns F L Lo Hi lLo lHi lF lC sl sk sa sc sv kd ar co va dA dC dO) (hs : ∀ j, na ≤ j → sca j = 0) (hP : lf_P0 nl ph gX gY xg xj xd ∨ lf_P1 nl ph gX gY xg xj xd gf gl yg yj yd) :
    wpX_analyze (fun r u' => wpY_analyze (fun r' v' => r' = r ∧ i_Rel (k + 5) u' v') (nI na, nI n, nI nl, nI ns, ph, gY, rc, tmp, con, lLo, lHi, lF, lC, yg, yj, yd, sl, so, dA, dC, dO, kd, ar, co, va, ini, ori, fus, sca)) (nI na, nI n, ph, nI nl, nI ns, gX, rc, tmp, con, sca, ini, ori, fus, lLo, lHi, lF, lC, xg, xj, xd, gf, gl, sl, so, sk, sa, sc, sv) := by
  rcases hP with hP | hP
  · obtain ⟨e, eX, eY, hxx⟩ := hP
    subst e eX eY
    have hG0 : lf_G 0 0 (fun _ => 0) (fun _ => 0) xg gf gl (lf_clr (-1) 8 yg) := ⟨lf_PT_0, fun a ha => absurd ha (by omega), fun l hl => absurd hl (by omega)⟩
    have hJ0 : lf_J 0 xj xd yj yd := fun l hl => absurd hl (by omega)
    have hy0 : ∀ l, 0 ≤ l → l < 8 → lf_clr (-1) 8 yg l = -1 := fun l _ h => by unfold lf_clr; rw [if_pos h]
    obtain ⟨g', G', gp', xg', xj', xd', gf', gl', yg', yj', yd', hG, hJ, HX, HY⟩ := lz_an11 (ph := 0) (rc := rc) (tmp := tmp) (con := con) (sca := sca) (ini := ini) (ori := ori) (fus := fus) (so := so) hB nl 0 0 _ _ xg xj xd gf gl (lf_clr (-1) 8 yg) yj yd (by omega) hG0 hJ0 hy0
    refine br_t rfl ⟨nl + 1, HX _ (lx_an32 hB hG ?_)⟩
    refine br_f lf_01 (ly_an12 ⟨nl + 1, HY _ (ly_an245 hB hG ⟨rfl, ?_⟩)⟩)
    exact lf_mk hB hs (Or.inr ⟨rfl, g', G', gp', rfl, rfl, hG, hJ⟩)
  · exact br_f (fun z => lf_10 (hP.1.symm.trans z)) (br_t hP.1 ⟨rfl, lf_mk hB hs (Or.inr hP)⟩)
theorem i_vc_analyze {k : Nat} {u : SX} {v : SY} (I : i_Rel k u v) (hk : k + 5 ≤ 2562) : wpX_analyze (fun r u' => wpY_analyze (fun r' v' => r' = r ∧ i_Rel (k + 5) u' v') v) u := by
  obtain ⟨na, n, nl, ns, F, L, Lo, Hi, ph, gX, gY, rc, tmp, con, sca, ini, ori, fus, lLo, lHi, lF, lC, xg, xj, xd, gf, gl, sl, so, sk, sa, sc, sv, yg, yj, yd, dA, dC, dO, kd, ar, co, va, rfl, rfl, hB, hs, hP⟩ := I
  exact lz_analyze hB hs hP
end LFA5
