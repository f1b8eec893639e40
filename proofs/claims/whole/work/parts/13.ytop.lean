section LFZ
variable {na n nl ns : Nat} {ph gX gY rc : Int32} {tmp con sca ini ori fus lLo lHi lF lC xg xj xd gf gl sl so sk sa sc sv yg yj yd dA dC dO kd ar co va : Nat → Int32} {F L Lo Hi G gp : Nat → Nat}
theorem ly_group {post : SY → Prop} {a g i : Nat} {m : lf_M} (hB : lf_B na n nl ns F L Lo Hi lLo lHi lF lC sl sk sa sc sv kd ar co va dA dC dO) (hG : lf_G nl g G gp xg gf gl yg) (ha : a < g)
    (k : post (nI na, nI n, nI nl, nI ns, ph, gY, rc, tmp, con, lLo, lHi, lF, lC, yg, yj, yd, sl, so, dA, dC, dO, kd, ar, co, va, ini, ori, (lf_bd n con so sk sa sc sv 1 (F (G a)) (F (G (a + 1))) i m).1, (lf_bd n con so sk sa sc sv 1 (F (G a)) (F (G (a + 1))) i m).2)) : wpY_execGroupIter post (nI na, nI n, nI nl, nI ns, ph, gY, rc, tmp, con, lLo, lHi, lF, lC, yg, yj, yd, sl, so, dA, dC, dO, kd, ar, co, va, ini, ori, m.1, m.2) (nI a) (nI i) := by
  obtain ⟨⟨_, hna, _, hn, hnl, hns⟩, hPT, hLP, hsl, hSR, hw⟩ := id hB
  obtain ⟨hGT, hGa, hGl⟩ := hG
  have hg : g ≤ nl := lf_PT_sn hGT (fun a ha => (hGa a ha).1)
  have hle : G (a + 1) ≤ nl := lf_PT_le hGT (by omega)
  have hfl := (lf_flat (f := fun s m => lf_ex n con so sk sa sc sv 1 i s m) (F := F) (a := G a) (m := m) (G (a + 1)) (by have := (hGa a ha).1; omega) (fun k _ h2 => hPT.2.2.1 k (by omega))).2
  have H : ∀ d l, l + d = nl → wY_execGroupIter_2 post (nI a) (nI i) (d + 1) (nI l) (nI na) (nI n) (nI nl) (nI ns) ph gY rc tmp con lLo lHi lF lC yg yj yd sl so dA dC dO kd ar co va ini ori ((lf_to (fun l m => lf_bd n con so sk sa sc sv 1 (F l) (F (l + 1)) i m) (G a) (min l (G (a + 1))) m).1) ((lf_to (fun l m => lf_bd n con so sk sa sc sv 1 (F l) (F (l + 1)) i m) (G a) (min l (G (a + 1))) m).2) := by
    intro d
    induction d with
    | zero =>
      intro l h
      obtain rfl : l = nl := by omega
      refine br_t (lf_rfl _) ?_
      rw [lf_fil_e hle]
      unfold lf_bd
      rw [hfl]
      exact k
    | succ d ih =>
      intro l h
      have h1 := ih (l + 1) (by omega)
      have ec : (nI l).toNatClampNeg = l := nI_clamp (by omega)
      have hL := (hGT.2.2.2 l (by omega)).1
      refine br_f (nI_ge (by omega) (by omega)) ⟨vp_in_nI (by omega) (by decide), br_c (fun z => ?_) (fun z => ?_)⟩
      · rw [ec, (hGl l (by omega)).2, nI_eq (by omega) (by omega), lf_PT_iff hGT (by omega) ha] at z
        rw [lf_fil_y z.1 z.2] at h1
        refine ly_loop_1 hB (by omega) ?_
        exact nm_r (nI_1 l) h1
      · rw [ec, (hGl l (by omega)).2, nI_eq (by omega) (by omega), lf_PT_iff hGT (by omega) ha] at z
        rw [lf_fil_n z] at h1
        exact nm_r (nI_1 l) h1
  have h := H nl 0 (by omega)
  rw [lf_fil_0] at h
  exact ⟨nl + 1, h⟩
theorem ly_gl {post : Int32 → Prop} {a g : Nat} (hnl : nl ≤ 8) (hG : lf_G nl g G gp xg gf gl yg) (ha : a < g) (k : post (nI (G a))) : wpY_groupLoop post (nI na, nI n, nI nl, nI ns, ph, gY, rc, tmp, con, lLo, lHi, lF, lC, yg, yj, yd, sl, so, dA, dC, dO, kd, ar, co, va, ini, ori, fus, sca) (nI a) := by
  obtain ⟨hGT, hGa, hGl⟩ := hG
  have hg : g ≤ nl := lf_PT_sn hGT (fun a ha => (hGa a ha).1)
  have hle : G (a + 1) ≤ nl := lf_PT_le hGT (by omega)
  have hlt := (hGa a ha).1
  have H : ∀ d l, l + d = G a → wY_groupLoop_2 post (nI a) (nI na) (nI n) (nI nl) (nI ns) ph gY rc tmp con lLo lHi lF lC yg yj yd sl so dA dC dO kd ar co va ini ori fus sca (d + 1) (nI l) := by
    intro d
    induction d with
    | zero =>
      intro l h
      obtain rfl : l = G a := by omega
      have ec : (nI (G a)).toNatClampNeg = G a := nI_clamp (by omega)
      have hL := (hGT.2.2.2 (G a) (by omega)).1
      refine br_f (nI_ge (by omega) (by omega)) ⟨vp_in_nI (by omega) (by decide), br_t ?_ k⟩
      rw [ec, (hGl (G a) (by omega)).2, nI_eq (by omega) (by omega), lf_PT_iff hGT (by omega) ha]
      omega
    | succ d ih =>
      intro l h
      have ec : (nI l).toNatClampNeg = l := nI_clamp (by omega)
      have hL := (hGT.2.2.2 l (by omega)).1
      refine br_f (nI_ge (by omega) (by omega)) ⟨vp_in_nI (by omega) (by decide), br_f ?_ (nm_r (nI_1 l) (ih (l + 1) (by omega)))⟩
      rw [ec, (hGl l (by omega)).2, nI_eq (by omega) (by omega), lf_PT_iff hGT (by omega) ha]
      omega
  exact ⟨G a + 1, H (G a) 0 (by omega)⟩
theorem ly_r52 {post : Int32 → SY → Prop} {J37 : Int32 → Int32 → Int32 → Int32 → Int32 → Int32 → Int32 → Int32 → (Nat → Int32) → (Nat → Int32) → (Nat → Int32) → (Nat → Int32) → (Nat → Int32) → (Nat → Int32) → (Nat → Int32) → (Nat → Int32) → (Nat → Int32) → (Nat → Int32) → (Nat → Int32) → (Nat → Int32) → (Nat → Int32) → (Nat → Int32) → (Nat → Int32) → (Nat → Int32) → (Nat → Int32) → (Nat → Int32) → (Nat → Int32) → (Nat → Int32) → (Nat → Int32) → (Nat → Int32) → Prop} {l : Nat} {m : lf_M} (hB : lf_B na n nl ns F L Lo Hi lLo lHi lF lC sl sk sa sc sv kd ar co va dA dC dO) (hl : l < nl)
    (k : J37 (nI (l + 1)) (nI na) (nI n) (nI nl) (nI ns) ph gY rc tmp con lLo lHi lF lC yg yj yd sl so dA dC dO kd ar co va ini ((lf_lp n con so sk sa sc sv 0 (Lo l) (Hi l) (F l) (F (l + 1)) m).1) fus ((lf_lp n con so sk sa sc sv 0 (Lo l) (Hi l) (F l) (F (l + 1)) m).2)) : ∃ q, wY_run_52 post J37 (nI l) q (nI (Lo l)) (nI na) (nI n) (nI nl) (nI ns) ph gY rc tmp con lLo lHi lF lC yg yj yd sl so dA dC dO kd ar co va ini m.1 fus m.2 := by
  have hnl := hB.1.2.2.2.2.1
  have hi : vp_in (nI l) 8 := vp_in_nI (by omega) (by decide)
  have ec : (nI l).toNatClampNeg = l := nI_clamp (by omega)
  obtain ⟨q1, q2, q3, q4, q5, q6⟩ := hB.2.2.1 l hl
  have ex : ∀ i d, Hi l < i → i ≤ 16 → (i ≤ Hi l + 1 ∨ i = Lo l) → wY_run_52 post J37 (nI l) (d + 1) (nI i) (nI na) (nI n) (nI nl) (nI ns) ph gY rc tmp con lLo lHi lF lC yg yj yd sl so dA dC dO kd ar co va ini ((lf_to (fun i m => lf_bd n con so sk sa sc sv 0 (F l) (F (l + 1)) i m) (Lo l) i m).1) fus ((lf_to (fun i m => lf_bd n con so sk sa sc sv 0 (F l) (F (l + 1)) i m) (Lo l) i m).2) := by
    intro i d h1 h2 h3
    refine ⟨hi, br_t ?_ (nm_r (nI_1 l) ?_)⟩
    · rw [ec, q2]; exact nI_lt h1 (by omega)
    · rw [lf_to_x h1 h3]; exact k
  have H : ∀ d i, Lo l ≤ i → Hi l + 1 ≤ i + d → (i ≤ Hi l + 1 ∨ i = Lo l) → wY_run_52 post J37 (nI l) (d + 1) (nI i) (nI na) (nI n) (nI nl) (nI ns) ph gY rc tmp con lLo lHi lF lC yg yj yd sl so dA dC dO kd ar co va ini ((lf_to (fun i m => lf_bd n con so sk sa sc sv 0 (F l) (F (l + 1)) i m) (Lo l) i m).1) fus ((lf_to (fun i m => lf_bd n con so sk sa sc sv 0 (F l) (F (l + 1)) i m) (Lo l) i m).2) := by
    intro d
    induction d with
    | zero =>
      intro i h1 h2 h3
      exact ex i 0 (by omega) (by omega) h3
    | succ d ih =>
      intro i h1 h2 h3
      by_cases hh : Hi l < i
      · exact ex i (d + 1) hh (by omega) h3
      · have h := ih (i + 1) (by omega) (by omega) (by omega)
        rw [lf_to_s h1] at h
        refine ⟨hi, br_f ?_ ?_⟩
        · rw [ec, q2]; exact nI_nlt (by omega) (by omega)
        · refine ly_loop_0 hB hl ?_
          exact nm_r (nI_1 i) h
  have h := H (Hi l + 1) (Lo l) (Nat.le_refl _) (by omega) (Or.inr rfl)
  rw [lf_to_e (Nat.le_refl _)] at h
  exact ⟨_, h⟩
theorem ly_r37 {post : Int32 → SY → Prop} {m : lf_M} (hB : lf_B na n nl ns F L Lo Hi lLo lHi lF lC sl sk sa sc sv kd ar co va dA dC dO) (k : ∃ q, wY_run_83 post (nI na) (nI n) (nI nl) (nI ns) ph gY rc q 0 tmp con lLo lHi lF lC yg yj yd sl so dA dC dO kd ar co va ini ((lf_ro n con so sk sa sc sv Lo Hi F nl m).1) fus ((lf_ro n con so sk sa sc sv Lo Hi F nl m).2)) : ∃ q, wY_run_37 post q 0 (nI na) (nI n) (nI nl) (nI ns) ph gY rc tmp con lLo lHi lF lC yg yj yd sl so dA dC dO kd ar co va ini m.1 fus m.2 := by
  have hnl := hB.1.2.2.2.2.1
  have H : ∀ d l, l + d = nl → wY_run_37 post (d + 1) (nI l) (nI na) (nI n) (nI nl) (nI ns) ph gY rc tmp con lLo lHi lF lC yg yj yd sl so dA dC dO kd ar co va ini ((lf_to (fun l m => lf_lp n con so sk sa sc sv 0 (Lo l) (Hi l) (F l) (F (l + 1)) m) 0 l m).1) fus ((lf_to (fun l m => lf_lp n con so sk sa sc sv 0 (Lo l) (Hi l) (F l) (F (l + 1)) m) 0 l m).2) := by
    intro d
    induction d with
    | zero =>
      intro l h
      obtain rfl : l = nl := by omega
      exact br_t (lf_rfl _) k
    | succ d ih =>
      intro l h
      have h1 := ih (l + 1) (by omega)
      rw [lf_to_s (Nat.zero_le _)] at h1
      have hi : vp_in (nI l) 8 := vp_in_nI (by omega) (by decide)
      have ec : (nI l).toNatClampNeg = l := nI_clamp (by omega)
      exact br_f (nI_ge (by omega) (by omega)) ⟨hi, nm_r (e' := nI (Lo l)) (by rw [ec]; exact (hB.2.2.1 l (by omega)).1) (ly_r52 hB (by omega) h1)⟩
  have h := H nl 0 (by omega)
  rw [lf_to_e (Nat.le_refl _)] at h
  exact ⟨_, h⟩
theorem ly_r11 {post : Int32 → SY → Prop} (k : ∃ q, wY_run_37 post q 0 (nI na) (nI n) (nI nl) (nI ns) ph gY rc tmp con lLo lHi lF lC yg yj yd sl so dA dC dO kd ar co va ini (lf_cp ini 96 ori) fus sca) : ∃ q, wY_run_11 post (nI na) (nI n) (nI nl) (nI ns) ph gY rc q 0 tmp con lLo lHi lF lC yg yj yd sl so dA dC dO kd ar co va ini ori fus sca := by
  have H : ∀ d i, i + d = 96 → wY_run_11 post (nI na) (nI n) (nI nl) (nI ns) ph gY rc (d + 1) (nI i) tmp con lLo lHi lF lC yg yj yd sl so dA dC dO kd ar co va ini (lf_cp ini i ori) fus sca := by
    intro d
    induction d with
    | zero =>
      intro i h
      obtain rfl : i = 96 := by omega
      exact br_t (by decide) k
    | succ d ih =>
      intro i h
      have h1 := ih (i + 1) (by omega)
      rw [← lf_cp_s] at h1
      have hi : vp_in (nI i) 96 := vp_in_nI (by omega) (by decide)
      have ec : (nI i).toNatClampNeg = i := nI_clamp (by omega)
      exact br_f (nI_ge (b := 96) (by omega) (by decide)) ⟨hi, hi, nm_r (by rw [ec]) (nm_r (nI_1 i) h1)⟩
  have h := H 96 0 rfl
  rw [lf_cp0] at h
  exact ⟨97, h⟩
theorem ly_r83 {post : Int32 → SY → Prop} (k : ∃ q, wY_run_109 post (nI na) (nI n) (nI nl) (nI ns) ph gY rc q 0 tmp con lLo lHi lF lC yg yj yd sl so dA dC dO kd ar co va ini ori (lf_cp ini 96 fus) sca) : ∃ q, wY_run_83 post (nI na) (nI n) (nI nl) (nI ns) ph gY rc q 0 tmp con lLo lHi lF lC yg yj yd sl so dA dC dO kd ar co va ini ori fus sca := by
  have H : ∀ d i, i + d = 96 → wY_run_83 post (nI na) (nI n) (nI nl) (nI ns) ph gY rc (d + 1) (nI i) tmp con lLo lHi lF lC yg yj yd sl so dA dC dO kd ar co va ini ori (lf_cp ini i fus) sca := by
    intro d
    induction d with
    | zero =>
      intro i h
      obtain rfl : i = 96 := by omega
      exact br_t (by decide) k
    | succ d ih =>
      intro i h
      have h1 := ih (i + 1) (by omega)
      rw [← lf_cp_s] at h1
      have hi : vp_in (nI i) 96 := vp_in_nI (by omega) (by decide)
      have ec : (nI i).toNatClampNeg = i := nI_clamp (by omega)
      exact br_f (nI_ge (b := 96) (by omega) (by decide)) ⟨hi, hi, nm_r (by rw [ec]) (nm_r (nI_1 i) h1)⟩
  have h := H 96 0 rfl
  rw [lf_cp0] at h
  exact ⟨97, h⟩
theorem ly_r109 {post : Int32 → SY → Prop} (k : ∃ q, wY_run_130 post q 0 (nI na) (nI n) (nI nl) (nI ns) ph gY rc tmp con lLo lHi lF lC yg yj yd sl so dA dC dO kd ar co va ini ori fus (lf_clr 0 6 sca)) : ∃ q, wY_run_109 post (nI na) (nI n) (nI nl) (nI ns) ph gY rc q 0 tmp con lLo lHi lF lC yg yj yd sl so dA dC dO kd ar co va ini ori fus sca := by
  have H : ∀ d i, i + d = 6 → wY_run_109 post (nI na) (nI n) (nI nl) (nI ns) ph gY rc (d + 1) (nI i) tmp con lLo lHi lF lC yg yj yd sl so dA dC dO kd ar co va ini ori fus (lf_clr 0 i sca) := by
    intro d
    induction d with
    | zero =>
      intro i h
      obtain rfl : i = 6 := by omega
      exact br_t (by decide) k
    | succ d ih =>
      intro i h
      have h1 := ih (i + 1) (by omega)
      rw [← lf_clr_s] at h1
      have hi : vp_in (nI i) 6 := vp_in_nI (by omega) (by decide)
      have ec : (nI i).toNatClampNeg = i := nI_clamp (by omega)
      exact br_f (nI_ge (b := 6) (by omega) (by decide)) ⟨hi, nm_r (by rw [ec]) (nm_r (nI_1 i) h1)⟩
  have h := H 6 0 rfl
  rw [lf_clr0] at h
  exact ⟨7, h⟩
theorem ly_r151 {post : Int32 → SY → Prop} {J130 : Int32 → Int32 → Int32 → Int32 → Int32 → Int32 → Int32 → Int32 → (Nat → Int32) → (Nat → Int32) → (Nat → Int32) → (Nat → Int32) → (Nat → Int32) → (Nat → Int32) → (Nat → Int32) → (Nat → Int32) → (Nat → Int32) → (Nat → Int32) → (Nat → Int32) → (Nat → Int32) → (Nat → Int32) → (Nat → Int32) → (Nat → Int32) → (Nat → Int32) → (Nat → Int32) → (Nat → Int32) → (Nat → Int32) → (Nat → Int32) → (Nat → Int32) → (Nat → Int32) → Prop} {a g : Nat} {m : lf_M} (hB : lf_B na n nl ns F L Lo Hi lLo lHi lF lC sl sk sa sc sv kd ar co va dA dC dO) (hG : lf_G nl g G gp xg gf gl yg) (ha : a < g)
    (k : J130 (nI (a + 1)) (nI na) (nI n) (nI nl) (nI ns) ph gY rc tmp con lLo lHi lF lC yg yj yd sl so dA dC dO kd ar co va ini ori ((lf_lp n con so sk sa sc sv 1 (Lo (G a)) (Hi (G a)) (F (G a)) (F (G (a + 1))) m).1) ((lf_lp n con so sk sa sc sv 1 (Lo (G a)) (Hi (G a)) (F (G a)) (F (G (a + 1))) m).2)) : ∃ q, wY_run_151 post J130 (nI a) (nI (G a)) q (nI (Lo (G a))) (nI na) (nI n) (nI nl) (nI ns) ph gY rc tmp con lLo lHi lF lC yg yj yd sl so dA dC dO kd ar co va ini ori m.1 m.2 := by
  have hnl := hB.1.2.2.2.2.1
  have hlt := (hG.2.1 a ha).1
  have hle : G (a + 1) ≤ nl := lf_PT_le hG.1 (by omega)
  have hl : G a < nl := by omega
  have hi : vp_in (nI (G a)) 8 := vp_in_nI (by omega) (by decide)
  have ec : (nI (G a)).toNatClampNeg = G a := nI_clamp (by omega)
  obtain ⟨q1, q2, q3, q4, q5, q6⟩ := hB.2.2.1 (G a) hl
  have ex : ∀ i d, Hi (G a) < i → i ≤ 16 → (i ≤ Hi (G a) + 1 ∨ i = Lo (G a)) → wY_run_151 post J130 (nI a) (nI (G a)) (d + 1) (nI i) (nI na) (nI n) (nI nl) (nI ns) ph gY rc tmp con lLo lHi lF lC yg yj yd sl so dA dC dO kd ar co va ini ori ((lf_to (fun i m => lf_bd n con so sk sa sc sv 1 (F (G a)) (F (G (a + 1))) i m) (Lo (G a)) i m).1) ((lf_to (fun i m => lf_bd n con so sk sa sc sv 1 (F (G a)) (F (G (a + 1))) i m) (Lo (G a)) i m).2) := by
    intro i d h1 h2 h3
    refine ⟨hi, br_t ?_ (nm_r (nI_1 a) ?_)⟩
    · rw [ec, q2]; exact nI_lt h1 (by omega)
    · rw [lf_to_x h1 h3]; exact k
  have H : ∀ d i, Lo (G a) ≤ i → Hi (G a) + 1 ≤ i + d → (i ≤ Hi (G a) + 1 ∨ i = Lo (G a)) → wY_run_151 post J130 (nI a) (nI (G a)) (d + 1) (nI i) (nI na) (nI n) (nI nl) (nI ns) ph gY rc tmp con lLo lHi lF lC yg yj yd sl so dA dC dO kd ar co va ini ori ((lf_to (fun i m => lf_bd n con so sk sa sc sv 1 (F (G a)) (F (G (a + 1))) i m) (Lo (G a)) i m).1) ((lf_to (fun i m => lf_bd n con so sk sa sc sv 1 (F (G a)) (F (G (a + 1))) i m) (Lo (G a)) i m).2) := by
    intro d
    induction d with
    | zero =>
      intro i h1 h2 h3
      exact ex i 0 (by omega) (by omega) h3
    | succ d ih =>
      intro i h1 h2 h3
      by_cases hh : Hi (G a) < i
      · exact ex i (d + 1) hh (by omega) h3
      · have h := ih (i + 1) (by omega) (by omega) (by omega)
        rw [lf_to_s h1] at h
        refine ⟨hi, br_f ?_ ?_⟩
        · rw [ec, q2]; exact nI_nlt (by omega) (by omega)
        · refine ly_group hB hG ha ?_
          exact nm_r (nI_1 i) h
  have h := H (Hi (G a) + 1) (Lo (G a)) (Nat.le_refl _) (by omega) (Or.inr rfl)
  rw [lf_to_e (Nat.le_refl _)] at h
  exact ⟨_, h⟩
theorem ly_r130 {post : Int32 → SY → Prop} {g : Nat} {m : lf_M} (hB : lf_B na n nl ns F L Lo Hi lLo lHi lF lC sl sk sa sc sv kd ar co va dA dC dO) (hG : lf_G nl g G gp xg gf gl yg)
    (k : ∃ q, wY_run_193 post (nI na) (nI n) (nI nl) (nI ns) ph (nI g) (rc + 1) tmp con lLo lHi lF lC yg yj yd sl so dA dC dO kd ar co va ini ori ((lf_rt n con so sk sa sc sv Lo Hi F G g m).1) ((lf_rt n con so sk sa sc sv Lo Hi F G g m).2) q 0 0) : ∃ q, wY_run_130 post q 0 (nI na) (nI n) (nI nl) (nI ns) ph (nI g) rc tmp con lLo lHi lF lC yg yj yd sl so dA dC dO kd ar co va ini ori m.1 m.2 := by
  have hnl := hB.1.2.2.2.2.1
  have hg : g ≤ nl := lf_PT_sn hG.1 (fun a ha => (hG.2.1 a ha).1)
  have H : ∀ d a, a + d = g → wY_run_130 post (d + 1) (nI a) (nI na) (nI n) (nI nl) (nI ns) ph (nI g) rc tmp con lLo lHi lF lC yg yj yd sl so dA dC dO kd ar co va ini ori ((lf_to (fun a m => lf_lp n con so sk sa sc sv 1 (Lo (G a)) (Hi (G a)) (F (G a)) (F (G (a + 1))) m) 0 a m).1) ((lf_to (fun a m => lf_lp n con so sk sa sc sv 1 (Lo (G a)) (Hi (G a)) (F (G a)) (F (G (a + 1))) m) 0 a m).2) := by
    intro d
    induction d with
    | zero =>
      intro a h
      obtain rfl : a = g := by omega
      exact br_t (lf_rfl _) (nm_e k)
    | succ d ih =>
      intro a h
      have h1 := ih (a + 1) (by omega)
      rw [lf_to_s (Nat.zero_le _)] at h1
      have hlt := (hG.2.1 a (by omega)).1
      have hle : G (a + 1) ≤ nl := lf_PT_le hG.1 (by omega)
      have hi : vp_in (nI (G a)) 8 := vp_in_nI (by omega) (by decide)
      have ec : (nI (G a)).toNatClampNeg = G a := nI_clamp (by omega)
      refine br_f (nI_ge (by omega) (by omega)) ?_
      refine ly_gl hnl hG (by omega) ?_
      exact ⟨hi, nm_r (e' := nI (Lo (G a))) (by rw [ec]; exact (hB.2.2.1 (G a) (by omega)).1) (ly_r151 hB hG (by omega) h1)⟩
  have h := H g 0 (by omega)
  rw [lf_to_e (Nat.le_refl _)] at h
  exact ⟨_, h⟩
theorem ly_r215 {post : Int32 → SY → Prop} {J193 : Int32 → Int32 → Prop} {x : Nat} {d0 : Int32} (hx : x < na) (hna : na ≤ 6) (hn : n ≤ 16) (k : J193 (lf_dc n ori fus x d0) (nI (x + 1))) : ∃ m, wY_run_215 post J193 (nI x) (nI na) (nI n) (nI nl) (nI ns) ph gY rc tmp con lLo lHi lF lC yg yj yd sl so dA dC dO kd ar co va ini ori fus sca m d0 0 := by
  have H : ∀ d c, c + d = n → wY_run_215 post J193 (nI x) (nI na) (nI n) (nI nl) (nI ns) ph gY rc tmp con lLo lHi lF lC yg yj yd sl so dA dC dO kd ar co va ini ori fus sca (d + 1) (lf_to (fun c d => if ori (x * 16 + c) = fus (x * 16 + c) then d else d + 1) 0 c d0) (nI c) := by
    intro d
    induction d with
    | zero =>
      intro c h
      obtain rfl : c = n := by omega
      exact br_t (lf_rfl _) (nm_r (nI_1 x) k)
    | succ d ih =>
      intro c h
      have h1 := ih (c + 1) (by omega)
      rw [lf_to_s (Nat.zero_le _)] at h1
      have i2 : vp_in (nI x * 16 + nI c) 96 := by rw [lf_16]; exact vp_in_nI (by omega) (by decide)
      have e2 : (nI x * 16 + nI c).toNatClampNeg = x * 16 + c := by rw [lf_16]; exact nI_clamp (by omega)
      refine br_f (nI_ge (by omega) (by omega)) ⟨i2, i2, br_c (fun z => ?_) (fun z => ?_)⟩
      · rw [e2] at z
        rw [if_pos z] at h1
        exact nm_r (nI_1 c) h1
      · rw [e2] at z
        rw [if_neg z] at h1
        exact nm_e (nm_r (nI_1 c) h1)
  exact ⟨n + 1, H n 0 (by omega)⟩
theorem ly_r193 {post : Int32 → SY → Prop} (hna : na ≤ 6) (hn : n ≤ 16) (k : post (lf_da na n con ori fus) (nI na, nI n, nI nl, nI ns, ph, gY, rc, tmp, con, lLo, lHi, lF, lC, yg, yj, yd, sl, so, dA, dC, dO, kd, ar, co, va, ini, ori, fus, sca)) : ∃ q, wY_run_193 post (nI na) (nI n) (nI nl) (nI ns) ph gY rc tmp con lLo lHi lF lC yg yj yd sl so dA dC dO kd ar co va ini ori fus sca q 0 0 := by
  have H : ∀ d x, x + d = na → wY_run_193 post (nI na) (nI n) (nI nl) (nI ns) ph gY rc tmp con lLo lHi lF lC yg yj yd sl so dA dC dO kd ar co va ini ori fus sca (d + 1) (lf_to (fun x d => if con x = 0 then lf_dc n ori fus x d else d) 0 x 0) (nI x) := by
    intro d
    induction d with
    | zero =>
      intro x h
      obtain rfl : x = na := by omega
      exact br_t (lf_rfl _) k
    | succ d ih =>
      intro x h
      have h1 := ih (x + 1) (by omega)
      rw [lf_to_s (Nat.zero_le _)] at h1
      have hi : vp_in (nI x) 6 := vp_in_nI (by omega) (by decide)
      have ec : (nI x).toNatClampNeg = x := nI_clamp (by omega)
      refine br_f (nI_ge (by omega) (by omega)) ⟨hi, br_c (fun z => ?_) (fun z => ?_)⟩
      · rw [ec] at z
        rw [if_pos z] at h1
        exact ly_r215 (by omega) hna hn h1
      · rw [ec] at z
        rw [if_neg z] at h1
        exact nm_r (nI_1 x) h1
  exact ⟨na + 1, H na 0 (by omega)⟩
theorem lf_clr6 {na : Nat} {s : Nat → Int32} (hna : na ≤ 6) (h : ∀ j, na ≤ j → s j = 0) : lf_clr 0 6 s = lf_clr 0 na s := by
  funext j
  unfold lf_clr
  by_cases h1 : j < na
  · rw [if_pos h1, if_pos (by omega)]
  · rw [if_neg h1]
    by_cases h2 : j < 6
    · rw [if_pos h2, h j (by omega)]
    · rw [if_neg h2]
theorem ly_run {post : Int32 → SY → Prop} {g : Nat} {s1 s2 : lf_M} (hB : lf_B na n nl ns F L Lo Hi lLo lHi lF lC sl sk sa sc sv kd ar co va dA dC dO) (hG : lf_G nl g G gp xg gf gl yg) (e1 : s1 = lf_o1 n nl con so sk sa sc sv ini ori sca Lo Hi F) (e2 : s2 = lf_o2 na n g con so sk sa sc sv ini fus s1.2 Lo Hi F G) (hs : ∀ j, na ≤ j → s1.2 j = 0)
    (k : post (lf_da na n con s1.1 s2.1) (nI na, nI n, nI nl, nI ns, 1, nI g, rc + 1, tmp, con, lLo, lHi, lF, lC, yg, yj, yd, sl, so, dA, dC, dO, kd, ar, co, va, ini, s1.1, s2.1, s2.2)) : wpY_run post (nI na, nI n, nI nl, nI ns, 1, nI g, rc, tmp, con, lLo, lHi, lF, lC, yg, yj, yd, sl, so, dA, dC, dO, kd, ar, co, va, ini, ori, fus, sca) := by
  refine br_f lf_10 ?_
  refine ly_r11 ?_
  refine ly_r37 (m := (lf_cp ini 96 ori, sca)) hB ?_
  refine ly_r83 ?_
  refine ly_r109 ?_
  have e3 : (lf_ro n con so sk sa sc sv Lo Hi F nl (lf_cp ini 96 ori, sca)) = s1 := e1.symm
  rw [e3, lf_clr6 hB.1.2.1 hs]
  refine ly_r130 (m := (lf_cp ini 96 fus, lf_clr 0 na s1.2)) hB hG ?_
  have e4 : (lf_rt n con so sk sa sc sv Lo Hi F G g (lf_cp ini 96 fus, lf_clr 0 na s1.2)) = s2 := e2.symm
  rw [e4]
  exact ly_r193 hB.1.2.1 hB.1.2.2.2.1 k
theorem lf_o1z (hB : lf_B na n nl ns F L Lo Hi lLo lHi lF lC sl sk sa sc sv kd ar co va dA dC dO) (hs : ∀ j, na ≤ j → sca j = 0) : ∀ j, na ≤ j → (lf_o1 n nl con so sk sa sc sv ini ori sca Lo Hi F).2 j = 0 :=
  lf_to_P (lf_sz na) (fun l m _ h2 hm => lf_lp_k (ns := ns) (lf_dst hB.2.2.2.2.1 hB.2.2.2.2.2) hB.1.2.1 (lf_PT_le hB.2.1 (by omega)) hm) hs
theorem lf_o2z {g : Nat} (hB : lf_B na n nl ns F L Lo Hi lLo lHi lF lC sl sk sa sc sv kd ar co va dA dC dO) (hG : lf_G nl g G gp xg gf gl yg) (hs : ∀ j, na ≤ j → sca j = 0) : ∀ j, na ≤ j → (lf_o2 na n g con so sk sa sc sv ini fus sca Lo Hi F G).2 j = 0 :=
  lf_to_P (lf_sz na) (fun a m _ h2 hm => lf_lp_k (ns := ns) (lf_dst hB.2.2.2.2.1 hB.2.2.2.2.2) hB.1.2.1 (lf_PT_le hB.2.1 (lf_PT_le hG.1 (by omega))) hm) (fun j hj => by
    show lf_clr 0 na sca j = 0
    unfold lf_clr
    rw [if_neg (by omega)]
    exact hs j hj)
theorem lz_run {k : Nat} (hB : lf_B na n nl ns F L Lo Hi lLo lHi lF lC sl sk sa sc sv kd ar co va dA dC dO) (hs : ∀ j, na ≤ j → sca j = 0) (hP : lf_P0 nl ph gX gY xg xj xd ∨ lf_P1 nl ph gX gY xg xj xd gf gl yg yj yd) :
    wpX_run (fun r u' => wpY_run (fun r' v' => r' = r ∧ i_Rel (k + 5) u' v') (nI na, nI n, nI nl, nI ns, ph, gY, rc, tmp, con, lLo, lHi, lF, lC, yg, yj, yd, sl, so, dA, dC, dO, kd, ar, co, va, ini, ori, fus, sca)) (nI na, nI n, ph, nI nl, nI ns, gX, rc, tmp, con, sca, ini, ori, fus, lLo, lHi, lF, lC, xg, xj, xd, gf, gl, sl, so, sk, sa, sc, sv) := by
  rcases hP with hP | hP
  · exact br_f (fun z => lf_01 (hP.1.symm.trans z)) (br_t hP.1 ⟨rfl, lf_mk hB hs (Or.inl hP)⟩)
  · obtain ⟨e, g, G, gp, rfl, rfl, hG, hJ⟩ := hP
    subst e
    refine lx_run (s1 := lf_o1 n nl con so sk sa sc sv ini ori sca Lo Hi F) (s2 := lf_o2 na n g con so sk sa sc sv ini fus (lf_o1 n nl con so sk sa sc sv ini ori sca Lo Hi F).2 Lo Hi F G) hB hG rfl rfl ?_
    have z1 := lf_o1z (con := con) (so := so) (ini := ini) (ori := ori) hB hs
    refine ly_run (s1 := lf_o1 n nl con so sk sa sc sv ini ori sca Lo Hi F) (s2 := lf_o2 na n g con so sk sa sc sv ini fus (lf_o1 n nl con so sk sa sc sv ini ori sca Lo Hi F).2 Lo Hi F G) hB hG rfl rfl z1 ?_
    exact ⟨rfl, lf_mk hB (lf_o2z hB hG z1) (Or.inr ⟨rfl, g, G, gp, rfl, rfl, hG, hJ⟩)⟩
theorem i_vc_run {k : Nat} {u : SX} {v : SY} (I : i_Rel k u v) (hk : k + 5 ≤ 2562) : wpX_run (fun r u' => wpY_run (fun r' v' => r' = r ∧ i_Rel (k + 5) u' v') v) u := by
  obtain ⟨na, n, nl, ns, F, L, Lo, Hi, ph, gX, gY, rc, tmp, con, sca, ini, ori, fus, lLo, lHi, lF, lC, xg, xj, xd, gf, gl, sl, so, sk, sa, sc, sv, yg, yj, yd, dA, dC, dO, kd, ar, co, va, rfl, rfl, hB, hs, hP⟩ := I
  exact lz_run hB hs hP
end LFZ
