section LFW
variable {na n nl ns : Nat} {ph gX gY rc : Int32} {tmp con sca ini ori fus lLo lHi lF lC xg xj xd gf gl sl so sk sa sc sv yg yj yd dA dC dO kd ar co va : Nat → Int32} {F L Lo Hi G gp : Nat → Nat}
theorem lf_dst (hSR : lf_SR ns sk sa sc sv kd ar co va dA dC dO) (hw : lf_WF na ns sk sa) : ∀ s, s < ns → ∃ a, a < na ∧ sa (3 * s + 2) = nI a := by
  intro s hs
  have h2 := (hSR s hs).2.2.1
  rcases hw (3 * s + 2) (by omega) with h | h | h
  · exact absurd (h.symm.trans h2) (by decide)
  · exact absurd (h.symm.trans h2) (by decide)
  · exact h.2
theorem lf_end {l : Nat} (hl : l < nl) (hLP : lf_LP nl F Lo Hi lLo lHi lF lC) (hm : F l ≤ F (l + 1)) : lF l + lC l = nI (F (l + 1)) := by
  obtain ⟨q1, q2, q3, q4, q5, q6⟩ := hLP l hl
  rw [q5, q6, nI_add]
  exact congrArg nI (by omega)
theorem lx_ro10 {post : SX → Prop} {m : lf_M} (hB : lf_B na n nl ns F L Lo Hi lLo lHi lF lC sl sk sa sc sv kd ar co va dA dC dO)
    (k : post (nI na, nI n, ph, nI nl, nI ns, gX, rc, tmp, con, (lf_ro n con so sk sa sc sv Lo Hi F nl m).2, ini, (lf_ro n con so sk sa sc sv Lo Hi F nl m).1, fus, lLo, lHi, lF, lC, xg, xj, xd, gf, gl, sl, so, sk, sa, sc, sv)) :
    ∀ d l, l + d = nl → wX_runOriginal_10 post (d + 1) (nI l) (nI na) (nI n) ph (nI nl) (nI ns) gX rc tmp con ((lf_to (fun l m => lf_lp n con so sk sa sc sv 0 (Lo l) (Hi l) (F l) (F (l + 1)) m) 0 l m).2) ini ((lf_to (fun l m => lf_lp n con so sk sa sc sv 0 (Lo l) (Hi l) (F l) (F (l + 1)) m) 0 l m).1) fus lLo lHi lF lC xg xj xd gf gl sl so sk sa sc sv := by
  obtain ⟨⟨_, hna, _, hn, hnl, hns⟩, hPT, hLP, hsl, hSR, hw⟩ := hB
  intro d
  induction d with
  | zero =>
    intro l h
    obtain rfl : l = nl := by omega
    exact br_t (lf_rfl _) k
  | succ d ih =>
    intro l h
    have h1 := ih (l + 1) (by omega)
    rw [lf_to_s (Nat.zero_le _)] at h1
    have hi : vp_in (nI l) 8 := vp_in_nI (by omega) (by decide)
    have ec : (nI l).toNatClampNeg = l := nI_clamp (by omega)
    have hm : F l ≤ F (l + 1) := hPT.2.2.1 l (by omega)
    refine br_f (nI_ge (by omega) (by omega)) ⟨hi, hi, nm_r (e' := nI (F (l + 1))) (by rw [ec]; exact lf_end (by omega) hLP hm) ?_⟩
    refine lx_body_original (by omega) hnl hLP hm (lf_PT_le hPT (by omega)) hns hna hn hw (lf_dst hSR hw) ?_
    exact nm_r (nI_1 l) h1
theorem lx_ro {post : SX → Prop} (hB : lf_B na n nl ns F L Lo Hi lLo lHi lF lC sl sk sa sc sv kd ar co va dA dC dO)
    (k : post (nI na, nI n, ph, nI nl, nI ns, gX, rc, tmp, con, (lf_ro n con so sk sa sc sv Lo Hi F nl (lf_cp ini 96 ori, sca)).2, ini, (lf_ro n con so sk sa sc sv Lo Hi F nl (lf_cp ini 96 ori, sca)).1, fus, lLo, lHi, lF, lC, xg, xj, xd, gf, gl, sl, so, sk, sa, sc, sv)) : wpX_runOriginal post (nI na, nI n, ph, nI nl, nI ns, gX, rc, tmp, con, sca, ini, ori, fus, lLo, lHi, lF, lC, xg, xj, xd, gf, gl, sl, so, sk, sa, sc, sv) := by
  unfold wpX_runOriginal
  refine lx_load_original ?_
  have h := lx_ro10 (m := (lf_cp ini 96 ori, sca)) hB k nl 0 (by omega)
  rw [lf_to_e (Nat.le_refl _)] at h
  exact ⟨nl + 1, h⟩
theorem lx_rt33 {post : SX → Prop} {m : lf_M} {g : Nat} (hB : lf_B na n nl ns F L Lo Hi lLo lHi lF lC sl sk sa sc sv kd ar co va dA dC dO) (hG : lf_G nl g G gp xg gf gl yg)
    (k : post (nI na, nI n, ph, nI nl, nI ns, nI g, rc, tmp, con, (lf_rt n con so sk sa sc sv Lo Hi F G g m).2, ini, ori, (lf_rt n con so sk sa sc sv Lo Hi F G g m).1, lLo, lHi, lF, lC, xg, xj, xd, gf, gl, sl, so, sk, sa, sc, sv)) :
    ∀ d a, a + d = g → wX_runTransformed_33 post (d + 1) (nI a) (nI na) (nI n) ph (nI nl) (nI ns) (nI g) rc tmp con ((lf_to (fun a m => lf_lp n con so sk sa sc sv 1 (Lo (G a)) (Hi (G a)) (F (G a)) (F (G (a + 1))) m) 0 a m).2) ini ori ((lf_to (fun a m => lf_lp n con so sk sa sc sv 1 (Lo (G a)) (Hi (G a)) (F (G a)) (F (G (a + 1))) m) 0 a m).1) lLo lHi lF lC xg xj xd gf gl sl so sk sa sc sv := by
  obtain ⟨⟨_, hna, _, hn, hnl, hns⟩, hPT, hLP, hsl, hSR, hw⟩ := hB
  obtain ⟨hGT, hGa, hGl⟩ := hG
  have hg : g ≤ nl := lf_PT_sn hGT (fun a ha => (hGa a ha).1)
  intro d
  induction d with
  | zero =>
    intro a h
    obtain rfl : a = g := by omega
    exact br_t (lf_rfl _) k
  | succ d ih =>
    intro a h
    have h1 := ih (a + 1) (by omega)
    rw [lf_to_s (Nat.zero_le _)] at h1
    have hi : vp_in (nI a) 8 := vp_in_nI (by omega) (by decide)
    have ec : (nI a).toNatClampNeg = a := nI_clamp (by omega)
    obtain ⟨p1, p2, p3⟩ := hGa a (by omega)
    have hle : G (a + 1) ≤ nl := lf_PT_le hGT (by omega)
    have hli : vp_in (nI (G (a + 1) - 1)) 8 := vp_in_nI (by omega) (by decide)
    have hlc : (nI (G (a + 1) - 1)).toNatClampNeg = G (a + 1) - 1 := nI_clamp (by omega)
    have hm : F (G (a + 1) - 1) ≤ F (G (a + 1) - 1 + 1) := hPT.2.2.1 _ (by omega)
    refine br_f (nI_ge (by omega) (by omega)) ⟨hi, nm_r (e' := nI (G a)) (by rw [ec]; exact p2) ⟨hi, nm_r (e' := nI (G (a + 1) - 1)) ?_ ⟨hli, hli, nm_r (e' := nI (F (G (a + 1)))) ?_ ?_⟩⟩⟩
    · rw [ec, p3, nI_add, show G a + (G (a + 1) - G a) = G (a + 1) by omega]
      exact lf_p1 (by omega)
    · rw [hlc, lf_end (by omega) hLP hm, show G (a + 1) - 1 + 1 = G (a + 1) by omega]
    · refine lx_body_fused (by omega) hnl hLP (lf_PT_mono hPT _ (by omega) hle) (lf_PT_le hPT hle) hns hna hn hw (lf_dst hSR hw) ?_
      exact nm_r (nI_1 a) h1
theorem lx_rt {post : SX → Prop} {g : Nat} (hB : lf_B na n nl ns F L Lo Hi lLo lHi lF lC sl sk sa sc sv kd ar co va dA dC dO) (hG : lf_G nl g G gp xg gf gl yg)
    (k : post (nI na, nI n, ph, nI nl, nI ns, nI g, rc, tmp, con, (lf_rt n con so sk sa sc sv Lo Hi F G g (lf_cp ini 96 fus, lf_clr 0 na sca)).2, ini, ori, (lf_rt n con so sk sa sc sv Lo Hi F G g (lf_cp ini 96 fus, lf_clr 0 na sca)).1, lLo, lHi, lF, lC, xg, xj, xd, gf, gl, sl, so, sk, sa, sc, sv)) : wpX_runTransformed post (nI na, nI n, ph, nI nl, nI ns, nI g, rc, tmp, con, sca, ini, ori, fus, lLo, lHi, lF, lC, xg, xj, xd, gf, gl, sl, so, sk, sa, sc, sv) := by
  have hna : na ≤ 6 := hB.1.2.1
  unfold wpX_runTransformed
  refine lx_load_fused ?_
  have H : ∀ d i, i + d = na → wX_runTransformed_10 post (nI na) (nI n) ph (nI nl) (nI ns) (nI g) rc (d + 1) (nI i) tmp con (lf_clr 0 i sca) ini ori (lf_cp ini 96 fus) lLo lHi lF lC xg xj xd gf gl sl so sk sa sc sv := by
    intro d
    induction d with
    | zero =>
      intro i h
      obtain rfl : i = na := by omega
      have h := lx_rt33 (m := (lf_cp ini 96 fus, lf_clr 0 i sca)) hB hG k g 0 (by omega)
      rw [lf_to_e (Nat.le_refl _)] at h
      exact br_t (lf_rfl _) ⟨g + 1, h⟩
    | succ d ih =>
      intro i h
      have h1 := ih (i + 1) (by omega)
      rw [← lf_clr_s] at h1
      have hi : vp_in (nI i) 6 := vp_in_nI (by omega) (by decide)
      have ec : (nI i).toNatClampNeg = i := nI_clamp (by omega)
      exact br_f (nI_ge (by omega) (by omega)) ⟨hi, nm_r (by rw [ec]) (nm_r (nI_1 i) h1)⟩
  have h := H na 0 (by omega)
  rw [lf_clr0] at h
  exact ⟨na + 1, h⟩
theorem lx_cd14 {post : Int32 → Prop} {J4 : Int32 → Int32 → Prop} {x : Nat} {d0 : Int32} (hx : x < na) (hna : na ≤ 6) (hn : n ≤ 16) (k : J4 (if con x = 0 then lf_dc n ori fus x d0 else d0) (nI (x + 1))) : ∃ m, wX_countDifferences_14 post J4 (nI x) (nI na) (nI n) ph (nI nl) (nI ns) gX rc tmp con sca ini ori fus lLo lHi lF lC xg xj xd gf gl sl so sk sa sc sv m d0 0 := by
  have hi : vp_in (nI x) 6 := vp_in_nI (by omega) (by decide)
  have ec : (nI x).toNatClampNeg = x := nI_clamp (by omega)
  by_cases hc : con x = 0
  · rw [if_pos hc] at k
    have H : ∀ d c, c + d = n → wX_countDifferences_14 post J4 (nI x) (nI na) (nI n) ph (nI nl) (nI ns) gX rc tmp con sca ini ori fus lLo lHi lF lC xg xj xd gf gl sl so sk sa sc sv (d + 1) (lf_to (fun c d => if ori (x * 16 + c) = fus (x * 16 + c) then d else d + 1) 0 c d0) (nI c) := by
      intro d
      induction d with
      | zero =>
        intro c h
        obtain rfl : c = n := by omega
        exact br_t (lf_rfl _) (nm_r (nI_1 x) k)
      | succ d ih =>
        intro c h
        have h1 := ih (c + 1) (by omega)
        rw [lf_to_s (Nat.zero_le _)] at h1
        have i2 : vp_in (nI (x * 16 + c)) 96 := vp_in_nI (by omega) (by decide)
        have e2 : (nI (x * 16 + c)).toNatClampNeg = x * 16 + c := nI_clamp (by omega)
        refine br_f (nI_ge (by omega) (by omega)) (nm_r (lf_16 x c) ⟨hi, br_t (by rw [ec]; exact hc) ⟨i2, i2, br_c (fun z => ?_) (fun z => ?_)⟩⟩)
        · rw [e2] at z
          rw [if_pos z] at h1
          exact nm_r (nI_1 c) h1
        · rw [e2] at z
          rw [if_neg z] at h1
          exact nm_e (nm_r (nI_1 c) h1)
    exact ⟨n + 1, H n 0 (by omega)⟩
  · rw [if_neg hc] at k
    have H : ∀ d c, c + d = n → wX_countDifferences_14 post J4 (nI x) (nI na) (nI n) ph (nI nl) (nI ns) gX rc tmp con sca ini ori fus lLo lHi lF lC xg xj xd gf gl sl so sk sa sc sv (d + 1) d0 (nI c) := by
      intro d
      induction d with
      | zero =>
        intro c h
        obtain rfl : c = n := by omega
        exact br_t (lf_rfl _) (nm_r (nI_1 x) k)
      | succ d ih =>
        intro c h
        have h1 := ih (c + 1) (by omega)
        exact br_f (nI_ge (by omega) (by omega)) (nm_r (lf_16 x c) ⟨hi, br_f (by rw [ec]; exact hc) (nm_r (nI_1 c) h1)⟩)
    exact ⟨n + 1, H n 0 (by omega)⟩
theorem lx_cd {post : Int32 → Prop} (hna : na ≤ 6) (hn : n ≤ 16) (k : post (lf_da na n con ori fus)) : wpX_countDifferences post (nI na, nI n, ph, nI nl, nI ns, gX, rc, tmp, con, sca, ini, ori, fus, lLo, lHi, lF, lC, xg, xj, xd, gf, gl, sl, so, sk, sa, sc, sv) := by
  have H : ∀ d x, x + d = na → wX_countDifferences_4 post (nI na) (nI n) ph (nI nl) (nI ns) gX rc tmp con sca ini ori fus lLo lHi lF lC xg xj xd gf gl sl so sk sa sc sv (d + 1) (lf_to (fun x d => if con x = 0 then lf_dc n ori fus x d else d) 0 x 0) (nI x) := by
    intro d
    induction d with
    | zero =>
      intro x h
      obtain rfl : x = na := by omega
      exact br_t (lf_rfl _) k
    | succ d ih =>
      intro x h
      have h1 := ih (x + 1) (by omega)
      rw [lf_to_s (Nat.zero_le _)] at h1
      exact br_f (nI_ge (by omega) (by omega)) (lx_cd14 (by omega) hna hn h1)
  exact ⟨na + 1, H na 0 (by omega)⟩
/-- both programs' outcomes -/
def lf_o1 (n nl : Nat) (con so sk sa sc sv ini ori sca : Nat → Int32) (Lo Hi F : Nat → Nat) : lf_M := lf_ro n con so sk sa sc sv Lo Hi F nl (lf_cp ini 96 ori, sca)
def lf_o2 (na n g : Nat) (con so sk sa sc sv ini fus sca : Nat → Int32) (Lo Hi F G : Nat → Nat) : lf_M := lf_rt n con so sk sa sc sv Lo Hi F G g (lf_cp ini 96 fus, lf_clr 0 na sca)
theorem lx_run {post : Int32 → SX → Prop} {g : Nat} {s1 s2 : lf_M} (hB : lf_B na n nl ns F L Lo Hi lLo lHi lF lC sl sk sa sc sv kd ar co va dA dC dO) (hG : lf_G nl g G gp xg gf gl yg) (e1 : s1 = lf_o1 n nl con so sk sa sc sv ini ori sca Lo Hi F) (e2 : s2 = lf_o2 na n g con so sk sa sc sv ini fus s1.2 Lo Hi F G)
    (k : post (lf_da na n con s1.1 s2.1) (nI na, nI n, 1, nI nl, nI ns, nI g, rc + 1, tmp, con, s2.2, ini, s1.1, s2.1, lLo, lHi, lF, lC, xg, xj, xd, gf, gl, sl, so, sk, sa, sc, sv)) : wpX_run post (nI na, nI n, 1, nI nl, nI ns, nI g, rc, tmp, con, sca, ini, ori, fus, lLo, lHi, lF, lC, xg, xj, xd, gf, gl, sl, so, sk, sa, sc, sv) := by
  subst e1
  refine br_t rfl ?_
  refine lx_ro hB ?_
  refine lx_rt hB hG ?_
  refine nm_e ?_
  subst e2
  exact lx_cd hB.1.2.1 hB.1.2.2.2.1 k
end LFW
