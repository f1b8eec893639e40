section LFR
variable {na n nl ns : Nat} {ph gX gY rc : Int32} {tmp con sca ini ori fus lLo lHi lF lC xg xj xd gf gl sl so sk sa sc sv yg yj yd dA dC dO kd ar co va : Nat → Int32} {F L Lo Hi G gp : Nat → Nat}
/-- both states over one program: the same contents, flags, loops and operators; slots against tables; groups in the same intervals -/
def i_Rel (_ : Nat) (u : SX) (v : SY) : Prop := ∃ (na n nl ns : Nat) (F L Lo Hi : Nat → Nat) (ph gX gY rc : Int32) (tmp con sca ini ori fus lLo lHi lF lC xg xj xd gf gl sl so sk sa sc sv yg yj yd dA dC dO kd ar co va : Nat → Int32),
  u = (nI na, nI n, ph, nI nl, nI ns, gX, rc, tmp, con, sca, ini, ori, fus, lLo, lHi, lF, lC, xg, xj, xd, gf, gl, sl, so, sk, sa, sc, sv) ∧ v = (nI na, nI n, nI nl, nI ns, ph, gY, rc, tmp, con, lLo, lHi, lF, lC, yg, yj, yd, sl, so, dA, dC, dO, kd, ar, co, va, ini, ori, fus, sca) ∧ lf_B na n nl ns F L Lo Hi lLo lHi lF lC sl sk sa sc sv kd ar co va dA dC dO ∧ (∀ j, na ≤ j → sca j = 0) ∧ (lf_P0 nl ph gX gY xg xj xd ∨ lf_P1 nl ph gX gY xg xj xd gf gl yg yj yd)
theorem i_up {k : Nat} {u : SX} {v : SY} (h : i_Rel k u v) : i_Rel (k + 5) u v := h
theorem lf_mk {k : Nat} (hB : lf_B na n nl ns F L Lo Hi lLo lHi lF lC sl sk sa sc sv kd ar co va dA dC dO) (hs : ∀ j, na ≤ j → sca j = 0) (hP : lf_P0 nl ph gX gY xg xj xd ∨ lf_P1 nl ph gX gY xg xj xd gf gl yg yj yd) : i_Rel k (nI na, nI n, ph, nI nl, nI ns, gX, rc, tmp, con, sca, ini, ori, fus, lLo, lHi, lF, lC, xg, xj, xd, gf, gl, sl, so, sk, sa, sc, sv) (nI na, nI n, nI nl, nI ns, ph, gY, rc, tmp, con, lLo, lHi, lF, lC, yg, yj, yd, sl, so, dA, dC, dO, kd, ar, co, va, ini, ori, fus, sca) :=
  ⟨na, n, nl, ns, F, L, Lo, Hi, ph, gX, gY, rc, tmp, con, sca, ini, ori, fus, lLo, lHi, lF, lC, xg, xj, xd, gf, gl, sl, so, sk, sa, sc, sv, yg, yj, yd, dA, dC, dO, kd, ar, co, va, rfl, rfl, hB, hs, hP⟩
theorem lf_10 : ¬ (1 : Int32) = 0 := by decide
theorem lf_01 : ¬ (0 : Int32) = 1 := by decide
theorem lf_30 : ¬ (3 : Int32) = 0 := by decide
theorem lf_m3 (a : Nat) : nI a * 3 = nI (3 * a) := by rw [show (3 : Int32) = nI 3 from rfl, pk_mul, Nat.mul_comm]
theorem lf_m2 (a : Nat) : nI a * 2 = nI (2 * a) := by rw [show (2 : Int32) = nI 2 from rfl, pk_mul, Nat.mul_comm]
theorem lf_a2 (a : Nat) : nI a + 2 = nI (a + 2) := nI_add a 2
theorem lf_d3 {a : Nat} (h : a < 2 ^ 31) : nI a / 3 = nI (a / 3) := pk_div (d := 3) h (by decide) (by decide)
theorem lf_r3 {a : Nat} (h : a < 2 ^ 31) : nI a - nI a / 3 * 3 = nI (a % 3) := pk_rem (d := 3) h (by decide) (by decide)
theorem lf_p1 {a : Nat} (h : 0 < a) : nI a - 1 = nI (a - 1) := by
  obtain ⟨b, rfl⟩ : ∃ b, a = b + 1 := ⟨a - 1, by omega⟩
  exact nI_pred b
theorem lf_hi {v : Int32} {m : Nat} (hm : m < 2 ^ 31) (h : nI m ≤ v) : ¬ v < 0 ∧ ¬ v < nI m := by
  rw [lf_le, nI_toInt hm] at h
  rw [lf_lt, lf_lt, nI_toInt hm, show (0 : Int32).toInt = 0 from by decide]
  omega
theorem lf_eq1 {a : Nat} (h : a < 2 ^ 31) {b : Nat} (hb : b < 2 ^ 31) (e : a ≠ b) : ¬ nI a = nI b := fun z => e ((nI_eq h hb).mp z)
/-! small methods of the component -/
theorem lx_clamp {post : Int32 → Prop} {v : Int32} {a b : Nat} (hab : a ≤ b) (hb : b < 2 ^ 31) (h : ∀ c, a ≤ c → c ≤ b → ((nI a ≤ v → v ≤ nI b → v = nI c) ∧ (¬ nI a ≤ v → c = a) ∧ (nI a ≤ v → ¬ v ≤ nI b → c = b)) → post (nI c)) : wpX_clamp post v (nI a) (nI b) := by
  refine br_c (fun h1 => br_c (fun h2 => ?_) (fun h2 => ?_)) (fun h1 => ?_)
  · have h0 : ¬ v < 0 := (lf_hi (by omega) h1).1
    obtain ⟨c, hc, rfl⟩ := nI_of h0
    rw [nI_leI (by omega) hc] at h1
    rw [nI_leI hc hb] at h2
    refine h c h1 h2 ⟨fun _ _ => rfl, fun z => ?_, fun _ z => ?_⟩
    · rw [nI_leI (by omega) hc] at z; omega
    · rw [nI_leI hc hb] at z; omega
  · exact h b hab (Nat.le_refl _) ⟨fun _ z => absurd z h2, fun z => absurd h1 z, fun _ _ => rfl⟩
  · exact h a (Nat.le_refl _) hab ⟨fun z => absurd z h1, fun _ => rfl, fun z => absurd z h1⟩
theorem lx_isArr1 {post : Int32 → Prop} {a : Nat} (h : a < na) (hn : na ≤ 6) (k : post 1) : wpX_isArray post (nI na, nI n, ph, nI nl, nI ns, gX, rc, tmp, con, sca, ini, ori, fus, lLo, lHi, lF, lC, xg, xj, xd, gf, gl, sl, so, sk, sa, sc, sv) (nI a) :=
  br_f (nI_pos (by omega)) (br_f (nI_ge h (by omega)) k)
theorem lx_isArr0 {post : Int32 → Prop} {v : Int32} (h : ¬ ∃ a, a < na ∧ v = nI a) (hn : na ≤ 6) (k : post 0) : wpX_isArray post (nI na, nI n, ph, nI nl, nI ns, gX, rc, tmp, con, sca, ini, ori, fus, lLo, lHi, lF, lC, xg, xj, xd, gf, gl, sl, so, sk, sa, sc, sv) v := by
  rcases pk_ix v (n := na) (by omega) with h0 | h0 | h0
  · exact br_t h0 k
  · exact br_f (lf_hi (by omega) h0).1 (br_t h0 k)
  · exact absurd h0 h
theorem lx_isArr {post : Int32 → Prop} {v : Int32} (hn : na ≤ 6) (f : (∃ a, a < na ∧ v = nI a) → post 1) (g : post 0) : wpX_isArray post (nI na, nI n, ph, nI nl, nI ns, gX, rc, tmp, con, sca, ini, ori, fus, lLo, lHi, lF, lC, xg, xj, xd, gf, gl, sl, so, sk, sa, sc, sv) v := by
  by_cases h : ∃ a, a < na ∧ v = nI a
  · obtain ⟨a, ha, rfl⟩ := h
    exact lx_isArr1 ha hn (f ⟨a, ha, rfl⟩)
  · exact lx_isArr0 h hn g
theorem lx_with {post : Int32 → Prop} {v a b : Int32} (f : ¬ v < a → ¬ b < v → post 1) (g : post 0) : wpX_isWithin post v a b :=
  br_c (fun _ => g) (fun h => br_c (fun _ => g) (fun h2 => f h h2))
theorem lx_with1 {post : Int32 → Prop} {v a b : Int32} (h : ¬ v < a) (h2 : ¬ b < v) (k : post 1) : wpX_isWithin post v a b := br_f h (br_f h2 k)
/-- a reference's three numbers -/
def lf_ok (na : Nat) (a c o : Int32) : Prop := (∃ b, b < na ∧ a = nI b) ∧ ¬ c < -2 ∧ ¬ 2 < c ∧ ¬ o < -16 ∧ ¬ 16 < o
theorem lx_ref {post : Int32 → Prop} {a c o : Int32} (hn : na ≤ 6) (f : lf_ok na a c o → post 1) (g : post 0) : wpX_isReference post (nI na, nI n, ph, nI nl, nI ns, gX, rc, tmp, con, sca, ini, ori, fus, lLo, lHi, lF, lC, xg, xj, xd, gf, gl, sl, so, sk, sa, sc, sv) a c o := by
  unfold wpX_isReference
  exact lx_isArr hn (fun h1 => br_f lf_10 (lx_with (fun h2 h3 => br_f lf_10 (lx_with (fun h4 h5 => br_f lf_10 (f ⟨h1, h2, h3, h4, h5⟩)) (br_t rfl g))) (br_t rfl g))) (br_t rfl g)
theorem lx_ref1 {post : Int32 → Prop} {a c o : Int32} (hn : na ≤ 6) (h : lf_ok na a c o) (k : post 1) : wpX_isReference post (nI na, nI n, ph, nI nl, nI ns, gX, rc, tmp, con, sca, ini, ori, fus, lLo, lHi, lF, lC, xg, xj, xd, gf, gl, sl, so, sk, sa, sc, sv) a c o := by
  obtain ⟨⟨b, hb, rfl⟩, h2, h3, h4, h5⟩ := h
  unfold wpX_isReference
  exact lx_isArr1 hb hn (br_f lf_10 (lx_with1 h2 h3 (br_f lf_10 (lx_with1 h4 h5 (br_f lf_10 k)))))
theorem lx_fill {post : SX → Prop} {z : Nat} {k a c v : Int32} (hz : z < 36) (h : post (nI na, nI n, ph, nI nl, nI ns, gX, rc, tmp, con, sca, ini, ori, fus, lLo, lHi, lF, lC, xg, xj, xd, gf, gl, sl, so, upd sk z k, upd sa z a, upd sc z c, upd sv z v)) : wpX_fillSlot post (nI na, nI n, ph, nI nl, nI ns, gX, rc, tmp, con, sca, ini, ori, fus, lLo, lHi, lF, lC, xg, xj, xd, gf, gl, sl, so, sk, sa, sc, sv) (nI z) k a c v := by
  have hi : vp_in (nI z) 36 := vp_in_nI hz (by decide)
  have e : (nI z).toNatClampNeg = z := nI_clamp (by omega)
  exact ⟨hi, nm_r (by rw [e]) ⟨hi, nm_r (by rw [e]) ⟨hi, nm_r (by rw [e]) ⟨hi, nm_r (by rw [e]) h⟩⟩⟩⟩
theorem lx_cell1 {post : Int32 → Prop} {a j : Nat} (ha : a < na) (hj : j < n) (hna : na ≤ 6) (hn : n ≤ 16) (k : post 1) : wpX_isCell post (nI na, nI n, ph, nI nl, nI ns, gX, rc, tmp, con, sca, ini, ori, fus, lLo, lHi, lF, lC, xg, xj, xd, gf, gl, sl, so, sk, sa, sc, sv) (nI a) (nI j) := by
  unfold wpX_isCell
  exact lx_isArr1 ha hna (br_f lf_10 (br_f (nI_pos (by omega)) (br_f (nI_ge hj (by omega)) k)))
theorem lx_cell0 {post : Int32 → Prop} {v w : Int32} (h : ¬ ∃ a j, a < na ∧ j < n ∧ v = nI a ∧ w = nI j) (hna : na ≤ 6) (hn : n ≤ 16) (k : post 0) : wpX_isCell post (nI na, nI n, ph, nI nl, nI ns, gX, rc, tmp, con, sca, ini, ori, fus, lLo, lHi, lF, lC, xg, xj, xd, gf, gl, sl, so, sk, sa, sc, sv) v w := by
  unfold wpX_isCell
  exact lx_isArr hna (fun ⟨a, ha, e⟩ => br_f lf_10 (br_c (fun _ => k) (fun h0 => br_c (fun _ => k) (fun h1 => by
    rcases pk_ix w (n := n) (by omega) with h2 | h2 | ⟨j, hj, e2⟩
    · exact absurd h2 h0
    · exact absurd h2 h1
    · exact absurd ⟨a, j, ha, hj, e, e2⟩ h)))) (br_t rfl k)
theorem lx_can {post : Int32 → Prop} {v : Int32} (hns : ns ≤ 12) (f : ph = 0 → 0 < ns → (∃ w, w < 2 ∧ v = nI w) → post 1) (g : post 0) : wpX_canSetOperand post (nI na, nI n, ph, nI nl, nI ns, gX, rc, tmp, con, sca, ini, ori, fus, lLo, lHi, lF, lC, xg, xj, xd, gf, gl, sl, so, sk, sa, sc, sv) v :=
  br_c (fun h0 => br_c (fun _ => g) (fun h1 => by
    have h2 : 0 < ns := by
      by_cases z : ns = 0
      · subst z; exact absurd (lf_rfl _) h1
      · omega
    exact br_c (fun e => f h0 h2 ⟨0, by omega, e⟩) (fun _ => br_c (fun e => f h0 h2 ⟨1, by omega, e⟩) (fun _ => g)))) (fun _ => g)
theorem lx_can1 {post : Int32 → Prop} {w : Nat} (hns : ns ≤ 12) (h0 : ph = 0) (h1 : 0 < ns) (hw : w < 2) (k : post 1) : wpX_canSetOperand post (nI na, nI n, ph, nI nl, nI ns, gX, rc, tmp, con, sca, ini, ori, fus, lLo, lHi, lF, lC, xg, xj, xd, gf, gl, sl, so, sk, sa, sc, sv) (nI w) := by
  refine br_t h0 (br_f (nI_nle h1 (by omega)) ?_)
  rcases (show w = 0 ∨ w = 1 by omega) with e | e
  · subst e; exact br_t rfl k
  · subst e; exact br_f lf_10 (br_t rfl k)
end LFR
