theorem lf_SR_add {ns : Nat} {sk sa sc sv kd ar co va dA dC dO : Nat → Int32} {a c o : Int32} (h : lf_SR ns sk sa sc sv kd ar co va dA dC dO) :
    lf_SR (ns + 1) (upd (upd (upd sk (3 * ns) 0) (3 * ns + 1) 0) (3 * ns + 2) 2) (upd (upd (upd sa (3 * ns) (-1)) (3 * ns + 1) (-1)) (3 * ns + 2) a) (upd (upd (upd sc (3 * ns) 0) (3 * ns + 1) 0) (3 * ns + 2) c) (upd (upd (upd sv (3 * ns) 0) (3 * ns + 1) 0) (3 * ns + 2) o)
      (upd (upd kd (2 * ns) 0) (2 * ns + 1) 0) (upd (upd ar (2 * ns) (-1)) (2 * ns + 1) (-1)) (upd (upd co (2 * ns) 0) (2 * ns + 1) 0) (upd (upd va (2 * ns) 0) (2 * ns + 1) 0) (upd dA ns a) (upd dC ns c) (upd dO ns o) := by
  intro s hs
  by_cases e : s = ns
  · subst e
    simp (disch := omega) only [pk_us, pk_un, and_self]
  · have h' := h s (by omega)
    simp (disch := omega) only [pk_un]
    exact h'
theorem lf_SR_set {ns s0 w : Nat} {sk sa sc sv kd ar co va dA dC dO : Nat → Int32} {k a c v : Int32} (hw : w < 2) (h : lf_SR ns sk sa sc sv kd ar co va dA dC dO) :
    lf_SR ns (upd sk (3 * s0 + w) k) (upd sa (3 * s0 + w) a) (upd sc (3 * s0 + w) c) (upd sv (3 * s0 + w) v) (upd kd (2 * s0 + w) k) (upd ar (2 * s0 + w) a) (upd co (2 * s0 + w) c) (upd va (2 * s0 + w) v) dA dC dO := by
  intro s hs
  have h' := h s hs
  by_cases e : s = s0
  · subst e
    rcases (show w = 0 ∨ w = 1 by omega) with e | e
    · subst e
      simp (disch := omega) only [Nat.add_zero, pk_us, pk_un]
      exact ⟨⟨by trivial, by trivial, by trivial, by trivial⟩, h'.2⟩
    · subst e
      simp (disch := omega) only [pk_us, pk_un]
      exact ⟨h'.1, ⟨by trivial, by trivial, by trivial, by trivial⟩, h'.2.2⟩
  · simp (disch := omega) only [pk_un]
    exact h'
theorem lf_WF_set {na ns z0 : Nat} {sk sa : Nat → Int32} {k a : Int32} (hk : k = 0 ∨ k = 1 ∨ (k = 2 ∧ ∃ b, b < na ∧ a = nI b)) (h : lf_WF na ns sk sa) : lf_WF na ns (upd sk z0 k) (upd sa z0 a) := by
  intro z hz
  by_cases e : z = z0
  · subst e
    simp only [pk_us]
    exact hk
  · simp (disch := omega) only [pk_un]
    exact h z hz
theorem lf_WF_add {na ns : Nat} {sk sa : Nat → Int32} {a : Int32} (ha : ∃ b, b < na ∧ a = nI b) (h : lf_WF na ns sk sa) :
    lf_WF na (ns + 1) (upd (upd (upd sk (3 * ns) 0) (3 * ns + 1) 0) (3 * ns + 2) 2) (upd (upd (upd sa (3 * ns) (-1)) (3 * ns + 1) (-1)) (3 * ns + 2) a) := by
  intro z hz
  by_cases e : z = 3 * ns + 2
  · subst e
    simp only [pk_us]
    exact Or.inr (Or.inr ⟨by trivial, ha⟩)
  · by_cases e1 : z = 3 * ns + 1
    · subst e1
      simp (disch := omega) only [pk_us, pk_un]
      exact Or.inl (by trivial)
    · by_cases e2 : z = 3 * ns
      · subst e2
        simp (disch := omega) only [pk_us, pk_un]
        exact Or.inl (by trivial)
      · simp (disch := omega) only [pk_un]
        exact h z (by omega)
theorem lf_LP_app {nl m lo hi : Nat} {F Lo Hi : Nat → Nat} {lLo lHi lF lC : Nat → Int32} (hlo : lo ≤ 15) (hhi : hi ≤ 15) (hF : F nl = m) (h : lf_LP nl F Lo Hi lLo lHi lF lC) :
    lf_LP (nl + 1) (lf_un F (nl + 1) m) (lf_un Lo nl lo) (lf_un Hi nl hi) (upd lLo nl (nI lo)) (upd lHi nl (nI hi)) (upd lF nl (nI m)) (upd lC nl 0) := by
  intro l hl
  by_cases e : l = nl
  · subst e
    rw [pk_us, pk_us, pk_us, pk_us, lf_us, lf_us, lf_us, lf_ue (show l ≠ l + 1 by omega), hF, Nat.sub_self]
    exact ⟨rfl, rfl, hlo, hhi, rfl, rfl⟩
  · rw [pk_un e, pk_un e, pk_un e, pk_un e, lf_ue e, lf_ue e, lf_ue (show l ≠ nl + 1 by omega), lf_ue (show l + 1 ≠ nl + 1 by omega)]
    exact h l (by omega)
theorem lf_LP_ext {nl m : Nat} {F Lo Hi : Nat → Nat} {lLo lHi lF lC : Nat → Int32} (h0 : 0 < nl) (hF : F nl = m) (hm : F (nl - 1) ≤ m) (h : lf_LP nl F Lo Hi lLo lHi lF lC) :
    lf_LP nl (lf_un F nl (m + 1)) Lo Hi lLo lHi lF (upd lC (nl - 1) (lC (nl - 1) + 1)) := by
  intro l hl
  obtain ⟨a, b, c, d, e, f⟩ := h l hl
  rw [lf_ue (show l ≠ nl by omega)]
  refine ⟨a, b, c, d, e, ?_⟩
  by_cases z : l = nl - 1
  · rw [z, pk_us, show nl - 1 + 1 = nl by omega, lf_us, ← z, f, z, show nl - 1 + 1 = nl by omega, hF, nI_1]
    exact congrArg nI (by omega)
  · rw [pk_un z, lf_ue (show l + 1 ≠ nl by omega)]
    exact f
theorem lf_sl_ext {nl m : Nat} {L : Nat → Nat} {sl : Nat → Int32} (h : ∀ s, s < m → sl s = nI (L s)) : ∀ s, s < m + 1 → upd sl m (nI (nl - 1)) s = nI (lf_un L m (nl - 1) s) := by
  intro s hs
  by_cases e : s = m
  · subst e; rw [pk_us, lf_us]
  · rw [pk_un e, lf_ue e]; exact h s (by omega)
