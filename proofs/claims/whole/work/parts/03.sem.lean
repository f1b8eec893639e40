/-! one pair of references: the least distance over lo .. hi -/
def lf_st1 (n : Nat) (cp op cq oq : Int32) (i j : Nat) (b : Int32) : Int32 :=
  if (cp * nI i + op = cq * nI j + oq ∧ ¬ cp * nI i + op < 0 ∧ cp * nI i + op < nI n) ∧ nI j - nI i < b then nI j - nI i else b
theorem lf_st1_le {n : Nat} {cp op cq oq : Int32} {i j : Nat} {b : Int32} : lf_st1 n cp op cq oq i j b ≤ b := by
  unfold lf_st1
  by_cases h : (cp * nI i + op = cq * nI j + oq ∧ ¬ cp * nI i + op < 0 ∧ cp * nI i + op < nI n) ∧ nI j - nI i < b
  · rw [if_pos h]
    have h2 := h.2
    rw [lf_lt] at h2
    rw [lf_le]
    omega
  · rw [if_neg h]
    exact lf_rfl b
def lf_pi (n : Nat) (cp op cq oq : Int32) (lo hi i : Nat) (b : Int32) : Int32 := lf_to (fun j b => lf_st1 n cp op cq oq i j b) lo (hi + 1) b
def lf_pd (n lo hi : Nat) (cp op cq oq : Int32) : Int32 := lf_to (fun i b => lf_pi n cp op cq oq lo hi i b) lo (hi + 1) 1000
theorem lf_le_t {x y z : Int32} (h : x ≤ y) (h2 : y ≤ z) : x ≤ z := by rw [lf_le] at *; omega
theorem lf_pd_le {n lo hi : Nat} {cp op cq oq : Int32} : lf_pd n lo hi cp op cq oq ≤ 1000 :=
  lf_to_P (fun b => b ≤ 1000) (fun _ _ _ _ h => lf_to_P (fun b => b ≤ 1000) (fun _ _ _ _ h => lf_le_t lf_st1_le h) h) (lf_rfl _)
def lf_D (n lo hi : Nat) (sk sa sc sv : Nat → Int32) (p q : Nat) : Int32 :=
  if sk p = 2 ∧ sk q = 2 ∧ sa p = sa q ∧ (p % 3 = 2 ∨ q % 3 = 2) then lf_pd n lo hi (sc p) (sv p) (sc q) (sv q) else 1000
theorem lf_D_le {n lo hi : Nat} {sk sa sc sv : Nat → Int32} {p q : Nat} : lf_D n lo hi sk sa sc sv p q ≤ 1000 := by
  unfold lf_D
  by_cases h : sk p = 2 ∧ sk q = 2 ∧ sa p = sa q ∧ (p % 3 = 2 ∨ q % 3 = 2)
  · rw [if_pos h]; exact lf_pd_le
  · rw [if_neg h]; exact lf_rfl _
/-! the place of a cell -/
def lf_cell (n : Nat) (a x : Int32) : Int32 := if x < 0 ∨ ¬ x < nI n then -1 else a * 16 + x
theorem lf_cell_o {n : Nat} {a x : Int32} (h : x < 0 ∨ ¬ x < nI n) : lf_cell n a x = -1 := if_pos h
theorem lf_16 (a b : Nat) : nI a * 16 + nI b = nI (a * 16 + b) := by
  rw [show (16 : Int32) = nI 16 from rfl, pk_mul, nI_add]
theorem lf_cell_i {n a j : Nat} (h : j < n) (hn : n ≤ 16) : lf_cell n (nI a) (nI j) = nI (a * 16 + j) := by
  unfold lf_cell
  rw [if_neg (by rw [nI_ltI (by omega) (by omega)]; have := nI_pos (n := j) (by omega); intro z; exact z.elim this (fun z => z h)), lf_16]
theorem lf_ne1 {a : Nat} (h : a < 2 ^ 31) : ¬ nI a = -1 := by
  intro e
  have := congrArg Int32.toInt e
  rw [nI_toInt h, show (-1 : Int32).toInt = -1 from by decide] at this
  omega
theorem lf_rng {n : Nat} (hn : n ≤ 16) (x : Int32) : (x < 0 ∨ ¬ x < nI n) ∨ ∃ j : Nat, j < n ∧ x = nI j := by
  by_cases h : x < 0
  · exact Or.inl (Or.inl h)
  · obtain ⟨j, hj, rfl⟩ := nI_of h
    by_cases h2 : j < n
    · exact Or.inr ⟨j, h2, rfl⟩
    · exact Or.inl (Or.inr (by rw [nI_ltI hj (by omega)]; exact h2))
theorem lf_rng_n {n j : Nat} (hn : n ≤ 16) (h : j < n) : ¬ (nI j < 0 ∨ ¬ nI j < nI n) := by
  intro z
  rw [nI_ltI (by omega) (by omega)] at z
  exact z.elim (nI_pos (by omega)) (fun z => z h)
theorem lf_cell_iff {n a : Nat} {x y : Int32} (hn : n ≤ 16) (ha : a < 6) : (¬ lf_cell n (nI a) x = -1 ∧ lf_cell n (nI a) y = lf_cell n (nI a) x) ↔ (x = y ∧ ¬ x < 0 ∧ x < nI n) := by
  rcases lf_rng hn x with h | ⟨j, hj, rfl⟩
  · rw [lf_cell_o h]
    exact ⟨fun z => absurd rfl z.1, fun z => absurd h (fun q => q.elim z.2.1 (fun q => q z.2.2))⟩
  · rw [lf_cell_i hj hn]
    rcases lf_rng hn y with h | ⟨k, hk, rfl⟩
    · rw [lf_cell_o h]
      constructor
      · intro z; exact absurd z.2.symm (lf_ne1 (by omega))
      · intro z; rw [← z.1] at h; exact absurd h (lf_rng_n hn hj)
    · rw [lf_cell_i hk hn, nI_eq (by omega) (by omega), nI_eq (by omega) (by omega), nI_ltI (by omega) (by omega)]
      have h1 := nI_pos (n := j) (by omega)
      have h2 := lf_ne1 (a := a * 16 + j) (by omega)
      constructor
      · intro z; exact ⟨by omega, h1, hj⟩
      · intro z; exact ⟨h2, by omega⟩
/-! a statement's execution on contents and scalars; c: contracting -/
abbrev lf_M : Type := (Nat → Int32) × (Nat → Int32)
def lf_rd (n : Nat) (con : Nat → Int32) (c : Int32) (m : lf_M) (a x : Int32) : Int32 :=
  if ¬ c = 0 ∧ ¬ con a.toNatClampNeg = 0 then m.2 a.toNatClampNeg else if x < 0 ∨ ¬ x < nI n then 0 else m.1 (a * 16 + x).toNatClampNeg
def lf_op (n : Nat) (con : Nat → Int32) (c : Int32) (m : lf_M) (k a co v i : Int32) : Int32 :=
  if k = 0 then v else if k = 1 then i + v else lf_rd n con c m a (co * i + v)
def lf_al (o l r : Int32) : Int32 := if o = 0 then l + r else if o = 1 then l - r else l * r
def lf_sto (n : Nat) (con : Nat → Int32) (c : Int32) (m : lf_M) (a x r : Int32) : lf_M :=
  if ¬ c = 0 ∧ ¬ con a.toNatClampNeg = 0 then (m.1, upd m.2 a.toNatClampNeg r) else if x < 0 ∨ ¬ x < nI n then m else (upd m.1 (a * 16 + x).toNatClampNeg r, m.2)
def lf_ex (n : Nat) (con so sk sa sc sv : Nat → Int32) (c : Int32) (i s : Nat) (m : lf_M) : lf_M :=
  lf_sto n con c m (sa (3 * s + 2)) (sc (3 * s + 2) * nI i + sv (3 * s + 2))
    (lf_al (so s) (lf_op n con c m (sk (3 * s)) (sa (3 * s)) (sc (3 * s)) (sv (3 * s)) (nI i)) (lf_op n con c m (sk (3 * s + 1)) (sa (3 * s + 1)) (sc (3 * s + 1)) (sv (3 * s + 1)) (nI i)))
/-- the body a .. b - 1 at one iteration -/
def lf_bd (n : Nat) (con so sk sa sc sv : Nat → Int32) (c : Int32) (a b i : Nat) (m : lf_M) : lf_M := lf_to (fun s m => lf_ex n con so sk sa sc sv c i s m) a b m
/-- the loop lo .. hi over the body a .. b - 1 -/
def lf_lp (n : Nat) (con so sk sa sc sv : Nat → Int32) (c : Int32) (lo hi a b : Nat) (m : lf_M) : lf_M := lf_to (fun i m => lf_bd n con so sk sa sc sv c a b i m) lo (hi + 1) m
def lf_ro (n : Nat) (con so sk sa sc sv : Nat → Int32) (lo hi F : Nat → Nat) (nl : Nat) (m : lf_M) : lf_M :=
  lf_to (fun l m => lf_lp n con so sk sa sc sv 0 (lo l) (hi l) (F l) (F (l + 1)) m) 0 nl m
def lf_rt (n : Nat) (con so sk sa sc sv : Nat → Int32) (lo hi F G : Nat → Nat) (g : Nat) (m : lf_M) : lf_M :=
  lf_to (fun a m => lf_lp n con so sk sa sc sv 1 (lo (G a)) (hi (G a)) (F (G a)) (F (G (a + 1))) m) 0 g m
/-- scalars beyond the arrays stay as they are -/
theorem lf_ex_k {n na : Nat} {con so sk sa sc sv : Nat → Int32} {c : Int32} {i s : Nat} {m : lf_M} (ha : ∃ a, a < na ∧ sa (3 * s + 2) = nI a) (hna : na ≤ 6) {j : Nat} (hj : na ≤ j) : (lf_ex n con so sk sa sc sv c i s m).2 j = m.2 j := by
  obtain ⟨a, h, e⟩ := ha
  unfold lf_ex lf_sto
  rw [e, nI_clamp (by omega)]
  split
  · exact pk_un (by omega)
  · split
    · rfl
    · rfl
def lf_sz (na : Nat) (m : lf_M) : Prop := ∀ j, na ≤ j → m.2 j = 0
theorem lf_lp_k {n na ns : Nat} {con so sk sa sc sv : Nat → Int32} {c : Int32} {lo hi a b : Nat} {m : lf_M} (ha : ∀ s, s < ns → ∃ a, a < na ∧ sa (3 * s + 2) = nI a) (hna : na ≤ 6) (hb : b ≤ ns) (h : lf_sz na m) : lf_sz na (lf_lp n con so sk sa sc sv c lo hi a b m) :=
  lf_to_P (lf_sz na) (fun _ _ _ _ h => lf_to_P (lf_sz na) (fun s _ _ h2 h => fun j hj => (lf_ex_k (ha s (by omega)) hna hj).trans (h j hj)) h) h
/-! how many cells differ -/
def lf_dc (n : Nat) (o f : Nat → Int32) (x : Nat) (d : Int32) : Int32 := lf_to (fun c d => if o (x * 16 + c) = f (x * 16 + c) then d else d + 1) 0 n d
def lf_da (na n : Nat) (con o f : Nat → Int32) : Int32 := lf_to (fun x d => if con x = 0 then lf_dc n o f x d else d) 0 na 0
def lf_cc (na : Nat) (con : Nat → Int32) : Int32 := lf_to (fun x d => if con x = 0 then d else d + 1) 0 na 0
/-- cells below i set to x -/
def lf_clr (x : Int32) (i : Nat) (f : Nat → Int32) : Nat → Int32 := fun j => if j < i then x else f j
theorem lf_clr0 {x : Int32} {f : Nat → Int32} : lf_clr x 0 f = f := by
  funext j
  exact if_neg (by omega)
theorem lf_clr_s {x : Int32} {i : Nat} {f : Nat → Int32} : upd (lf_clr x i f) i x = lf_clr x (i + 1) f := by
  funext j
  unfold upd lf_clr
  by_cases h : j = i
  · rw [if_pos h, if_pos (by omega)]
  · rw [if_neg h]
    by_cases h2 : j < i
    · rw [if_pos h2, if_pos (by omega)]
    · rw [if_neg h2, if_neg (by omega)]
/-- cells below i copied from g -/
def lf_cp (g : Nat → Int32) (i : Nat) (f : Nat → Int32) : Nat → Int32 := fun j => if j < i then g j else f j
theorem lf_cp0 {g f : Nat → Int32} : lf_cp g 0 f = f := by
  funext j
  exact if_neg (by omega)
theorem lf_cp_s {g : Nat → Int32} {i : Nat} {f : Nat → Int32} : upd (lf_cp g i f) i (g i) = lf_cp g (i + 1) f := by
  funext j
  unfold upd lf_cp
  by_cases h : j = i
  · rw [if_pos h, if_pos (by omega), h]
  · rw [if_neg h]
    by_cases h2 : j < i
    · rw [if_pos h2, if_pos (by omega)]
    · rw [if_neg h2, if_neg (by omega)]
/-! which array is contracted -/
def lf_acc (sk sa : Nat → Int32) (x z : Nat) : Prop := sk z = 2 ∧ sa z = nI x
def lf_mat (L gp : Nat → Nat) (sc sv : Nat → Int32) (z f : Nat) : Prop := gp (L (z / 3)) = gp (L (f / 3)) ∧ sc z = sc f ∧ sv z = sv f
def lf_ran (n lo hi : Nat) (co ov : Int32) : Prop := ∀ i, lo ≤ i → i ≤ hi → ¬ (co * nI i + ov < 0 ∨ ¬ co * nI i + ov < nI n)
def lf_CT (n ns : Nat) (tmp sk sa sc sv : Nat → Int32) (L gp G lo hi : Nat → Nat) (x : Nat) : Prop :=
  ¬ tmp x = 0 ∧ ∃ f, f < 3 * ns ∧ lf_acc sk sa x f ∧ (∀ z, z < f → ¬ lf_acc sk sa x z) ∧ (∀ z, z < 3 * ns → lf_acc sk sa x z → lf_mat L gp sc sv z f) ∧
    G (gp (L (f / 3))) + 2 ≤ G (gp (L (f / 3)) + 1) ∧ ¬ sc f = 0 ∧ f % 3 = 2 ∧ lf_ran n (lo (L (f / 3))) (hi (L (f / 3))) (sc f) (sv f)
