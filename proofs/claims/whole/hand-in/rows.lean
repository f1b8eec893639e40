section
theorem pk_us {f : Nat → Int32} {k : Nat} {x : Int32} : upd f k x k = x := if_pos rfl
theorem pk_un {f : Nat → Int32} {k j : Nat} {x : Int32} (h : j ≠ k) : upd f k x j = f j := if_neg h
theorem pk_sub {a b : Nat} (h : b ≤ a) : nI a - nI b = nI (a - b) := by
  obtain ⟨c, rfl⟩ : ∃ c, a = c + b := ⟨a - b, by omega⟩
  rw [← nI_add, Int32.add_sub_cancel, Nat.add_sub_cancel]
theorem pk_m1 (n : Nat) : nI (n + 1) + (-1) = nI n := by
  rw [← nI_1, Int32.add_assoc, show (1 : Int32) + (-1) = 0 from rfl, Int32.add_zero]
theorem pk_mul (a b : Nat) : nI a * nI b = nI (a * b) := (Int32.ofNat_mul a b).symm
theorem pk_div {a d : Nat} (ha : a < 2 ^ 31) (h0 : 0 < d) (hd : d < 2 ^ 31) : nI a / nI d = nI (a / d) := by
  apply Int32.toInt_inj.mp
  rw [lg_idiv_nonneg (by rw [nI_toInt ha]; omega) (by rw [nI_toInt hd]; omega), nI_toInt ha, nI_toInt hd, nI_toInt (Nat.lt_of_le_of_lt (Nat.div_le_self a d) ha)]
  first | rfl | exact (Int.natCast_ediv _ _).symm
theorem pk_rem {a d : Nat} (ha : a < 2 ^ 31) (h0 : 0 < d) (hd : d < 2 ^ 31) : nI a - nI a / nI d * nI d = nI (a % d) := by
  rw [pk_div ha h0 hd, pk_mul, pk_sub (Nat.div_mul_le_self a d)]
  exact congrArg nI (by have := Nat.div_add_mod' a d; omega)
theorem pk_sub_toInt {a b : Nat} (ha : a < 2 ^ 30) (hb : b < 2 ^ 30) : (nI a - nI b).toInt = (a : Int) - b := by
  rw [Int32.toInt_sub, nI_toInt (by omega), nI_toInt (by omega)]
  exact Int.bmod_eq_of_le (by omega) (by omega)
theorem pk_ix (x : Int32) {n : Nat} (hn : n < 2 ^ 31) : x < 0 ∨ nI n ≤ x ∨ ∃ j : Nat, j < n ∧ x = nI j := by
  by_cases h : x < 0
  · exact Or.inl h
  · obtain ⟨j, hj, rfl⟩ := nI_of h
    by_cases h2 : j < n
    · exact Or.inr (Or.inr ⟨j, h2, rfl⟩)
    · exact Or.inr (Or.inl (nI_le (by omega) hj))
theorem pk_le {x y : Int32} {A B : Prop} (a b : Nat) (f : a ≤ b → A) (g : b < a → B) (hx : x = nI a := by rfl) (hy : y = nI b := by rfl) (ha : a < 2 ^ 31 := by omega) (hb : b < 2 ^ 31 := by omega) : (x ≤ y → A) ∧ (¬ x ≤ y → B) := by
  subst hx hy
  rw [nI_leI ha hb]
  exact ⟨f, fun z => g (by omega)⟩
theorem pk_lt {x y : Int32} {A B : Prop} (a b : Nat) (f : a < b → A) (g : b ≤ a → B) (hx : x = nI a := by rfl) (hy : y = nI b := by rfl) (ha : a < 2 ^ 31 := by omega) (hb : b < 2 ^ 31 := by omega) : (x < y → A) ∧ (¬ x < y → B) := by
  subst hx hy
  rw [nI_ltI ha hb]
  exact ⟨f, fun z => g (by omega)⟩
theorem pk_eq {x y : Int32} {A B : Prop} (a b : Nat) (f : a = b → A) (g : a ≠ b → B) (hx : x = nI a := by rfl) (hy : y = nI b := by rfl) (ha : a < 2 ^ 31 := by omega) (hb : b < 2 ^ 31 := by omega) : (x = y → A) ∧ (¬ x = y → B) := by
  subst hx hy
  rw [nI_eq ha hb]
  exact ⟨f, g⟩
theorem pk_in {x : Int32} (n N : Nat) (h : n < N) (hx : x = nI n := by rfl) (hN : N < 2 ^ 31 := by omega) : vp_in x N := by
  subst hx
  exact vp_in_nI h hN
theorem pk_cl {x : Int32} (n : Nat) (hx : x = nI n := by rfl) (h : n < 2 ^ 31 := by omega) : x.toNatClampNeg = n := by
  subst hx
  exact nI_clamp h
theorem pk_loop {σ : Type} (W : Nat → Nat → σ → Prop) (I : Nat → σ → Prop) (e i0 : Nat) (s : σ) (hi : i0 ≤ e) (h0 : I i0 s) (hx : ∀ n s, I e s → W (n + 1) e s)
    (hs : ∀ n i s, i < e → I i s → (∀ s', I (i + 1) s' → W n (i + 1) s') → W (n + 1) i s) : ∃ n, W n i0 s :=
  ⟨e + 1, loop_i W I e hx hs (e + 1) i0 s hi (by omega) h0⟩
end
section
/-! iteration from one place to another -/
def lf_it {σ : Type} (f : Nat → σ → σ) (a : Nat) : Nat → σ → σ
  | 0, m => m
  | d + 1, m => f (a + d) (lf_it f a d m)
theorem lf_it_add {σ : Type} {f : Nat → σ → σ} {a d : Nat} {m : σ} : ∀ e, lf_it f a (d + e) m = lf_it f (a + d) e (lf_it f a d m) := by
  intro e
  induction e with
  | zero => rfl
  | succ e ih =>
    show f (a + (d + e)) (lf_it f a (d + e) m) = f (a + d + e) (lf_it f (a + d) e (lf_it f a d m))
    rw [ih, Nat.add_assoc]
def lf_to {σ : Type} (f : Nat → σ → σ) (a b : Nat) (m : σ) : σ := lf_it f a (b - a) m
theorem lf_to_e {σ : Type} {f : Nat → σ → σ} {a b : Nat} {m : σ} (h : b ≤ a) : lf_to f a b m = m := by
  unfold lf_to
  rw [Nat.sub_eq_zero_of_le h]
  rfl
theorem lf_to_s {σ : Type} {f : Nat → σ → σ} {a b : Nat} {m : σ} (h : a ≤ b) : lf_to f a (b + 1) m = f b (lf_to f a b m) := by
  unfold lf_to
  rw [show b + 1 - a = (b - a) + 1 by omega]
  show f (a + (b - a)) _ = _
  rw [show a + (b - a) = b by omega]
theorem lf_to_t {σ : Type} {f : Nat → σ → σ} {a b c : Nat} {m : σ} (h1 : a ≤ b) (h2 : b ≤ c) : lf_to f a c m = lf_to f b c (lf_to f a b m) := by
  unfold lf_to
  rw [show c - a = (b - a) + (c - b) by omega, lf_it_add, show a + (b - a) = b by omega]
theorem lf_to_P {σ : Type} {f : Nat → σ → σ} {a b : Nat} {m : σ} (P : σ → Prop) (hs : ∀ i m, a ≤ i → i < b → P m → P (f i m)) (h : P m) : P (lf_to f a b m) := by
  by_cases hb : b ≤ a
  · rw [lf_to_e hb]; exact h
  · obtain ⟨d, rfl⟩ : ∃ d, b = a + d := ⟨b - a, by omega⟩
    clear hb
    induction d with
    | zero => rw [lf_to_e (by omega)]; exact h
    | succ d ih =>
      rw [show a + (d + 1) = (a + d) + 1 by omega, lf_to_s (by omega)]
      exact hs _ _ (by omega) (by omega) (ih fun i m h1 h2 h3 => hs i m h1 (by omega) h3)
theorem lf_to_c {σ : Type} {f g : Nat → σ → σ} {a b : Nat} {m : σ} (hs : ∀ i m, a ≤ i → i < b → f i m = g i m) : lf_to f a b m = lf_to g a b m := by
  by_cases hb : b ≤ a
  · rw [lf_to_e hb, lf_to_e hb]
  · obtain ⟨d, rfl⟩ : ∃ d, b = a + d := ⟨b - a, by omega⟩
    clear hb
    induction d with
    | zero => rw [lf_to_e (by omega), lf_to_e (by omega)]
    | succ d ih =>
      rw [show a + (d + 1) = (a + d) + 1 by omega, lf_to_s (by omega), lf_to_s (by omega), hs _ _ (by omega) (by omega), ih fun i m h1 h2 => hs i m h1 (by omega)]
/-! intervals: F l to F (l + 1) is the l-th, L s the one that holds s -/
def lf_un (f : Nat → Nat) (k v : Nat) : Nat → Nat := fun j => if j = k then v else f j
theorem lf_us {f : Nat → Nat} {k v : Nat} : lf_un f k v k = v := if_pos rfl
theorem lf_ue {f : Nat → Nat} {k v j : Nat} (h : j ≠ k) : lf_un f k v j = f j := if_neg h
def lf_PT (F L : Nat → Nat) (n m : Nat) : Prop := F 0 = 0 ∧ F n = m ∧ (∀ l, l < n → F l ≤ F (l + 1)) ∧ ∀ s, s < m → L s < n ∧ F (L s) ≤ s ∧ s < F (L s + 1)
theorem lf_PT_mono {F L : Nat → Nat} {n m : Nat} (h : lf_PT F L n m) {a : Nat} : ∀ b, a ≤ b → b ≤ n → F a ≤ F b := by
  intro b
  induction b with
  | zero => intro h1 _; rw [show a = 0 by omega]; exact Nat.le_refl _
  | succ b ih =>
    intro h1 h2
    by_cases e : a = b + 1
    · rw [e]; exact Nat.le_refl _
    · exact Nat.le_trans (ih (by omega) (by omega)) (h.2.2.1 b (by omega))
theorem lf_PT_le {F L : Nat → Nat} {n m l : Nat} (h : lf_PT F L n m) (hl : l ≤ n) : F l ≤ m := by
  have := lf_PT_mono h n hl (Nat.le_refl _)
  rw [h.2.1] at this
  exact this
theorem lf_PT_iff {F L : Nat → Nat} {n m s l : Nat} (h : lf_PT F L n m) (hs : s < m) (hl : l < n) : L s = l ↔ F l ≤ s ∧ s < F (l + 1) := by
  obtain ⟨h1, h2, h3⟩ := h.2.2.2 s hs
  constructor
  · intro e; rw [← e]; exact ⟨h2, h3⟩
  · intro ⟨a, b⟩
    by_cases c : L s < l
    · have := lf_PT_mono h (a := L s + 1) l (by omega) (by omega); omega
    · by_cases d : l < L s
      · have := lf_PT_mono h (a := l + 1) (L s) (by omega) (by omega); omega
      · omega
theorem lf_PT_0 : lf_PT (fun _ => 0) (fun _ => 0) 0 0 := ⟨rfl, rfl, fun _ h => absurd h (by omega), fun _ h => absurd h (by omega)⟩
theorem lf_PT_app {F L : Nat → Nat} {n m : Nat} (h : lf_PT F L n m) : lf_PT (lf_un F (n + 1) m) L (n + 1) m := by
  refine ⟨?_, lf_us, ?_, ?_⟩
  · rw [lf_ue (by omega)]; exact h.1
  · intro l hl
    rw [lf_ue (show l ≠ n + 1 by omega)]
    by_cases e : l = n
    · subst e; rw [lf_us]; exact lf_PT_le h (Nat.le_refl _)
    · rw [lf_ue (by omega)]; exact h.2.2.1 l (by omega)
  · intro s hs
    obtain ⟨h1, h2, h3⟩ := h.2.2.2 s hs
    refine ⟨by omega, ?_, ?_⟩
    · rw [lf_ue (by omega)]; exact h2
    · rw [lf_ue (by omega)]; exact h3
theorem lf_PT_ext {F L : Nat → Nat} {n m : Nat} (h0 : 0 < n) (h : lf_PT F L n m) : lf_PT (lf_un F n (m + 1)) (lf_un L m (n - 1)) n (m + 1) := by
  refine ⟨?_, lf_us, ?_, ?_⟩
  · rw [lf_ue (by omega)]; exact h.1
  · intro l hl
    rw [lf_ue (show l ≠ n by omega)]
    by_cases e : l + 1 = n
    · rw [e, lf_us]; have := lf_PT_le h (l := l) (by omega); omega
    · rw [lf_ue e]; exact h.2.2.1 l (by omega)
  · intro s hs
    by_cases e : s = m
    · subst e
      rw [lf_us, lf_ue (show n - 1 ≠ n by omega), show n - 1 + 1 = n by omega, lf_us]
      have := lf_PT_le h (l := n - 1) (by omega)
      omega
    · obtain ⟨h1, h2, h3⟩ := h.2.2.2 s (by omega)
      rw [lf_ue e, lf_ue (show L s ≠ n by omega)]
      refine ⟨h1, h2, ?_⟩
      by_cases c : L s + 1 = n
      · rw [c, lf_us]; omega
      · rw [lf_ue c]; exact h3
/-! least values, as greatest lower bounds -/
theorem lf_le {x y : Int32} : x ≤ y ↔ x.toInt ≤ y.toInt := Int32.le_iff_toInt_le
theorem lf_lt {x y : Int32} : x < y ↔ x.toInt < y.toInt := Int32.lt_iff_toInt_lt
theorem lf_asym {x y : Int32} (h : x ≤ y) (h' : y ≤ x) : x = y := Int32.toInt_inj.mp (by rw [lf_le] at h h'; omega)
theorem lf_rfl (x : Int32) : x ≤ x := by rw [lf_le]; exact Int.le_refl _
def lf_mn (d r : Int32) : Int32 := if d < r then d else r
theorem lf_mn_le {x d r : Int32} : x ≤ lf_mn d r ↔ x ≤ r ∧ x ≤ d := by
  unfold lf_mn
  by_cases h : d < r
  · rw [if_pos h]
    rw [lf_lt] at h
    simp only [lf_le]
    omega
  · rw [if_neg h]
    rw [lf_lt] at h
    simp only [lf_le]
    omega
def lf_gl (D : Nat → Nat → Int32) (S : Nat → Nat → Prop) (r : Int32) : Prop := ∀ x : Int32, x ≤ r ↔ x ≤ 1000 ∧ ∀ p q, S p q → x ≤ D p q
theorem lf_gl_u {D : Nat → Nat → Int32} {S S' : Nat → Nat → Prop} {r r' : Int32} (h : lf_gl D S r) (h' : lf_gl D S' r') (e : ∀ p q, S p q ↔ S' p q) : r = r' := by
  apply lf_asym
  · rw [h' r]
    obtain ⟨a, b⟩ := (h r).mp (lf_rfl r)
    exact ⟨a, fun p q z => b p q ((e p q).mpr z)⟩
  · rw [h r']
    obtain ⟨a, b⟩ := (h' r').mp (lf_rfl r')
    exact ⟨a, fun p q z => b p q ((e p q).mp z)⟩
theorem lf_gl_0 {D : Nat → Nat → Int32} {S : Nat → Nat → Prop} (h : ∀ p q, ¬ S p q) : lf_gl D S 1000 := fun _ => ⟨fun a => ⟨a, fun p q z => absurd z (h p q)⟩, fun a => a.1⟩
theorem lf_gl_e {D : Nat → Nat → Int32} {S S' : Nat → Nat → Prop} {r : Int32} (h : lf_gl D S r) (e : ∀ p q, S p q ↔ S' p q) : lf_gl D S' r := fun x => by
  rw [h x]
  exact ⟨fun a => ⟨a.1, fun p q z => a.2 p q ((e p q).mpr z)⟩, fun a => ⟨a.1, fun p q z => a.2 p q ((e p q).mp z)⟩⟩
theorem lf_gl_j {D : Nat → Nat → Int32} {S T S' : Nat → Nat → Prop} {r d : Int32} (h : lf_gl D S r) (h2 : lf_gl D T d) (e : ∀ p q, S' p q ↔ S p q ∨ T p q) : lf_gl D S' (lf_mn d r) := fun x => by
  rw [lf_mn_le, h x, h2 x]
  constructor
  · intro ⟨⟨a, b⟩, ⟨_, c⟩⟩
    exact ⟨a, fun p q z => ((e p q).mp z).elim (b p q) (c p q)⟩
  · intro ⟨a, b⟩
    exact ⟨⟨a, fun p q z => b p q ((e p q).mpr (Or.inl z))⟩, ⟨a, fun p q z => b p q ((e p q).mpr (Or.inr z))⟩⟩
theorem lf_gl_1 {D : Nat → Nat → Int32} {p q : Nat} (h : D p q ≤ 1000) : lf_gl D (fun a b => a = p ∧ b = q) (D p q) := fun x => by
  constructor
  · intro a
    refine ⟨?_, fun p' q' z => ?_⟩
    · rw [lf_le] at *; omega
    · rw [z.1, z.2]; exact a
  · intro a
    exact a.2 p q ⟨rfl, rfl⟩
/-! a truth as a number -/
noncomputable def lf_b (P : Prop) : Int32 := @ite _ P (Classical.propDecidable P) 1 0
theorem lf_b_t {P : Prop} (h : P) : lf_b P = 1 := if_pos h
theorem lf_b_f {P : Prop} (h : ¬ P) : lf_b P = 0 := if_neg h
theorem lf_b_c {P Q : Prop} (h : P ↔ Q) : lf_b P = lf_b Q := by rw [propext h]
theorem lf_b_k {P : Prop} {post : Int32 → Prop} (h : post (lf_b P)) : (P → post 1) ∧ (¬ P → post 0) := ⟨fun z => by rw [lf_b_t z] at h; exact h, fun z => by rw [lf_b_f z] at h; exact h⟩
end
section
/-! one pair of references: the least distance over lo .. hi -/
def lf_st1 (n : Nat) (cp op cq oq : Int32) (i j : Nat) (b : Int32) : Int32 :=
  if (cp * nI i + op = cq * nI j + oq ∧ ¬ cp * nI i + op < 0 ∧ cp * nI i + op < nI n) ∧ nI j - nI i < b then nI j - nI i else b
theorem lf_st1_le {n : Nat} {cp op cq oq : Int32} {i j : Nat} {b : Int32} : lf_st1 n cp op cq oq i j b ≤ b := by
  unfold lf_st1
  by_cases h : (cp * nI i + op = cq * nI j + oq ∧ ¬ cp * nI i + op < 0 ∧ cp * nI i + op < nI n) ∧ nI j - nI i < b
  · rw [if_pos h]
    have h2 := h.2
    rw [lf_lt] at h2
    rw [lf_le]
    omega
  · rw [if_neg h]
    exact lf_rfl b
def lf_pi (n : Nat) (cp op cq oq : Int32) (lo hi i : Nat) (b : Int32) : Int32 := lf_to (fun j b => lf_st1 n cp op cq oq i j b) lo (hi + 1) b
def lf_pd (n lo hi : Nat) (cp op cq oq : Int32) : Int32 := lf_to (fun i b => lf_pi n cp op cq oq lo hi i b) lo (hi + 1) 1000
theorem lf_le_t {x y z : Int32} (h : x ≤ y) (h2 : y ≤ z) : x ≤ z := by rw [lf_le] at *; omega
theorem lf_pd_le {n lo hi : Nat} {cp op cq oq : Int32} : lf_pd n lo hi cp op cq oq ≤ 1000 :=
  lf_to_P (fun b => b ≤ 1000) (fun _ _ _ _ h => lf_to_P (fun b => b ≤ 1000) (fun _ _ _ _ h => lf_le_t lf_st1_le h) h) (lf_rfl _)
def lf_D (n lo hi : Nat) (sk sa sc sv : Nat → Int32) (p q : Nat) : Int32 :=
  if sk p = 2 ∧ sk q = 2 ∧ sa p = sa q ∧ (p % 3 = 2 ∨ q % 3 = 2) then lf_pd n lo hi (sc p) (sv p) (sc q) (sv q) else 1000
theorem lf_D_le {n lo hi : Nat} {sk sa sc sv : Nat → Int32} {p q : Nat} : lf_D n lo hi sk sa sc sv p q ≤ 1000 := by
  unfold lf_D
  by_cases h : sk p = 2 ∧ sk q = 2 ∧ sa p = sa q ∧ (p % 3 = 2 ∨ q % 3 = 2)
  · rw [if_pos h]; exact lf_pd_le
  · rw [if_neg h]; exact lf_rfl _
/-! the place of a cell -/
def lf_cell (n : Nat) (a x : Int32) : Int32 := if x < 0 ∨ ¬ x < nI n then -1 else a * 16 + x
theorem lf_cell_o {n : Nat} {a x : Int32} (h : x < 0 ∨ ¬ x < nI n) : lf_cell n a x = -1 := if_pos h
theorem lf_16 (a b : Nat) : nI a * 16 + nI b = nI (a * 16 + b) := by
  rw [show (16 : Int32) = nI 16 from rfl, pk_mul, nI_add]
theorem lf_cell_i {n a j : Nat} (h : j < n) (hn : n ≤ 16) : lf_cell n (nI a) (nI j) = nI (a * 16 + j) := by
  unfold lf_cell
  rw [if_neg (by rw [nI_ltI (by omega) (by omega)]; have := nI_pos (n := j) (by omega); intro z; exact z.elim this (fun z => z h)), lf_16]
theorem lf_ne1 {a : Nat} (h : a < 2 ^ 31) : ¬ nI a = -1 := by
  intro e
  have := congrArg Int32.toInt e
  rw [nI_toInt h, show (-1 : Int32).toInt = -1 from by decide] at this
  omega
theorem lf_rng {n : Nat} (hn : n ≤ 16) (x : Int32) : (x < 0 ∨ ¬ x < nI n) ∨ ∃ j : Nat, j < n ∧ x = nI j := by
  by_cases h : x < 0
  · exact Or.inl (Or.inl h)
  · obtain ⟨j, hj, rfl⟩ := nI_of h
    by_cases h2 : j < n
    · exact Or.inr ⟨j, h2, rfl⟩
    · exact Or.inl (Or.inr (by rw [nI_ltI hj (by omega)]; exact h2))
theorem lf_rng_n {n j : Nat} (hn : n ≤ 16) (h : j < n) : ¬ (nI j < 0 ∨ ¬ nI j < nI n) := by
  intro z
  rw [nI_ltI (by omega) (by omega)] at z
  exact z.elim (nI_pos (by omega)) (fun z => z h)
theorem lf_cell_iff {n a : Nat} {x y : Int32} (hn : n ≤ 16) (ha : a < 6) : (¬ lf_cell n (nI a) x = -1 ∧ lf_cell n (nI a) y = lf_cell n (nI a) x) ↔ (x = y ∧ ¬ x < 0 ∧ x < nI n) := by
  rcases lf_rng hn x with h | ⟨j, hj, rfl⟩
  · rw [lf_cell_o h]
    exact ⟨fun z => absurd rfl z.1, fun z => absurd h (fun q => q.elim z.2.1 (fun q => q z.2.2))⟩
  · rw [lf_cell_i hj hn]
    rcases lf_rng hn y with h | ⟨k, hk, rfl⟩
    · rw [lf_cell_o h]
      constructor
      · intro z; exact absurd z.2.symm (lf_ne1 (by omega))
      · intro z; rw [← z.1] at h; exact absurd h (lf_rng_n hn hj)
    · rw [lf_cell_i hk hn, nI_eq (by omega) (by omega), nI_eq (by omega) (by omega), nI_ltI (by omega) (by omega)]
      have h1 := nI_pos (n := j) (by omega)
      have h2 := lf_ne1 (a := a * 16 + j) (by omega)
      constructor
      · intro z; exact ⟨by omega, h1, hj⟩
      · intro z; exact ⟨h2, by omega⟩
/-! a statement's execution on contents and scalars; c: contracting -/
abbrev lf_M : Type := (Nat → Int32) × (Nat → Int32)
def lf_rd (n : Nat) (con : Nat → Int32) (c : Int32) (m : lf_M) (a x : Int32) : Int32 :=
  if ¬ c = 0 ∧ ¬ con a.toNatClampNeg = 0 then m.2 a.toNatClampNeg else if x < 0 ∨ ¬ x < nI n then 0 else m.1 (a * 16 + x).toNatClampNeg
def lf_op (n : Nat) (con : Nat → Int32) (c : Int32) (m : lf_M) (k a co v i : Int32) : Int32 :=
  if k = 0 then v else if k = 1 then i + v else lf_rd n con c m a (co * i + v)
def lf_al (o l r : Int32) : Int32 := if o = 0 then l + r else if o = 1 then l - r else l * r
def lf_sto (n : Nat) (con : Nat → Int32) (c : Int32) (m : lf_M) (a x r : Int32) : lf_M :=
  if ¬ c = 0 ∧ ¬ con a.toNatClampNeg = 0 then (m.1, upd m.2 a.toNatClampNeg r) else if x < 0 ∨ ¬ x < nI n then m else (upd m.1 (a * 16 + x).toNatClampNeg r, m.2)
def lf_ex (n : Nat) (con so sk sa sc sv : Nat → Int32) (c : Int32) (i s : Nat) (m : lf_M) : lf_M :=
  lf_sto n con c m (sa (3 * s + 2)) (sc (3 * s + 2) * nI i + sv (3 * s + 2))
    (lf_al (so s) (lf_op n con c m (sk (3 * s)) (sa (3 * s)) (sc (3 * s)) (sv (3 * s)) (nI i)) (lf_op n con c m (sk (3 * s + 1)) (sa (3 * s + 1)) (sc (3 * s + 1)) (sv (3 * s + 1)) (nI i)))
/-- the body a .. b - 1 at one iteration -/
def lf_bd (n : Nat) (con so sk sa sc sv : Nat → Int32) (c : Int32) (a b i : Nat) (m : lf_M) : lf_M := lf_to (fun s m => lf_ex n con so sk sa sc sv c i s m) a b m
/-- the loop lo .. hi over the body a .. b - 1 -/
def lf_lp (n : Nat) (con so sk sa sc sv : Nat → Int32) (c : Int32) (lo hi a b : Nat) (m : lf_M) : lf_M := lf_to (fun i m => lf_bd n con so sk sa sc sv c a b i m) lo (hi + 1) m
def lf_ro (n : Nat) (con so sk sa sc sv : Nat → Int32) (lo hi F : Nat → Nat) (nl : Nat) (m : lf_M) : lf_M :=
  lf_to (fun l m => lf_lp n con so sk sa sc sv 0 (lo l) (hi l) (F l) (F (l + 1)) m) 0 nl m
def lf_rt (n : Nat) (con so sk sa sc sv : Nat → Int32) (lo hi F G : Nat → Nat) (g : Nat) (m : lf_M) : lf_M :=
  lf_to (fun a m => lf_lp n con so sk sa sc sv 1 (lo (G a)) (hi (G a)) (F (G a)) (F (G (a + 1))) m) 0 g m
/-- scalars beyond the arrays stay as they are -/
theorem lf_ex_k {n na : Nat} {con so sk sa sc sv : Nat → Int32} {c : Int32} {i s : Nat} {m : lf_M} (ha : ∃ a, a < na ∧ sa (3 * s + 2) = nI a) (hna : na ≤ 6) {j : Nat} (hj : na ≤ j) : (lf_ex n con so sk sa sc sv c i s m).2 j = m.2 j := by
  obtain ⟨a, h, e⟩ := ha
  unfold lf_ex lf_sto
  rw [e, nI_clamp (by omega)]
  split
  · exact pk_un (by omega)
  · split
    · rfl
    · rfl
def lf_sz (na : Nat) (m : lf_M) : Prop := ∀ j, na ≤ j → m.2 j = 0
theorem lf_lp_k {n na ns : Nat} {con so sk sa sc sv : Nat → Int32} {c : Int32} {lo hi a b : Nat} {m : lf_M} (ha : ∀ s, s < ns → ∃ a, a < na ∧ sa (3 * s + 2) = nI a) (hna : na ≤ 6) (hb : b ≤ ns) (h : lf_sz na m) : lf_sz na (lf_lp n con so sk sa sc sv c lo hi a b m) :=
  lf_to_P (lf_sz na) (fun _ _ _ _ h => lf_to_P (lf_sz na) (fun s _ _ h2 h => fun j hj => (lf_ex_k (ha s (by omega)) hna hj).trans (h j hj)) h) h
/-! how many cells differ -/
def lf_dc (n : Nat) (o f : Nat → Int32) (x : Nat) (d : Int32) : Int32 := lf_to (fun c d => if o (x * 16 + c) = f (x * 16 + c) then d else d + 1) 0 n d
def lf_da (na n : Nat) (con o f : Nat → Int32) : Int32 := lf_to (fun x d => if con x = 0 then lf_dc n o f x d else d) 0 na 0
def lf_cc (na : Nat) (con : Nat → Int32) : Int32 := lf_to (fun x d => if con x = 0 then d else d + 1) 0 na 0
/-- cells below i set to x -/
def lf_clr (x : Int32) (i : Nat) (f : Nat → Int32) : Nat → Int32 := fun j => if j < i then x else f j
theorem lf_clr0 {x : Int32} {f : Nat → Int32} : lf_clr x 0 f = f := by
  funext j
  exact if_neg (by omega)
theorem lf_clr_s {x : Int32} {i : Nat} {f : Nat → Int32} : upd (lf_clr x i f) i x = lf_clr x (i + 1) f := by
  funext j
  unfold upd lf_clr
  by_cases h : j = i
  · rw [if_pos h, if_pos (by omega)]
  · rw [if_neg h]
    by_cases h2 : j < i
    · rw [if_pos h2, if_pos (by omega)]
    · rw [if_neg h2, if_neg (by omega)]
/-- cells below i copied from g -/
def lf_cp (g : Nat → Int32) (i : Nat) (f : Nat → Int32) : Nat → Int32 := fun j => if j < i then g j else f j
theorem lf_cp0 {g f : Nat → Int32} : lf_cp g 0 f = f := by
  funext j
  exact if_neg (by omega)
theorem lf_cp_s {g : Nat → Int32} {i : Nat} {f : Nat → Int32} : upd (lf_cp g i f) i (g i) = lf_cp g (i + 1) f := by
  funext j
  unfold upd lf_cp
  by_cases h : j = i
  · rw [if_pos h, if_pos (by omega), h]
  · rw [if_neg h]
    by_cases h2 : j < i
    · rw [if_pos h2, if_pos (by omega)]
    · rw [if_neg h2, if_neg (by omega)]
/-! which array is contracted -/
def lf_acc (sk sa : Nat → Int32) (x z : Nat) : Prop := sk z = 2 ∧ sa z = nI x
def lf_mat (L gp : Nat → Nat) (sc sv : Nat → Int32) (z f : Nat) : Prop := gp (L (z / 3)) = gp (L (f / 3)) ∧ sc z = sc f ∧ sv z = sv f
def lf_ran (n lo hi : Nat) (co ov : Int32) : Prop := ∀ i, lo ≤ i → i ≤ hi → ¬ (co * nI i + ov < 0 ∨ ¬ co * nI i + ov < nI n)
def lf_CT (n ns : Nat) (tmp sk sa sc sv : Nat → Int32) (L gp G lo hi : Nat → Nat) (x : Nat) : Prop :=
  ¬ tmp x = 0 ∧ ∃ f, f < 3 * ns ∧ lf_acc sk sa x f ∧ (∀ z, z < f → ¬ lf_acc sk sa x z) ∧ (∀ z, z < 3 * ns → lf_acc sk sa x z → lf_mat L gp sc sv z f) ∧
    G (gp (L (f / 3))) + 2 ≤ G (gp (L (f / 3)) + 1) ∧ ¬ sc f = 0 ∧ f % 3 = 2 ∧ lf_ran n (lo (L (f / 3))) (hi (L (f / 3))) (sc f) (sv f)
end
section
theorem lf_PT_ge {F L : Nat → Nat} {n m s l : Nat} (h : lf_PT F L n m) (hs : s < m) (hl : l ≤ n) : l ≤ L s ↔ F l ≤ s := by
  obtain ⟨h1, h2, h3⟩ := h.2.2.2 s hs
  constructor
  · intro a
    have := lf_PT_mono h (a := l) (L s) a (by omega)
    omega
  · intro a
    by_cases c : L s < l
    · have := lf_PT_mono h (a := L s + 1) l (by omega) hl
      omega
    · omega
theorem lf_fil_y {σ : Type} {f : Nat → σ → σ} {a b s : Nat} {m : σ} (h1 : a ≤ s) (h2 : s < b) : lf_to f a (min (s + 1) b) m = f s (lf_to f a (min s b) m) := by
  rw [show min (s + 1) b = s + 1 by omega, show min s b = s by omega, lf_to_s h1]
theorem lf_fil_n {σ : Type} {f : Nat → σ → σ} {a b s : Nat} {m : σ} (h : ¬ (a ≤ s ∧ s < b)) : lf_to f a (min (s + 1) b) m = lf_to f a (min s b) m := by
  by_cases c : b ≤ s
  · rw [show min (s + 1) b = b by omega, show min s b = b by omega]
  · rw [lf_to_e (show min (s + 1) b ≤ a by omega), lf_to_e (show min s b ≤ a by omega)]
theorem lf_fil_0 {σ : Type} {f : Nat → σ → σ} {a b : Nat} {m : σ} : lf_to f a (min 0 b) m = m := lf_to_e (by omega)
theorem lf_fil_e {σ : Type} {f : Nat → σ → σ} {a b e : Nat} {m : σ} (h : b ≤ e) : lf_to f a (min e b) m = lf_to f a b m := by
  rw [show min e b = b by omega]
theorem lf_flat {σ : Type} {f : Nat → σ → σ} {F : Nat → Nat} {a : Nat} {m : σ} : ∀ b, a ≤ b → (∀ k, a ≤ k → k < b → F k ≤ F (k + 1)) → F a ≤ F b ∧ lf_to (fun k m => lf_to f (F k) (F (k + 1)) m) a b m = lf_to f (F a) (F b) m := by
  intro b
  induction b with
  | zero =>
    intro h _
    rw [show a = 0 by omega, lf_to_e (Nat.le_refl _), lf_to_e (Nat.le_refl _)]
    exact ⟨Nat.le_refl _, rfl⟩
  | succ b ih =>
    intro h hm
    by_cases e : a = b + 1
    · rw [e, lf_to_e (Nat.le_refl _), lf_to_e (Nat.le_refl _)]
      exact ⟨Nat.le_refl _, rfl⟩
    · obtain ⟨h1, h2⟩ := ih (by omega) (fun k hk hk2 => hm k hk (by omega))
      have h3 := hm b (by omega) (by omega)
      rw [lf_to_s (by omega), h2, lf_to_t (b := F b) h1 h3]
      exact ⟨by omega, rfl⟩
theorem lf_CT_f {n ns : Nat} {tmp sk sa sc sv : Nat → Int32} {L gp G lo hi : Nat → Nat} {x f : Nat} (hf : f < 3 * ns) (ha : lf_acc sk sa x f) (h1 : ∀ z, z < f → ¬ lf_acc sk sa x z) : lf_CT n ns tmp sk sa sc sv L gp G lo hi x ↔
    (¬ tmp x = 0 ∧ (∀ z, z < 3 * ns → lf_acc sk sa x z → lf_mat L gp sc sv z f) ∧ G (gp (L (f / 3))) + 2 ≤ G (gp (L (f / 3)) + 1) ∧ ¬ sc f = 0 ∧ f % 3 = 2 ∧ lf_ran n (lo (L (f / 3))) (hi (L (f / 3))) (sc f) (sv f)) := by
  constructor
  · intro ⟨t, f', a, b, c, d⟩
    have e : f' = f := by
      by_cases h : f' < f
      · exact absurd b (h1 f' h)
      · by_cases h2 : f < f'
        · exact absurd ha (c f h2)
        · omega
    subst e
    exact ⟨t, d⟩
  · intro ⟨t, d⟩
    exact ⟨t, f, hf, ha, h1, d⟩
theorem lf_CT_n {n ns : Nat} {tmp sk sa sc sv : Nat → Int32} {L gp G lo hi : Nat → Nat} {x : Nat} (h : ∀ z, z < 3 * ns → ¬ lf_acc sk sa x z) : ¬ lf_CT n ns tmp sk sa sc sv L gp G lo hi x := by
  intro ⟨_, f, a, b, _⟩
  exact h f a b
/-! the slots of the component and the tables of the reference -/
def lf_SR (ns : Nat) (sk sa sc sv kd ar co va dA dC dO : Nat → Int32) : Prop := ∀ s, s < ns →
  (sk (3 * s) = kd (2 * s) ∧ sa (3 * s) = ar (2 * s) ∧ sc (3 * s) = co (2 * s) ∧ sv (3 * s) = va (2 * s)) ∧
  (sk (3 * s + 1) = kd (2 * s + 1) ∧ sa (3 * s + 1) = ar (2 * s + 1) ∧ sc (3 * s + 1) = co (2 * s + 1) ∧ sv (3 * s + 1) = va (2 * s + 1)) ∧
  (sk (3 * s + 2) = 2 ∧ sa (3 * s + 2) = dA s ∧ sc (3 * s + 2) = dC s ∧ sv (3 * s + 2) = dO s)
def lf_WF (na ns : Nat) (sk sa : Nat → Int32) : Prop := ∀ z, z < 3 * ns → sk z = 0 ∨ sk z = 1 ∨ (sk z = 2 ∧ ∃ a, a < na ∧ sa z = nI a)
def lf_LP (nl : Nat) (F Lo Hi : Nat → Nat) (lLo lHi lF lC : Nat → Int32) : Prop := ∀ l, l < nl → lLo l = nI (Lo l) ∧ lHi l = nI (Hi l) ∧ Lo l ≤ 15 ∧ Hi l ≤ 15 ∧ lF l = nI (F l) ∧ lC l = nI (F (l + 1) - F l)
/-- what both sides keep of the program -/
def lf_B (na n nl ns : Nat) (F L Lo Hi : Nat → Nat) (lLo lHi lF lC sl sk sa sc sv kd ar co va dA dC dO : Nat → Int32) : Prop :=
  (2 ≤ na ∧ na ≤ 6 ∧ 4 ≤ n ∧ n ≤ 16 ∧ nl ≤ 8 ∧ ns ≤ 12) ∧ lf_PT F L nl ns ∧ lf_LP nl F Lo Hi lLo lHi lF lC ∧ (∀ s, s < ns → sl s = nI (L s)) ∧ lf_SR ns sk sa sc sv kd ar co va dA dC dO ∧ lf_WF na ns sk sa
/-- groups of the first k loops -/
def lf_G (k g : Nat) (G gp : Nat → Nat) (xg gf gl yg : Nat → Int32) : Prop :=
  lf_PT G gp g k ∧ (∀ a, a < g → G a < G (a + 1) ∧ gf a = nI (G a) ∧ gl a = nI (G (a + 1) - G a)) ∧ ∀ l, l < k → xg l = nI (gp l) ∧ yg l = nI (gp l)
def lf_J (k : Nat) (xj xd yj yd : Nat → Int32) : Prop := ∀ l, l < k → xj l = yj l ∧ xd l = yd l
def lf_P0 (nl : Nat) (ph gX gY : Int32) (xg xj xd : Nat → Int32) : Prop := ph = 0 ∧ gX = 0 ∧ gY = 0 ∧ ∀ l, l < nl → xg l = -1 ∧ xj l = -1 ∧ xd l = 1000
def lf_P1 (nl : Nat) (ph gX gY : Int32) (xg xj xd gf gl yg yj yd : Nat → Int32) : Prop := ph = 1 ∧ ∃ g G gp, gX = nI g ∧ gY = nI g ∧ lf_G nl g G gp xg gf gl yg ∧ lf_J nl xj xd yj yd
theorem lf_PT_sn {G gp : Nat → Nat} {g k : Nat} (h : lf_PT G gp g k) (hs : ∀ a, a < g → G a < G (a + 1)) : g ≤ k := by
  have : ∀ a, a ≤ g → a ≤ G a := by
    intro a
    induction a with
    | zero => intro _; omega
    | succ a ih => intro ha; have := ih (by omega); have := hs a (by omega); omega
  have := this g (Nat.le_refl _)
  rw [h.2.1] at this
  exact this
end
section
theorem lf_SR_add {ns : Nat} {sk sa sc sv kd ar co va dA dC dO : Nat → Int32} {a c o : Int32} (h : lf_SR ns sk sa sc sv kd ar co va dA dC dO) :
    lf_SR (ns + 1) (upd (upd (upd sk (3 * ns) 0) (3 * ns + 1) 0) (3 * ns + 2) 2) (upd (upd (upd sa (3 * ns) (-1)) (3 * ns + 1) (-1)) (3 * ns + 2) a) (upd (upd (upd sc (3 * ns) 0) (3 * ns + 1) 0) (3 * ns + 2) c) (upd (upd (upd sv (3 * ns) 0) (3 * ns + 1) 0) (3 * ns + 2) o)
      (upd (upd kd (2 * ns) 0) (2 * ns + 1) 0) (upd (upd ar (2 * ns) (-1)) (2 * ns + 1) (-1)) (upd (upd co (2 * ns) 0) (2 * ns + 1) 0) (upd (upd va (2 * ns) 0) (2 * ns + 1) 0) (upd dA ns a) (upd dC ns c) (upd dO ns o) := by
  intro s hs
  by_cases e : s = ns
  · subst e
    simp (disch := omega) only [pk_us, pk_un, and_self]
  · have h' := h s (by omega)
    simp (disch := omega) only [pk_un]
    exact h'
theorem lf_SR_set {ns s0 w : Nat} {sk sa sc sv kd ar co va dA dC dO : Nat → Int32} {k a c v : Int32} (hw : w < 2) (h : lf_SR ns sk sa sc sv kd ar co va dA dC dO) :
    lf_SR ns (upd sk (3 * s0 + w) k) (upd sa (3 * s0 + w) a) (upd sc (3 * s0 + w) c) (upd sv (3 * s0 + w) v) (upd kd (2 * s0 + w) k) (upd ar (2 * s0 + w) a) (upd co (2 * s0 + w) c) (upd va (2 * s0 + w) v) dA dC dO := by
  intro s hs
  have h' := h s hs
  by_cases e : s = s0
  · subst e
    rcases (show w = 0 ∨ w = 1 by omega) with e | e
    · subst e
      simp (disch := omega) only [Nat.add_zero, pk_us, pk_un]
      exact ⟨⟨by trivial, by trivial, by trivial, by trivial⟩, h'.2⟩
    · subst e
      simp (disch := omega) only [pk_us, pk_un]
      exact ⟨h'.1, ⟨by trivial, by trivial, by trivial, by trivial⟩, h'.2.2⟩
  · simp (disch := omega) only [pk_un]
    exact h'
theorem lf_WF_set {na ns z0 : Nat} {sk sa : Nat → Int32} {k a : Int32} (hk : k = 0 ∨ k = 1 ∨ (k = 2 ∧ ∃ b, b < na ∧ a = nI b)) (h : lf_WF na ns sk sa) : lf_WF na ns (upd sk z0 k) (upd sa z0 a) := by
  intro z hz
  by_cases e : z = z0
  · subst e
    simp only [pk_us]
    exact hk
  · simp (disch := omega) only [pk_un]
    exact h z hz
theorem lf_WF_add {na ns : Nat} {sk sa : Nat → Int32} {a : Int32} (ha : ∃ b, b < na ∧ a = nI b) (h : lf_WF na ns sk sa) :
    lf_WF na (ns + 1) (upd (upd (upd sk (3 * ns) 0) (3 * ns + 1) 0) (3 * ns + 2) 2) (upd (upd (upd sa (3 * ns) (-1)) (3 * ns + 1) (-1)) (3 * ns + 2) a) := by
  intro z hz
  by_cases e : z = 3 * ns + 2
  · subst e
    simp only [pk_us]
    exact Or.inr (Or.inr ⟨by trivial, ha⟩)
  · by_cases e1 : z = 3 * ns + 1
    · subst e1
      simp (disch := omega) only [pk_us, pk_un]
      exact Or.inl (by trivial)
    · by_cases e2 : z = 3 * ns
      · subst e2
        simp (disch := omega) only [pk_us, pk_un]
        exact Or.inl (by trivial)
      · simp (disch := omega) only [pk_un]
        exact h z (by omega)
theorem lf_LP_app {nl m lo hi : Nat} {F Lo Hi : Nat → Nat} {lLo lHi lF lC : Nat → Int32} (hlo : lo ≤ 15) (hhi : hi ≤ 15) (hF : F nl = m) (h : lf_LP nl F Lo Hi lLo lHi lF lC) :
    lf_LP (nl + 1) (lf_un F (nl + 1) m) (lf_un Lo nl lo) (lf_un Hi nl hi) (upd lLo nl (nI lo)) (upd lHi nl (nI hi)) (upd lF nl (nI m)) (upd lC nl 0) := by
  intro l hl
  by_cases e : l = nl
  · subst e
    rw [pk_us, pk_us, pk_us, pk_us, lf_us, lf_us, lf_us, lf_ue (show l ≠ l + 1 by omega), hF, Nat.sub_self]
    exact ⟨rfl, rfl, hlo, hhi, rfl, rfl⟩
  · rw [pk_un e, pk_un e, pk_un e, pk_un e, lf_ue e, lf_ue e, lf_ue (show l ≠ nl + 1 by omega), lf_ue (show l + 1 ≠ nl + 1 by omega)]
    exact h l (by omega)
theorem lf_LP_ext {nl m : Nat} {F Lo Hi : Nat → Nat} {lLo lHi lF lC : Nat → Int32} (h0 : 0 < nl) (hF : F nl = m) (hm : F (nl - 1) ≤ m) (h : lf_LP nl F Lo Hi lLo lHi lF lC) :
    lf_LP nl (lf_un F nl (m + 1)) Lo Hi lLo lHi lF (upd lC (nl - 1) (lC (nl - 1) + 1)) := by
  intro l hl
  obtain ⟨a, b, c, d, e, f⟩ := h l hl
  rw [lf_ue (show l ≠ nl by omega)]
  refine ⟨a, b, c, d, e, ?_⟩
  by_cases z : l = nl - 1
  · rw [z, pk_us, show nl - 1 + 1 = nl by omega, lf_us, ← z, f, z, show nl - 1 + 1 = nl by omega, hF, nI_1]
    exact congrArg nI (by omega)
  · rw [pk_un z, lf_ue (show l + 1 ≠ nl by omega)]
    exact f
theorem lf_sl_ext {nl m : Nat} {L : Nat → Nat} {sl : Nat → Int32} (h : ∀ s, s < m → sl s = nI (L s)) : ∀ s, s < m + 1 → upd sl m (nI (nl - 1)) s = nI (lf_un L m (nl - 1) s) := by
  intro s hs
  by_cases e : s = m
  · subst e; rw [pk_us, lf_us]
  · rw [pk_un e, lf_ue e]; exact h s (by omega)
end
section
section LFR
variable {na n nl ns : Nat} {ph gX gY rc : Int32} {tmp con sca ini ori fus lLo lHi lF lC xg xj xd gf gl sl so sk sa sc sv yg yj yd dA dC dO kd ar co va : Nat → Int32} {F L Lo Hi G gp : Nat → Nat}
/-- both states over one program: the same contents, flags, loops and operators; slots against tables; groups in the same intervals -/
def i_Rel (_ : Nat) (u : SX) (v : SY) : Prop := ∃ (na n nl ns : Nat) (F L Lo Hi : Nat → Nat) (ph gX gY rc : Int32) (tmp con sca ini ori fus lLo lHi lF lC xg xj xd gf gl sl so sk sa sc sv yg yj yd dA dC dO kd ar co va : Nat → Int32),
  u = (nI na, nI n, ph, nI nl, nI ns, gX, rc, tmp, con, sca, ini, ori, fus, lLo, lHi, lF, lC, xg, xj, xd, gf, gl, sl, so, sk, sa, sc, sv) ∧ v = (nI na, nI n, nI nl, nI ns, ph, gY, rc, tmp, con, lLo, lHi, lF, lC, yg, yj, yd, sl, so, dA, dC, dO, kd, ar, co, va, ini, ori, fus, sca) ∧ lf_B na n nl ns F L Lo Hi lLo lHi lF lC sl sk sa sc sv kd ar co va dA dC dO ∧ (∀ j, na ≤ j → sca j = 0) ∧ (lf_P0 nl ph gX gY xg xj xd ∨ lf_P1 nl ph gX gY xg xj xd gf gl yg yj yd)
theorem i_up {k : Nat} {u : SX} {v : SY} (h : i_Rel k u v) : i_Rel (k + 5) u v := h
theorem lf_mk {k : Nat} (hB : lf_B na n nl ns F L Lo Hi lLo lHi lF lC sl sk sa sc sv kd ar co va dA dC dO) (hs : ∀ j, na ≤ j → sca j = 0) (hP : lf_P0 nl ph gX gY xg xj xd ∨ lf_P1 nl ph gX gY xg xj xd gf gl yg yj yd) : i_Rel k (nI na, nI n, ph, nI nl, nI ns, gX, rc, tmp, con, sca, ini, ori, fus, lLo, lHi, lF, lC, xg, xj, xd, gf, gl, sl, so, sk, sa, sc, sv) (nI na, nI n, nI nl, nI ns, ph, gY, rc, tmp, con, lLo, lHi, lF, lC, yg, yj, yd, sl, so, dA, dC, dO, kd, ar, co, va, ini, ori, fus, sca) :=
  ⟨na, n, nl, ns, F, L, Lo, Hi, ph, gX, gY, rc, tmp, con, sca, ini, ori, fus, lLo, lHi, lF, lC, xg, xj, xd, gf, gl, sl, so, sk, sa, sc, sv, yg, yj, yd, dA, dC, dO, kd, ar, co, va, rfl, rfl, hB, hs, hP⟩
theorem lf_10 : ¬ (1 : Int32) = 0 := by decide
theorem lf_01 : ¬ (0 : Int32) = 1 := by decide
theorem lf_30 : ¬ (3 : Int32) = 0 := by decide
theorem lf_m3 (a : Nat) : nI a * 3 = nI (3 * a) := by rw [show (3 : Int32) = nI 3 from rfl, pk_mul, Nat.mul_comm]
theorem lf_m2 (a : Nat) : nI a * 2 = nI (2 * a) := by rw [show (2 : Int32) = nI 2 from rfl, pk_mul, Nat.mul_comm]
theorem lf_a2 (a : Nat) : nI a + 2 = nI (a + 2) := nI_add a 2
theorem lf_d3 {a : Nat} (h : a < 2 ^ 31) : nI a / 3 = nI (a / 3) := pk_div (d := 3) h (by decide) (by decide)
theorem lf_r3 {a : Nat} (h : a < 2 ^ 31) : nI a - nI a / 3 * 3 = nI (a % 3) := pk_rem (d := 3) h (by decide) (by decide)
theorem lf_p1 {a : Nat} (h : 0 < a) : nI a - 1 = nI (a - 1) := by
  obtain ⟨b, rfl⟩ : ∃ b, a = b + 1 := ⟨a - 1, by omega⟩
  exact nI_pred b
theorem lf_hi {v : Int32} {m : Nat} (hm : m < 2 ^ 31) (h : nI m ≤ v) : ¬ v < 0 ∧ ¬ v < nI m := by
  rw [lf_le, nI_toInt hm] at h
  rw [lf_lt, lf_lt, nI_toInt hm, show (0 : Int32).toInt = 0 from by decide]
  omega
theorem lf_eq1 {a : Nat} (h : a < 2 ^ 31) {b : Nat} (hb : b < 2 ^ 31) (e : a ≠ b) : ¬ nI a = nI b := fun z => e ((nI_eq h hb).mp z)
/-! small methods of the component -/
theorem lx_clamp {post : Int32 → Prop} {v : Int32} {a b : Nat} (hab : a ≤ b) (hb : b < 2 ^ 31) (h : ∀ c, a ≤ c → c ≤ b → ((nI a ≤ v → v ≤ nI b → v = nI c) ∧ (¬ nI a ≤ v → c = a) ∧ (nI a ≤ v → ¬ v ≤ nI b → c = b)) → post (nI c)) : wpX_clamp post v (nI a) (nI b) := by
  refine br_c (fun h1 => br_c (fun h2 => ?_) (fun h2 => ?_)) (fun h1 => ?_)
  · have h0 : ¬ v < 0 := (lf_hi (by omega) h1).1
    obtain ⟨c, hc, rfl⟩ := nI_of h0
    rw [nI_leI (by omega) hc] at h1
    rw [nI_leI hc hb] at h2
    refine h c h1 h2 ⟨fun _ _ => rfl, fun z => ?_, fun _ z => ?_⟩
    · rw [nI_leI (by omega) hc] at z; omega
    · rw [nI_leI hc hb] at z; omega
  · exact h b hab (Nat.le_refl _) ⟨fun _ z => absurd z h2, fun z => absurd h1 z, fun _ _ => rfl⟩
  · exact h a (Nat.le_refl _) hab ⟨fun z => absurd z h1, fun _ => rfl, fun z => absurd z h1⟩
theorem lx_isArr1 {post : Int32 → Prop} {a : Nat} (h : a < na) (hn : na ≤ 6) (k : post 1) : wpX_isArray post (nI na, nI n, ph, nI nl, nI ns, gX, rc, tmp, con, sca, ini, ori, fus, lLo, lHi, lF, lC, xg, xj, xd, gf, gl, sl, so, sk, sa, sc, sv) (nI a) :=
  br_f (nI_pos (by omega)) (br_f (nI_ge h (by omega)) k)
theorem lx_isArr0 {post : Int32 → Prop} {v : Int32} (h : ¬ ∃ a, a < na ∧ v = nI a) (hn : na ≤ 6) (k : post 0) : wpX_isArray post (nI na, nI n, ph, nI nl, nI ns, gX, rc, tmp, con, sca, ini, ori, fus, lLo, lHi, lF, lC, xg, xj, xd, gf, gl, sl, so, sk, sa, sc, sv) v := by
  rcases pk_ix v (n := na) (by omega) with h0 | h0 | h0
  · exact br_t h0 k
  · exact br_f (lf_hi (by omega) h0).1 (br_t h0 k)
  · exact absurd h0 h
theorem lx_isArr {post : Int32 → Prop} {v : Int32} (hn : na ≤ 6) (f : (∃ a, a < na ∧ v = nI a) → post 1) (g : post 0) : wpX_isArray post (nI na, nI n, ph, nI nl, nI ns, gX, rc, tmp, con, sca, ini, ori, fus, lLo, lHi, lF, lC, xg, xj, xd, gf, gl, sl, so, sk, sa, sc, sv) v := by
  by_cases h : ∃ a, a < na ∧ v = nI a
  · obtain ⟨a, ha, rfl⟩ := h
    exact lx_isArr1 ha hn (f ⟨a, ha, rfl⟩)
  · exact lx_isArr0 h hn g
theorem lx_with {post : Int32 → Prop} {v a b : Int32} (f : ¬ v < a → ¬ b < v → post 1) (g : post 0) : wpX_isWithin post v a b :=
  br_c (fun _ => g) (fun h => br_c (fun _ => g) (fun h2 => f h h2))
theorem lx_with1 {post : Int32 → Prop} {v a b : Int32} (h : ¬ v < a) (h2 : ¬ b < v) (k : post 1) : wpX_isWithin post v a b := br_f h (br_f h2 k)
/-- a reference's three numbers -/
def lf_ok (na : Nat) (a c o : Int32) : Prop := (∃ b, b < na ∧ a = nI b) ∧ ¬ c < -2 ∧ ¬ 2 < c ∧ ¬ o < -16 ∧ ¬ 16 < o
theorem lx_ref {post : Int32 → Prop} {a c o : Int32} (hn : na ≤ 6) (f : lf_ok na a c o → post 1) (g : post 0) : wpX_isReference post (nI na, nI n, ph, nI nl, nI ns, gX, rc, tmp, con, sca, ini, ori, fus, lLo, lHi, lF, lC, xg, xj, xd, gf, gl, sl, so, sk, sa, sc, sv) a c o := by
  unfold wpX_isReference
  exact lx_isArr hn (fun h1 => br_f lf_10 (lx_with (fun h2 h3 => br_f lf_10 (lx_with (fun h4 h5 => br_f lf_10 (f ⟨h1, h2, h3, h4, h5⟩)) (br_t rfl g))) (br_t rfl g))) (br_t rfl g)
theorem lx_ref1 {post : Int32 → Prop} {a c o : Int32} (hn : na ≤ 6) (h : lf_ok na a c o) (k : post 1) : wpX_isReference post (nI na, nI n, ph, nI nl, nI ns, gX, rc, tmp, con, sca, ini, ori, fus, lLo, lHi, lF, lC, xg, xj, xd, gf, gl, sl, so, sk, sa, sc, sv) a c o := by
  obtain ⟨⟨b, hb, rfl⟩, h2, h3, h4, h5⟩ := h
  unfold wpX_isReference
  exact lx_isArr1 hb hn (br_f lf_10 (lx_with1 h2 h3 (br_f lf_10 (lx_with1 h4 h5 (br_f lf_10 k)))))
theorem lx_fill {post : SX → Prop} {z : Nat} {k a c v : Int32} (hz : z < 36) (h : post (nI na, nI n, ph, nI nl, nI ns, gX, rc, tmp, con, sca, ini, ori, fus, lLo, lHi, lF, lC, xg, xj, xd, gf, gl, sl, so, upd sk z k, upd sa z a, upd sc z c, upd sv z v)) : wpX_fillSlot post (nI na, nI n, ph, nI nl, nI ns, gX, rc, tmp, con, sca, ini, ori, fus, lLo, lHi, lF, lC, xg, xj, xd, gf, gl, sl, so, sk, sa, sc, sv) (nI z) k a c v := by
  have hi : vp_in (nI z) 36 := vp_in_nI hz (by decide)
  have e : (nI z).toNatClampNeg = z := nI_clamp (by omega)
  exact ⟨hi, nm_r (by rw [e]) ⟨hi, nm_r (by rw [e]) ⟨hi, nm_r (by rw [e]) ⟨hi, nm_r (by rw [e]) h⟩⟩⟩⟩
theorem lx_cell1 {post : Int32 → Prop} {a j : Nat} (ha : a < na) (hj : j < n) (hna : na ≤ 6) (hn : n ≤ 16) (k : post 1) : wpX_isCell post (nI na, nI n, ph, nI nl, nI ns, gX, rc, tmp, con, sca, ini, ori, fus, lLo, lHi, lF, lC, xg, xj, xd, gf, gl, sl, so, sk, sa, sc, sv) (nI a) (nI j) := by
  unfold wpX_isCell
  exact lx_isArr1 ha hna (br_f lf_10 (br_f (nI_pos (by omega)) (br_f (nI_ge hj (by omega)) k)))
theorem lx_cell0 {post : Int32 → Prop} {v w : Int32} (h : ¬ ∃ a j, a < na ∧ j < n ∧ v = nI a ∧ w = nI j) (hna : na ≤ 6) (hn : n ≤ 16) (k : post 0) : wpX_isCell post (nI na, nI n, ph, nI nl, nI ns, gX, rc, tmp, con, sca, ini, ori, fus, lLo, lHi, lF, lC, xg, xj, xd, gf, gl, sl, so, sk, sa, sc, sv) v w := by
  unfold wpX_isCell
  exact lx_isArr hna (fun ⟨a, ha, e⟩ => br_f lf_10 (br_c (fun _ => k) (fun h0 => br_c (fun _ => k) (fun h1 => by
    rcases pk_ix w (n := n) (by omega) with h2 | h2 | ⟨j, hj, e2⟩
    · exact absurd h2 h0
    · exact absurd h2 h1
    · exact absurd ⟨a, j, ha, hj, e, e2⟩ h)))) (br_t rfl k)
theorem lx_can {post : Int32 → Prop} {v : Int32} (hns : ns ≤ 12) (f : ph = 0 → 0 < ns → (∃ w, w < 2 ∧ v = nI w) → post 1) (g : post 0) : wpX_canSetOperand post (nI na, nI n, ph, nI nl, nI ns, gX, rc, tmp, con, sca, ini, ori, fus, lLo, lHi, lF, lC, xg, xj, xd, gf, gl, sl, so, sk, sa, sc, sv) v :=
  br_c (fun h0 => br_c (fun _ => g) (fun h1 => by
    have h2 : 0 < ns := by
      by_cases z : ns = 0
      · subst z; exact absurd (lf_rfl _) h1
      · omega
    exact br_c (fun e => f h0 h2 ⟨0, by omega, e⟩) (fun _ => br_c (fun e => f h0 h2 ⟨1, by omega, e⟩) (fun _ => g)))) (fun _ => g)
theorem lx_can1 {post : Int32 → Prop} {w : Nat} (hns : ns ≤ 12) (h0 : ph = 0) (h1 : 0 < ns) (hw : w < 2) (k : post 1) : wpX_canSetOperand post (nI na, nI n, ph, nI nl, nI ns, gX, rc, tmp, con, sca, ini, ori, fus, lLo, lHi, lF, lC, xg, xj, xd, gf, gl, sl, so, sk, sa, sc, sv) (nI w) := by
  refine br_t h0 (br_f (nI_nle h1 (by omega)) ?_)
  rcases (show w = 0 ∨ w = 1 by omega) with e | e
  · subst e; exact br_t rfl k
  · subst e; exact br_f lf_10 (br_t rfl k)
end LFR
end
section
section LFS
variable {na n nl ns : Nat} {ph gX gY rc : Int32} {tmp con sca ini ori fus lLo lHi lF lC xg xj xd gf gl sl so sk sa sc sv yg yj yd dA dC dO kd ar co va : Nat → Int32} {F L Lo Hi G gp : Nat → Nat}
/-! refusals: each side alone -/
theorem lx_setTemp_r {post : Int32 → SX → Prop} {v w : Int32} (hn : na ≤ 6) (h : ¬ (ph = 0 ∧ ∃ a, a < na ∧ v = nI a)) (k : post 0 (nI na, nI n, ph, nI nl, nI ns, gX, rc, tmp, con, sca, ini, ori, fus, lLo, lHi, lF, lC, xg, xj, xd, gf, gl, sl, so, sk, sa, sc, sv)) : wpX_setTemp post (nI na, nI n, ph, nI nl, nI ns, gX, rc, tmp, con, sca, ini, ori, fus, lLo, lHi, lF, lC, xg, xj, xd, gf, gl, sl, so, sk, sa, sc, sv) v w :=
  br_c (fun h0 => lx_isArr hn (fun h1 => absurd ⟨h0, h1⟩ h) (br_t rfl k)) (fun _ => k)
theorem ly_rng {v : Int32} {m : Nat} (hm : m < 2 ^ 31) (h0 : ¬ v < 0) (h1 : v < nI m) : ∃ a, a < m ∧ v = nI a := by
  obtain ⟨j, hj, rfl⟩ := nI_of h0
  exact ⟨j, (nI_ltI hj hm).mp h1, rfl⟩
theorem ly_rng' {v : Int32} {m : Nat} (hm : m < 2 ^ 31) (h0 : ¬ v < 0) (h1 : ¬ nI m ≤ v) : ∃ a, a < m ∧ v = nI a := ly_rng hm h0 (Int32.not_le.mp h1)
theorem ly_setTemp_r {post : Int32 → SY → Prop} {v w : Int32} (hn : na ≤ 6) (h : ¬ (ph = 0 ∧ ∃ a, a < na ∧ v = nI a)) (k : post 0 (nI na, nI n, nI nl, nI ns, ph, gY, rc, tmp, con, lLo, lHi, lF, lC, yg, yj, yd, sl, so, dA, dC, dO, kd, ar, co, va, ini, ori, fus, sca)) : wpY_setTemp post (nI na, nI n, nI nl, nI ns, ph, gY, rc, tmp, con, lLo, lHi, lF, lC, yg, yj, yd, sl, so, dA, dC, dO, kd, ar, co, va, ini, ori, fus, sca) v w :=
  br_c (fun h0 => br_c (fun _ => k) (fun h1 => br_c (fun h2 => absurd ⟨h0, ly_rng (by omega) h1 h2⟩ h) (fun _ => k))) (fun _ => k)
theorem lz_setTemp {k : Nat} (hB : lf_B na n nl ns F L Lo Hi lLo lHi lF lC sl sk sa sc sv kd ar co va dA dC dO) (hs : ∀ j, na ≤ j → sca j = 0) (hP : lf_P0 nl ph gX gY xg xj xd ∨ lf_P1 nl ph gX gY xg xj xd gf gl yg yj yd) (v w : Int32) :
    wpX_setTemp (fun r u' => wpY_setTemp (fun r' v' => r' = r ∧ i_Rel (k + 5) u' v') (nI na, nI n, nI nl, nI ns, ph, gY, rc, tmp, con, lLo, lHi, lF, lC, yg, yj, yd, sl, so, dA, dC, dO, kd, ar, co, va, ini, ori, fus, sca) v w) (nI na, nI n, ph, nI nl, nI ns, gX, rc, tmp, con, sca, ini, ori, fus, lLo, lHi, lF, lC, xg, xj, xd, gf, gl, sl, so, sk, sa, sc, sv) v w := by
  have hn : na ≤ 6 := hB.1.2.1
  by_cases h : ph = 0 ∧ ∃ a, a < na ∧ v = nI a
  · obtain ⟨h0, a, ha, rfl⟩ := h
    have hi : vp_in (nI a) 6 := vp_in_nI (by omega) (by decide)
    refine br_t h0 (lx_isArr1 ha hn (br_f lf_10 ⟨hi, nm_e ?_⟩))
    exact br_t h0 (br_f (nI_pos (by omega)) (br_t (nI_lt ha (by omega)) ⟨hi, nm_e ⟨rfl, lf_mk hB hs hP⟩⟩))
  · exact lx_setTemp_r hn h (ly_setTemp_r hn h ⟨rfl, lf_mk hB hs hP⟩)
theorem i_vc_setTemp {k : Nat} {u : SX} {v : SY} (I : i_Rel k u v) (hk : k + 5 ≤ 2562) (v1 : Int32) (v2 : Int32) : wpX_setTemp (fun r u' => wpY_setTemp (fun r' v' => r' = r ∧ i_Rel (k + 5) u' v') v v1 (lw_bz v2)) u v1 (lw_bz v2) := by
  obtain ⟨na, n, nl, ns, F, L, Lo, Hi, ph, gX, gY, rc, tmp, con, sca, ini, ori, fus, lLo, lHi, lF, lC, xg, xj, xd, gf, gl, sl, so, sk, sa, sc, sv, yg, yj, yd, dA, dC, dO, kd, ar, co, va, rfl, rfl, hB, hs, hP⟩ := I
  exact lz_setTemp hB hs hP v1 (lw_bz v2)
/-! addLoop -/
def lf_okL (nl : Nat) (ph v w : Int32) : Prop := ph = 0 ∧ nl < 8 ∧ (¬ v < 0 ∧ ¬ 15 < v) ∧ ¬ w < 0 ∧ ¬ 15 < w
theorem lx_addLoop_r {post : Int32 → SX → Prop} {v w : Int32} (hl : nl ≤ 8) (h : ¬ lf_okL nl ph v w) (k : post (-1) (nI na, nI n, ph, nI nl, nI ns, gX, rc, tmp, con, sca, ini, ori, fus, lLo, lHi, lF, lC, xg, xj, xd, gf, gl, sl, so, sk, sa, sc, sv)) : wpX_addLoop post (nI na, nI n, ph, nI nl, nI ns, gX, rc, tmp, con, sca, ini, ori, fus, lLo, lHi, lF, lC, xg, xj, xd, gf, gl, sl, so, sk, sa, sc, sv) v w :=
  br_c (fun h0 => br_c (fun h1 => lx_with (fun h2 h3 => br_f lf_10 (lx_with (fun h4 h5 => absurd ⟨h0, (nI_ltI (b := 8) (by omega) (by decide)).mp h1, ⟨h2, h3⟩, h4, h5⟩ h) (br_t rfl k))) (br_t rfl k)) (fun _ => k)) (fun _ => k)
theorem ly_addLoop_r {post : Int32 → SY → Prop} {v w : Int32} (hl : nl ≤ 8) (h : ¬ lf_okL nl ph v w) (k : post (-1) (nI na, nI n, nI nl, nI ns, ph, gY, rc, tmp, con, lLo, lHi, lF, lC, yg, yj, yd, sl, so, dA, dC, dO, kd, ar, co, va, ini, ori, fus, sca)) : wpY_addLoop post (nI na, nI n, nI nl, nI ns, ph, gY, rc, tmp, con, lLo, lHi, lF, lC, yg, yj, yd, sl, so, dA, dC, dO, kd, ar, co, va, ini, ori, fus, sca) v w :=
  br_c (fun h0 => br_c (fun _ => k) (fun h1 => br_c (fun _ => k) (fun h2 => br_c (fun _ => k) (fun h3 => br_c (fun _ => k) (fun h4 => br_c (fun h5 => absurd ⟨h0, (by
    by_cases z : nl = 8
    · subst z; exact absurd rfl h1
    · omega), ⟨h2, h3⟩, h4, Int32.not_lt.mpr h5⟩ h) (fun _ => k)))))) (fun _ => k)
theorem lf_P0_app {nl : Nat} {ph gX gY : Int32} {xg xj xd : Nat → Int32} (h : lf_P0 nl ph gX gY xg xj xd) : lf_P0 (nl + 1) ph gX gY (upd xg nl (-1)) (upd xj nl (-1)) (upd xd nl 1000) := by
  refine ⟨h.1, h.2.1, h.2.2.1, fun l hl => ?_⟩
  by_cases e : l = nl
  · subst e; rw [pk_us, pk_us, pk_us]; exact ⟨rfl, rfl, rfl⟩
  · rw [pk_un e, pk_un e, pk_un e]; exact h.2.2.2 l (by omega)
theorem lf_B_app {lo hi : Nat} (hlo : lo ≤ 15) (hhi : hi ≤ 15) (hl : nl < 8) (hB : lf_B na n nl ns F L Lo Hi lLo lHi lF lC sl sk sa sc sv kd ar co va dA dC dO) :
    lf_B na n (nl + 1) ns (lf_un F (nl + 1) ns) L (lf_un Lo nl lo) (lf_un Hi nl hi) (upd lLo nl (nI lo)) (upd lHi nl (nI hi)) (upd lF nl (nI ns)) (upd lC nl 0) sl sk sa sc sv kd ar co va dA dC dO :=
  ⟨⟨hB.1.1, hB.1.2.1, hB.1.2.2.1, hB.1.2.2.2.1, by omega, hB.1.2.2.2.2.2⟩, lf_PT_app hB.2.1, lf_LP_app hlo hhi hB.2.1.2.1 hB.2.2.1, hB.2.2.2⟩
theorem lf_15 {v : Int32} {m : Nat} (hm : m < 2 ^ 31) (h : ¬ v < 0) (h2 : ¬ nI m < v) : ∃ a, a ≤ m ∧ v = nI a := by
  obtain ⟨j, hj, rfl⟩ := nI_of h
  rw [nI_ltI hm hj] at h2
  exact ⟨j, by omega, rfl⟩
theorem lz_addLoop {k : Nat} (hB : lf_B na n nl ns F L Lo Hi lLo lHi lF lC sl sk sa sc sv kd ar co va dA dC dO) (hs : ∀ j, na ≤ j → sca j = 0) (hP : lf_P0 nl ph gX gY xg xj xd ∨ lf_P1 nl ph gX gY xg xj xd gf gl yg yj yd) (v w : Int32) :
    wpX_addLoop (fun r u' => wpY_addLoop (fun r' v' => r' = r ∧ i_Rel (k + 5) u' v') (nI na, nI n, nI nl, nI ns, ph, gY, rc, tmp, con, lLo, lHi, lF, lC, yg, yj, yd, sl, so, dA, dC, dO, kd, ar, co, va, ini, ori, fus, sca) v w) (nI na, nI n, ph, nI nl, nI ns, gX, rc, tmp, con, sca, ini, ori, fus, lLo, lHi, lF, lC, xg, xj, xd, gf, gl, sl, so, sk, sa, sc, sv) v w := by
  have hl : nl ≤ 8 := hB.1.2.2.2.2.1
  by_cases h : lf_okL nl ph v w
  · obtain ⟨h0, h1, ⟨h2, h3⟩, h4, h5⟩ := h
    obtain ⟨lo, hlo, rfl⟩ := lf_15 (m := 15) (by decide) h2 h3
    obtain ⟨hi, hhi, rfl⟩ := lf_15 (m := 15) (by decide) h4 h5
    have hP' : lf_P0 nl ph gX gY xg xj xd := hP.elim id (fun z => absurd (z.1.symm.trans h0) lf_10)
    have hi : vp_in (nI nl) 8 := vp_in_nI h1 (by decide)
    have e : (nI nl).toNatClampNeg = nl := nI_clamp (by omega)
    refine br_t h0 (br_t (nI_lt (b := 8) h1 (by decide)) (lx_with1 h2 h3 (br_f lf_10 (lx_with1 h4 h5 (br_f lf_10 ?_)))))
    refine ⟨hi, nm_r (by rw [e]) ⟨hi, nm_r (by rw [e]) ⟨hi, nm_r (by rw [e]) ⟨hi, nm_r (by rw [e]) ⟨hi, nm_r (by rw [e]) ⟨hi, nm_r (by rw [e]) ⟨hi, nm_r (by rw [e]) (nm_r (nI_1 nl) ?_)⟩⟩⟩⟩⟩⟩⟩
    refine br_t h0 (br_f (lf_eq1 (b := 8) (by omega) (by decide) (by omega)) (br_f h2 (br_f h3 (br_f h4 (br_t (Int32.not_lt.mp h5) ?_)))))
    refine ⟨hi, nm_r (by rw [e]) ⟨hi, nm_r (by rw [e]) ⟨hi, nm_r (by rw [e]) ⟨hi, nm_r (by rw [e]) (nm_r (nI_1 nl) ⟨nI_pred nl, ?_⟩)⟩⟩⟩⟩
    exact lf_mk (lf_B_app hlo hhi h1 hB) hs (Or.inl (lf_P0_app hP'))
  · exact lx_addLoop_r hl h (ly_addLoop_r hl h ⟨rfl, lf_mk hB hs hP⟩)
theorem i_vc_addLoop {k : Nat} {u : SX} {v : SY} (I : i_Rel k u v) (hk : k + 5 ≤ 2562) (v1 : Int32) (v2 : Int32) : wpX_addLoop (fun r u' => wpY_addLoop (fun r' v' => r' = r ∧ i_Rel (k + 5) u' v') v v1 v2) u v1 v2 := by
  obtain ⟨na, n, nl, ns, F, L, Lo, Hi, ph, gX, gY, rc, tmp, con, sca, ini, ori, fus, lLo, lHi, lF, lC, xg, xj, xd, gf, gl, sl, so, sk, sa, sc, sv, yg, yj, yd, dA, dC, dO, kd, ar, co, va, rfl, rfl, hB, hs, hP⟩ := I
  exact lz_addLoop hB hs hP v1 v2
/-! addStatement -/
def lf_okS (na nl ns : Nat) (ph v a c o : Int32) : Prop := ph = 0 ∧ 0 < nl ∧ ns < 12 ∧ (¬ v < 0 ∧ ¬ 2 < v) ∧ lf_ok na a c o
theorem lx_addStmt_r {post : Int32 → SX → Prop} {v a c o : Int32} (hn : na ≤ 6) (hl : nl ≤ 8) (hns : ns ≤ 12) (h : ¬ lf_okS na nl ns ph v a c o) (k : post (-1) (nI na, nI n, ph, nI nl, nI ns, gX, rc, tmp, con, sca, ini, ori, fus, lLo, lHi, lF, lC, xg, xj, xd, gf, gl, sl, so, sk, sa, sc, sv)) : wpX_addStatement post (nI na, nI n, ph, nI nl, nI ns, gX, rc, tmp, con, sca, ini, ori, fus, lLo, lHi, lF, lC, xg, xj, xd, gf, gl, sl, so, sk, sa, sc, sv) v a c o :=
  br_c (fun h0 => br_c (fun _ => k) (fun h1 => br_c (fun h2 => lx_with (fun h3 h4 => br_f lf_10 (lx_ref hn (fun h5 => absurd ⟨h0, (by
    by_cases z : nl = 0
    · subst z; exact absurd rfl h1
    · omega), (nI_ltI (b := 12) (by omega) (by decide)).mp h2, ⟨h3, h4⟩, h5⟩ h) (br_t rfl k))) (br_t rfl k)) (fun _ => k))) (fun _ => k)
theorem ly_addStmt_r {post : Int32 → SY → Prop} {v a c o : Int32} (hn : na ≤ 6) (hl : nl ≤ 8) (hns : ns ≤ 12) (h : ¬ lf_okS na nl ns ph v a c o) (k : post (-1) (nI na, nI n, nI nl, nI ns, ph, gY, rc, tmp, con, lLo, lHi, lF, lC, yg, yj, yd, sl, so, dA, dC, dO, kd, ar, co, va, ini, ori, fus, sca)) : wpY_addStatement post (nI na, nI n, nI nl, nI ns, ph, gY, rc, tmp, con, lLo, lHi, lF, lC, yg, yj, yd, sl, so, dA, dC, dO, kd, ar, co, va, ini, ori, fus, sca) v a c o :=
  br_c (fun h0 => br_c (fun _ => k) (fun h1 => br_c (fun _ => k) (fun h2 => br_c (fun _ => k) (fun h3 => br_c (fun _ => k) (fun h4 => br_c (fun _ => k) (fun h5 => br_c (fun h6 => br_c (fun _ => k) (fun h7 => br_c (fun _ => k) (fun h8 => br_c (fun _ => k) (fun h9 => br_c (fun h10 => absurd ⟨h0, (by
    by_cases z : nl = 0
    · subst z; exact absurd rfl h1
    · omega), (by
    by_cases z : ns = 12
    · subst z; exact absurd rfl h2
    · omega), ⟨h3, h4⟩, ly_rng (by omega) h5 h6, h7, h8, h9, Int32.not_lt.mpr h10⟩ h) (fun _ => k))))) (fun _ => k))))))) (fun _ => k)
theorem lf_B_ext {a c o : Int32} {b : Nat} (hb : b < na) (ha : a = nI b) (h0 : 0 < nl) (hns : ns < 12) (hB : lf_B na n nl ns F L Lo Hi lLo lHi lF lC sl sk sa sc sv kd ar co va dA dC dO) :
    lf_B na n nl (ns + 1) (lf_un F nl (ns + 1)) (lf_un L ns (nl - 1)) Lo Hi lLo lHi lF (upd lC (nl - 1) (lC (nl - 1) + 1)) (upd sl ns (nI (nl - 1)))
      (upd (upd (upd sk (3 * ns) 0) (3 * ns + 1) 0) (3 * ns + 2) 2) (upd (upd (upd sa (3 * ns) (-1)) (3 * ns + 1) (-1)) (3 * ns + 2) a) (upd (upd (upd sc (3 * ns) 0) (3 * ns + 1) 0) (3 * ns + 2) c) (upd (upd (upd sv (3 * ns) 0) (3 * ns + 1) 0) (3 * ns + 2) o)
      (upd (upd kd (2 * ns) 0) (2 * ns + 1) 0) (upd (upd ar (2 * ns) (-1)) (2 * ns + 1) (-1)) (upd (upd co (2 * ns) 0) (2 * ns + 1) 0) (upd (upd va (2 * ns) 0) (2 * ns + 1) 0) (upd dA ns a) (upd dC ns c) (upd dO ns o) :=
  ⟨⟨hB.1.1, hB.1.2.1, hB.1.2.2.1, hB.1.2.2.2.1, hB.1.2.2.2.2.1, by omega⟩, lf_PT_ext h0 hB.2.1, lf_LP_ext h0 hB.2.1.2.1 (lf_PT_le hB.2.1 (by omega)) hB.2.2.1, lf_sl_ext hB.2.2.2.1, lf_SR_add hB.2.2.2.2.1, lf_WF_add ⟨b, hb, ha⟩ hB.2.2.2.2.2⟩
theorem ly_add134 {post : Int32 → SY → Prop} (hl : nl ≤ 8) (h0 : 0 < nl) (hns : ns < 12)
    (k : post (nI ns) (nI na, nI n, nI nl, nI (ns + 1), ph, gY, rc, tmp, con, lLo, lHi, lF, upd lC (nl - 1) (lC (nl - 1) + 1), yg, yj, yd, sl, so, dA, dC, dO, upd (upd kd (2 * ns) 0) (2 * ns + 1) 0, upd (upd ar (2 * ns) (-1)) (2 * ns + 1) (-1), upd (upd co (2 * ns) 0) (2 * ns + 1) 0, upd (upd va (2 * ns) 0) (2 * ns + 1) 0, ini, ori, fus, sca)) :
    ∃ m, wY_addStatement_134 post (nI na) (nI n) (nI nl) (nI ns) ph gY rc m 0 tmp con lLo lHi lF lC yg yj yd sl so dA dC dO kd ar co va ini ori fus sca := by
  have i0 : vp_in (nI ns * 2 + 0) 24 := by rw [lf_m2, Int32.add_zero]; exact vp_in_nI (by omega) (by decide)
  have i1 : vp_in (nI ns * 2 + 1) 24 := by rw [lf_m2, nI_1]; exact vp_in_nI (by omega) (by decide)
  have e0 : (nI ns * 2 + 0).toNatClampNeg = 2 * ns := by rw [lf_m2, Int32.add_zero]; exact nI_clamp (by omega)
  have e1 : (nI ns * 2 + 1).toNatClampNeg = 2 * ns + 1 := by rw [lf_m2, nI_1]; exact nI_clamp (by omega)
  have il : vp_in (nI nl - 1) 8 := by rw [lf_p1 h0]; exact vp_in_nI (by omega) (by decide)
  have el : (nI nl - 1).toNatClampNeg = nl - 1 := by rw [lf_p1 h0]; exact nI_clamp (by omega)
  refine ⟨3, br_f (by decide) ⟨i0, nm_r (by rw [e0]) ⟨i0, nm_r (by rw [e0]) ⟨i0, nm_r (by rw [e0]) ⟨i0, nm_r (by rw [e0]) (nm_r (show (0 : Int32) + 1 = 1 from by decide) ?_)⟩⟩⟩⟩⟩
  refine br_f (by decide) ⟨i1, nm_r (by rw [e1]) ⟨i1, nm_r (by rw [e1]) ⟨i1, nm_r (by rw [e1]) ⟨i1, nm_r (by rw [e1]) (nm_r (show (1 : Int32) + 1 = 2 from by decide) ?_)⟩⟩⟩⟩
  refine br_t (by decide) ⟨il, il, nm_r (by rw [el]) (nm_r (nI_1 ns) ?_)⟩
  rw [nI_pred]
  exact k
theorem lz_addStmt {k : Nat} (hB : lf_B na n nl ns F L Lo Hi lLo lHi lF lC sl sk sa sc sv kd ar co va dA dC dO) (hs : ∀ j, na ≤ j → sca j = 0) (hP : lf_P0 nl ph gX gY xg xj xd ∨ lf_P1 nl ph gX gY xg xj xd gf gl yg yj yd) (v a c o : Int32) :
    wpX_addStatement (fun r u' => wpY_addStatement (fun r' v' => r' = r ∧ i_Rel (k + 5) u' v') (nI na, nI n, nI nl, nI ns, ph, gY, rc, tmp, con, lLo, lHi, lF, lC, yg, yj, yd, sl, so, dA, dC, dO, kd, ar, co, va, ini, ori, fus, sca) v a c o) (nI na, nI n, ph, nI nl, nI ns, gX, rc, tmp, con, sca, ini, ori, fus, lLo, lHi, lF, lC, xg, xj, xd, gf, gl, sl, so, sk, sa, sc, sv) v a c o := by
  have hn : na ≤ 6 := hB.1.2.1
  have hl : nl ≤ 8 := hB.1.2.2.2.2.1
  have hns : ns ≤ 12 := hB.1.2.2.2.2.2
  by_cases h : lf_okS na nl ns ph v a c o
  · obtain ⟨h0, h1, h2, ⟨h3, h4⟩, h5⟩ := h
    obtain ⟨⟨b, hb, ea⟩, h6, h7, h8, h9⟩ := id h5
    have i1 : vp_in (nI ns) 12 := vp_in_nI h2 (by decide)
    have e1 : (nI ns).toNatClampNeg = ns := nI_clamp (by omega)
    have il : vp_in (nI nl - 1) 8 := by rw [lf_p1 h1]; exact vp_in_nI (by omega) (by decide)
    have el : (nI nl - 1).toNatClampNeg = nl - 1 := by rw [lf_p1 h1]; exact nI_clamp (by omega)
    refine br_t h0 (br_f (nI_ne0 h1 (by omega)) (br_t (nI_lt (b := 12) h2 (by decide)) (lx_with1 h3 h4 (br_f lf_10 (lx_ref1 hn h5 (br_f lf_10 ?_))))))
    refine nm_r (lf_m3 ns) ⟨i1, nm_r (by rw [e1, lf_p1 h1]) ⟨i1, nm_r (by rw [e1]) ?_⟩⟩
    refine lx_fill (by omega) ?_
    dsimp only
    rw [nI_1 (3 * ns)]
    refine lx_fill (by omega) ?_
    dsimp only
    rw [lf_a2 (3 * ns)]
    refine lx_fill (by omega) ?_
    refine ⟨il, il, nm_r (by rw [el]) (nm_r (nI_1 ns) ?_)⟩
    refine br_t h0 (br_f (nI_ne0 h1 (by omega)) (br_f (lf_eq1 (b := 12) (by omega) (by decide) (by omega)) (br_f h3 (br_f h4 ?_))))
    subst ea
    refine br_f (nI_pos (by omega)) (br_t (nI_lt hb (by omega)) (br_f h6 (br_f h7 (br_f h8 (br_t (Int32.not_lt.mp h9) ?_)))))
    refine ⟨i1, nm_r (by rw [e1, lf_p1 h1]) ⟨i1, nm_r (by rw [e1]) ⟨i1, nm_r (by rw [e1]) ⟨i1, nm_r (by rw [e1]) ⟨i1, nm_r (by rw [e1]) ?_⟩⟩⟩⟩⟩
    exact ly_add134 hl h1 h2 ⟨rfl, lf_mk (lf_B_ext hb rfl h1 h2 hB) hs hP⟩
  · exact lx_addStmt_r hn hl hns h (ly_addStmt_r hn hl hns h ⟨rfl, lf_mk hB hs hP⟩)
theorem i_vc_addStatement {k : Nat} {u : SX} {v : SY} (I : i_Rel k u v) (hk : k + 5 ≤ 2562) (v1 : Int32) (v2 : Int32) (v3 : Int32) (v4 : Int32) : wpX_addStatement (fun r u' => wpY_addStatement (fun r' v' => r' = r ∧ i_Rel (k + 5) u' v') v v1 v2 v3 v4) u v1 v2 v3 v4 := by
  obtain ⟨na, n, nl, ns, F, L, Lo, Hi, ph, gX, gY, rc, tmp, con, sca, ini, ori, fus, lLo, lHi, lF, lC, xg, xj, xd, gf, gl, sl, so, sk, sa, sc, sv, yg, yj, yd, dA, dC, dO, kd, ar, co, va, rfl, rfl, hB, hs, hP⟩ := I
  exact lz_addStmt hB hs hP v1 v2 v3 v4
end LFS
end
section
section LFT
variable {na n nl ns : Nat} {ph gX gY rc : Int32} {tmp con sca ini ori fus lLo lHi lF lC xg xj xd gf gl sl so sk sa sc sv yg yj yd dA dC dO kd ar co va : Nat → Int32} {F L Lo Hi G gp : Nat → Nat}
/-! operands -/
def lf_okO (na ns : Nat) (ph v a c o : Int32) : Prop := ph = 0 ∧ 0 < ns ∧ (∃ w, w < 2 ∧ v = nI w) ∧ lf_ok na a c o
theorem lf_w2 {v : Int32} (h : ¬ v < 0) (h2 : v ≤ 1) : ∃ w, w < 2 ∧ v = nI w := by
  obtain ⟨a, ha, e⟩ := lf_15 (m := 1) (by decide) h (Int32.not_lt.mpr h2)
  exact ⟨a, by omega, e⟩
theorem lf_ne12 {m : Nat} (h : ¬ nI m = 0) : 0 < m := by
  by_cases z : m = 0
  · subst z; exact absurd rfl h
  · omega
theorem lx_setArr_r {post : Int32 → SX → Prop} {v a c o : Int32} (hn : na ≤ 6) (hns : ns ≤ 12) (h : ¬ lf_okO na ns ph v a c o) (k : post 0 (nI na, nI n, ph, nI nl, nI ns, gX, rc, tmp, con, sca, ini, ori, fus, lLo, lHi, lF, lC, xg, xj, xd, gf, gl, sl, so, sk, sa, sc, sv)) : wpX_setArrayOperand post (nI na, nI n, ph, nI nl, nI ns, gX, rc, tmp, con, sca, ini, ori, fus, lLo, lHi, lF, lC, xg, xj, xd, gf, gl, sl, so, sk, sa, sc, sv) v a c o := by
  unfold wpX_setArrayOperand
  exact lx_can hns (fun h0 h1 h2 => br_f lf_10 (lx_ref hn (fun h3 => absurd ⟨h0, h1, h2, h3⟩ h) (br_t rfl k))) (br_t rfl k)
theorem ly_setArr_r {post : Int32 → SY → Prop} {v a c o : Int32} (hn : na ≤ 6) (hns : ns ≤ 12) (h : ¬ lf_okO na ns ph v a c o) (k : post 0 (nI na, nI n, nI nl, nI ns, ph, gY, rc, tmp, con, lLo, lHi, lF, lC, yg, yj, yd, sl, so, dA, dC, dO, kd, ar, co, va, ini, ori, fus, sca)) : wpY_setArrayOperand post (nI na, nI n, nI nl, nI ns, ph, gY, rc, tmp, con, lLo, lHi, lF, lC, yg, yj, yd, sl, so, dA, dC, dO, kd, ar, co, va, ini, ori, fus, sca) v a c o :=
  br_c (fun h0 => br_c (fun _ => k) (fun h1 => br_c (fun _ => k) (fun h2 => br_c (fun h3 => br_c (fun _ => k) (fun h4 => br_c (fun _ => k) (fun h5 => br_c (fun _ => k) (fun h6 => br_c (fun _ => k) (fun h7 => br_c (fun _ => k) (fun h8 => br_c (fun h9 => absurd ⟨h0, lf_ne12 h1, lf_w2 h2 h3, ly_rng' (by omega) h4 h5, h6, h7, h8, Int32.not_lt.mpr h9⟩ h) (fun _ => k))))))) (fun _ => k)))) (fun _ => k)
theorem lf_B_set {w : Nat} {k a c v : Int32} (hw : w < 2) (hk : k = 0 ∨ k = 1 ∨ (k = 2 ∧ ∃ b, b < na ∧ a = nI b)) (hB : lf_B na n nl ns F L Lo Hi lLo lHi lF lC sl sk sa sc sv kd ar co va dA dC dO) :
    lf_B na n nl ns F L Lo Hi lLo lHi lF lC sl (upd sk (3 * (ns - 1) + w) k) (upd sa (3 * (ns - 1) + w) a) (upd sc (3 * (ns - 1) + w) c) (upd sv (3 * (ns - 1) + w) v) (upd kd (2 * (ns - 1) + w) k) (upd ar (2 * (ns - 1) + w) a) (upd co (2 * (ns - 1) + w) c) (upd va (2 * (ns - 1) + w) v) dA dC dO :=
  ⟨hB.1, hB.2.1, hB.2.2.1, hB.2.2.2.1, lf_SR_set hw hB.2.2.2.2.1, lf_WF_set hk hB.2.2.2.2.2⟩
theorem lf_s3 {m w : Nat} (h : 0 < m) : (nI m - 1) * 3 + nI w = nI (3 * (m - 1) + w) := by rw [lf_p1 h, lf_m3, nI_add]
theorem lf_s2 {m w : Nat} (h : 0 < m) : (nI m - 1) * 2 + nI w = nI (2 * (m - 1) + w) := by rw [lf_p1 h, lf_m2, nI_add]
theorem lf_le1 {w : Nat} (h : w < 2) : nI w ≤ 1 := nI_le (b := 1) (by omega) (by decide)
theorem lz_setArr {k : Nat} (hB : lf_B na n nl ns F L Lo Hi lLo lHi lF lC sl sk sa sc sv kd ar co va dA dC dO) (hs : ∀ j, na ≤ j → sca j = 0) (hP : lf_P0 nl ph gX gY xg xj xd ∨ lf_P1 nl ph gX gY xg xj xd gf gl yg yj yd) (v a c o : Int32) :
    wpX_setArrayOperand (fun r u' => wpY_setArrayOperand (fun r' v' => r' = r ∧ i_Rel (k + 5) u' v') (nI na, nI n, nI nl, nI ns, ph, gY, rc, tmp, con, lLo, lHi, lF, lC, yg, yj, yd, sl, so, dA, dC, dO, kd, ar, co, va, ini, ori, fus, sca) v a c o) (nI na, nI n, ph, nI nl, nI ns, gX, rc, tmp, con, sca, ini, ori, fus, lLo, lHi, lF, lC, xg, xj, xd, gf, gl, sl, so, sk, sa, sc, sv) v a c o := by
  have hn : na ≤ 6 := hB.1.2.1
  have hns : ns ≤ 12 := hB.1.2.2.2.2.2
  by_cases h : lf_okO na ns ph v a c o
  · obtain ⟨h0, h1, ⟨w, hw, rfl⟩, h3⟩ := h
    obtain ⟨⟨b, hb, ea⟩, h6, h7, h8, h9⟩ := id h3
    have ix : vp_in (nI (2 * (ns - 1) + w)) 24 := vp_in_nI (by omega) (by decide)
    have ex : (nI (2 * (ns - 1) + w)).toNatClampNeg = 2 * (ns - 1) + w := nI_clamp (by omega)
    unfold wpX_setArrayOperand
    refine lx_can1 hns h0 h1 hw (br_f lf_10 (lx_ref1 hn h3 (br_f lf_10 (nm_r (lf_s3 h1) ?_))))
    refine lx_fill (by omega) ?_
    refine br_t h0 (br_f (nI_ne0 h1 (by omega)) (br_f (nI_pos (by omega)) (br_t (lf_le1 hw) ?_)))
    subst ea
    refine br_f (nI_pos (by omega)) (br_f (nI_ge hb (by omega)) (br_f h6 (br_f h7 (br_f h8 (br_t (Int32.not_lt.mp h9) (nm_r (lf_s2 h1) ?_))))))
    refine ⟨ix, nm_r (by rw [ex]) ⟨ix, nm_r (by rw [ex]) ⟨ix, nm_r (by rw [ex]) ⟨ix, nm_r (by rw [ex]) ⟨rfl, ?_⟩⟩⟩⟩⟩
    exact lf_mk (lf_B_set hw (Or.inr (Or.inr ⟨rfl, b, hb, rfl⟩)) hB) hs hP
  · exact lx_setArr_r hn hns h (ly_setArr_r hn hns h ⟨rfl, lf_mk hB hs hP⟩)
theorem i_vc_setArrayOperand {k : Nat} {u : SX} {v : SY} (I : i_Rel k u v) (hk : k + 5 ≤ 2562) (v1 : Int32) (v2 : Int32) (v3 : Int32) (v4 : Int32) : wpX_setArrayOperand (fun r u' => wpY_setArrayOperand (fun r' v' => r' = r ∧ i_Rel (k + 5) u' v') v v1 v2 v3 v4) u v1 v2 v3 v4 := by
  obtain ⟨na, n, nl, ns, F, L, Lo, Hi, ph, gX, gY, rc, tmp, con, sca, ini, ori, fus, lLo, lHi, lF, lC, xg, xj, xd, gf, gl, sl, so, sk, sa, sc, sv, yg, yj, yd, dA, dC, dO, kd, ar, co, va, rfl, rfl, hB, hs, hP⟩ := I
  exact lz_setArr hB hs hP v1 v2 v3 v4

/-! values -/
def lf_okV (ns : Nat) (ph v k : Int32) : Prop := ph = 0 ∧ 0 < ns ∧ (∃ w, w < 2 ∧ v = nI w) ∧ (k = 0 ∨ k = 1)
theorem lf_k01 {k : Int32} (h : ¬ k < 0) (h2 : ¬ 1 < k) : k = 0 ∨ k = 1 := by
  obtain ⟨w, hw, rfl⟩ := lf_15 (m := 1) (by decide) h h2
  rcases (show w = 0 ∨ w = 1 by omega) with e | e
  · subst e; exact Or.inl rfl
  · subst e; exact Or.inr rfl
theorem lx_setVal_r {post : Int32 → SX → Prop} {v a c : Int32} (hns : ns ≤ 12) (h : ¬ lf_okV ns ph v a) (k : post 0 (nI na, nI n, ph, nI nl, nI ns, gX, rc, tmp, con, sca, ini, ori, fus, lLo, lHi, lF, lC, xg, xj, xd, gf, gl, sl, so, sk, sa, sc, sv)) : wpX_setValueOperand post (nI na, nI n, ph, nI nl, nI ns, gX, rc, tmp, con, sca, ini, ori, fus, lLo, lHi, lF, lC, xg, xj, xd, gf, gl, sl, so, sk, sa, sc, sv) v a c := by
  unfold wpX_setValueOperand
  exact lx_can hns (fun h0 h1 h2 => br_f lf_10 (lx_with (fun h3 h4 => absurd ⟨h0, h1, h2, lf_k01 h3 h4⟩ h) (br_t rfl k))) (br_t rfl k)
theorem ly_setVal_r {post : Int32 → SY → Prop} {v a c : Int32} (hns : ns ≤ 12) (h : ¬ lf_okV ns ph v a) (k : post 0 (nI na, nI n, nI nl, nI ns, ph, gY, rc, tmp, con, lLo, lHi, lF, lC, yg, yj, yd, sl, so, dA, dC, dO, kd, ar, co, va, ini, ori, fus, sca)) : wpY_setValueOperand post (nI na, nI n, nI nl, nI ns, ph, gY, rc, tmp, con, lLo, lHi, lF, lC, yg, yj, yd, sl, so, dA, dC, dO, kd, ar, co, va, ini, ori, fus, sca) v a c :=
  br_c (fun h0 => br_c (fun _ => k) (fun h1 => br_c (fun _ => k) (fun h2 => br_c (fun h3 => br_c (fun h4 => absurd ⟨h0, lf_ne12 h1, lf_w2 h2 h3, Or.inl h4⟩ h) (fun _ => br_c (fun h4 => absurd ⟨h0, lf_ne12 h1, lf_w2 h2 h3, Or.inr h4⟩ h) (fun _ => k))) (fun _ => k)))) (fun _ => k)
theorem ly_setVal36 {post : Int32 → SY → Prop} {w : Nat} {a c : Int32} (h1 : 0 < ns) (hns : ns ≤ 12) (hw : w < 2) (k : post 1 (nI na, nI n, nI nl, nI ns, ph, gY, rc, tmp, con, lLo, lHi, lF, lC, yg, yj, yd, sl, so, dA, dC, dO, upd kd (2 * (ns - 1) + w) a, upd ar (2 * (ns - 1) + w) (-1), upd co (2 * (ns - 1) + w) 0, upd va (2 * (ns - 1) + w) c, ini, ori, fus, sca)) : wY_setValueOperand_36 post (nI w) a c (nI na) (nI n) (nI nl) (nI ns) ph gY rc tmp con lLo lHi lF lC yg yj yd sl so dA dC dO kd ar co va ini ori fus sca := by
  have ix : vp_in (nI (2 * (ns - 1) + w)) 24 := vp_in_nI (by omega) (by decide)
  have ex : (nI (2 * (ns - 1) + w)).toNatClampNeg = 2 * (ns - 1) + w := nI_clamp (by omega)
  exact nm_r (lf_s2 h1) ⟨ix, nm_r (by rw [ex]) ⟨ix, nm_r (by rw [ex]) ⟨ix, nm_r (by rw [ex]) ⟨ix, nm_r (by rw [ex]) k⟩⟩⟩⟩
theorem lz_setVal {k : Nat} (hB : lf_B na n nl ns F L Lo Hi lLo lHi lF lC sl sk sa sc sv kd ar co va dA dC dO) (hs : ∀ j, na ≤ j → sca j = 0) (hP : lf_P0 nl ph gX gY xg xj xd ∨ lf_P1 nl ph gX gY xg xj xd gf gl yg yj yd) (v a c : Int32) :
    wpX_setValueOperand (fun r u' => wpY_setValueOperand (fun r' v' => r' = r ∧ i_Rel (k + 5) u' v') (nI na, nI n, nI nl, nI ns, ph, gY, rc, tmp, con, lLo, lHi, lF, lC, yg, yj, yd, sl, so, dA, dC, dO, kd, ar, co, va, ini, ori, fus, sca) v a c) (nI na, nI n, ph, nI nl, nI ns, gX, rc, tmp, con, sca, ini, ori, fus, lLo, lHi, lF, lC, xg, xj, xd, gf, gl, sl, so, sk, sa, sc, sv) v a c := by
  have hns : ns ≤ 12 := hB.1.2.2.2.2.2
  by_cases h : lf_okV ns ph v a
  · obtain ⟨h0, h1, ⟨w, hw, rfl⟩, h3⟩ := h
    have hR : i_Rel (k + 5) (nI na, nI n, ph, nI nl, nI ns, gX, rc, tmp, con, sca, ini, ori, fus, lLo, lHi, lF, lC, xg, xj, xd, gf, gl, sl, so, upd sk (3 * (ns - 1) + w) a, upd sa (3 * (ns - 1) + w) (-1), upd sc (3 * (ns - 1) + w) 0, upd sv (3 * (ns - 1) + w) c) (nI na, nI n, nI nl, nI ns, ph, gY, rc, tmp, con, lLo, lHi, lF, lC, yg, yj, yd, sl, so, dA, dC, dO, upd kd (2 * (ns - 1) + w) a, upd ar (2 * (ns - 1) + w) (-1), upd co (2 * (ns - 1) + w) 0, upd va (2 * (ns - 1) + w) c, ini, ori, fus, sca) :=
      lf_mk (lf_B_set hw (h3.elim Or.inl (fun z => Or.inr (Or.inl z))) hB) hs hP
    have h4 : ¬ a < 0 ∧ ¬ 1 < a := by
      rcases h3 with e | e
      · subst e; decide
      · subst e; decide
    unfold wpX_setValueOperand
    refine lx_can1 hns h0 h1 hw (br_f lf_10 (lx_with1 h4.1 h4.2 (br_f lf_10 (nm_r (lf_s3 h1) ?_))))
    refine lx_fill (by omega) ?_
    refine br_t h0 (br_f (nI_ne0 h1 (by omega)) (br_f (nI_pos (by omega)) (br_t (lf_le1 hw) ?_)))
    exact br_c (fun _ => ly_setVal36 h1 hns hw ⟨rfl, hR⟩) (fun h5 => br_t (h3.resolve_left h5) (ly_setVal36 h1 hns hw ⟨rfl, hR⟩))
  · exact lx_setVal_r hns h (ly_setVal_r hns h ⟨rfl, lf_mk hB hs hP⟩)
theorem i_vc_setValueOperand {k : Nat} {u : SX} {v : SY} (I : i_Rel k u v) (hk : k + 5 ≤ 2562) (v1 : Int32) (v2 : Int32) (v3 : Int32) : wpX_setValueOperand (fun r u' => wpY_setValueOperand (fun r' v' => r' = r ∧ i_Rel (k + 5) u' v') v v1 v2 v3) u v1 v2 v3 := by
  obtain ⟨na, n, nl, ns, F, L, Lo, Hi, ph, gX, gY, rc, tmp, con, sca, ini, ori, fus, lLo, lHi, lF, lC, xg, xj, xd, gf, gl, sl, so, sk, sa, sc, sv, yg, yj, yd, dA, dC, dO, kd, ar, co, va, rfl, rfl, hB, hs, hP⟩ := I
  exact lz_setVal hB hs hP v1 v2 v3

/-! cells -/
theorem lf_ci {a j : Nat} (ha : a < na) (hj : j < n) (hna : na ≤ 6) (hn : n ≤ 16) : vp_in (nI a * 16 + nI j) 96 := by
  rw [lf_16]; exact vp_in_nI (by omega) (by decide)
theorem ly_setInit_r {post : Int32 → SY → Prop} {v w c : Int32} (hna : na ≤ 6) (hn : n ≤ 16) (h : ¬ ∃ a j, a < na ∧ j < n ∧ v = nI a ∧ w = nI j) (k : post 0 (nI na, nI n, nI nl, nI ns, ph, gY, rc, tmp, con, lLo, lHi, lF, lC, yg, yj, yd, sl, so, dA, dC, dO, kd, ar, co, va, ini, ori, fus, sca)) : wpY_setInit post (nI na, nI n, nI nl, nI ns, ph, gY, rc, tmp, con, lLo, lHi, lF, lC, yg, yj, yd, sl, so, dA, dC, dO, kd, ar, co, va, ini, ori, fus, sca) v w c :=
  br_c (fun _ => k) (fun h0 => br_c (fun _ => k) (fun h1 => br_c (fun _ => k) (fun h2 => br_c (fun h3 => by
    obtain ⟨a, ha, e⟩ := ly_rng' (by omega) h0 h1
    obtain ⟨j, hj, e2⟩ := ly_rng (by omega) h2 h3
    exact absurd ⟨a, j, ha, hj, e, e2⟩ h) (fun _ => k))))
theorem lz_setInit {k : Nat} (hB : lf_B na n nl ns F L Lo Hi lLo lHi lF lC sl sk sa sc sv kd ar co va dA dC dO) (hs : ∀ j, na ≤ j → sca j = 0) (hP : lf_P0 nl ph gX gY xg xj xd ∨ lf_P1 nl ph gX gY xg xj xd gf gl yg yj yd) (v w c : Int32) :
    wpX_setInit (fun r u' => wpY_setInit (fun r' v' => r' = r ∧ i_Rel (k + 5) u' v') (nI na, nI n, nI nl, nI ns, ph, gY, rc, tmp, con, lLo, lHi, lF, lC, yg, yj, yd, sl, so, dA, dC, dO, kd, ar, co, va, ini, ori, fus, sca) v w c) (nI na, nI n, ph, nI nl, nI ns, gX, rc, tmp, con, sca, ini, ori, fus, lLo, lHi, lF, lC, xg, xj, xd, gf, gl, sl, so, sk, sa, sc, sv) v w c := by
  have hna : na ≤ 6 := hB.1.2.1
  have hn : n ≤ 16 := hB.1.2.2.2.1
  unfold wpX_setInit
  by_cases h : ∃ a j, a < na ∧ j < n ∧ v = nI a ∧ w = nI j
  · obtain ⟨a, j, ha, hj, rfl, rfl⟩ := h
    refine lx_cell1 ha hj hna hn (br_f lf_10 ⟨lf_ci ha hj hna hn, nm_e ?_⟩)
    exact br_f (nI_pos (by omega)) (br_f (nI_ge ha (by omega)) (br_f (nI_pos (by omega)) (br_t (nI_lt hj (by omega)) ⟨lf_ci ha hj hna hn, nm_e ⟨rfl, lf_mk hB hs hP⟩⟩)))
  · exact lx_cell0 h hna hn (br_t rfl (ly_setInit_r hna hn h ⟨rfl, lf_mk hB hs hP⟩))
theorem i_vc_setInit {k : Nat} {u : SX} {v : SY} (I : i_Rel k u v) (hk : k + 5 ≤ 2562) (v1 : Int32) (v2 : Int32) (v3 : Int32) : wpX_setInit (fun r u' => wpY_setInit (fun r' v' => r' = r ∧ i_Rel (k + 5) u' v') v v1 v2 v3) u v1 v2 v3 := by
  obtain ⟨na, n, nl, ns, F, L, Lo, Hi, ph, gX, gY, rc, tmp, con, sca, ini, ori, fus, lLo, lHi, lF, lC, xg, xj, xd, gf, gl, sl, so, sk, sa, sc, sv, yg, yj, yd, dA, dC, dO, kd, ar, co, va, rfl, rfl, hB, hs, hP⟩ := I
  exact lz_setInit hB hs hP v1 v2 v3

theorem ly_getInit_r {post : Int32 → Prop} {v w : Int32} (hna : na ≤ 6) (hn : n ≤ 16) (h : ¬ ∃ a j, a < na ∧ j < n ∧ v = nI a ∧ w = nI j) (k : post 0) : wpY_getInit post (nI na, nI n, nI nl, nI ns, ph, gY, rc, tmp, con, lLo, lHi, lF, lC, yg, yj, yd, sl, so, dA, dC, dO, kd, ar, co, va, ini, ori, fus, sca) v w :=
  br_c (fun _ => k) (fun h0 => br_c (fun _ => k) (fun h1 => br_c (fun _ => k) (fun h2 => br_c (fun h3 => by
    obtain ⟨a, ha, e⟩ := ly_rng' (by omega) h0 h1
    obtain ⟨j, hj, e2⟩ := ly_rng (by omega) h2 h3
    exact absurd ⟨a, j, ha, hj, e, e2⟩ h) (fun _ => k))))
theorem lz_getInit {P : Prop} (hna : na ≤ 6) (hn : n ≤ 16) (hR : P) (v w : Int32) : wpX_getInit (fun r => wpY_getInit (fun r' => r' = r ∧ P) (nI na, nI n, nI nl, nI ns, ph, gY, rc, tmp, con, lLo, lHi, lF, lC, yg, yj, yd, sl, so, dA, dC, dO, kd, ar, co, va, ini, ori, fus, sca) v w) (nI na, nI n, ph, nI nl, nI ns, gX, rc, tmp, con, sca, ini, ori, fus, lLo, lHi, lF, lC, xg, xj, xd, gf, gl, sl, so, sk, sa, sc, sv) v w := by
  unfold wpX_getInit
  by_cases h : ∃ a j, a < na ∧ j < n ∧ v = nI a ∧ w = nI j
  · obtain ⟨a, j, ha, hj, rfl, rfl⟩ := h
    refine lx_cell1 ha hj hna hn (br_f lf_10 ⟨lf_ci ha hj hna hn, ?_⟩)
    exact br_f (nI_pos (by omega)) (br_f (nI_ge ha (by omega)) (br_f (nI_pos (by omega)) (br_t (nI_lt hj (by omega)) ⟨lf_ci ha hj hna hn, rfl, hR⟩)))
  · exact lx_cell0 h hna hn (br_t rfl (ly_getInit_r hna hn h ⟨rfl, hR⟩))
theorem i_vc_getInit {k : Nat} {u : SX} {v : SY} (I : i_Rel k u v) (hk : k + 5 ≤ 2562) (v1 : Int32) (v2 : Int32) : wpX_getInit (fun r => wpY_getInit (fun r' => r' = r ∧ i_Rel (k + 5) u v) v v1 v2) u v1 v2 := by
  have hR : i_Rel (k + 5) u v := I
  obtain ⟨na, n, nl, ns, F, L, Lo, Hi, ph, gX, gY, rc, tmp, con, sca, ini, ori, fus, lLo, lHi, lF, lC, xg, xj, xd, gf, gl, sl, so, sk, sa, sc, sv, yg, yj, yd, dA, dC, dO, kd, ar, co, va, rfl, rfl, hB, hs, hP⟩ := I
  exact lz_getInit hB.1.2.1 hB.1.2.2.2.1 hR v1 v2

theorem ly_getOriginal_r {post : Int32 → Prop} {v w : Int32} (hna : na ≤ 6) (hn : n ≤ 16) (h : ¬ ∃ a j, a < na ∧ j < n ∧ v = nI a ∧ w = nI j) (k : post 0) : wpY_getOriginal post (nI na, nI n, nI nl, nI ns, ph, gY, rc, tmp, con, lLo, lHi, lF, lC, yg, yj, yd, sl, so, dA, dC, dO, kd, ar, co, va, ini, ori, fus, sca) v w :=
  br_c (fun _ => k) (fun h0 => br_c (fun _ => k) (fun h1 => br_c (fun _ => k) (fun h2 => br_c (fun h3 => by
    obtain ⟨a, ha, e⟩ := ly_rng' (by omega) h0 h1
    obtain ⟨j, hj, e2⟩ := ly_rng (by omega) h2 h3
    exact absurd ⟨a, j, ha, hj, e, e2⟩ h) (fun _ => k))))
theorem lz_getOriginal {P : Prop} (hna : na ≤ 6) (hn : n ≤ 16) (hR : P) (v w : Int32) : wpX_getOriginal (fun r => wpY_getOriginal (fun r' => r' = r ∧ P) (nI na, nI n, nI nl, nI ns, ph, gY, rc, tmp, con, lLo, lHi, lF, lC, yg, yj, yd, sl, so, dA, dC, dO, kd, ar, co, va, ini, ori, fus, sca) v w) (nI na, nI n, ph, nI nl, nI ns, gX, rc, tmp, con, sca, ini, ori, fus, lLo, lHi, lF, lC, xg, xj, xd, gf, gl, sl, so, sk, sa, sc, sv) v w := by
  unfold wpX_getOriginal
  by_cases h : ∃ a j, a < na ∧ j < n ∧ v = nI a ∧ w = nI j
  · obtain ⟨a, j, ha, hj, rfl, rfl⟩ := h
    refine lx_cell1 ha hj hna hn (br_f lf_10 ⟨lf_ci ha hj hna hn, ?_⟩)
    exact br_f (nI_pos (by omega)) (br_f (nI_ge ha (by omega)) (br_f (nI_pos (by omega)) (br_t (nI_lt hj (by omega)) ⟨lf_ci ha hj hna hn, rfl, hR⟩)))
  · exact lx_cell0 h hna hn (br_t rfl (ly_getOriginal_r hna hn h ⟨rfl, hR⟩))
theorem i_vc_getOriginal {k : Nat} {u : SX} {v : SY} (I : i_Rel k u v) (hk : k + 5 ≤ 2562) (v1 : Int32) (v2 : Int32) : wpX_getOriginal (fun r => wpY_getOriginal (fun r' => r' = r ∧ i_Rel (k + 5) u v) v v1 v2) u v1 v2 := by
  have hR : i_Rel (k + 5) u v := I
  obtain ⟨na, n, nl, ns, F, L, Lo, Hi, ph, gX, gY, rc, tmp, con, sca, ini, ori, fus, lLo, lHi, lF, lC, xg, xj, xd, gf, gl, sl, so, sk, sa, sc, sv, yg, yj, yd, dA, dC, dO, kd, ar, co, va, rfl, rfl, hB, hs, hP⟩ := I
  exact lz_getOriginal hB.1.2.1 hB.1.2.2.2.1 hR v1 v2

theorem ly_getFused_r {post : Int32 → Prop} {v w : Int32} (hna : na ≤ 6) (hn : n ≤ 16) (h : ¬ ∃ a j, a < na ∧ j < n ∧ v = nI a ∧ w = nI j) (k : post 0) : wpY_getFused post (nI na, nI n, nI nl, nI ns, ph, gY, rc, tmp, con, lLo, lHi, lF, lC, yg, yj, yd, sl, so, dA, dC, dO, kd, ar, co, va, ini, ori, fus, sca) v w :=
  br_c (fun _ => k) (fun h0 => br_c (fun _ => k) (fun h1 => br_c (fun _ => k) (fun h2 => br_c (fun h3 => by
    obtain ⟨a, ha, e⟩ := ly_rng' (by omega) h0 h1
    obtain ⟨j, hj, e2⟩ := ly_rng (by omega) h2 h3
    exact absurd ⟨a, j, ha, hj, e, e2⟩ h) (fun _ => k))))
theorem lz_getFused {P : Prop} (hna : na ≤ 6) (hn : n ≤ 16) (hR : P) (v w : Int32) : wpX_getFused (fun r => wpY_getFused (fun r' => r' = r ∧ P) (nI na, nI n, nI nl, nI ns, ph, gY, rc, tmp, con, lLo, lHi, lF, lC, yg, yj, yd, sl, so, dA, dC, dO, kd, ar, co, va, ini, ori, fus, sca) v w) (nI na, nI n, ph, nI nl, nI ns, gX, rc, tmp, con, sca, ini, ori, fus, lLo, lHi, lF, lC, xg, xj, xd, gf, gl, sl, so, sk, sa, sc, sv) v w := by
  unfold wpX_getFused
  by_cases h : ∃ a j, a < na ∧ j < n ∧ v = nI a ∧ w = nI j
  · obtain ⟨a, j, ha, hj, rfl, rfl⟩ := h
    refine lx_cell1 ha hj hna hn (br_f lf_10 ⟨lf_ci ha hj hna hn, ?_⟩)
    exact br_f (nI_pos (by omega)) (br_f (nI_ge ha (by omega)) (br_f (nI_pos (by omega)) (br_t (nI_lt hj (by omega)) ⟨lf_ci ha hj hna hn, rfl, hR⟩)))
  · exact lx_cell0 h hna hn (br_t rfl (ly_getFused_r hna hn h ⟨rfl, hR⟩))
theorem i_vc_getFused {k : Nat} {u : SX} {v : SY} (I : i_Rel k u v) (hk : k + 5 ≤ 2562) (v1 : Int32) (v2 : Int32) : wpX_getFused (fun r => wpY_getFused (fun r' => r' = r ∧ i_Rel (k + 5) u v) v v1 v2) u v1 v2 := by
  have hR : i_Rel (k + 5) u v := I
  obtain ⟨na, n, nl, ns, F, L, Lo, Hi, ph, gX, gY, rc, tmp, con, sca, ini, ori, fus, lLo, lHi, lF, lC, xg, xj, xd, gf, gl, sl, so, sk, sa, sc, sv, yg, yj, yd, dA, dC, dO, kd, ar, co, va, rfl, rfl, hB, hs, hP⟩ := I
  exact lz_getFused hB.1.2.1 hB.1.2.2.2.1 hR v1 v2

end LFT
end
section
section LFU
variable {na n nl ns : Nat} {ph gX gY rc : Int32} {tmp con sca ini ori fus lLo lHi lF lC xg xj xd gf gl sl so sk sa sc sv yg yj yd dA dC dO kd ar co va : Nat → Int32} {F L Lo Hi G gp : Nat → Nat}
theorem lf_na : ∀ a b : Int32, ¬ a = b → ¬ b = a := fun _ _ h z => h z.symm
theorem lx_cc {post : Int32 → Prop} (hna : na ≤ 6) (k : post (lf_cc na con)) : ∀ d i, i + d = na → wX_countContracted_4 post (nI na) (nI n) ph (nI nl) (nI ns) gX rc tmp con sca ini ori fus lLo lHi lF lC xg xj xd gf gl sl so sk sa sc sv (d + 1) (lf_to (fun x d => if con x = 0 then d else d + 1) 0 i 0) (nI i) := by
  intro d
  induction d with
  | zero =>
    intro i hi
    obtain rfl : i = na := by omega
    exact br_t (lf_rfl _) k
  | succ d ih =>
    intro i hi
    have h := ih (i + 1) (by omega)
    rw [lf_to_s (Nat.zero_le _)] at h
    refine br_f (nI_ge (by omega) (by omega)) ⟨vp_in_nI (by omega) (by decide), br_c (fun e => ?_) (fun e => ?_)⟩
    · rw [nI_clamp (by omega)] at e
      rw [if_pos e] at h
      exact nm_r (nI_1 i) h
    · rw [nI_clamp (by omega)] at e
      rw [if_neg e] at h
      exact nm_e (nm_r (nI_1 i) h)
theorem ly_cc {post : Int32 → Prop} (hna : na ≤ 6) (k : post (lf_cc na con)) : ∀ d i, i + d = na → wY_query_59 post (nI na) (nI n) (nI nl) (nI ns) ph gY rc tmp con lLo lHi lF lC yg yj yd sl so dA dC dO kd ar co va ini ori fus sca (d + 1) (lf_to (fun x d => if con x = 0 then d else d + 1) 0 i 0) (nI i) := by
  intro d
  induction d with
  | zero =>
    intro i hi
    obtain rfl : i = na := by omega
    exact br_t (lf_rfl _) k
  | succ d ih =>
    intro i hi
    have h := ih (i + 1) (by omega)
    rw [lf_to_s (Nat.zero_le _)] at h
    refine br_f (nI_ge (by omega) (by omega)) ⟨vp_in_nI (by omega) (by decide), br_c (fun e => ?_) (fun e => ?_)⟩
    · rw [nI_clamp (by omega)] at e
      rw [if_pos e] at h
      exact nm_r (nI_1 i) h
    · rw [nI_clamp (by omega)] at e
      rw [if_neg e] at h
      exact nm_e (nm_r (nI_1 i) h)
theorem lx_count {post : Int32 → Prop} (hna : na ≤ 6) (k : post (lf_cc na con)) : wpX_countContracted post (nI na, nI n, ph, nI nl, nI ns, gX, rc, tmp, con, sca, ini, ori, fus, lLo, lHi, lF, lC, xg, xj, xd, gf, gl, sl, so, sk, sa, sc, sv) := ⟨na + 1, lx_cc hna k na 0 (by omega)⟩

theorem ly_query_o {post : Int32 → Prop} {v : Int32} (h : v < 0 ∨ 7 < v) (k : post (-1000)) : wpY_query post (nI na, nI n, nI nl, nI ns, ph, gY, rc, tmp, con, lLo, lHi, lF, lC, yg, yj, yd, sl, so, dA, dC, dO, kd, ar, co, va, ini, ori, fus, sca) v := by
  have h0' : ¬ v = 0 := by intro z; subst z; revert h; decide
  have h1' : ¬ v = 1 := by intro z; subst z; revert h; decide
  have h2' : ¬ v = 2 := by intro z; subst z; revert h; decide
  have h3' : ¬ v = 3 := by intro z; subst z; revert h; decide
  have h4' : ¬ v = 4 := by intro z; subst z; revert h; decide
  have h5' : ¬ v = 5 := by intro z; subst z; revert h; decide
  have h6' : ¬ v = 6 := by intro z; subst z; revert h; decide
  have h7' : ¬ v = 7 := by intro z; subst z; revert h; decide
  exact br_f h0' (br_f h1' (br_f h2' (br_f h3' (br_f h4' (br_f h5' (br_f h6' (br_f h7' (k))))))))

theorem lz_query {P : Prop} (hna : na ≤ 6) (hP : lf_P0 nl ph gX gY xg xj xd ∨ lf_P1 nl ph gX gY xg xj xd gf gl yg yj yd) (hR : P) (v : Int32) : wpX_query (fun r => wpY_query (fun r' => r' = r ∧ P) (nI na, nI n, nI nl, nI ns, ph, gY, rc, tmp, con, lLo, lHi, lF, lC, yg, yj, yd, sl, so, dA, dC, dO, kd, ar, co, va, ini, ori, fus, sca) v) (nI na, nI n, ph, nI nl, nI ns, gX, rc, tmp, con, sca, ini, ori, fus, lLo, lHi, lF, lC, xg, xj, xd, gf, gl, sl, so, sk, sa, sc, sv) v := by
  have hg : (ph = 0 → 0 = gX) ∧ (¬ ph = 0 → gY = gX) := by
    rcases hP with h | h
    · exact ⟨fun _ => h.2.1.symm, fun z => absurd h.1 z⟩
    · obtain ⟨e, g, G, gp, e1, e2, _⟩ := h
      exact ⟨fun z => absurd (e.symm.trans z) lf_10, fun _ => e2.trans e1.symm⟩
  refine br_c (fun h => ly_query_o (Or.inl h) ⟨rfl, hR⟩) (fun h0 => br_c (fun h => ly_query_o (Or.inr h) ⟨rfl, hR⟩) (fun h7 => br_c (fun e => ?_) (fun _ => br_c (fun e => ?_) (fun _ => br_c (fun e => ?_) (fun _ => br_c (fun e => ?_) (fun _ => br_c (fun e => ?_) (fun _ => br_c (fun e => ?_) (fun _ => br_c (fun e => ?_) (fun _ => br_c (fun e => ?_) (fun _ => trivial))))))))))
  · subst e
    exact br_t rfl (⟨rfl, hR⟩)
  · subst e
    exact br_f (by decide) (br_t rfl (⟨rfl, hR⟩))
  · subst e
    exact br_f (by decide) (br_f (by decide) (br_t rfl (⟨rfl, hR⟩)))
  · subst e
    exact br_f (by decide) (br_f (by decide) (br_f (by decide) (br_t rfl (br_c (fun z => ⟨hg.1 z, hR⟩) (fun z => ⟨hg.2 z, hR⟩)))))
  · subst e
    refine lx_count hna ?_
    exact br_f (by decide) (br_f (by decide) (br_f (by decide) (br_f (by decide) (br_t rfl (⟨na + 1, ly_cc hna ⟨rfl, hR⟩ na 0 (by omega)⟩)))))
  · subst e
    exact br_f (by decide) (br_f (by decide) (br_f (by decide) (br_f (by decide) (br_f (by decide) (br_t rfl (⟨rfl, hR⟩))))))
  · subst e
    exact br_f (by decide) (br_f (by decide) (br_f (by decide) (br_f (by decide) (br_f (by decide) (br_f (by decide) (br_t rfl (⟨rfl, hR⟩)))))))
  · subst e
    exact br_f (by decide) (br_f (by decide) (br_f (by decide) (br_f (by decide) (br_f (by decide) (br_f (by decide) (br_f (by decide) (br_t rfl (⟨rfl, hR⟩))))))))

theorem i_vc_query {k : Nat} {u : SX} {v : SY} (I : i_Rel k u v) (hk : k + 5 ≤ 2562) (v1 : Int32) : wpX_query (fun r => wpY_query (fun r' => r' = r ∧ i_Rel (k + 5) u v) v v1) u v1 := by
  have hR : i_Rel (k + 5) u v := I
  obtain ⟨na, n, nl, ns, F, L, Lo, Hi, ph, gX, gY, rc, tmp, con, sca, ini, ori, fus, lLo, lHi, lF, lC, xg, xj, xd, gf, gl, sl, so, sk, sa, sc, sv, yg, yj, yd, dA, dC, dO, kd, ar, co, va, rfl, rfl, hB, hs, hP⟩ := I
  exact lz_query hB.1.2.1 hP hR v1

theorem ly_li_o {post : Int32 → Prop} {v w z : Int32} (h : v < 0 ∨ 6 < v) (k : post (-1000)) : wY_loopInfo_28 post w v z (nI na) (nI n) (nI nl) (nI ns) ph gY rc tmp con lLo lHi lF lC yg yj yd sl so dA dC dO kd ar co va ini ori fus sca := by
  have h0' : ¬ v = 0 := by intro z; subst z; revert h; decide
  have h1' : ¬ v = 1 := by intro z; subst z; revert h; decide
  have h2' : ¬ v = 2 := by intro z; subst z; revert h; decide
  have h3' : ¬ v = 3 := by intro z; subst z; revert h; decide
  have h4' : ¬ v = 4 := by intro z; subst z; revert h; decide
  have h5' : ¬ v = 5 := by intro z; subst z; revert h; decide
  have h6' : ¬ v = 6 := by intro z; subst z; revert h; decide
  exact br_f h0' (br_f h1' (br_f h2' (br_f h3' (br_f h4' (br_f h5' (br_f h6' (k)))))))

theorem ly_loopInfo_p {post : Int32 → Prop} {l : Nat} {v : Int32} (hl : nl ≤ 8) (h : l < nl) (f : ph = 0 → wY_loopInfo_28 post (nI l) v 1 (nI na) (nI n) (nI nl) (nI ns) ph gY rc tmp con lLo lHi lF lC yg yj yd sl so dA dC dO kd ar co va ini ori fus sca) (g : ¬ ph = 0 → wY_loopInfo_28 post (nI l) v 0 (nI na) (nI n) (nI nl) (nI ns) ph gY rc tmp con lLo lHi lF lC yg yj yd sl so dA dC dO kd ar co va ini ori fus sca) : wpY_loopInfo post (nI na, nI n, nI nl, nI ns, ph, gY, rc, tmp, con, lLo, lHi, lF, lC, yg, yj, yd, sl, so, dA, dC, dO, kd, ar, co, va, ini, ori, fus, sca) (nI l) v :=
  br_f (nI_pos (by omega)) (br_t (nI_lt h (by omega)) (br_c f g))
theorem lz_loopInfo {P : Prop} (hl : nl ≤ 8) (hP : lf_P0 nl ph gX gY xg xj xd ∨ lf_P1 nl ph gX gY xg xj xd gf gl yg yj yd) (hR : P) (v w : Int32) : wpX_loopInfo (fun r => wpY_loopInfo (fun r' => r' = r ∧ P) (nI na, nI n, nI nl, nI ns, ph, gY, rc, tmp, con, lLo, lHi, lF, lC, yg, yj, yd, sl, so, dA, dC, dO, kd, ar, co, va, ini, ori, fus, sca) v w) (nI na, nI n, ph, nI nl, nI ns, gX, rc, tmp, con, sca, ini, ori, fus, lLo, lHi, lF, lC, xg, xj, xd, gf, gl, sl, so, sk, sa, sc, sv) v w := by
  refine br_c (fun h => br_t h ⟨rfl, hR⟩) (fun h0 => br_c (fun h1 => ?_) (fun h1 => br_f h0 (br_f h1 ⟨rfl, hR⟩)))
  obtain ⟨l, hl1, rfl⟩ := ly_rng (by omega) h0 h1
  have hi : vp_in (nI l) 8 := vp_in_nI (by omega) (by decide)
  have ec : (nI l).toNatClampNeg = l := nI_clamp (by omega)
  have hg : (ph = 0 → (-1 : Int32) = xg l ∧ (-1 : Int32) = xj l ∧ (1000 : Int32) = xd l) ∧ (¬ ph = 0 → yg l = xg l ∧ yj l = xj l ∧ yd l = xd l) := by
    rcases hP with h | h
    · obtain ⟨a, b, c⟩ := h.2.2.2 l hl1
      exact ⟨fun _ => ⟨a.symm, b.symm, c.symm⟩, fun z => absurd h.1 z⟩
    · obtain ⟨e, g, G, gp, e1, e2, hG, hJ⟩ := h
      obtain ⟨a, b⟩ := hG.2.2 l hl1
      obtain ⟨c, d⟩ := hJ l hl1
      exact ⟨fun z => absurd (e.symm.trans z) lf_10, fun _ => ⟨b.trans a.symm, c.symm, d.symm⟩⟩
  refine br_c (fun h => ly_loopInfo_p hl hl1 (fun _ => ly_li_o (Or.inl h) ⟨rfl, hR⟩) (fun _ => ly_li_o (Or.inl h) ⟨rfl, hR⟩)) (fun _ => br_c (fun h => ly_loopInfo_p hl hl1 (fun _ => ly_li_o (Or.inr h) ⟨rfl, hR⟩) (fun _ => ly_li_o (Or.inr h) ⟨rfl, hR⟩)) (fun _ => br_c (fun e => ⟨hi, ?_⟩) (fun _ => br_c (fun e => ⟨hi, ?_⟩) (fun _ => br_c (fun e => ⟨hi, ?_⟩) (fun _ => br_c (fun e => ⟨hi, ?_⟩) (fun _ => br_c (fun e => ⟨hi, ?_⟩) (fun _ => br_c (fun e => ⟨hi, ?_⟩) (fun _ => br_c (fun e => ⟨hi, ?_⟩) (fun _ => trivial)))))))))
  · subst e
    exact ly_loopInfo_p hl hl1 (fun _ => br_t rfl (⟨hi, rfl, hR⟩)) (fun _ => br_t rfl (⟨hi, rfl, hR⟩))
  · subst e
    exact ly_loopInfo_p hl hl1 (fun _ => br_f (by decide) (br_t rfl (⟨hi, rfl, hR⟩))) (fun _ => br_f (by decide) (br_t rfl (⟨hi, rfl, hR⟩)))
  · subst e
    exact ly_loopInfo_p hl hl1 (fun _ => br_f (by decide) (br_f (by decide) (br_t rfl (⟨hi, rfl, hR⟩)))) (fun _ => br_f (by decide) (br_f (by decide) (br_t rfl (⟨hi, rfl, hR⟩))))
  · subst e
    exact ly_loopInfo_p hl hl1 (fun _ => br_f (by decide) (br_f (by decide) (br_f (by decide) (br_t rfl (⟨hi, rfl, hR⟩))))) (fun _ => br_f (by decide) (br_f (by decide) (br_f (by decide) (br_t rfl (⟨hi, rfl, hR⟩)))))
  · subst e
    rw [ec]
    exact ly_loopInfo_p hl hl1 (fun z => br_f (by decide) (br_f (by decide) (br_f (by decide) (br_f (by decide) (br_t rfl (br_f lf_10 ⟨(hg.1 z).1, hR⟩)))))) (fun z => br_f (by decide) (br_f (by decide) (br_f (by decide) (br_f (by decide) (br_t rfl (br_t rfl ⟨hi, by rw [ec]; exact (hg.2 z).1, hR⟩))))))
  · subst e
    rw [ec]
    exact ly_loopInfo_p hl hl1 (fun z => br_f (by decide) (br_f (by decide) (br_f (by decide) (br_f (by decide) (br_f (by decide) (br_t rfl (br_f lf_10 ⟨(hg.1 z).2.1, hR⟩))))))) (fun z => br_f (by decide) (br_f (by decide) (br_f (by decide) (br_f (by decide) (br_f (by decide) (br_t rfl (br_t rfl ⟨hi, by rw [ec]; exact (hg.2 z).2.1, hR⟩)))))))
  · subst e
    rw [ec]
    exact ly_loopInfo_p hl hl1 (fun z => br_f (by decide) (br_f (by decide) (br_f (by decide) (br_f (by decide) (br_f (by decide) (br_f (by decide) (br_t rfl (br_f lf_10 ⟨(hg.1 z).2.2, hR⟩)))))))) (fun z => br_f (by decide) (br_f (by decide) (br_f (by decide) (br_f (by decide) (br_f (by decide) (br_f (by decide) (br_t rfl (br_t rfl ⟨hi, by rw [ec]; exact (hg.2 z).2.2, hR⟩))))))))

theorem i_vc_loopInfo {k : Nat} {u : SX} {v : SY} (I : i_Rel k u v) (hk : k + 5 ≤ 2562) (v1 : Int32) (v2 : Int32) : wpX_loopInfo (fun r => wpY_loopInfo (fun r' => r' = r ∧ i_Rel (k + 5) u v) v v1 v2) u v1 v2 := by
  have hR : i_Rel (k + 5) u v := I
  obtain ⟨na, n, nl, ns, F, L, Lo, Hi, ph, gX, gY, rc, tmp, con, sca, ini, ori, fus, lLo, lHi, lF, lC, xg, xj, xd, gf, gl, sl, so, sk, sa, sc, sv, yg, yj, yd, dA, dC, dO, kd, ar, co, va, rfl, rfl, hB, hs, hP⟩ := I
  exact lz_loopInfo hB.1.2.2.2.2.1 hP hR v1 v2

theorem ly_si_o {post : Int32 → Prop} {s : Nat} {v : Int32} (hns : ns ≤ 12) (hs : s < ns) (h : v < 0 ∨ 12 < v) (k : post (-1000)) : wpY_stmtInfo post (nI na, nI n, nI nl, nI ns, ph, gY, rc, tmp, con, lLo, lHi, lF, lC, yg, yj, yd, sl, so, dA, dC, dO, kd, ar, co, va, ini, ori, fus, sca) (nI s) v := by
  have h0' : ¬ v = 0 := by intro z; subst z; revert h; decide
  have h1' : ¬ v = 1 := by intro z; subst z; revert h; decide
  have h2' : ¬ v = 2 := by intro z; subst z; revert h; decide
  have h3' : ¬ v = 3 := by intro z; subst z; revert h; decide
  have h4' : ¬ v = 4 := by intro z; subst z; revert h; decide
  refine br_f (nI_pos (by omega)) (br_t (nI_lt hs (by omega)) (br_f h0' (br_f h1' (br_f h2' (br_f h3' (br_f h4' (br_c (fun _ => k) (fun h5 => br_f ?_ k))))))))
  intro z
  rcases h with h | h
  · rw [lf_lt] at h h5
    rw [show (0 : Int32).toInt = 0 from by decide] at h
    rw [show (5 : Int32).toInt = 5 from by decide] at h5
    omega
  · exact absurd z (Int32.not_le.mpr h)

theorem lz_stmtInfo {P : Prop} (hns : ns ≤ 12) (hSR : lf_SR ns sk sa sc sv kd ar co va dA dC dO) (hR : P) (v w : Int32) : wpX_stmtInfo (fun r => wpY_stmtInfo (fun r' => r' = r ∧ P) (nI na, nI n, nI nl, nI ns, ph, gY, rc, tmp, con, lLo, lHi, lF, lC, yg, yj, yd, sl, so, dA, dC, dO, kd, ar, co, va, ini, ori, fus, sca) v w) (nI na, nI n, ph, nI nl, nI ns, gX, rc, tmp, con, sca, ini, ori, fus, lLo, lHi, lF, lC, xg, xj, xd, gf, gl, sl, so, sk, sa, sc, sv) v w := by
  refine br_c (fun h => br_t h ⟨rfl, hR⟩) (fun h0 => br_c (fun h1 => ?_) (fun h1 => br_f h0 (br_f h1 ⟨rfl, hR⟩)))
  obtain ⟨s, hs1, rfl⟩ := ly_rng (by omega) h0 h1
  have hS := hSR s hs1
  have hi : vp_in (nI s) 12 := vp_in_nI (by omega) (by decide)
  have e1 : (nI s).toNatClampNeg = s := nI_clamp (by omega)
  have i0 : vp_in (nI (3 * s)) 36 := vp_in_nI (by omega) (by decide)
  have e0 : (nI (3 * s)).toNatClampNeg = 3 * s := nI_clamp (by omega)
  have i1 : vp_in (nI (3 * s) + 1) 36 := by rw [nI_1]; exact vp_in_nI (by omega) (by decide)
  have e3 : (nI (3 * s) + 1).toNatClampNeg = 3 * s + 1 := by rw [nI_1]; exact nI_clamp (by omega)
  have i2 : vp_in (nI (3 * s) + 2) 36 := by rw [lf_a2]; exact vp_in_nI (by omega) (by decide)
  have e2 : (nI (3 * s) + 2).toNatClampNeg = 3 * s + 2 := by rw [lf_a2]; exact nI_clamp (by omega)
  have hq0 : vp_in (nI (2 * s + 0)) 24 := vp_in_nI (by omega) (by decide)
  have hq1 : vp_in (nI (2 * s + 1)) 24 := vp_in_nI (by omega) (by decide)
  have eq0 : (nI (2 * s + 0)).toNatClampNeg = 2 * s := nI_clamp (by omega)
  have eq1 : (nI (2 * s + 1)).toNatClampNeg = 2 * s + 1 := nI_clamp (by omega)
  refine nm_r (lf_m3 s) (br_c (fun h => ly_si_o hns hs1 (Or.inl h) ⟨rfl, hR⟩) (fun _ => br_c (fun h => ly_si_o hns hs1 (Or.inr h) ⟨rfl, hR⟩) (fun _ => br_c (fun e => ⟨hi, ?_⟩) (fun _ => br_c (fun e => ⟨hi, ?_⟩) (fun _ => br_c (fun e => ⟨i2, ?_⟩) (fun _ => br_c (fun e => ⟨i2, ?_⟩) (fun _ => br_c (fun e => ⟨i2, ?_⟩) (fun _ => br_c (fun e => ⟨i0, ?_⟩) (fun _ => br_c (fun e => ⟨i0, ?_⟩) (fun _ => br_c (fun e => ⟨i0, ?_⟩) (fun _ => br_c (fun e => ⟨i0, ?_⟩) (fun _ => br_c (fun e => ⟨i1, ?_⟩) (fun _ => br_c (fun e => ⟨i1, ?_⟩) (fun _ => br_c (fun e => ⟨i1, ?_⟩) (fun _ => br_c (fun e => ⟨i1, ?_⟩) (fun _ => trivial))))))))))))))))
  · subst e
    rw [e1]
    exact br_f (nI_pos (by omega)) (br_t (nI_lt hs1 (by omega)) (br_t rfl (⟨hi, by rw [e1], hR⟩)))
  · subst e
    rw [e1]
    exact br_f (nI_pos (by omega)) (br_t (nI_lt hs1 (by omega)) (br_f (by decide) (br_t rfl (⟨hi, by rw [e1], hR⟩))))
  · subst e
    rw [e2]
    exact br_f (nI_pos (by omega)) (br_t (nI_lt hs1 (by omega)) (br_f (by decide) (br_f (by decide) (br_t rfl (⟨hi, by rw [e1]; first | rfl | exact (hS.2.2.2.1).symm, hR⟩)))))
  · subst e
    rw [e2]
    exact br_f (nI_pos (by omega)) (br_t (nI_lt hs1 (by omega)) (br_f (by decide) (br_f (by decide) (br_f (by decide) (br_t rfl (⟨hi, by rw [e1]; first | rfl | exact (hS.2.2.2.2.1).symm, hR⟩))))))
  · subst e
    rw [e2]
    exact br_f (nI_pos (by omega)) (br_t (nI_lt hs1 (by omega)) (br_f (by decide) (br_f (by decide) (br_f (by decide) (br_f (by decide) (br_t rfl (⟨hi, by rw [e1]; first | rfl | exact (hS.2.2.2.2.2).symm, hR⟩)))))))
  · subst e
    rw [e0]
    exact br_f (nI_pos (by omega)) (br_t (nI_lt hs1 (by omega)) (br_f (by decide) (br_f (by decide) (br_f (by decide) (br_f (by decide) (br_f (by decide) (br_f (by decide) (br_t (by decide) (⟨by decide, nm_r (show nI s * 2 + ((5 : Int32) - 5) / 4 = nI (2 * s + 0) from by rw [show ((5 : Int32) - 5) / 4 = nI 0 from by decide, lf_m2, nI_add]) ⟨by decide, nm_r (show ((5 : Int32) - 5) - ((5 : Int32) - 5) / 4 * 4 = 0 from by decide) (br_t (by decide) (⟨hq0, by rw [eq0]; exact (hS.1.1).symm, hR⟩))⟩⟩)))))))))
  · subst e
    rw [e0]
    exact br_f (nI_pos (by omega)) (br_t (nI_lt hs1 (by omega)) (br_f (by decide) (br_f (by decide) (br_f (by decide) (br_f (by decide) (br_f (by decide) (br_f (by decide) (br_t (by decide) (⟨by decide, nm_r (show nI s * 2 + ((6 : Int32) - 5) / 4 = nI (2 * s + 0) from by rw [show ((6 : Int32) - 5) / 4 = nI 0 from by decide, lf_m2, nI_add]) ⟨by decide, nm_r (show ((6 : Int32) - 5) - ((6 : Int32) - 5) / 4 * 4 = 1 from by decide) (br_f (by decide) (br_t (by decide) (⟨hq0, by rw [eq0]; exact (hS.1.2.1).symm, hR⟩)))⟩⟩)))))))))
  · subst e
    rw [e0]
    exact br_f (nI_pos (by omega)) (br_t (nI_lt hs1 (by omega)) (br_f (by decide) (br_f (by decide) (br_f (by decide) (br_f (by decide) (br_f (by decide) (br_f (by decide) (br_t (by decide) (⟨by decide, nm_r (show nI s * 2 + ((7 : Int32) - 5) / 4 = nI (2 * s + 0) from by rw [show ((7 : Int32) - 5) / 4 = nI 0 from by decide, lf_m2, nI_add]) ⟨by decide, nm_r (show ((7 : Int32) - 5) - ((7 : Int32) - 5) / 4 * 4 = 2 from by decide) (br_f (by decide) (br_f (by decide) (br_t (by decide) (⟨hq0, by rw [eq0]; exact (hS.1.2.2.1).symm, hR⟩))))⟩⟩)))))))))
  · subst e
    rw [e0]
    exact br_f (nI_pos (by omega)) (br_t (nI_lt hs1 (by omega)) (br_f (by decide) (br_f (by decide) (br_f (by decide) (br_f (by decide) (br_f (by decide) (br_f (by decide) (br_t (by decide) (⟨by decide, nm_r (show nI s * 2 + ((8 : Int32) - 5) / 4 = nI (2 * s + 0) from by rw [show ((8 : Int32) - 5) / 4 = nI 0 from by decide, lf_m2, nI_add]) ⟨by decide, nm_r (show ((8 : Int32) - 5) - ((8 : Int32) - 5) / 4 * 4 = 3 from by decide) (br_f (by decide) (br_f (by decide) (br_f (by decide) (⟨hq0, by rw [eq0]; exact (hS.1.2.2.2).symm, hR⟩))))⟩⟩)))))))))
  · subst e
    rw [e3]
    exact br_f (nI_pos (by omega)) (br_t (nI_lt hs1 (by omega)) (br_f (by decide) (br_f (by decide) (br_f (by decide) (br_f (by decide) (br_f (by decide) (br_f (by decide) (br_t (by decide) (⟨by decide, nm_r (show nI s * 2 + ((9 : Int32) - 5) / 4 = nI (2 * s + 1) from by rw [show ((9 : Int32) - 5) / 4 = nI 1 from by decide, lf_m2, nI_add]) ⟨by decide, nm_r (show ((9 : Int32) - 5) - ((9 : Int32) - 5) / 4 * 4 = 0 from by decide) (br_t (by decide) (⟨hq1, by rw [eq1]; exact (hS.2.1.1).symm, hR⟩))⟩⟩)))))))))
  · subst e
    rw [e3]
    exact br_f (nI_pos (by omega)) (br_t (nI_lt hs1 (by omega)) (br_f (by decide) (br_f (by decide) (br_f (by decide) (br_f (by decide) (br_f (by decide) (br_f (by decide) (br_t (by decide) (⟨by decide, nm_r (show nI s * 2 + ((10 : Int32) - 5) / 4 = nI (2 * s + 1) from by rw [show ((10 : Int32) - 5) / 4 = nI 1 from by decide, lf_m2, nI_add]) ⟨by decide, nm_r (show ((10 : Int32) - 5) - ((10 : Int32) - 5) / 4 * 4 = 1 from by decide) (br_f (by decide) (br_t (by decide) (⟨hq1, by rw [eq1]; exact (hS.2.1.2.1).symm, hR⟩)))⟩⟩)))))))))
  · subst e
    rw [e3]
    exact br_f (nI_pos (by omega)) (br_t (nI_lt hs1 (by omega)) (br_f (by decide) (br_f (by decide) (br_f (by decide) (br_f (by decide) (br_f (by decide) (br_f (by decide) (br_t (by decide) (⟨by decide, nm_r (show nI s * 2 + ((11 : Int32) - 5) / 4 = nI (2 * s + 1) from by rw [show ((11 : Int32) - 5) / 4 = nI 1 from by decide, lf_m2, nI_add]) ⟨by decide, nm_r (show ((11 : Int32) - 5) - ((11 : Int32) - 5) / 4 * 4 = 2 from by decide) (br_f (by decide) (br_f (by decide) (br_t (by decide) (⟨hq1, by rw [eq1]; exact (hS.2.1.2.2.1).symm, hR⟩))))⟩⟩)))))))))
  · subst e
    rw [e3]
    exact br_f (nI_pos (by omega)) (br_t (nI_lt hs1 (by omega)) (br_f (by decide) (br_f (by decide) (br_f (by decide) (br_f (by decide) (br_f (by decide) (br_f (by decide) (br_t (by decide) (⟨by decide, nm_r (show nI s * 2 + ((12 : Int32) - 5) / 4 = nI (2 * s + 1) from by rw [show ((12 : Int32) - 5) / 4 = nI 1 from by decide, lf_m2, nI_add]) ⟨by decide, nm_r (show ((12 : Int32) - 5) - ((12 : Int32) - 5) / 4 * 4 = 3 from by decide) (br_f (by decide) (br_f (by decide) (br_f (by decide) (⟨hq1, by rw [eq1]; exact (hS.2.1.2.2.2).symm, hR⟩))))⟩⟩)))))))))

theorem i_vc_stmtInfo {k : Nat} {u : SX} {v : SY} (I : i_Rel k u v) (hk : k + 5 ≤ 2562) (v1 : Int32) (v2 : Int32) : wpX_stmtInfo (fun r => wpY_stmtInfo (fun r' => r' = r ∧ i_Rel (k + 5) u v) v v1 v2) u v1 v2 := by
  have hR : i_Rel (k + 5) u v := I
  obtain ⟨na, n, nl, ns, F, L, Lo, Hi, ph, gX, gY, rc, tmp, con, sca, ini, ori, fus, lLo, lHi, lF, lC, xg, xj, xd, gf, gl, sl, so, sk, sa, sc, sv, yg, yj, yd, dA, dC, dO, kd, ar, co, va, rfl, rfl, hB, hs, hP⟩ := I
  exact lz_stmtInfo hB.1.2.2.2.2.2 hB.2.2.2.2.1 hR v1 v2

theorem lz_arrayInfo {P : Prop} (hna : na ≤ 6) (hR : P) (v w : Int32) : wpX_arrayInfo (fun r => wpY_arrayInfo (fun r' => r' = r ∧ P) (nI na, nI n, nI nl, nI ns, ph, gY, rc, tmp, con, lLo, lHi, lF, lC, yg, yj, yd, sl, so, dA, dC, dO, kd, ar, co, va, ini, ori, fus, sca) v w) (nI na, nI n, ph, nI nl, nI ns, gX, rc, tmp, con, sca, ini, ori, fus, lLo, lHi, lF, lC, xg, xj, xd, gf, gl, sl, so, sk, sa, sc, sv) v w := by
  unfold wpX_arrayInfo
  by_cases h : ∃ a, a < na ∧ v = nI a
  · obtain ⟨a, ha, rfl⟩ := h
    have hi : vp_in (nI a) 6 := vp_in_nI (by omega) (by decide)
    have y : ∀ post : Int32 → Prop, _ → wpY_arrayInfo post (nI na, nI n, nI nl, nI ns, ph, gY, rc, tmp, con, lLo, lHi, lF, lC, yg, yj, yd, sl, so, dA, dC, dO, kd, ar, co, va, ini, ori, fus, sca) (nI a) w := fun post z => br_f (nI_pos (by omega)) (br_t (nI_lt ha (by omega)) z)
    refine lx_isArr1 ha hna (br_f lf_10 (br_c (fun e => ⟨hi, br_c (fun z => ?_) (fun z => ?_)⟩) (fun e => br_c (fun e2 => ⟨hi, br_c (fun z => ?_) (fun z => ?_)⟩) (fun e2 => ?_))))
    · exact y _ (br_t e ⟨hi, br_t z ⟨rfl, hR⟩⟩)
    · exact y _ (br_t e ⟨hi, br_f z ⟨rfl, hR⟩⟩)
    · exact y _ (br_f e (br_t e2 ⟨hi, br_t z ⟨rfl, hR⟩⟩))
    · exact y _ (br_f e (br_t e2 ⟨hi, br_f z ⟨rfl, hR⟩⟩))
    · exact y _ (br_f e (br_f e2 ⟨rfl, hR⟩))
  · exact lx_isArr0 h hna (br_t rfl (br_c (fun _ => ⟨rfl, hR⟩) (fun h0 => br_c (fun h1 => absurd (ly_rng (by omega) h0 h1) h) (fun _ => ⟨rfl, hR⟩))))

theorem i_vc_arrayInfo {k : Nat} {u : SX} {v : SY} (I : i_Rel k u v) (hk : k + 5 ≤ 2562) (v1 : Int32) (v2 : Int32) : wpX_arrayInfo (fun r => wpY_arrayInfo (fun r' => r' = r ∧ i_Rel (k + 5) u v) v v1 v2) u v1 v2 := by
  have hR : i_Rel (k + 5) u v := I
  obtain ⟨na, n, nl, ns, F, L, Lo, Hi, ph, gX, gY, rc, tmp, con, sca, ini, ori, fus, lLo, lHi, lF, lC, xg, xj, xd, gf, gl, sl, so, sk, sa, sc, sv, yg, yj, yd, dA, dC, dO, kd, ar, co, va, rfl, rfl, hB, hs, hP⟩ := I
  exact lz_arrayInfo hB.1.2.1 hR v1 v2

theorem lf_R0 {k a b : Nat} (h1 : 2 ≤ a) (h2 : a ≤ 6) (h3 : 4 ≤ b) (h4 : b ≤ 16) : i_Rel k (nI a, nI b, 0, 0, 0, 0, 0, (fun _ => 0), (fun _ => 0), (fun _ => 0), (fun _ => 0), (fun _ => 0), (fun _ => 0), (fun _ => 0), (fun _ => 0), (fun _ => 0), (fun _ => 0), (fun _ => 0), (fun _ => 0), (fun _ => 0), (fun _ => 0), (fun _ => 0), (fun _ => 0), (fun _ => 0), (fun _ => 0), (fun _ => 0), (fun _ => 0), (fun _ => 0)) (nI a, nI b, 0, 0, 0, 0, 0, (fun _ => 0), (fun _ => 0), (fun _ => 0), (fun _ => 0), (fun _ => 0), (fun _ => 0), (fun _ => 0), (fun _ => 0), (fun _ => 0), (fun _ => 0), (fun _ => 0), (fun _ => 0), (fun _ => 0), (fun _ => 0), (fun _ => 0), (fun _ => 0), (fun _ => 0), (fun _ => 0), (fun _ => 0), (fun _ => 0), (fun _ => 0), (fun _ => 0)) :=
  lf_mk (na := a) (n := b) (nl := 0) (ns := 0) (F := fun _ => 0) (L := fun _ => 0) (Lo := fun _ => 0) (Hi := fun _ => 0)
    ⟨⟨h1, h2, h3, h4, by omega, by omega⟩, lf_PT_0, fun l hl => absurd hl (by omega), fun s hs => absurd hs (by omega), fun s hs => absurd hs (by omega), fun z hz => absurd hz (by omega)⟩ (fun _ _ => rfl) (Or.inl ⟨rfl, rfl, rfl, fun l hl => absurd hl (by omega)⟩)
theorem ly_init202 {k b c : Nat} {p : Int32} (h1 : 2 ≤ b) (h2 : b ≤ 6) (h3 : 4 ≤ c) (h4 : c ≤ 16) (hc : (nI 4 ≤ p → p ≤ nI 16 → p = nI c) ∧ (¬ nI 4 ≤ p → c = 4) ∧ (nI 4 ≤ p → ¬ p ≤ nI 16 → c = 16)) :
    wY_init_202 (fun v => i_Rel k (nI b, nI c, 0, 0, 0, 0, 0, (fun _ => 0), (fun _ => 0), (fun _ => 0), (fun _ => 0), (fun _ => 0), (fun _ => 0), (fun _ => 0), (fun _ => 0), (fun _ => 0), (fun _ => 0), (fun _ => 0), (fun _ => 0), (fun _ => 0), (fun _ => 0), (fun _ => 0), (fun _ => 0), (fun _ => 0), (fun _ => 0), (fun _ => 0), (fun _ => 0), (fun _ => 0)) v) p (nI b) 0 0 0 0 0 0 0 (fun _ => 0) (fun _ => 0) (fun _ => 0) (fun _ => 0) (fun _ => 0) (fun _ => 0) (fun _ => 0) (fun _ => 0) (fun _ => 0) (fun _ => 0) (fun _ => 0) (fun _ => 0) (fun _ => 0) (fun _ => 0) (fun _ => 0) (fun _ => 0) (fun _ => 0) (fun _ => 0) (fun _ => 0) (fun _ => 0) (fun _ => 0) (fun _ => 0) := by
  refine br_c (fun h => br_c (fun h' => ?_) (fun h' => ?_)) (fun h => ?_)
  · rw [hc.1 h h']; exact lf_R0 h1 h2 h3 h4
  · obtain rfl := hc.2.2 h h'; exact lf_R0 h1 h2 h3 h4
  · obtain rfl := hc.2.1 h; exact lf_R0 h1 h2 h3 h4
theorem i_vc0 (k0 : Int32) (k1 : Int32) : wpX_init (fun u => wpY_init (fun v => i_Rel 2 u v) k0 k1) k0 k1 := by
  unfold wpX_init
  refine lx_clamp (a := 2) (b := 6) (by decide) (by decide) (fun a h1 h2 ha => ?_)
  refine lx_clamp (a := 4) (b := 16) (by decide) (by decide) (fun b h3 h4 hb => ?_)
  refine br_c (fun h => br_c (fun h' => ?_) (fun h' => ?_)) (fun h => ?_)
  · rw [ha.1 h h']; exact ly_init202 h1 h2 h3 h4 hb
  · obtain rfl := ha.2.2 h h'; exact ly_init202 h1 h2 h3 h4 hb
  · obtain rfl := ha.2.1 h; exact ly_init202 h1 h2 h3 h4 hb

end LFU
end
section
section LFV
variable {na n nl ns : Nat} {ph gX gY rc : Int32} {tmp con sca ini ori fus lLo lHi lF lC xg xj xd gf gl sl so sk sa sc sv yg yj yd dA dC dO kd ar co va : Nat → Int32} {F L Lo Hi G gp : Nat → Nat}
theorem lf_to_x {σ : Type} {f : Nat → σ → σ} {lo hi i : Nat} {m : σ} (h : hi < i) (h2 : i ≤ hi + 1 ∨ i = lo) : lf_to f lo i m = lf_to f lo (hi + 1) m := by
  rcases h2 with h2 | h2
  · rw [show i = hi + 1 by omega]
  · rw [lf_to_e (show i ≤ lo by omega), lf_to_e (show hi + 1 ≤ lo by omega)]
theorem lx_cellAt {post : Int32 → Prop} {z : Nat} {i : Int32} (hz : z < 36) (k : post (lf_cell n (sa z) (sc z * i + sv z))) : wpX_cellAt post (nI na, nI n, ph, nI nl, nI ns, gX, rc, tmp, con, sca, ini, ori, fus, lLo, lHi, lF, lC, xg, xj, xd, gf, gl, sl, so, sk, sa, sc, sv) (nI z) i := by
  have hi : vp_in (nI z) 36 := vp_in_nI hz (by decide)
  have e : (nI z).toNatClampNeg = z := nI_clamp (by omega)
  refine ⟨hi, hi, nm_r (by rw [e]) (br_c (fun h => ?_) (fun h => br_c (fun h2 => ⟨hi, ?_⟩) (fun h2 => ?_)))⟩
  · rw [lf_cell_o (Or.inl h)] at k; exact k
  · rw [e]
    unfold lf_cell at k
    rw [if_neg (fun q => q.elim h (fun q => q h2))] at k
    exact k
  · rw [lf_cell_o (Or.inr h2)] at k; exact k
theorem lx_comp {post : Int32 → Prop} {o l r : Int32} (k : post (lf_al o l r)) : wpX_compute post o l r := by
  unfold lf_al at k
  refine br_c (fun h => ?_) (fun h => br_c (fun h2 => ?_) (fun h2 => ?_))
  · rw [if_pos h] at k; exact k
  · rw [if_neg h, if_pos h2] at k; exact k
  · rw [if_neg h, if_neg h2] at k; exact k

/-! on original -/
theorem lx_op66_original {post : Int32 → Prop} {z : Nat} {i c : Int32} (hz : z < 36) (hna : na ≤ 6) (hn : n ≤ 16) (ha : ∃ a, a < na ∧ sa z = nI a) (hc : ¬ (¬ c = 0 ∧ ¬ con (sa z).toNatClampNeg = 0)) (k : post (lf_rd n con c (ori, sca) (sa z) (sc z * i + sv z))) : wX_operandValue__original_66 post (nI z) i (nI na) (nI n) ph (nI nl) (nI ns) gX rc tmp con sca ini ori fus lLo lHi lF lC xg xj xd gf gl sl so sk sa sc sv := by
  unfold wX_operandValue__original_66
  refine lx_cellAt hz ?_
  unfold lf_rd at k
  rw [if_neg hc] at k
  obtain ⟨a, ha, ea⟩ := ha
  rcases lf_rng hn (sc z * i + sv z) with h | ⟨j, hj, ej⟩
  · rw [if_pos h] at k
    rw [lf_cell_o h]
    exact br_t rfl k
  · rw [ej, if_neg (lf_rng_n hn hj), ea, lf_16] at k
    rw [ej, ea, lf_cell_i hj hn]
    exact br_f (lf_ne1 (by omega)) ⟨vp_in_nI (by omega) (by decide), k⟩
theorem lx_opv_original {post : Int32 → Prop} {z : Nat} {i c : Int32} (hz : z < 36) (hna : na ≤ 6) (hn : n ≤ 16) (hw : sk z = 0 ∨ sk z = 1 ∨ (sk z = 2 ∧ ∃ a, a < na ∧ sa z = nI a)) (k : post (lf_op n con c (ori, sca) (sk z) (sa z) (sc z) (sv z) i)) : wpX_operandValue__original post (nI na, nI n, ph, nI nl, nI ns, gX, rc, tmp, con, sca, ini, ori, fus, lLo, lHi, lF, lC, xg, xj, xd, gf, gl, sl, so, sk, sa, sc, sv) (nI z) i c := by
  have hi : vp_in (nI z) 36 := vp_in_nI hz (by decide)
  have e : (nI z).toNatClampNeg = z := nI_clamp (by omega)
  unfold lf_op at k
  refine ⟨hi, br_c (fun h => ⟨hi, ?_⟩) (fun h => ⟨hi, br_c (fun h1 => ⟨hi, ?_⟩) (fun h1 => ?_)⟩)⟩
  · rw [e] at h ⊢
    rw [if_pos h] at k; exact k
  · rw [e] at h h1 ⊢
    rw [if_neg h, if_pos h1] at k; exact k
  · rw [e] at h h1
    rw [if_neg h, if_neg h1] at k
    have ha : ∃ a, a < na ∧ sa z = nI a := hw.elim (fun q => absurd q h) (fun q => q.elim (fun q => absurd q h1) (fun q => q.2))
    have hv : vp_in (sa (nI z).toNatClampNeg) 6 := by
      obtain ⟨a, ha, ea⟩ := ha
      rw [e, ea]; exact vp_in_nI (by omega) (by decide)
    refine br_c (fun hc => lx_op66_original hz hna hn ha (fun q => q.1 hc) k) (fun hc => ⟨hi, hv, br_c (fun hd => ?_) (fun hd => ⟨hi, hv, ?_⟩)⟩)
    · rw [e] at hd
      exact lx_op66_original hz hna hn ha (fun q => q.2 hd) k
    · rw [e] at hd ⊢
      unfold lf_rd at k
      rw [if_pos ⟨hc, hd⟩] at k
      exact k
theorem lx_st32_original {post : SX → Prop} {z : Nat} {i c r : Int32} (hz : z < 36) (hna : na ≤ 6) (hn : n ≤ 16) (ha : ∃ a, a < na ∧ sa z = nI a) (hc : ¬ (¬ c = 0 ∧ ¬ con (sa z).toNatClampNeg = 0))
    (k : post (nI na, nI n, ph, nI nl, nI ns, gX, rc, tmp, con, (lf_sto n con c (ori, sca) (sa z) (sc z * i + sv z) r).2, ini, (lf_sto n con c (ori, sca) (sa z) (sc z * i + sv z) r).1, fus, lLo, lHi, lF, lC, xg, xj, xd, gf, gl, sl, so, sk, sa, sc, sv)) : wX_store__original_32 post (nI z) i r (nI na) (nI n) ph (nI nl) (nI ns) gX rc tmp con sca ini ori fus lLo lHi lF lC xg xj xd gf gl sl so sk sa sc sv := by
  unfold wX_store__original_32
  refine lx_cellAt hz ?_
  unfold lf_sto at k
  rw [if_neg hc] at k
  obtain ⟨a, ha, ea⟩ := ha
  rcases lf_rng hn (sc z * i + sv z) with h | ⟨j, hj, ej⟩
  · rw [if_pos h] at k
    rw [lf_cell_o h]
    exact br_t rfl k
  · rw [ej, if_neg (lf_rng_n hn hj), ea, lf_16] at k
    rw [ej, ea, lf_cell_i hj hn]
    exact br_f (lf_ne1 (by omega)) ⟨vp_in_nI (by omega) (by decide), nm_e k⟩
theorem lx_store_original {post : SX → Prop} {z : Nat} {i c r : Int32} (hz : z < 36) (hna : na ≤ 6) (hn : n ≤ 16) (ha : ∃ a, a < na ∧ sa z = nI a)
    (k : post (nI na, nI n, ph, nI nl, nI ns, gX, rc, tmp, con, (lf_sto n con c (ori, sca) (sa z) (sc z * i + sv z) r).2, ini, (lf_sto n con c (ori, sca) (sa z) (sc z * i + sv z) r).1, fus, lLo, lHi, lF, lC, xg, xj, xd, gf, gl, sl, so, sk, sa, sc, sv)) : wpX_store__original post (nI na, nI n, ph, nI nl, nI ns, gX, rc, tmp, con, sca, ini, ori, fus, lLo, lHi, lF, lC, xg, xj, xd, gf, gl, sl, so, sk, sa, sc, sv) (nI z) i r c := by
  have hi : vp_in (nI z) 36 := vp_in_nI hz (by decide)
  have e : (nI z).toNatClampNeg = z := nI_clamp (by omega)
  have hv : vp_in (sa z) 6 := by
    obtain ⟨a, ha, ea⟩ := ha
    rw [ea]; exact vp_in_nI (by omega) (by decide)
  refine ⟨hi, nm_r (by rw [e]) (br_c (fun hc => lx_st32_original hz hna hn ha (fun q => q.1 hc) k) (fun hc => ⟨hv, br_c (fun hd => lx_st32_original hz hna hn ha (fun q => q.2 hd) k) (fun hd => ⟨hv, nm_e ?_⟩)⟩))⟩
  unfold lf_sto at k
  rw [if_pos ⟨hc, hd⟩] at k
  exact k
theorem lx_exec_original {post : SX → Prop} {s i : Nat} {c : Int32} (hs : s < ns) (hns : ns ≤ 12) (hna : na ≤ 6) (hn : n ≤ 16) (hw : lf_WF na ns sk sa) (hd : ∃ a, a < na ∧ sa (3 * s + 2) = nI a)
    (k : post (nI na, nI n, ph, nI nl, nI ns, gX, rc, tmp, con, (lf_ex n con so sk sa sc sv c i s (ori, sca)).2, ini, (lf_ex n con so sk sa sc sv c i s (ori, sca)).1, fus, lLo, lHi, lF, lC, xg, xj, xd, gf, gl, sl, so, sk, sa, sc, sv)) : wpX_execute__original post (nI na, nI n, ph, nI nl, nI ns, gX, rc, tmp, con, sca, ini, ori, fus, lLo, lHi, lF, lC, xg, xj, xd, gf, gl, sl, so, sk, sa, sc, sv) (nI s) (nI i) c := by
  unfold wpX_execute__original
  refine nm_r (lf_m3 s) ?_
  refine lx_opv_original (by omega) hna hn (hw _ (by omega)) ?_
  dsimp only
  rw [nI_1 (3 * s)]
  refine lx_opv_original (by omega) hna hn (hw _ (by omega)) ?_
  refine ⟨vp_in_nI (by omega) (by decide), ?_⟩
  refine lx_comp ?_
  rw [lf_a2 (3 * s), nI_clamp (show s < 2 ^ 31 by omega)]
  exact lx_store_original (by omega) hna hn hd k
theorem lx_b27_original {post : SX → Prop} {J8 : Int32 → Int32 → Int32 → Int32 → Int32 → Int32 → Int32 → Int32 → (Nat → Int32) → (Nat → Int32) → (Nat → Int32) → (Nat → Int32) → (Nat → Int32) → (Nat → Int32) → (Nat → Int32) → (Nat → Int32) → (Nat → Int32) → (Nat → Int32) → (Nat → Int32) → (Nat → Int32) → (Nat → Int32) → (Nat → Int32) → (Nat → Int32) → (Nat → Int32) → (Nat → Int32) → (Nat → Int32) → (Nat → Int32) → (Nat → Int32) → (Nat → Int32) → Prop} {x1 c : Int32} {i a e : Nat} {m : lf_M} (hae : a ≤ e) (he : e ≤ ns) (hns : ns ≤ 12) (hna : na ≤ 6) (hn : n ≤ 16) (hw : lf_WF na ns sk sa) (hd : ∀ s, s < ns → ∃ a, a < na ∧ sa (3 * s + 2) = nI a)
    (k : J8 (nI (i + 1)) (nI na) (nI n) ph (nI nl) (nI ns) gX rc tmp con ((lf_bd n con so sk sa sc sv c a e i m).2) ini ((lf_bd n con so sk sa sc sv c a e i m).1) fus lLo lHi lF lC xg xj xd gf gl sl so sk sa sc sv) :
    ∀ d s, a ≤ s → s + d = e → wX_runBody__original_27 post J8 x1 (nI e) c (nI i) (d + 1) (nI s) (nI na) (nI n) ph (nI nl) (nI ns) gX rc tmp con ((lf_to (fun s m => lf_ex n con so sk sa sc sv c i s m) a s m).2) ini ((lf_to (fun s m => lf_ex n con so sk sa sc sv c i s m) a s m).1) fus lLo lHi lF lC xg xj xd gf gl sl so sk sa sc sv := by
  intro d
  induction d with
  | zero =>
    intro s h1 h2
    obtain rfl : s = e := by omega
    exact br_t (lf_rfl _) (nm_r (nI_1 i) k)
  | succ d ih =>
    intro s h1 h2
    have h := ih (s + 1) (by omega) (by omega)
    rw [lf_to_s h1] at h
    refine br_f (nI_ge (by omega) (by omega)) ?_
    refine lx_exec_original (by omega) hns hna hn hw (hd s (by omega)) ?_
    exact nm_r (nI_1 s) h
theorem lx_b8_original {post : SX → Prop} {c : Int32} {l e : Nat} {m : lf_M} (hl : l < nl) (hnl : nl ≤ 8) (hLP : lf_LP nl F Lo Hi lLo lHi lF lC) (hae : F l ≤ e) (he : e ≤ ns) (hns : ns ≤ 12) (hna : na ≤ 6) (hn : n ≤ 16) (hw : lf_WF na ns sk sa) (hd : ∀ s, s < ns → ∃ a, a < na ∧ sa (3 * s + 2) = nI a)
    (k : post (nI na, nI n, ph, nI nl, nI ns, gX, rc, tmp, con, (lf_lp n con so sk sa sc sv c (Lo l) (Hi l) (F l) e m).2, ini, (lf_lp n con so sk sa sc sv c (Lo l) (Hi l) (F l) e m).1, fus, lLo, lHi, lF, lC, xg, xj, xd, gf, gl, sl, so, sk, sa, sc, sv)) :
    ∀ d i, Lo l ≤ i → Hi l + 1 ≤ i + d → (i ≤ Hi l + 1 ∨ i = Lo l) → wX_runBody__original_8 post (nI l) (nI e) c (d + 1) (nI i) (nI na) (nI n) ph (nI nl) (nI ns) gX rc tmp con ((lf_to (fun i m => lf_bd n con so sk sa sc sv c (F l) e i m) (Lo l) i m).2) ini ((lf_to (fun i m => lf_bd n con so sk sa sc sv c (F l) e i m) (Lo l) i m).1) fus lLo lHi lF lC xg xj xd gf gl sl so sk sa sc sv := by
  have hi : vp_in (nI l) 8 := vp_in_nI (by omega) (by decide)
  have ec : (nI l).toNatClampNeg = l := nI_clamp (by omega)
  obtain ⟨q1, q2, q3, q4, q5, q6⟩ := hLP l hl
  have ex : ∀ i d, Hi l < i → i ≤ 16 → (i ≤ Hi l + 1 ∨ i = Lo l) → wX_runBody__original_8 post (nI l) (nI e) c (d + 1) (nI i) (nI na) (nI n) ph (nI nl) (nI ns) gX rc tmp con ((lf_to (fun i m => lf_bd n con so sk sa sc sv c (F l) e i m) (Lo l) i m).2) ini ((lf_to (fun i m => lf_bd n con so sk sa sc sv c (F l) e i m) (Lo l) i m).1) fus lLo lHi lF lC xg xj xd gf gl sl so sk sa sc sv := by
    intro i d h1 h2 h3
    refine ⟨hi, br_t ?_ ?_⟩
    · rw [ec, q2]; exact nI_lt h1 (by omega)
    · rw [lf_to_x h1 h3]; exact k
  intro d
  induction d with
  | zero =>
    intro i h1 h2 h3
    exact ex i 0 (by omega) (by omega) h3
  | succ d ih =>
    intro i h1 h2 h3
    by_cases hh : Hi l < i
    · exact ex i (d + 1) hh (by omega) h3
    · have h := ih (i + 1) (by omega) (by omega) (by omega)
      rw [lf_to_s h1] at h
      refine ⟨hi, br_f ?_ ⟨hi, nm_r (by rw [ec, q5]) ⟨e - F l + 1, ?_⟩⟩⟩
      · rw [ec, q2]; exact nI_nlt (by omega) (by omega)
      · have h' := lx_b27_original (post := post) (x1 := nI l) (c := c) (i := i) (a := F l) (e := e) (m := lf_to (fun i m => lf_bd n con so sk sa sc sv c (F l) e i m) (Lo l) i m) (J8 := wX_runBody__original_8 post (nI l) (nI e) c (d + 1)) hae he hns hna hn hw hd h (e - F l) (F l) (Nat.le_refl _) (by omega)
        rw [lf_to_e (Nat.le_refl _)] at h'
        exact h'
theorem lx_body_original {post : SX → Prop} {c : Int32} {l e : Nat} {m : lf_M} (hl : l < nl) (hnl : nl ≤ 8) (hLP : lf_LP nl F Lo Hi lLo lHi lF lC) (hae : F l ≤ e) (he : e ≤ ns) (hns : ns ≤ 12) (hna : na ≤ 6) (hn : n ≤ 16) (hw : lf_WF na ns sk sa) (hd : ∀ s, s < ns → ∃ a, a < na ∧ sa (3 * s + 2) = nI a)
    (k : post (nI na, nI n, ph, nI nl, nI ns, gX, rc, tmp, con, (lf_lp n con so sk sa sc sv c (Lo l) (Hi l) (F l) e m).2, ini, (lf_lp n con so sk sa sc sv c (Lo l) (Hi l) (F l) e m).1, fus, lLo, lHi, lF, lC, xg, xj, xd, gf, gl, sl, so, sk, sa, sc, sv)) : wpX_runBody__original post (nI na, nI n, ph, nI nl, nI ns, gX, rc, tmp, con, m.2, ini, m.1, fus, lLo, lHi, lF, lC, xg, xj, xd, gf, gl, sl, so, sk, sa, sc, sv) (nI l) (nI e) c := by
  have hi : vp_in (nI l) 8 := vp_in_nI (by omega) (by decide)
  have ec : (nI l).toNatClampNeg = l := nI_clamp (by omega)
  obtain ⟨q1, q2, q3, q4, q5, q6⟩ := id (hLP l hl)
  refine ⟨hi, nm_r (by rw [ec, q1]) ⟨Hi l + 1 + 1, ?_⟩⟩
  have h := lx_b8_original hl hnl hLP hae he hns hna hn hw hd k (Hi l + 1) (Lo l) (Nat.le_refl _) (by omega) (Or.inr rfl)
  rw [lf_to_e (Nat.le_refl _)] at h
  exact h
theorem lx_load_original {post : SX → Prop} (k : post (nI na, nI n, ph, nI nl, nI ns, gX, rc, tmp, con, sca, ini, lf_cp ini 96 ori, fus, lLo, lHi, lF, lC, xg, xj, xd, gf, gl, sl, so, sk, sa, sc, sv)) : wpX_loadInit__original post (nI na, nI n, ph, nI nl, nI ns, gX, rc, tmp, con, sca, ini, ori, fus, lLo, lHi, lF, lC, xg, xj, xd, gf, gl, sl, so, sk, sa, sc, sv) := by
  have H : ∀ d i, i + d = 96 → wX_loadInit__original_2 post (nI na) (nI n) ph (nI nl) (nI ns) gX rc (d + 1) (nI i) tmp con sca ini (lf_cp ini i ori) fus lLo lHi lF lC xg xj xd gf gl sl so sk sa sc sv := by
    intro d
    induction d with
    | zero =>
      intro i h
      obtain rfl : i = 96 := by omega
      exact br_t (by decide) k
    | succ d ih =>
      intro i h
      have h1 := ih (i + 1) (by omega)
      rw [← lf_cp_s] at h1
      have hi : vp_in (nI i) 96 := vp_in_nI (by omega) (by decide)
      have ec : (nI i).toNatClampNeg = i := nI_clamp (by omega)
      exact br_f (nI_ge (b := 96) (by omega) (by decide)) ⟨hi, hi, nm_r (by rw [ec]) (nm_r (nI_1 i) h1)⟩
  have h := H 96 0 rfl
  rw [lf_cp0] at h
  exact ⟨97, h⟩

/-! on fused -/
theorem lx_op66_fused {post : Int32 → Prop} {z : Nat} {i c : Int32} (hz : z < 36) (hna : na ≤ 6) (hn : n ≤ 16) (ha : ∃ a, a < na ∧ sa z = nI a) (hc : ¬ (¬ c = 0 ∧ ¬ con (sa z).toNatClampNeg = 0)) (k : post (lf_rd n con c (fus, sca) (sa z) (sc z * i + sv z))) : wX_operandValue__fused_66 post (nI z) i (nI na) (nI n) ph (nI nl) (nI ns) gX rc tmp con sca ini ori fus lLo lHi lF lC xg xj xd gf gl sl so sk sa sc sv := by
  unfold wX_operandValue__fused_66
  refine lx_cellAt hz ?_
  unfold lf_rd at k
  rw [if_neg hc] at k
  obtain ⟨a, ha, ea⟩ := ha
  rcases lf_rng hn (sc z * i + sv z) with h | ⟨j, hj, ej⟩
  · rw [if_pos h] at k
    rw [lf_cell_o h]
    exact br_t rfl k
  · rw [ej, if_neg (lf_rng_n hn hj), ea, lf_16] at k
    rw [ej, ea, lf_cell_i hj hn]
    exact br_f (lf_ne1 (by omega)) ⟨vp_in_nI (by omega) (by decide), k⟩
theorem lx_opv_fused {post : Int32 → Prop} {z : Nat} {i c : Int32} (hz : z < 36) (hna : na ≤ 6) (hn : n ≤ 16) (hw : sk z = 0 ∨ sk z = 1 ∨ (sk z = 2 ∧ ∃ a, a < na ∧ sa z = nI a)) (k : post (lf_op n con c (fus, sca) (sk z) (sa z) (sc z) (sv z) i)) : wpX_operandValue__fused post (nI na, nI n, ph, nI nl, nI ns, gX, rc, tmp, con, sca, ini, ori, fus, lLo, lHi, lF, lC, xg, xj, xd, gf, gl, sl, so, sk, sa, sc, sv) (nI z) i c := by
  have hi : vp_in (nI z) 36 := vp_in_nI hz (by decide)
  have e : (nI z).toNatClampNeg = z := nI_clamp (by omega)
  unfold lf_op at k
  refine ⟨hi, br_c (fun h => ⟨hi, ?_⟩) (fun h => ⟨hi, br_c (fun h1 => ⟨hi, ?_⟩) (fun h1 => ?_)⟩)⟩
  · rw [e] at h ⊢
    rw [if_pos h] at k; exact k
  · rw [e] at h h1 ⊢
    rw [if_neg h, if_pos h1] at k; exact k
  · rw [e] at h h1
    rw [if_neg h, if_neg h1] at k
    have ha : ∃ a, a < na ∧ sa z = nI a := hw.elim (fun q => absurd q h) (fun q => q.elim (fun q => absurd q h1) (fun q => q.2))
    have hv : vp_in (sa (nI z).toNatClampNeg) 6 := by
      obtain ⟨a, ha, ea⟩ := ha
      rw [e, ea]; exact vp_in_nI (by omega) (by decide)
    refine br_c (fun hc => lx_op66_fused hz hna hn ha (fun q => q.1 hc) k) (fun hc => ⟨hi, hv, br_c (fun hd => ?_) (fun hd => ⟨hi, hv, ?_⟩)⟩)
    · rw [e] at hd
      exact lx_op66_fused hz hna hn ha (fun q => q.2 hd) k
    · rw [e] at hd ⊢
      unfold lf_rd at k
      rw [if_pos ⟨hc, hd⟩] at k
      exact k
theorem lx_st32_fused {post : SX → Prop} {z : Nat} {i c r : Int32} (hz : z < 36) (hna : na ≤ 6) (hn : n ≤ 16) (ha : ∃ a, a < na ∧ sa z = nI a) (hc : ¬ (¬ c = 0 ∧ ¬ con (sa z).toNatClampNeg = 0))
    (k : post (nI na, nI n, ph, nI nl, nI ns, gX, rc, tmp, con, (lf_sto n con c (fus, sca) (sa z) (sc z * i + sv z) r).2, ini, ori, (lf_sto n con c (fus, sca) (sa z) (sc z * i + sv z) r).1, lLo, lHi, lF, lC, xg, xj, xd, gf, gl, sl, so, sk, sa, sc, sv)) : wX_store__fused_32 post (nI z) i r (nI na) (nI n) ph (nI nl) (nI ns) gX rc tmp con sca ini ori fus lLo lHi lF lC xg xj xd gf gl sl so sk sa sc sv := by
  unfold wX_store__fused_32
  refine lx_cellAt hz ?_
  unfold lf_sto at k
  rw [if_neg hc] at k
  obtain ⟨a, ha, ea⟩ := ha
  rcases lf_rng hn (sc z * i + sv z) with h | ⟨j, hj, ej⟩
  · rw [if_pos h] at k
    rw [lf_cell_o h]
    exact br_t rfl k
  · rw [ej, if_neg (lf_rng_n hn hj), ea, lf_16] at k
    rw [ej, ea, lf_cell_i hj hn]
    exact br_f (lf_ne1 (by omega)) ⟨vp_in_nI (by omega) (by decide), nm_e k⟩
theorem lx_store_fused {post : SX → Prop} {z : Nat} {i c r : Int32} (hz : z < 36) (hna : na ≤ 6) (hn : n ≤ 16) (ha : ∃ a, a < na ∧ sa z = nI a)
    (k : post (nI na, nI n, ph, nI nl, nI ns, gX, rc, tmp, con, (lf_sto n con c (fus, sca) (sa z) (sc z * i + sv z) r).2, ini, ori, (lf_sto n con c (fus, sca) (sa z) (sc z * i + sv z) r).1, lLo, lHi, lF, lC, xg, xj, xd, gf, gl, sl, so, sk, sa, sc, sv)) : wpX_store__fused post (nI na, nI n, ph, nI nl, nI ns, gX, rc, tmp, con, sca, ini, ori, fus, lLo, lHi, lF, lC, xg, xj, xd, gf, gl, sl, so, sk, sa, sc, sv) (nI z) i r c := by
  have hi : vp_in (nI z) 36 := vp_in_nI hz (by decide)
  have e : (nI z).toNatClampNeg = z := nI_clamp (by omega)
  have hv : vp_in (sa z) 6 := by
    obtain ⟨a, ha, ea⟩ := ha
    rw [ea]; exact vp_in_nI (by omega) (by decide)
  refine ⟨hi, nm_r (by rw [e]) (br_c (fun hc => lx_st32_fused hz hna hn ha (fun q => q.1 hc) k) (fun hc => ⟨hv, br_c (fun hd => lx_st32_fused hz hna hn ha (fun q => q.2 hd) k) (fun hd => ⟨hv, nm_e ?_⟩)⟩))⟩
  unfold lf_sto at k
  rw [if_pos ⟨hc, hd⟩] at k
  exact k
theorem lx_exec_fused {post : SX → Prop} {s i : Nat} {c : Int32} (hs : s < ns) (hns : ns ≤ 12) (hna : na ≤ 6) (hn : n ≤ 16) (hw : lf_WF na ns sk sa) (hd : ∃ a, a < na ∧ sa (3 * s + 2) = nI a)
    (k : post (nI na, nI n, ph, nI nl, nI ns, gX, rc, tmp, con, (lf_ex n con so sk sa sc sv c i s (fus, sca)).2, ini, ori, (lf_ex n con so sk sa sc sv c i s (fus, sca)).1, lLo, lHi, lF, lC, xg, xj, xd, gf, gl, sl, so, sk, sa, sc, sv)) : wpX_execute__fused post (nI na, nI n, ph, nI nl, nI ns, gX, rc, tmp, con, sca, ini, ori, fus, lLo, lHi, lF, lC, xg, xj, xd, gf, gl, sl, so, sk, sa, sc, sv) (nI s) (nI i) c := by
  unfold wpX_execute__fused
  refine nm_r (lf_m3 s) ?_
  refine lx_opv_fused (by omega) hna hn (hw _ (by omega)) ?_
  dsimp only
  rw [nI_1 (3 * s)]
  refine lx_opv_fused (by omega) hna hn (hw _ (by omega)) ?_
  refine ⟨vp_in_nI (by omega) (by decide), ?_⟩
  refine lx_comp ?_
  rw [lf_a2 (3 * s), nI_clamp (show s < 2 ^ 31 by omega)]
  exact lx_store_fused (by omega) hna hn hd k
theorem lx_b27_fused {post : SX → Prop} {J8 : Int32 → Int32 → Int32 → Int32 → Int32 → Int32 → Int32 → Int32 → (Nat → Int32) → (Nat → Int32) → (Nat → Int32) → (Nat → Int32) → (Nat → Int32) → (Nat → Int32) → (Nat → Int32) → (Nat → Int32) → (Nat → Int32) → (Nat → Int32) → (Nat → Int32) → (Nat → Int32) → (Nat → Int32) → (Nat → Int32) → (Nat → Int32) → (Nat → Int32) → (Nat → Int32) → (Nat → Int32) → (Nat → Int32) → (Nat → Int32) → (Nat → Int32) → Prop} {x1 c : Int32} {i a e : Nat} {m : lf_M} (hae : a ≤ e) (he : e ≤ ns) (hns : ns ≤ 12) (hna : na ≤ 6) (hn : n ≤ 16) (hw : lf_WF na ns sk sa) (hd : ∀ s, s < ns → ∃ a, a < na ∧ sa (3 * s + 2) = nI a)
    (k : J8 (nI (i + 1)) (nI na) (nI n) ph (nI nl) (nI ns) gX rc tmp con ((lf_bd n con so sk sa sc sv c a e i m).2) ini ori ((lf_bd n con so sk sa sc sv c a e i m).1) lLo lHi lF lC xg xj xd gf gl sl so sk sa sc sv) :
    ∀ d s, a ≤ s → s + d = e → wX_runBody__fused_27 post J8 x1 (nI e) c (nI i) (d + 1) (nI s) (nI na) (nI n) ph (nI nl) (nI ns) gX rc tmp con ((lf_to (fun s m => lf_ex n con so sk sa sc sv c i s m) a s m).2) ini ori ((lf_to (fun s m => lf_ex n con so sk sa sc sv c i s m) a s m).1) lLo lHi lF lC xg xj xd gf gl sl so sk sa sc sv := by
  intro d
  induction d with
  | zero =>
    intro s h1 h2
    obtain rfl : s = e := by omega
    exact br_t (lf_rfl _) (nm_r (nI_1 i) k)
  | succ d ih =>
    intro s h1 h2
    have h := ih (s + 1) (by omega) (by omega)
    rw [lf_to_s h1] at h
    refine br_f (nI_ge (by omega) (by omega)) ?_
    refine lx_exec_fused (by omega) hns hna hn hw (hd s (by omega)) ?_
    exact nm_r (nI_1 s) h
theorem lx_b8_fused {post : SX → Prop} {c : Int32} {l e : Nat} {m : lf_M} (hl : l < nl) (hnl : nl ≤ 8) (hLP : lf_LP nl F Lo Hi lLo lHi lF lC) (hae : F l ≤ e) (he : e ≤ ns) (hns : ns ≤ 12) (hna : na ≤ 6) (hn : n ≤ 16) (hw : lf_WF na ns sk sa) (hd : ∀ s, s < ns → ∃ a, a < na ∧ sa (3 * s + 2) = nI a)
    (k : post (nI na, nI n, ph, nI nl, nI ns, gX, rc, tmp, con, (lf_lp n con so sk sa sc sv c (Lo l) (Hi l) (F l) e m).2, ini, ori, (lf_lp n con so sk sa sc sv c (Lo l) (Hi l) (F l) e m).1, lLo, lHi, lF, lC, xg, xj, xd, gf, gl, sl, so, sk, sa, sc, sv)) :
    ∀ d i, Lo l ≤ i → Hi l + 1 ≤ i + d → (i ≤ Hi l + 1 ∨ i = Lo l) → wX_runBody__fused_8 post (nI l) (nI e) c (d + 1) (nI i) (nI na) (nI n) ph (nI nl) (nI ns) gX rc tmp con ((lf_to (fun i m => lf_bd n con so sk sa sc sv c (F l) e i m) (Lo l) i m).2) ini ori ((lf_to (fun i m => lf_bd n con so sk sa sc sv c (F l) e i m) (Lo l) i m).1) lLo lHi lF lC xg xj xd gf gl sl so sk sa sc sv := by
  have hi : vp_in (nI l) 8 := vp_in_nI (by omega) (by decide)
  have ec : (nI l).toNatClampNeg = l := nI_clamp (by omega)
  obtain ⟨q1, q2, q3, q4, q5, q6⟩ := hLP l hl
  have ex : ∀ i d, Hi l < i → i ≤ 16 → (i ≤ Hi l + 1 ∨ i = Lo l) → wX_runBody__fused_8 post (nI l) (nI e) c (d + 1) (nI i) (nI na) (nI n) ph (nI nl) (nI ns) gX rc tmp con ((lf_to (fun i m => lf_bd n con so sk sa sc sv c (F l) e i m) (Lo l) i m).2) ini ori ((lf_to (fun i m => lf_bd n con so sk sa sc sv c (F l) e i m) (Lo l) i m).1) lLo lHi lF lC xg xj xd gf gl sl so sk sa sc sv := by
    intro i d h1 h2 h3
    refine ⟨hi, br_t ?_ ?_⟩
    · rw [ec, q2]; exact nI_lt h1 (by omega)
    · rw [lf_to_x h1 h3]; exact k
  intro d
  induction d with
  | zero =>
    intro i h1 h2 h3
    exact ex i 0 (by omega) (by omega) h3
  | succ d ih =>
    intro i h1 h2 h3
    by_cases hh : Hi l < i
    · exact ex i (d + 1) hh (by omega) h3
    · have h := ih (i + 1) (by omega) (by omega) (by omega)
      rw [lf_to_s h1] at h
      refine ⟨hi, br_f ?_ ⟨hi, nm_r (by rw [ec, q5]) ⟨e - F l + 1, ?_⟩⟩⟩
      · rw [ec, q2]; exact nI_nlt (by omega) (by omega)
      · have h' := lx_b27_fused (post := post) (x1 := nI l) (c := c) (i := i) (a := F l) (e := e) (m := lf_to (fun i m => lf_bd n con so sk sa sc sv c (F l) e i m) (Lo l) i m) (J8 := wX_runBody__fused_8 post (nI l) (nI e) c (d + 1)) hae he hns hna hn hw hd h (e - F l) (F l) (Nat.le_refl _) (by omega)
        rw [lf_to_e (Nat.le_refl _)] at h'
        exact h'
theorem lx_body_fused {post : SX → Prop} {c : Int32} {l e : Nat} {m : lf_M} (hl : l < nl) (hnl : nl ≤ 8) (hLP : lf_LP nl F Lo Hi lLo lHi lF lC) (hae : F l ≤ e) (he : e ≤ ns) (hns : ns ≤ 12) (hna : na ≤ 6) (hn : n ≤ 16) (hw : lf_WF na ns sk sa) (hd : ∀ s, s < ns → ∃ a, a < na ∧ sa (3 * s + 2) = nI a)
    (k : post (nI na, nI n, ph, nI nl, nI ns, gX, rc, tmp, con, (lf_lp n con so sk sa sc sv c (Lo l) (Hi l) (F l) e m).2, ini, ori, (lf_lp n con so sk sa sc sv c (Lo l) (Hi l) (F l) e m).1, lLo, lHi, lF, lC, xg, xj, xd, gf, gl, sl, so, sk, sa, sc, sv)) : wpX_runBody__fused post (nI na, nI n, ph, nI nl, nI ns, gX, rc, tmp, con, m.2, ini, ori, m.1, lLo, lHi, lF, lC, xg, xj, xd, gf, gl, sl, so, sk, sa, sc, sv) (nI l) (nI e) c := by
  have hi : vp_in (nI l) 8 := vp_in_nI (by omega) (by decide)
  have ec : (nI l).toNatClampNeg = l := nI_clamp (by omega)
  obtain ⟨q1, q2, q3, q4, q5, q6⟩ := id (hLP l hl)
  refine ⟨hi, nm_r (by rw [ec, q1]) ⟨Hi l + 1 + 1, ?_⟩⟩
  have h := lx_b8_fused hl hnl hLP hae he hns hna hn hw hd k (Hi l + 1) (Lo l) (Nat.le_refl _) (by omega) (Or.inr rfl)
  rw [lf_to_e (Nat.le_refl _)] at h
  exact h
theorem lx_load_fused {post : SX → Prop} (k : post (nI na, nI n, ph, nI nl, nI ns, gX, rc, tmp, con, sca, ini, ori, lf_cp ini 96 fus, lLo, lHi, lF, lC, xg, xj, xd, gf, gl, sl, so, sk, sa, sc, sv)) : wpX_loadInit__fused post (nI na, nI n, ph, nI nl, nI ns, gX, rc, tmp, con, sca, ini, ori, fus, lLo, lHi, lF, lC, xg, xj, xd, gf, gl, sl, so, sk, sa, sc, sv) := by
  have H : ∀ d i, i + d = 96 → wX_loadInit__fused_2 post (nI na) (nI n) ph (nI nl) (nI ns) gX rc (d + 1) (nI i) tmp con sca ini ori (lf_cp ini i fus) lLo lHi lF lC xg xj xd gf gl sl so sk sa sc sv := by
    intro d
    induction d with
    | zero =>
      intro i h
      obtain rfl : i = 96 := by omega
      exact br_t (by decide) k
    | succ d ih =>
      intro i h
      have h1 := ih (i + 1) (by omega)
      rw [← lf_cp_s] at h1
      have hi : vp_in (nI i) 96 := vp_in_nI (by omega) (by decide)
      have ec : (nI i).toNatClampNeg = i := nI_clamp (by omega)
      exact br_f (nI_ge (b := 96) (by omega) (by decide)) ⟨hi, hi, nm_r (by rw [ec]) (nm_r (nI_1 i) h1)⟩
  have h := H 96 0 rfl
  rw [lf_cp0] at h
  exact ⟨97, h⟩

end LFV
end
section
section LFW
variable {na n nl ns : Nat} {ph gX gY rc : Int32} {tmp con sca ini ori fus lLo lHi lF lC xg xj xd gf gl sl so sk sa sc sv yg yj yd dA dC dO kd ar co va : Nat → Int32} {F L Lo Hi G gp : Nat → Nat}
theorem lf_dst (hSR : lf_SR ns sk sa sc sv kd ar co va dA dC dO) (hw : lf_WF na ns sk sa) : ∀ s, s < ns → ∃ a, a < na ∧ sa (3 * s + 2) = nI a := by
  intro s hs
  have h2 := (hSR s hs).2.2.1
  rcases hw (3 * s + 2) (by omega) with h | h | h
  · exact absurd (h.symm.trans h2) (by decide)
  · exact absurd (h.symm.trans h2) (by decide)
  · exact h.2
theorem lf_end {l : Nat} (hl : l < nl) (hLP : lf_LP nl F Lo Hi lLo lHi lF lC) (hm : F l ≤ F (l + 1)) : lF l + lC l = nI (F (l + 1)) := by
  obtain ⟨q1, q2, q3, q4, q5, q6⟩ := hLP l hl
  rw [q5, q6, nI_add]
  exact congrArg nI (by omega)
theorem lx_ro10 {post : SX → Prop} {m : lf_M} (hB : lf_B na n nl ns F L Lo Hi lLo lHi lF lC sl sk sa sc sv kd ar co va dA dC dO)
    (k : post (nI na, nI n, ph, nI nl, nI ns, gX, rc, tmp, con, (lf_ro n con so sk sa sc sv Lo Hi F nl m).2, ini, (lf_ro n con so sk sa sc sv Lo Hi F nl m).1, fus, lLo, lHi, lF, lC, xg, xj, xd, gf, gl, sl, so, sk, sa, sc, sv)) :
    ∀ d l, l + d = nl → wX_runOriginal_10 post (d + 1) (nI l) (nI na) (nI n) ph (nI nl) (nI ns) gX rc tmp con ((lf_to (fun l m => lf_lp n con so sk sa sc sv 0 (Lo l) (Hi l) (F l) (F (l + 1)) m) 0 l m).2) ini ((lf_to (fun l m => lf_lp n con so sk sa sc sv 0 (Lo l) (Hi l) (F l) (F (l + 1)) m) 0 l m).1) fus lLo lHi lF lC xg xj xd gf gl sl so sk sa sc sv := by
  obtain ⟨⟨_, hna, _, hn, hnl, hns⟩, hPT, hLP, hsl, hSR, hw⟩ := hB
  intro d
  induction d with
  | zero =>
    intro l h
    obtain rfl : l = nl := by omega
    exact br_t (lf_rfl _) k
  | succ d ih =>
    intro l h
    have h1 := ih (l + 1) (by omega)
    rw [lf_to_s (Nat.zero_le _)] at h1
    have hi : vp_in (nI l) 8 := vp_in_nI (by omega) (by decide)
    have ec : (nI l).toNatClampNeg = l := nI_clamp (by omega)
    have hm : F l ≤ F (l + 1) := hPT.2.2.1 l (by omega)
    refine br_f (nI_ge (by omega) (by omega)) ⟨hi, hi, nm_r (e' := nI (F (l + 1))) (by rw [ec]; exact lf_end (by omega) hLP hm) ?_⟩
    refine lx_body_original (by omega) hnl hLP hm (lf_PT_le hPT (by omega)) hns hna hn hw (lf_dst hSR hw) ?_
    exact nm_r (nI_1 l) h1
theorem lx_ro {post : SX → Prop} (hB : lf_B na n nl ns F L Lo Hi lLo lHi lF lC sl sk sa sc sv kd ar co va dA dC dO)
    (k : post (nI na, nI n, ph, nI nl, nI ns, gX, rc, tmp, con, (lf_ro n con so sk sa sc sv Lo Hi F nl (lf_cp ini 96 ori, sca)).2, ini, (lf_ro n con so sk sa sc sv Lo Hi F nl (lf_cp ini 96 ori, sca)).1, fus, lLo, lHi, lF, lC, xg, xj, xd, gf, gl, sl, so, sk, sa, sc, sv)) : wpX_runOriginal post (nI na, nI n, ph, nI nl, nI ns, gX, rc, tmp, con, sca, ini, ori, fus, lLo, lHi, lF, lC, xg, xj, xd, gf, gl, sl, so, sk, sa, sc, sv) := by
  unfold wpX_runOriginal
  refine lx_load_original ?_
  have h := lx_ro10 (m := (lf_cp ini 96 ori, sca)) hB k nl 0 (by omega)
  rw [lf_to_e (Nat.le_refl _)] at h
  exact ⟨nl + 1, h⟩
theorem lx_rt33 {post : SX → Prop} {m : lf_M} {g : Nat} (hB : lf_B na n nl ns F L Lo Hi lLo lHi lF lC sl sk sa sc sv kd ar co va dA dC dO) (hG : lf_G nl g G gp xg gf gl yg)
    (k : post (nI na, nI n, ph, nI nl, nI ns, nI g, rc, tmp, con, (lf_rt n con so sk sa sc sv Lo Hi F G g m).2, ini, ori, (lf_rt n con so sk sa sc sv Lo Hi F G g m).1, lLo, lHi, lF, lC, xg, xj, xd, gf, gl, sl, so, sk, sa, sc, sv)) :
    ∀ d a, a + d = g → wX_runTransformed_33 post (d + 1) (nI a) (nI na) (nI n) ph (nI nl) (nI ns) (nI g) rc tmp con ((lf_to (fun a m => lf_lp n con so sk sa sc sv 1 (Lo (G a)) (Hi (G a)) (F (G a)) (F (G (a + 1))) m) 0 a m).2) ini ori ((lf_to (fun a m => lf_lp n con so sk sa sc sv 1 (Lo (G a)) (Hi (G a)) (F (G a)) (F (G (a + 1))) m) 0 a m).1) lLo lHi lF lC xg xj xd gf gl sl so sk sa sc sv := by
  obtain ⟨⟨_, hna, _, hn, hnl, hns⟩, hPT, hLP, hsl, hSR, hw⟩ := hB
  obtain ⟨hGT, hGa, hGl⟩ := hG
  have hg : g ≤ nl := lf_PT_sn hGT (fun a ha => (hGa a ha).1)
  intro d
  induction d with
  | zero =>
    intro a h
    obtain rfl : a = g := by omega
    exact br_t (lf_rfl _) k
  | succ d ih =>
    intro a h
    have h1 := ih (a + 1) (by omega)
    rw [lf_to_s (Nat.zero_le _)] at h1
    have hi : vp_in (nI a) 8 := vp_in_nI (by omega) (by decide)
    have ec : (nI a).toNatClampNeg = a := nI_clamp (by omega)
    obtain ⟨p1, p2, p3⟩ := hGa a (by omega)
    have hle : G (a + 1) ≤ nl := lf_PT_le hGT (by omega)
    have hli : vp_in (nI (G (a + 1) - 1)) 8 := vp_in_nI (by omega) (by decide)
    have hlc : (nI (G (a + 1) - 1)).toNatClampNeg = G (a + 1) - 1 := nI_clamp (by omega)
    have hm : F (G (a + 1) - 1) ≤ F (G (a + 1) - 1 + 1) := hPT.2.2.1 _ (by omega)
    refine br_f (nI_ge (by omega) (by omega)) ⟨hi, nm_r (e' := nI (G a)) (by rw [ec]; exact p2) ⟨hi, nm_r (e' := nI (G (a + 1) - 1)) ?_ ⟨hli, hli, nm_r (e' := nI (F (G (a + 1)))) ?_ ?_⟩⟩⟩
    · rw [ec, p3, nI_add, show G a + (G (a + 1) - G a) = G (a + 1) by omega]
      exact lf_p1 (by omega)
    · rw [hlc, lf_end (by omega) hLP hm, show G (a + 1) - 1 + 1 = G (a + 1) by omega]
    · refine lx_body_fused (by omega) hnl hLP (lf_PT_mono hPT _ (by omega) hle) (lf_PT_le hPT hle) hns hna hn hw (lf_dst hSR hw) ?_
      exact nm_r (nI_1 a) h1
theorem lx_rt {post : SX → Prop} {g : Nat} (hB : lf_B na n nl ns F L Lo Hi lLo lHi lF lC sl sk sa sc sv kd ar co va dA dC dO) (hG : lf_G nl g G gp xg gf gl yg)
    (k : post (nI na, nI n, ph, nI nl, nI ns, nI g, rc, tmp, con, (lf_rt n con so sk sa sc sv Lo Hi F G g (lf_cp ini 96 fus, lf_clr 0 na sca)).2, ini, ori, (lf_rt n con so sk sa sc sv Lo Hi F G g (lf_cp ini 96 fus, lf_clr 0 na sca)).1, lLo, lHi, lF, lC, xg, xj, xd, gf, gl, sl, so, sk, sa, sc, sv)) : wpX_runTransformed post (nI na, nI n, ph, nI nl, nI ns, nI g, rc, tmp, con, sca, ini, ori, fus, lLo, lHi, lF, lC, xg, xj, xd, gf, gl, sl, so, sk, sa, sc, sv) := by
  have hna : na ≤ 6 := hB.1.2.1
  unfold wpX_runTransformed
  refine lx_load_fused ?_
  have H : ∀ d i, i + d = na → wX_runTransformed_10 post (nI na) (nI n) ph (nI nl) (nI ns) (nI g) rc (d + 1) (nI i) tmp con (lf_clr 0 i sca) ini ori (lf_cp ini 96 fus) lLo lHi lF lC xg xj xd gf gl sl so sk sa sc sv := by
    intro d
    induction d with
    | zero =>
      intro i h
      obtain rfl : i = na := by omega
      have h := lx_rt33 (m := (lf_cp ini 96 fus, lf_clr 0 i sca)) hB hG k g 0 (by omega)
      rw [lf_to_e (Nat.le_refl _)] at h
      exact br_t (lf_rfl _) ⟨g + 1, h⟩
    | succ d ih =>
      intro i h
      have h1 := ih (i + 1) (by omega)
      rw [← lf_clr_s] at h1
      have hi : vp_in (nI i) 6 := vp_in_nI (by omega) (by decide)
      have ec : (nI i).toNatClampNeg = i := nI_clamp (by omega)
      exact br_f (nI_ge (by omega) (by omega)) ⟨hi, nm_r (by rw [ec]) (nm_r (nI_1 i) h1)⟩
  have h := H na 0 (by omega)
  rw [lf_clr0] at h
  exact ⟨na + 1, h⟩
theorem lx_cd14 {post : Int32 → Prop} {J4 : Int32 → Int32 → Prop} {x : Nat} {d0 : Int32} (hx : x < na) (hna : na ≤ 6) (hn : n ≤ 16) (k : J4 (if con x = 0 then lf_dc n ori fus x d0 else d0) (nI (x + 1))) : ∃ m, wX_countDifferences_14 post J4 (nI x) (nI na) (nI n) ph (nI nl) (nI ns) gX rc tmp con sca ini ori fus lLo lHi lF lC xg xj xd gf gl sl so sk sa sc sv m d0 0 := by
  have hi : vp_in (nI x) 6 := vp_in_nI (by omega) (by decide)
  have ec : (nI x).toNatClampNeg = x := nI_clamp (by omega)
  by_cases hc : con x = 0
  · rw [if_pos hc] at k
    have H : ∀ d c, c + d = n → wX_countDifferences_14 post J4 (nI x) (nI na) (nI n) ph (nI nl) (nI ns) gX rc tmp con sca ini ori fus lLo lHi lF lC xg xj xd gf gl sl so sk sa sc sv (d + 1) (lf_to (fun c d => if ori (x * 16 + c) = fus (x * 16 + c) then d else d + 1) 0 c d0) (nI c) := by
      intro d
      induction d with
      | zero =>
        intro c h
        obtain rfl : c = n := by omega
        exact br_t (lf_rfl _) (nm_r (nI_1 x) k)
      | succ d ih =>
        intro c h
        have h1 := ih (c + 1) (by omega)
        rw [lf_to_s (Nat.zero_le _)] at h1
        have i2 : vp_in (nI (x * 16 + c)) 96 := vp_in_nI (by omega) (by decide)
        have e2 : (nI (x * 16 + c)).toNatClampNeg = x * 16 + c := nI_clamp (by omega)
        refine br_f (nI_ge (by omega) (by omega)) (nm_r (lf_16 x c) ⟨hi, br_t (by rw [ec]; exact hc) ⟨i2, i2, br_c (fun z => ?_) (fun z => ?_)⟩⟩)
        · rw [e2] at z
          rw [if_pos z] at h1
          exact nm_r (nI_1 c) h1
        · rw [e2] at z
          rw [if_neg z] at h1
          exact nm_e (nm_r (nI_1 c) h1)
    exact ⟨n + 1, H n 0 (by omega)⟩
  · rw [if_neg hc] at k
    have H : ∀ d c, c + d = n → wX_countDifferences_14 post J4 (nI x) (nI na) (nI n) ph (nI nl) (nI ns) gX rc tmp con sca ini ori fus lLo lHi lF lC xg xj xd gf gl sl so sk sa sc sv (d + 1) d0 (nI c) := by
      intro d
      induction d with
      | zero =>
        intro c h
        obtain rfl : c = n := by omega
        exact br_t (lf_rfl _) (nm_r (nI_1 x) k)
      | succ d ih =>
        intro c h
        have h1 := ih (c + 1) (by omega)
        exact br_f (nI_ge (by omega) (by omega)) (nm_r (lf_16 x c) ⟨hi, br_f (by rw [ec]; exact hc) (nm_r (nI_1 c) h1)⟩)
    exact ⟨n + 1, H n 0 (by omega)⟩
theorem lx_cd {post : Int32 → Prop} (hna : na ≤ 6) (hn : n ≤ 16) (k : post (lf_da na n con ori fus)) : wpX_countDifferences post (nI na, nI n, ph, nI nl, nI ns, gX, rc, tmp, con, sca, ini, ori, fus, lLo, lHi, lF, lC, xg, xj, xd, gf, gl, sl, so, sk, sa, sc, sv) := by
  have H : ∀ d x, x + d = na → wX_countDifferences_4 post (nI na) (nI n) ph (nI nl) (nI ns) gX rc tmp con sca ini ori fus lLo lHi lF lC xg xj xd gf gl sl so sk sa sc sv (d + 1) (lf_to (fun x d => if con x = 0 then lf_dc n ori fus x d else d) 0 x 0) (nI x) := by
    intro d
    induction d with
    | zero =>
      intro x h
      obtain rfl : x = na := by omega
      exact br_t (lf_rfl _) k
    | succ d ih =>
      intro x h
      have h1 := ih (x + 1) (by omega)
      rw [lf_to_s (Nat.zero_le _)] at h1
      exact br_f (nI_ge (by omega) (by omega)) (lx_cd14 (by omega) hna hn h1)
  exact ⟨na + 1, H na 0 (by omega)⟩
/-- both programs' outcomes -/
def lf_o1 (n nl : Nat) (con so sk sa sc sv ini ori sca : Nat → Int32) (Lo Hi F : Nat → Nat) : lf_M := lf_ro n con so sk sa sc sv Lo Hi F nl (lf_cp ini 96 ori, sca)
def lf_o2 (na n g : Nat) (con so sk sa sc sv ini fus sca : Nat → Int32) (Lo Hi F G : Nat → Nat) : lf_M := lf_rt n con so sk sa sc sv Lo Hi F G g (lf_cp ini 96 fus, lf_clr 0 na sca)
theorem lx_run {post : Int32 → SX → Prop} {g : Nat} {s1 s2 : lf_M} (hB : lf_B na n nl ns F L Lo Hi lLo lHi lF lC sl sk sa sc sv kd ar co va dA dC dO) (hG : lf_G nl g G gp xg gf gl yg) (e1 : s1 = lf_o1 n nl con so sk sa sc sv ini ori sca Lo Hi F) (e2 : s2 = lf_o2 na n g con so sk sa sc sv ini fus s1.2 Lo Hi F G)
    (k : post (lf_da na n con s1.1 s2.1) (nI na, nI n, 1, nI nl, nI ns, nI g, rc + 1, tmp, con, s2.2, ini, s1.1, s2.1, lLo, lHi, lF, lC, xg, xj, xd, gf, gl, sl, so, sk, sa, sc, sv)) : wpX_run post (nI na, nI n, 1, nI nl, nI ns, nI g, rc, tmp, con, sca, ini, ori, fus, lLo, lHi, lF, lC, xg, xj, xd, gf, gl, sl, so, sk, sa, sc, sv) := by
  subst e1
  refine br_t rfl ?_
  refine lx_ro hB ?_
  refine lx_rt hB hG ?_
  refine nm_e ?_
  subst e2
  exact lx_cd hB.1.2.1 hB.1.2.2.2.1 k
end LFW
end
section
section LFY
variable {na n nl ns : Nat} {ph gX gY rc : Int32} {tmp con sca ini ori fus lLo lHi lF lC xg xj xd gf gl sl so sk sa sc sv yg yj yd dA dC dO kd ar co va : Nat → Int32} {F L Lo Hi G gp : Nat → Nat}
/-! mode 0 -/
theorem ly_rd21_0 {post : Int32 → Prop} {a : Nat} {x : Int32} (ha : a < na) (hna : na ≤ 6) (hn : n ≤ 16) (hc : ¬ (¬ (0 : Int32) = 0 ∧ ¬ con (nI a).toNatClampNeg = 0)) (k : post (lf_rd n con 0 (ori, sca) (nI a) x)) : wY_readM_21 post 0 (nI a) x (nI na) (nI n) (nI nl) (nI ns) ph gY rc tmp con lLo lHi lF lC yg yj yd sl so dA dC dO kd ar co va ini ori fus sca := by
  unfold lf_rd at k
  rw [if_neg hc] at k
  rcases lf_rng hn x with h | ⟨j, hj, rfl⟩
  · rw [if_pos h] at k
    exact br_c (fun _ => k) (fun h0 => br_f (h.resolve_left h0) k)
  · rw [if_neg (lf_rng_n hn hj)] at k
    have hi : vp_in (nI a * 16 + nI j) 96 := by rw [lf_16]; exact vp_in_nI (by omega) (by decide)
    exact br_f (nI_pos (by omega)) (br_t (nI_lt hj (by omega)) (br_t rfl ⟨hi, k⟩))
theorem ly_read_0 {post : Int32 → Prop} {a : Nat} {x : Int32} (ha : a < na) (hna : na ≤ 6) (hn : n ≤ 16) (k : post (lf_rd n con 0 (ori, sca) (nI a) x)) : wpY_readM post (nI na, nI n, nI nl, nI ns, ph, gY, rc, tmp, con, lLo, lHi, lF, lC, yg, yj, yd, sl, so, dA, dC, dO, kd, ar, co, va, ini, ori, fus, sca) 0 (nI a) x := by
  have hv : vp_in (nI a) 6 := vp_in_nI (by omega) (by decide)
  exact br_f lf_01 (ly_rd21_0 ha hna hn (fun q => q.1 rfl) k)
theorem ly_opv_0 {post : Int32 → Prop} {s w : Nat} {i : Int32} (hs : s < 12) (hw2 : w < 2) (hna : na ≤ 6) (hn : n ≤ 16) (hw : kd (2 * s + w) = 0 ∨ kd (2 * s + w) = 1 ∨ (kd (2 * s + w) = 2 ∧ ∃ a, a < na ∧ ar (2 * s + w) = nI a))
    (k : post (lf_op n con 0 (ori, sca) (kd (2 * s + w)) (ar (2 * s + w)) (co (2 * s + w)) (va (2 * s + w)) i)) : wpY_operand post (nI na, nI n, nI nl, nI ns, ph, gY, rc, tmp, con, lLo, lHi, lF, lC, yg, yj, yd, sl, so, dA, dC, dO, kd, ar, co, va, ini, ori, fus, sca) (nI s) (nI w) i 0 := by
  have hi : vp_in (nI (2 * s + w)) 24 := vp_in_nI (by omega) (by decide)
  have e : (nI (2 * s + w)).toNatClampNeg = 2 * s + w := nI_clamp (by omega)
  unfold lf_op at k
  refine nm_r (e' := nI (2 * s + w)) (by rw [lf_m2, nI_add]) ⟨hi, br_c (fun h => ⟨hi, ?_⟩) (fun h => ⟨hi, br_c (fun h1 => ⟨hi, ?_⟩) (fun h1 => ⟨hi, hi, hi, ?_⟩)⟩)⟩
  · rw [e] at h ⊢
    rw [if_pos h] at k; exact k
  · rw [e] at h h1 ⊢
    rw [if_neg h, if_pos h1] at k; exact k
  · rw [e] at h h1 ⊢
    rw [if_neg h, if_neg h1] at k
    obtain ⟨a, ha, ea⟩ : ∃ a, a < na ∧ ar (2 * s + w) = nI a := hw.elim (fun q => absurd q h) (fun q => q.elim (fun q => absurd q h1) (fun q => q.2))
    rw [ea] at k ⊢
    exact ly_read_0 ha hna hn k
theorem ly_st95_0 {post : SY → Prop} {s a : Nat} {i r : Int32} (hs : s < 12) (ha : a < na) (hna : na ≤ 6) (hn : n ≤ 16) (hc : ¬ (¬ (0 : Int32) = 0 ∧ ¬ con (nI a).toNatClampNeg = 0))
    (k : post (nI na, nI n, nI nl, nI ns, ph, gY, rc, tmp, con, lLo, lHi, lF, lC, yg, yj, yd, sl, so, dA, dC, dO, kd, ar, co, va, ini, (lf_sto n con 0 (ori, sca) (nI a) (dC s * i + dO s) r).1, fus, (lf_sto n con 0 (ori, sca) (nI a) (dC s * i + dO s) r).2)) : wY_execStmt_95 post (nI s) i 0 r (nI a) (nI na) (nI n) (nI nl) (nI ns) ph gY rc tmp con lLo lHi lF lC yg yj yd sl so dA dC dO kd ar co va ini ori fus sca := by
  have hi : vp_in (nI s) 12 := vp_in_nI hs (by decide)
  have e : (nI s).toNatClampNeg = s := nI_clamp (by omega)
  unfold lf_sto at k
  rw [if_neg hc] at k
  refine ⟨hi, hi, nm_r (e' := dC s * i + dO s) (by rw [e]) ?_⟩
  rcases lf_rng hn (dC s * i + dO s) with h | ⟨j, hj, ej⟩
  · rw [if_pos h] at k
    exact br_c (fun _ => k) (fun h0 => br_f (h.resolve_left h0) k)
  · rw [ej, if_neg (lf_rng_n hn hj)] at k
    rw [ej]
    have hi : vp_in (nI a * 16 + nI j) 96 := by rw [lf_16]; exact vp_in_nI (by omega) (by decide)
    exact br_f (nI_pos (by omega)) (br_t (nI_lt hj (by omega)) (br_t rfl ⟨hi, nm_e k⟩))
theorem ly_st60_0 {post : SY → Prop} {s : Nat} {i r : Int32} (hs : s < 12) (ha : ∃ a, a < na ∧ dA s = nI a) (hna : na ≤ 6) (hn : n ≤ 16)
    (k : post (nI na, nI n, nI nl, nI ns, ph, gY, rc, tmp, con, lLo, lHi, lF, lC, yg, yj, yd, sl, so, dA, dC, dO, kd, ar, co, va, ini, (lf_sto n con 0 (ori, sca) (dA s) (dC s * i + dO s) r).1, fus, (lf_sto n con 0 (ori, sca) (dA s) (dC s * i + dO s) r).2)) : wY_execStmt_60 post (nI s) i 0 r (nI na) (nI n) (nI nl) (nI ns) ph gY rc tmp con lLo lHi lF lC yg yj yd sl so dA dC dO kd ar co va ini ori fus sca := by
  have hi : vp_in (nI s) 12 := vp_in_nI hs (by decide)
  have e : (nI s).toNatClampNeg = s := nI_clamp (by omega)
  obtain ⟨a, ha, ea⟩ := ha
  rw [ea] at k
  have hv : vp_in (nI a) 6 := vp_in_nI (by omega) (by decide)
  refine ⟨hi, nm_r (e' := nI a) (by rw [e, ea]) (br_f lf_01 ?_)⟩
  exact ly_st95_0 hs ha hna hn (fun q => q.1 rfl) k
theorem ly_exec_0 {post : SY → Prop} {s i : Nat} (hs : s < ns) (hns : ns ≤ 12) (hna : na ≤ 6) (hn : n ≤ 16) (hSR : lf_SR ns sk sa sc sv kd ar co va dA dC dO) (hw : lf_WF na ns sk sa)
    (k : post (nI na, nI n, nI nl, nI ns, ph, gY, rc, tmp, con, lLo, lHi, lF, lC, yg, yj, yd, sl, so, dA, dC, dO, kd, ar, co, va, ini, (lf_ex n con so sk sa sc sv 0 i s (ori, sca)).1, fus, (lf_ex n con so sk sa sc sv 0 i s (ori, sca)).2)) : wpY_execStmt post (nI na, nI n, nI nl, nI ns, ph, gY, rc, tmp, con, lLo, lHi, lF, lC, yg, yj, yd, sl, so, dA, dC, dO, kd, ar, co, va, ini, ori, fus, sca) (nI s) (nI i) 0 := by
  have hi : vp_in (nI s) 12 := vp_in_nI (by omega) (by decide)
  have e : (nI s).toNatClampNeg = s := nI_clamp (by omega)
  have hd := lf_dst hSR hw s hs
  obtain ⟨⟨a1, a2, a3, a4⟩, ⟨b1, b2, b3, b4⟩, ⟨c1, c2, c3, c4⟩⟩ := hSR s hs
  have w0 := hw (3 * s) (by omega)
  have w1 := hw (3 * s + 1) (by omega)
  rw [a1, a2] at w0
  rw [b1, b2] at w1
  rw [c2] at hd
  unfold lf_ex at k
  rw [a1, a2, a3, a4, b1, b2, b3, b4, c2, c3, c4] at k
  unfold wpY_execStmt
  refine ly_opv_0 (w := 0) (by omega) (by decide) hna hn w0 ?_
  refine ly_opv_0 (w := 1) (by omega) (by decide) hna hn w1 ?_
  unfold lf_al at k
  refine ⟨hi, br_c (fun h => ?_) (fun h => ⟨hi, br_c (fun h2 => ?_) (fun h2 => ?_)⟩)⟩
  · rw [e] at h
    rw [if_pos h] at k
    exact ly_st60_0 (by omega) hd hna hn k
  · rw [e] at h h2
    rw [if_neg h, if_pos h2] at k
    exact ly_st60_0 (by omega) hd hna hn k
  · rw [e] at h h2
    rw [if_neg h, if_neg h2] at k
    exact ly_st60_0 (by omega) hd hna hn k
theorem ly_loop_0 {post : SY → Prop} {l i : Nat} {m : lf_M} (hB : lf_B na n nl ns F L Lo Hi lLo lHi lF lC sl sk sa sc sv kd ar co va dA dC dO) (hl : l < nl)
    (k : post (nI na, nI n, nI nl, nI ns, ph, gY, rc, tmp, con, lLo, lHi, lF, lC, yg, yj, yd, sl, so, dA, dC, dO, kd, ar, co, va, ini, (lf_bd n con so sk sa sc sv 0 (F l) (F (l + 1)) i m).1, fus, (lf_bd n con so sk sa sc sv 0 (F l) (F (l + 1)) i m).2)) : wpY_execLoopIter post (nI na, nI n, nI nl, nI ns, ph, gY, rc, tmp, con, lLo, lHi, lF, lC, yg, yj, yd, sl, so, dA, dC, dO, kd, ar, co, va, ini, m.1, fus, m.2) (nI l) (nI i) 0 := by
  obtain ⟨⟨_, hna, _, hn, hnl, hns⟩, hPT, hLP, hsl, hSR, hw⟩ := hB
  have H : ∀ d s, s + d = ns → wY_execLoopIter_3 post (nI l) (nI i) 0 (d + 1) (nI s) (nI na) (nI n) (nI nl) (nI ns) ph gY rc tmp con lLo lHi lF lC yg yj yd sl so dA dC dO kd ar co va ini ((lf_to (fun s m => lf_ex n con so sk sa sc sv 0 i s m) (F l) (min s (F (l + 1))) m).1) fus ((lf_to (fun s m => lf_ex n con so sk sa sc sv 0 i s m) (F l) (min s (F (l + 1))) m).2) := by
    intro d
    induction d with
    | zero =>
      intro s h
      obtain rfl : s = ns := by omega
      refine br_t (lf_rfl _) ?_
      rw [lf_fil_e (lf_PT_le hPT (by omega))]
      exact k
    | succ d ih =>
      intro s h
      have h1 := ih (s + 1) (by omega)
      have ec : (nI s).toNatClampNeg = s := nI_clamp (by omega)
      have hL := (hPT.2.2.2 s (by omega)).1
      refine br_f (nI_ge (by omega) (by omega)) ⟨vp_in_nI (by omega) (by decide), br_c (fun z => ?_) (fun z => ?_)⟩
      · rw [ec, hsl s (by omega), nI_eq (by omega) (by omega), lf_PT_iff hPT (by omega) hl] at z
        rw [lf_fil_y z.1 z.2] at h1
        refine ly_exec_0 (by omega) hns hna hn hSR hw ?_
        exact nm_r (nI_1 s) h1
      · rw [ec, hsl s (by omega), nI_eq (by omega) (by omega), lf_PT_iff hPT (by omega) hl] at z
        rw [lf_fil_n z] at h1
        exact nm_r (nI_1 s) h1
  have h := H ns 0 (by omega)
  rw [lf_fil_0] at h
  exact ⟨ns + 1, h⟩

/-! mode 1 -/
theorem ly_rd21_1 {post : Int32 → Prop} {a : Nat} {x : Int32} (ha : a < na) (hna : na ≤ 6) (hn : n ≤ 16) (hc : ¬ (¬ (1 : Int32) = 0 ∧ ¬ con (nI a).toNatClampNeg = 0)) (k : post (lf_rd n con 1 (fus, sca) (nI a) x)) : wY_readM_21 post 1 (nI a) x (nI na) (nI n) (nI nl) (nI ns) ph gY rc tmp con lLo lHi lF lC yg yj yd sl so dA dC dO kd ar co va ini ori fus sca := by
  unfold lf_rd at k
  rw [if_neg hc] at k
  rcases lf_rng hn x with h | ⟨j, hj, rfl⟩
  · rw [if_pos h] at k
    exact br_c (fun _ => k) (fun h0 => br_f (h.resolve_left h0) k)
  · rw [if_neg (lf_rng_n hn hj)] at k
    have hi : vp_in (nI a * 16 + nI j) 96 := by rw [lf_16]; exact vp_in_nI (by omega) (by decide)
    exact br_f (nI_pos (by omega)) (br_t (nI_lt hj (by omega)) (br_f lf_10 ⟨hi, k⟩))
theorem ly_read_1 {post : Int32 → Prop} {a : Nat} {x : Int32} (ha : a < na) (hna : na ≤ 6) (hn : n ≤ 16) (k : post (lf_rd n con 1 (fus, sca) (nI a) x)) : wpY_readM post (nI na, nI n, nI nl, nI ns, ph, gY, rc, tmp, con, lLo, lHi, lF, lC, yg, yj, yd, sl, so, dA, dC, dO, kd, ar, co, va, ini, ori, fus, sca) 1 (nI a) x := by
  have hv : vp_in (nI a) 6 := vp_in_nI (by omega) (by decide)
  refine br_t rfl ⟨hv, br_c (fun hd => ly_rd21_1 ha hna hn (fun q => q.2 hd) k) (fun hd => ⟨hv, ?_⟩)⟩
  unfold lf_rd at k
  rw [if_pos ⟨lf_10, hd⟩] at k
  exact k
theorem ly_opv_1 {post : Int32 → Prop} {s w : Nat} {i : Int32} (hs : s < 12) (hw2 : w < 2) (hna : na ≤ 6) (hn : n ≤ 16) (hw : kd (2 * s + w) = 0 ∨ kd (2 * s + w) = 1 ∨ (kd (2 * s + w) = 2 ∧ ∃ a, a < na ∧ ar (2 * s + w) = nI a))
    (k : post (lf_op n con 1 (fus, sca) (kd (2 * s + w)) (ar (2 * s + w)) (co (2 * s + w)) (va (2 * s + w)) i)) : wpY_operand post (nI na, nI n, nI nl, nI ns, ph, gY, rc, tmp, con, lLo, lHi, lF, lC, yg, yj, yd, sl, so, dA, dC, dO, kd, ar, co, va, ini, ori, fus, sca) (nI s) (nI w) i 1 := by
  have hi : vp_in (nI (2 * s + w)) 24 := vp_in_nI (by omega) (by decide)
  have e : (nI (2 * s + w)).toNatClampNeg = 2 * s + w := nI_clamp (by omega)
  unfold lf_op at k
  refine nm_r (e' := nI (2 * s + w)) (by rw [lf_m2, nI_add]) ⟨hi, br_c (fun h => ⟨hi, ?_⟩) (fun h => ⟨hi, br_c (fun h1 => ⟨hi, ?_⟩) (fun h1 => ⟨hi, hi, hi, ?_⟩)⟩)⟩
  · rw [e] at h ⊢
    rw [if_pos h] at k; exact k
  · rw [e] at h h1 ⊢
    rw [if_neg h, if_pos h1] at k; exact k
  · rw [e] at h h1 ⊢
    rw [if_neg h, if_neg h1] at k
    obtain ⟨a, ha, ea⟩ : ∃ a, a < na ∧ ar (2 * s + w) = nI a := hw.elim (fun q => absurd q h) (fun q => q.elim (fun q => absurd q h1) (fun q => q.2))
    rw [ea] at k ⊢
    exact ly_read_1 ha hna hn k
theorem ly_st95_1 {post : SY → Prop} {s a : Nat} {i r : Int32} (hs : s < 12) (ha : a < na) (hna : na ≤ 6) (hn : n ≤ 16) (hc : ¬ (¬ (1 : Int32) = 0 ∧ ¬ con (nI a).toNatClampNeg = 0))
    (k : post (nI na, nI n, nI nl, nI ns, ph, gY, rc, tmp, con, lLo, lHi, lF, lC, yg, yj, yd, sl, so, dA, dC, dO, kd, ar, co, va, ini, ori, (lf_sto n con 1 (fus, sca) (nI a) (dC s * i + dO s) r).1, (lf_sto n con 1 (fus, sca) (nI a) (dC s * i + dO s) r).2)) : wY_execStmt_95 post (nI s) i 1 r (nI a) (nI na) (nI n) (nI nl) (nI ns) ph gY rc tmp con lLo lHi lF lC yg yj yd sl so dA dC dO kd ar co va ini ori fus sca := by
  have hi : vp_in (nI s) 12 := vp_in_nI hs (by decide)
  have e : (nI s).toNatClampNeg = s := nI_clamp (by omega)
  unfold lf_sto at k
  rw [if_neg hc] at k
  refine ⟨hi, hi, nm_r (e' := dC s * i + dO s) (by rw [e]) ?_⟩
  rcases lf_rng hn (dC s * i + dO s) with h | ⟨j, hj, ej⟩
  · rw [if_pos h] at k
    exact br_c (fun _ => k) (fun h0 => br_f (h.resolve_left h0) k)
  · rw [ej, if_neg (lf_rng_n hn hj)] at k
    rw [ej]
    have hi : vp_in (nI a * 16 + nI j) 96 := by rw [lf_16]; exact vp_in_nI (by omega) (by decide)
    exact br_f (nI_pos (by omega)) (br_t (nI_lt hj (by omega)) (br_f lf_10 ⟨hi, nm_e k⟩))
theorem ly_st60_1 {post : SY → Prop} {s : Nat} {i r : Int32} (hs : s < 12) (ha : ∃ a, a < na ∧ dA s = nI a) (hna : na ≤ 6) (hn : n ≤ 16)
    (k : post (nI na, nI n, nI nl, nI ns, ph, gY, rc, tmp, con, lLo, lHi, lF, lC, yg, yj, yd, sl, so, dA, dC, dO, kd, ar, co, va, ini, ori, (lf_sto n con 1 (fus, sca) (dA s) (dC s * i + dO s) r).1, (lf_sto n con 1 (fus, sca) (dA s) (dC s * i + dO s) r).2)) : wY_execStmt_60 post (nI s) i 1 r (nI na) (nI n) (nI nl) (nI ns) ph gY rc tmp con lLo lHi lF lC yg yj yd sl so dA dC dO kd ar co va ini ori fus sca := by
  have hi : vp_in (nI s) 12 := vp_in_nI hs (by decide)
  have e : (nI s).toNatClampNeg = s := nI_clamp (by omega)
  obtain ⟨a, ha, ea⟩ := ha
  rw [ea] at k
  have hv : vp_in (nI a) 6 := vp_in_nI (by omega) (by decide)
  refine ⟨hi, nm_r (e' := nI a) (by rw [e, ea]) (br_t rfl ⟨hv, br_c (fun hd => ly_st95_1 hs ha hna hn (fun q => q.2 hd) k) (fun hd => ⟨hv, nm_e ?_⟩)⟩)⟩
  unfold lf_sto at k
  rw [if_pos ⟨lf_10, hd⟩] at k
  exact k
theorem ly_exec_1 {post : SY → Prop} {s i : Nat} (hs : s < ns) (hns : ns ≤ 12) (hna : na ≤ 6) (hn : n ≤ 16) (hSR : lf_SR ns sk sa sc sv kd ar co va dA dC dO) (hw : lf_WF na ns sk sa)
    (k : post (nI na, nI n, nI nl, nI ns, ph, gY, rc, tmp, con, lLo, lHi, lF, lC, yg, yj, yd, sl, so, dA, dC, dO, kd, ar, co, va, ini, ori, (lf_ex n con so sk sa sc sv 1 i s (fus, sca)).1, (lf_ex n con so sk sa sc sv 1 i s (fus, sca)).2)) : wpY_execStmt post (nI na, nI n, nI nl, nI ns, ph, gY, rc, tmp, con, lLo, lHi, lF, lC, yg, yj, yd, sl, so, dA, dC, dO, kd, ar, co, va, ini, ori, fus, sca) (nI s) (nI i) 1 := by
  have hi : vp_in (nI s) 12 := vp_in_nI (by omega) (by decide)
  have e : (nI s).toNatClampNeg = s := nI_clamp (by omega)
  have hd := lf_dst hSR hw s hs
  obtain ⟨⟨a1, a2, a3, a4⟩, ⟨b1, b2, b3, b4⟩, ⟨c1, c2, c3, c4⟩⟩ := hSR s hs
  have w0 := hw (3 * s) (by omega)
  have w1 := hw (3 * s + 1) (by omega)
  rw [a1, a2] at w0
  rw [b1, b2] at w1
  rw [c2] at hd
  unfold lf_ex at k
  rw [a1, a2, a3, a4, b1, b2, b3, b4, c2, c3, c4] at k
  unfold wpY_execStmt
  refine ly_opv_1 (w := 0) (by omega) (by decide) hna hn w0 ?_
  refine ly_opv_1 (w := 1) (by omega) (by decide) hna hn w1 ?_
  unfold lf_al at k
  refine ⟨hi, br_c (fun h => ?_) (fun h => ⟨hi, br_c (fun h2 => ?_) (fun h2 => ?_)⟩)⟩
  · rw [e] at h
    rw [if_pos h] at k
    exact ly_st60_1 (by omega) hd hna hn k
  · rw [e] at h h2
    rw [if_neg h, if_pos h2] at k
    exact ly_st60_1 (by omega) hd hna hn k
  · rw [e] at h h2
    rw [if_neg h, if_neg h2] at k
    exact ly_st60_1 (by omega) hd hna hn k
theorem ly_loop_1 {post : SY → Prop} {l i : Nat} {m : lf_M} (hB : lf_B na n nl ns F L Lo Hi lLo lHi lF lC sl sk sa sc sv kd ar co va dA dC dO) (hl : l < nl)
    (k : post (nI na, nI n, nI nl, nI ns, ph, gY, rc, tmp, con, lLo, lHi, lF, lC, yg, yj, yd, sl, so, dA, dC, dO, kd, ar, co, va, ini, ori, (lf_bd n con so sk sa sc sv 1 (F l) (F (l + 1)) i m).1, (lf_bd n con so sk sa sc sv 1 (F l) (F (l + 1)) i m).2)) : wpY_execLoopIter post (nI na, nI n, nI nl, nI ns, ph, gY, rc, tmp, con, lLo, lHi, lF, lC, yg, yj, yd, sl, so, dA, dC, dO, kd, ar, co, va, ini, ori, m.1, m.2) (nI l) (nI i) 1 := by
  obtain ⟨⟨_, hna, _, hn, hnl, hns⟩, hPT, hLP, hsl, hSR, hw⟩ := hB
  have H : ∀ d s, s + d = ns → wY_execLoopIter_3 post (nI l) (nI i) 1 (d + 1) (nI s) (nI na) (nI n) (nI nl) (nI ns) ph gY rc tmp con lLo lHi lF lC yg yj yd sl so dA dC dO kd ar co va ini ori ((lf_to (fun s m => lf_ex n con so sk sa sc sv 1 i s m) (F l) (min s (F (l + 1))) m).1) ((lf_to (fun s m => lf_ex n con so sk sa sc sv 1 i s m) (F l) (min s (F (l + 1))) m).2) := by
    intro d
    induction d with
    | zero =>
      intro s h
      obtain rfl : s = ns := by omega
      refine br_t (lf_rfl _) ?_
      rw [lf_fil_e (lf_PT_le hPT (by omega))]
      exact k
    | succ d ih =>
      intro s h
      have h1 := ih (s + 1) (by omega)
      have ec : (nI s).toNatClampNeg = s := nI_clamp (by omega)
      have hL := (hPT.2.2.2 s (by omega)).1
      refine br_f (nI_ge (by omega) (by omega)) ⟨vp_in_nI (by omega) (by decide), br_c (fun z => ?_) (fun z => ?_)⟩
      · rw [ec, hsl s (by omega), nI_eq (by omega) (by omega), lf_PT_iff hPT (by omega) hl] at z
        rw [lf_fil_y z.1 z.2] at h1
        refine ly_exec_1 (by omega) hns hna hn hSR hw ?_
        exact nm_r (nI_1 s) h1
      · rw [ec, hsl s (by omega), nI_eq (by omega) (by omega), lf_PT_iff hPT (by omega) hl] at z
        rw [lf_fil_n z] at h1
        exact nm_r (nI_1 s) h1
  have h := H ns 0 (by omega)
  rw [lf_fil_0] at h
  exact ⟨ns + 1, h⟩

end LFY
end
section
section LFZ
variable {na n nl ns : Nat} {ph gX gY rc : Int32} {tmp con sca ini ori fus lLo lHi lF lC xg xj xd gf gl sl so sk sa sc sv yg yj yd dA dC dO kd ar co va : Nat → Int32} {F L Lo Hi G gp : Nat → Nat}
theorem ly_group {post : SY → Prop} {a g i : Nat} {m : lf_M} (hB : lf_B na n nl ns F L Lo Hi lLo lHi lF lC sl sk sa sc sv kd ar co va dA dC dO) (hG : lf_G nl g G gp xg gf gl yg) (ha : a < g)
    (k : post (nI na, nI n, nI nl, nI ns, ph, gY, rc, tmp, con, lLo, lHi, lF, lC, yg, yj, yd, sl, so, dA, dC, dO, kd, ar, co, va, ini, ori, (lf_bd n con so sk sa sc sv 1 (F (G a)) (F (G (a + 1))) i m).1, (lf_bd n con so sk sa sc sv 1 (F (G a)) (F (G (a + 1))) i m).2)) : wpY_execGroupIter post (nI na, nI n, nI nl, nI ns, ph, gY, rc, tmp, con, lLo, lHi, lF, lC, yg, yj, yd, sl, so, dA, dC, dO, kd, ar, co, va, ini, ori, m.1, m.2) (nI a) (nI i) := by
  obtain ⟨⟨_, hna, _, hn, hnl, hns⟩, hPT, hLP, hsl, hSR, hw⟩ := id hB
  obtain ⟨hGT, hGa, hGl⟩ := hG
  have hg : g ≤ nl := lf_PT_sn hGT (fun a ha => (hGa a ha).1)
  have hle : G (a + 1) ≤ nl := lf_PT_le hGT (by omega)
  have hfl := (lf_flat (f := fun s m => lf_ex n con so sk sa sc sv 1 i s m) (F := F) (a := G a) (m := m) (G (a + 1)) (by have := (hGa a ha).1; omega) (fun k _ h2 => hPT.2.2.1 k (by omega))).2
  have H : ∀ d l, l + d = nl → wY_execGroupIter_2 post (nI a) (nI i) (d + 1) (nI l) (nI na) (nI n) (nI nl) (nI ns) ph gY rc tmp con lLo lHi lF lC yg yj yd sl so dA dC dO kd ar co va ini ori ((lf_to (fun l m => lf_bd n con so sk sa sc sv 1 (F l) (F (l + 1)) i m) (G a) (min l (G (a + 1))) m).1) ((lf_to (fun l m => lf_bd n con so sk sa sc sv 1 (F l) (F (l + 1)) i m) (G a) (min l (G (a + 1))) m).2) := by
    intro d
    induction d with
    | zero =>
      intro l h
      obtain rfl : l = nl := by omega
      refine br_t (lf_rfl _) ?_
      rw [lf_fil_e hle]
      unfold lf_bd
      rw [hfl]
      exact k
    | succ d ih =>
      intro l h
      have h1 := ih (l + 1) (by omega)
      have ec : (nI l).toNatClampNeg = l := nI_clamp (by omega)
      have hL := (hGT.2.2.2 l (by omega)).1
      refine br_f (nI_ge (by omega) (by omega)) ⟨vp_in_nI (by omega) (by decide), br_c (fun z => ?_) (fun z => ?_)⟩
      · rw [ec, (hGl l (by omega)).2, nI_eq (by omega) (by omega), lf_PT_iff hGT (by omega) ha] at z
        rw [lf_fil_y z.1 z.2] at h1
        refine ly_loop_1 hB (by omega) ?_
        exact nm_r (nI_1 l) h1
      · rw [ec, (hGl l (by omega)).2, nI_eq (by omega) (by omega), lf_PT_iff hGT (by omega) ha] at z
        rw [lf_fil_n z] at h1
        exact nm_r (nI_1 l) h1
  have h := H nl 0 (by omega)
  rw [lf_fil_0] at h
  exact ⟨nl + 1, h⟩
theorem ly_gl {post : Int32 → Prop} {a g : Nat} (hnl : nl ≤ 8) (hG : lf_G nl g G gp xg gf gl yg) (ha : a < g) (k : post (nI (G a))) : wpY_groupLoop post (nI na, nI n, nI nl, nI ns, ph, gY, rc, tmp, con, lLo, lHi, lF, lC, yg, yj, yd, sl, so, dA, dC, dO, kd, ar, co, va, ini, ori, fus, sca) (nI a) := by
  obtain ⟨hGT, hGa, hGl⟩ := hG
  have hg : g ≤ nl := lf_PT_sn hGT (fun a ha => (hGa a ha).1)
  have hle : G (a + 1) ≤ nl := lf_PT_le hGT (by omega)
  have hlt := (hGa a ha).1
  have H : ∀ d l, l + d = G a → wY_groupLoop_2 post (nI a) (nI na) (nI n) (nI nl) (nI ns) ph gY rc tmp con lLo lHi lF lC yg yj yd sl so dA dC dO kd ar co va ini ori fus sca (d + 1) (nI l) := by
    intro d
    induction d with
    | zero =>
      intro l h
      obtain rfl : l = G a := by omega
      have ec : (nI (G a)).toNatClampNeg = G a := nI_clamp (by omega)
      have hL := (hGT.2.2.2 (G a) (by omega)).1
      refine br_f (nI_ge (by omega) (by omega)) ⟨vp_in_nI (by omega) (by decide), br_t ?_ k⟩
      rw [ec, (hGl (G a) (by omega)).2, nI_eq (by omega) (by omega), lf_PT_iff hGT (by omega) ha]
      omega
    | succ d ih =>
      intro l h
      have ec : (nI l).toNatClampNeg = l := nI_clamp (by omega)
      have hL := (hGT.2.2.2 l (by omega)).1
      refine br_f (nI_ge (by omega) (by omega)) ⟨vp_in_nI (by omega) (by decide), br_f ?_ (nm_r (nI_1 l) (ih (l + 1) (by omega)))⟩
      rw [ec, (hGl l (by omega)).2, nI_eq (by omega) (by omega), lf_PT_iff hGT (by omega) ha]
      omega
  exact ⟨G a + 1, H (G a) 0 (by omega)⟩
theorem ly_r52 {post : Int32 → SY → Prop} {J37 : Int32 → Int32 → Int32 → Int32 → Int32 → Int32 → Int32 → Int32 → (Nat → Int32) → (Nat → Int32) → (Nat → Int32) → (Nat → Int32) → (Nat → Int32) → (Nat → Int32) → (Nat → Int32) → (Nat → Int32) → (Nat → Int32) → (Nat → Int32) → (Nat → Int32) → (Nat → Int32) → (Nat → Int32) → (Nat → Int32) → (Nat → Int32) → (Nat → Int32) → (Nat → Int32) → (Nat → Int32) → (Nat → Int32) → (Nat → Int32) → (Nat → Int32) → (Nat → Int32) → Prop} {l : Nat} {m : lf_M} (hB : lf_B na n nl ns F L Lo Hi lLo lHi lF lC sl sk sa sc sv kd ar co va dA dC dO) (hl : l < nl)
    (k : J37 (nI (l + 1)) (nI na) (nI n) (nI nl) (nI ns) ph gY rc tmp con lLo lHi lF lC yg yj yd sl so dA dC dO kd ar co va ini ((lf_lp n con so sk sa sc sv 0 (Lo l) (Hi l) (F l) (F (l + 1)) m).1) fus ((lf_lp n con so sk sa sc sv 0 (Lo l) (Hi l) (F l) (F (l + 1)) m).2)) : ∃ q, wY_run_52 post J37 (nI l) q (nI (Lo l)) (nI na) (nI n) (nI nl) (nI ns) ph gY rc tmp con lLo lHi lF lC yg yj yd sl so dA dC dO kd ar co va ini m.1 fus m.2 := by
  have hnl := hB.1.2.2.2.2.1
  have hi : vp_in (nI l) 8 := vp_in_nI (by omega) (by decide)
  have ec : (nI l).toNatClampNeg = l := nI_clamp (by omega)
  obtain ⟨q1, q2, q3, q4, q5, q6⟩ := hB.2.2.1 l hl
  have ex : ∀ i d, Hi l < i → i ≤ 16 → (i ≤ Hi l + 1 ∨ i = Lo l) → wY_run_52 post J37 (nI l) (d + 1) (nI i) (nI na) (nI n) (nI nl) (nI ns) ph gY rc tmp con lLo lHi lF lC yg yj yd sl so dA dC dO kd ar co va ini ((lf_to (fun i m => lf_bd n con so sk sa sc sv 0 (F l) (F (l + 1)) i m) (Lo l) i m).1) fus ((lf_to (fun i m => lf_bd n con so sk sa sc sv 0 (F l) (F (l + 1)) i m) (Lo l) i m).2) := by
    intro i d h1 h2 h3
    refine ⟨hi, br_t ?_ (nm_r (nI_1 l) ?_)⟩
    · rw [ec, q2]; exact nI_lt h1 (by omega)
    · rw [lf_to_x h1 h3]; exact k
  have H : ∀ d i, Lo l ≤ i → Hi l + 1 ≤ i + d → (i ≤ Hi l + 1 ∨ i = Lo l) → wY_run_52 post J37 (nI l) (d + 1) (nI i) (nI na) (nI n) (nI nl) (nI ns) ph gY rc tmp con lLo lHi lF lC yg yj yd sl so dA dC dO kd ar co va ini ((lf_to (fun i m => lf_bd n con so sk sa sc sv 0 (F l) (F (l + 1)) i m) (Lo l) i m).1) fus ((lf_to (fun i m => lf_bd n con so sk sa sc sv 0 (F l) (F (l + 1)) i m) (Lo l) i m).2) := by
    intro d
    induction d with
    | zero =>
      intro i h1 h2 h3
      exact ex i 0 (by omega) (by omega) h3
    | succ d ih =>
      intro i h1 h2 h3
      by_cases hh : Hi l < i
      · exact ex i (d + 1) hh (by omega) h3
      · have h := ih (i + 1) (by omega) (by omega) (by omega)
        rw [lf_to_s h1] at h
        refine ⟨hi, br_f ?_ ?_⟩
        · rw [ec, q2]; exact nI_nlt (by omega) (by omega)
        · refine ly_loop_0 hB hl ?_
          exact nm_r (nI_1 i) h
  have h := H (Hi l + 1) (Lo l) (Nat.le_refl _) (by omega) (Or.inr rfl)
  rw [lf_to_e (Nat.le_refl _)] at h
  exact ⟨_, h⟩
theorem ly_r37 {post : Int32 → SY → Prop} {m : lf_M} (hB : lf_B na n nl ns F L Lo Hi lLo lHi lF lC sl sk sa sc sv kd ar co va dA dC dO) (k : ∃ q, wY_run_83 post (nI na) (nI n) (nI nl) (nI ns) ph gY rc q 0 tmp con lLo lHi lF lC yg yj yd sl so dA dC dO kd ar co va ini ((lf_ro n con so sk sa sc sv Lo Hi F nl m).1) fus ((lf_ro n con so sk sa sc sv Lo Hi F nl m).2)) : ∃ q, wY_run_37 post q 0 (nI na) (nI n) (nI nl) (nI ns) ph gY rc tmp con lLo lHi lF lC yg yj yd sl so dA dC dO kd ar co va ini m.1 fus m.2 := by
  have hnl := hB.1.2.2.2.2.1
  have H : ∀ d l, l + d = nl → wY_run_37 post (d + 1) (nI l) (nI na) (nI n) (nI nl) (nI ns) ph gY rc tmp con lLo lHi lF lC yg yj yd sl so dA dC dO kd ar co va ini ((lf_to (fun l m => lf_lp n con so sk sa sc sv 0 (Lo l) (Hi l) (F l) (F (l + 1)) m) 0 l m).1) fus ((lf_to (fun l m => lf_lp n con so sk sa sc sv 0 (Lo l) (Hi l) (F l) (F (l + 1)) m) 0 l m).2) := by
    intro d
    induction d with
    | zero =>
      intro l h
      obtain rfl : l = nl := by omega
      exact br_t (lf_rfl _) k
    | succ d ih =>
      intro l h
      have h1 := ih (l + 1) (by omega)
      rw [lf_to_s (Nat.zero_le _)] at h1
      have hi : vp_in (nI l) 8 := vp_in_nI (by omega) (by decide)
      have ec : (nI l).toNatClampNeg = l := nI_clamp (by omega)
      exact br_f (nI_ge (by omega) (by omega)) ⟨hi, nm_r (e' := nI (Lo l)) (by rw [ec]; exact (hB.2.2.1 l (by omega)).1) (ly_r52 hB (by omega) h1)⟩
  have h := H nl 0 (by omega)
  rw [lf_to_e (Nat.le_refl _)] at h
  exact ⟨_, h⟩
theorem ly_r11 {post : Int32 → SY → Prop} (k : ∃ q, wY_run_37 post q 0 (nI na) (nI n) (nI nl) (nI ns) ph gY rc tmp con lLo lHi lF lC yg yj yd sl so dA dC dO kd ar co va ini (lf_cp ini 96 ori) fus sca) : ∃ q, wY_run_11 post (nI na) (nI n) (nI nl) (nI ns) ph gY rc q 0 tmp con lLo lHi lF lC yg yj yd sl so dA dC dO kd ar co va ini ori fus sca := by
  have H : ∀ d i, i + d = 96 → wY_run_11 post (nI na) (nI n) (nI nl) (nI ns) ph gY rc (d + 1) (nI i) tmp con lLo lHi lF lC yg yj yd sl so dA dC dO kd ar co va ini (lf_cp ini i ori) fus sca := by
    intro d
    induction d with
    | zero =>
      intro i h
      obtain rfl : i = 96 := by omega
      exact br_t (by decide) k
    | succ d ih =>
      intro i h
      have h1 := ih (i + 1) (by omega)
      rw [← lf_cp_s] at h1
      have hi : vp_in (nI i) 96 := vp_in_nI (by omega) (by decide)
      have ec : (nI i).toNatClampNeg = i := nI_clamp (by omega)
      exact br_f (nI_ge (b := 96) (by omega) (by decide)) ⟨hi, hi, nm_r (by rw [ec]) (nm_r (nI_1 i) h1)⟩
  have h := H 96 0 rfl
  rw [lf_cp0] at h
  exact ⟨97, h⟩
theorem ly_r83 {post : Int32 → SY → Prop} (k : ∃ q, wY_run_109 post (nI na) (nI n) (nI nl) (nI ns) ph gY rc q 0 tmp con lLo lHi lF lC yg yj yd sl so dA dC dO kd ar co va ini ori (lf_cp ini 96 fus) sca) : ∃ q, wY_run_83 post (nI na) (nI n) (nI nl) (nI ns) ph gY rc q 0 tmp con lLo lHi lF lC yg yj yd sl so dA dC dO kd ar co va ini ori fus sca := by
  have H : ∀ d i, i + d = 96 → wY_run_83 post (nI na) (nI n) (nI nl) (nI ns) ph gY rc (d + 1) (nI i) tmp con lLo lHi lF lC yg yj yd sl so dA dC dO kd ar co va ini ori (lf_cp ini i fus) sca := by
    intro d
    induction d with
    | zero =>
      intro i h
      obtain rfl : i = 96 := by omega
      exact br_t (by decide) k
    | succ d ih =>
      intro i h
      have h1 := ih (i + 1) (by omega)
      rw [← lf_cp_s] at h1
      have hi : vp_in (nI i) 96 := vp_in_nI (by omega) (by decide)
      have ec : (nI i).toNatClampNeg = i := nI_clamp (by omega)
      exact br_f (nI_ge (b := 96) (by omega) (by decide)) ⟨hi, hi, nm_r (by rw [ec]) (nm_r (nI_1 i) h1)⟩
  have h := H 96 0 rfl
  rw [lf_cp0] at h
  exact ⟨97, h⟩
theorem ly_r109 {post : Int32 → SY → Prop} (k : ∃ q, wY_run_130 post q 0 (nI na) (nI n) (nI nl) (nI ns) ph gY rc tmp con lLo lHi lF lC yg yj yd sl so dA dC dO kd ar co va ini ori fus (lf_clr 0 6 sca)) : ∃ q, wY_run_109 post (nI na) (nI n) (nI nl) (nI ns) ph gY rc q 0 tmp con lLo lHi lF lC yg yj yd sl so dA dC dO kd ar co va ini ori fus sca := by
  have H : ∀ d i, i + d = 6 → wY_run_109 post (nI na) (nI n) (nI nl) (nI ns) ph gY rc (d + 1) (nI i) tmp con lLo lHi lF lC yg yj yd sl so dA dC dO kd ar co va ini ori fus (lf_clr 0 i sca) := by
    intro d
    induction d with
    | zero =>
      intro i h
      obtain rfl : i = 6 := by omega
      exact br_t (by decide) k
    | succ d ih =>
      intro i h
      have h1 := ih (i + 1) (by omega)
      rw [← lf_clr_s] at h1
      have hi : vp_in (nI i) 6 := vp_in_nI (by omega) (by decide)
      have ec : (nI i).toNatClampNeg = i := nI_clamp (by omega)
      exact br_f (nI_ge (b := 6) (by omega) (by decide)) ⟨hi, nm_r (by rw [ec]) (nm_r (nI_1 i) h1)⟩
  have h := H 6 0 rfl
  rw [lf_clr0] at h
  exact ⟨7, h⟩
theorem ly_r151 {post : Int32 → SY → Prop} {J130 : Int32 → Int32 → Int32 → Int32 → Int32 → Int32 → Int32 → Int32 → (Nat → Int32) → (Nat → Int32) → (Nat → Int32) → (Nat → Int32) → (Nat → Int32) → (Nat → Int32) → (Nat → Int32) → (Nat → Int32) → (Nat → Int32) → (Nat → Int32) → (Nat → Int32) → (Nat → Int32) → (Nat → Int32) → (Nat → Int32) → (Nat → Int32) → (Nat → Int32) → (Nat → Int32) → (Nat → Int32) → (Nat → Int32) → (Nat → Int32) → (Nat → Int32) → (Nat → Int32) → Prop} {a g : Nat} {m : lf_M} (hB : lf_B na n nl ns F L Lo Hi lLo lHi lF lC sl sk sa sc sv kd ar co va dA dC dO) (hG : lf_G nl g G gp xg gf gl yg) (ha : a < g)
    (k : J130 (nI (a + 1)) (nI na) (nI n) (nI nl) (nI ns) ph gY rc tmp con lLo lHi lF lC yg yj yd sl so dA dC dO kd ar co va ini ori ((lf_lp n con so sk sa sc sv 1 (Lo (G a)) (Hi (G a)) (F (G a)) (F (G (a + 1))) m).1) ((lf_lp n con so sk sa sc sv 1 (Lo (G a)) (Hi (G a)) (F (G a)) (F (G (a + 1))) m).2)) : ∃ q, wY_run_151 post J130 (nI a) (nI (G a)) q (nI (Lo (G a))) (nI na) (nI n) (nI nl) (nI ns) ph gY rc tmp con lLo lHi lF lC yg yj yd sl so dA dC dO kd ar co va ini ori m.1 m.2 := by
  have hnl := hB.1.2.2.2.2.1
  have hlt := (hG.2.1 a ha).1
  have hle : G (a + 1) ≤ nl := lf_PT_le hG.1 (by omega)
  have hl : G a < nl := by omega
  have hi : vp_in (nI (G a)) 8 := vp_in_nI (by omega) (by decide)
  have ec : (nI (G a)).toNatClampNeg = G a := nI_clamp (by omega)
  obtain ⟨q1, q2, q3, q4, q5, q6⟩ := hB.2.2.1 (G a) hl
  have ex : ∀ i d, Hi (G a) < i → i ≤ 16 → (i ≤ Hi (G a) + 1 ∨ i = Lo (G a)) → wY_run_151 post J130 (nI a) (nI (G a)) (d + 1) (nI i) (nI na) (nI n) (nI nl) (nI ns) ph gY rc tmp con lLo lHi lF lC yg yj yd sl so dA dC dO kd ar co va ini ori ((lf_to (fun i m => lf_bd n con so sk sa sc sv 1 (F (G a)) (F (G (a + 1))) i m) (Lo (G a)) i m).1) ((lf_to (fun i m => lf_bd n con so sk sa sc sv 1 (F (G a)) (F (G (a + 1))) i m) (Lo (G a)) i m).2) := by
    intro i d h1 h2 h3
    refine ⟨hi, br_t ?_ (nm_r (nI_1 a) ?_)⟩
    · rw [ec, q2]; exact nI_lt h1 (by omega)
    · rw [lf_to_x h1 h3]; exact k
  have H : ∀ d i, Lo (G a) ≤ i → Hi (G a) + 1 ≤ i + d → (i ≤ Hi (G a) + 1 ∨ i = Lo (G a)) → wY_run_151 post J130 (nI a) (nI (G a)) (d + 1) (nI i) (nI na) (nI n) (nI nl) (nI ns) ph gY rc tmp con lLo lHi lF lC yg yj yd sl so dA dC dO kd ar co va ini ori ((lf_to (fun i m => lf_bd n con so sk sa sc sv 1 (F (G a)) (F (G (a + 1))) i m) (Lo (G a)) i m).1) ((lf_to (fun i m => lf_bd n con so sk sa sc sv 1 (F (G a)) (F (G (a + 1))) i m) (Lo (G a)) i m).2) := by
    intro d
    induction d with
    | zero =>
      intro i h1 h2 h3
      exact ex i 0 (by omega) (by omega) h3
    | succ d ih =>
      intro i h1 h2 h3
      by_cases hh : Hi (G a) < i
      · exact ex i (d + 1) hh (by omega) h3
      · have h := ih (i + 1) (by omega) (by omega) (by omega)
        rw [lf_to_s h1] at h
        refine ⟨hi, br_f ?_ ?_⟩
        · rw [ec, q2]; exact nI_nlt (by omega) (by omega)
        · refine ly_group hB hG ha ?_
          exact nm_r (nI_1 i) h
  have h := H (Hi (G a) + 1) (Lo (G a)) (Nat.le_refl _) (by omega) (Or.inr rfl)
  rw [lf_to_e (Nat.le_refl _)] at h
  exact ⟨_, h⟩
theorem ly_r130 {post : Int32 → SY → Prop} {g : Nat} {m : lf_M} (hB : lf_B na n nl ns F L Lo Hi lLo lHi lF lC sl sk sa sc sv kd ar co va dA dC dO) (hG : lf_G nl g G gp xg gf gl yg)
    (k : ∃ q, wY_run_193 post (nI na) (nI n) (nI nl) (nI ns) ph (nI g) (rc + 1) tmp con lLo lHi lF lC yg yj yd sl so dA dC dO kd ar co va ini ori ((lf_rt n con so sk sa sc sv Lo Hi F G g m).1) ((lf_rt n con so sk sa sc sv Lo Hi F G g m).2) q 0 0) : ∃ q, wY_run_130 post q 0 (nI na) (nI n) (nI nl) (nI ns) ph (nI g) rc tmp con lLo lHi lF lC yg yj yd sl so dA dC dO kd ar co va ini ori m.1 m.2 := by
  have hnl := hB.1.2.2.2.2.1
  have hg : g ≤ nl := lf_PT_sn hG.1 (fun a ha => (hG.2.1 a ha).1)
  have H : ∀ d a, a + d = g → wY_run_130 post (d + 1) (nI a) (nI na) (nI n) (nI nl) (nI ns) ph (nI g) rc tmp con lLo lHi lF lC yg yj yd sl so dA dC dO kd ar co va ini ori ((lf_to (fun a m => lf_lp n con so sk sa sc sv 1 (Lo (G a)) (Hi (G a)) (F (G a)) (F (G (a + 1))) m) 0 a m).1) ((lf_to (fun a m => lf_lp n con so sk sa sc sv 1 (Lo (G a)) (Hi (G a)) (F (G a)) (F (G (a + 1))) m) 0 a m).2) := by
    intro d
    induction d with
    | zero =>
      intro a h
      obtain rfl : a = g := by omega
      exact br_t (lf_rfl _) (nm_e k)
    | succ d ih =>
      intro a h
      have h1 := ih (a + 1) (by omega)
      rw [lf_to_s (Nat.zero_le _)] at h1
      have hlt := (hG.2.1 a (by omega)).1
      have hle : G (a + 1) ≤ nl := lf_PT_le hG.1 (by omega)
      have hi : vp_in (nI (G a)) 8 := vp_in_nI (by omega) (by decide)
      have ec : (nI (G a)).toNatClampNeg = G a := nI_clamp (by omega)
      refine br_f (nI_ge (by omega) (by omega)) ?_
      refine ly_gl hnl hG (by omega) ?_
      exact ⟨hi, nm_r (e' := nI (Lo (G a))) (by rw [ec]; exact (hB.2.2.1 (G a) (by omega)).1) (ly_r151 hB hG (by omega) h1)⟩
  have h := H g 0 (by omega)
  rw [lf_to_e (Nat.le_refl _)] at h
  exact ⟨_, h⟩
theorem ly_r215 {post : Int32 → SY → Prop} {J193 : Int32 → Int32 → Prop} {x : Nat} {d0 : Int32} (hx : x < na) (hna : na ≤ 6) (hn : n ≤ 16) (k : J193 (lf_dc n ori fus x d0) (nI (x + 1))) : ∃ m, wY_run_215 post J193 (nI x) (nI na) (nI n) (nI nl) (nI ns) ph gY rc tmp con lLo lHi lF lC yg yj yd sl so dA dC dO kd ar co va ini ori fus sca m d0 0 := by
  have H : ∀ d c, c + d = n → wY_run_215 post J193 (nI x) (nI na) (nI n) (nI nl) (nI ns) ph gY rc tmp con lLo lHi lF lC yg yj yd sl so dA dC dO kd ar co va ini ori fus sca (d + 1) (lf_to (fun c d => if ori (x * 16 + c) = fus (x * 16 + c) then d else d + 1) 0 c d0) (nI c) := by
    intro d
    induction d with
    | zero =>
      intro c h
      obtain rfl : c = n := by omega
      exact br_t (lf_rfl _) (nm_r (nI_1 x) k)
    | succ d ih =>
      intro c h
      have h1 := ih (c + 1) (by omega)
      rw [lf_to_s (Nat.zero_le _)] at h1
      have i2 : vp_in (nI x * 16 + nI c) 96 := by rw [lf_16]; exact vp_in_nI (by omega) (by decide)
      have e2 : (nI x * 16 + nI c).toNatClampNeg = x * 16 + c := by rw [lf_16]; exact nI_clamp (by omega)
      refine br_f (nI_ge (by omega) (by omega)) ⟨i2, i2, br_c (fun z => ?_) (fun z => ?_)⟩
      · rw [e2] at z
        rw [if_pos z] at h1
        exact nm_r (nI_1 c) h1
      · rw [e2] at z
        rw [if_neg z] at h1
        exact nm_e (nm_r (nI_1 c) h1)
  exact ⟨n + 1, H n 0 (by omega)⟩
theorem ly_r193 {post : Int32 → SY → Prop} (hna : na ≤ 6) (hn : n ≤ 16) (k : post (lf_da na n con ori fus) (nI na, nI n, nI nl, nI ns, ph, gY, rc, tmp, con, lLo, lHi, lF, lC, yg, yj, yd, sl, so, dA, dC, dO, kd, ar, co, va, ini, ori, fus, sca)) : ∃ q, wY_run_193 post (nI na) (nI n) (nI nl) (nI ns) ph gY rc tmp con lLo lHi lF lC yg yj yd sl so dA dC dO kd ar co va ini ori fus sca q 0 0 := by
  have H : ∀ d x, x + d = na → wY_run_193 post (nI na) (nI n) (nI nl) (nI ns) ph gY rc tmp con lLo lHi lF lC yg yj yd sl so dA dC dO kd ar co va ini ori fus sca (d + 1) (lf_to (fun x d => if con x = 0 then lf_dc n ori fus x d else d) 0 x 0) (nI x) := by
    intro d
    induction d with
    | zero =>
      intro x h
      obtain rfl : x = na := by omega
      exact br_t (lf_rfl _) k
    | succ d ih =>
      intro x h
      have h1 := ih (x + 1) (by omega)
      rw [lf_to_s (Nat.zero_le _)] at h1
      have hi : vp_in (nI x) 6 := vp_in_nI (by omega) (by decide)
      have ec : (nI x).toNatClampNeg = x := nI_clamp (by omega)
      refine br_f (nI_ge (by omega) (by omega)) ⟨hi, br_c (fun z => ?_) (fun z => ?_)⟩
      · rw [ec] at z
        rw [if_pos z] at h1
        exact ly_r215 (by omega) hna hn h1
      · rw [ec] at z
        rw [if_neg z] at h1
        exact nm_r (nI_1 x) h1
  exact ⟨na + 1, H na 0 (by omega)⟩
theorem lf_clr6 {na : Nat} {s : Nat → Int32} (hna : na ≤ 6) (h : ∀ j, na ≤ j → s j = 0) : lf_clr 0 6 s = lf_clr 0 na s := by
  funext j
  unfold lf_clr
  by_cases h1 : j < na
  · rw [if_pos h1, if_pos (by omega)]
  · rw [if_neg h1]
    by_cases h2 : j < 6
    · rw [if_pos h2, h j (by omega)]
    · rw [if_neg h2]
theorem ly_run {post : Int32 → SY → Prop} {g : Nat} {s1 s2 : lf_M} (hB : lf_B na n nl ns F L Lo Hi lLo lHi lF lC sl sk sa sc sv kd ar co va dA dC dO) (hG : lf_G nl g G gp xg gf gl yg) (e1 : s1 = lf_o1 n nl con so sk sa sc sv ini ori sca Lo Hi F) (e2 : s2 = lf_o2 na n g con so sk sa sc sv ini fus s1.2 Lo Hi F G) (hs : ∀ j, na ≤ j → s1.2 j = 0)
    (k : post (lf_da na n con s1.1 s2.1) (nI na, nI n, nI nl, nI ns, 1, nI g, rc + 1, tmp, con, lLo, lHi, lF, lC, yg, yj, yd, sl, so, dA, dC, dO, kd, ar, co, va, ini, s1.1, s2.1, s2.2)) : wpY_run post (nI na, nI n, nI nl, nI ns, 1, nI g, rc, tmp, con, lLo, lHi, lF, lC, yg, yj, yd, sl, so, dA, dC, dO, kd, ar, co, va, ini, ori, fus, sca) := by
  refine br_f lf_10 ?_
  refine ly_r11 ?_
  refine ly_r37 (m := (lf_cp ini 96 ori, sca)) hB ?_
  refine ly_r83 ?_
  refine ly_r109 ?_
  have e3 : (lf_ro n con so sk sa sc sv Lo Hi F nl (lf_cp ini 96 ori, sca)) = s1 := e1.symm
  rw [e3, lf_clr6 hB.1.2.1 hs]
  refine ly_r130 (m := (lf_cp ini 96 fus, lf_clr 0 na s1.2)) hB hG ?_
  have e4 : (lf_rt n con so sk sa sc sv Lo Hi F G g (lf_cp ini 96 fus, lf_clr 0 na s1.2)) = s2 := e2.symm
  rw [e4]
  exact ly_r193 hB.1.2.1 hB.1.2.2.2.1 k
theorem lf_o1z (hB : lf_B na n nl ns F L Lo Hi lLo lHi lF lC sl sk sa sc sv kd ar co va dA dC dO) (hs : ∀ j, na ≤ j → sca j = 0) : ∀ j, na ≤ j → (lf_o1 n nl con so sk sa sc sv ini ori sca Lo Hi F).2 j = 0 :=
  lf_to_P (lf_sz na) (fun l m _ h2 hm => lf_lp_k (ns := ns) (lf_dst hB.2.2.2.2.1 hB.2.2.2.2.2) hB.1.2.1 (lf_PT_le hB.2.1 (by omega)) hm) hs
theorem lf_o2z {g : Nat} (hB : lf_B na n nl ns F L Lo Hi lLo lHi lF lC sl sk sa sc sv kd ar co va dA dC dO) (hG : lf_G nl g G gp xg gf gl yg) (hs : ∀ j, na ≤ j → sca j = 0) : ∀ j, na ≤ j → (lf_o2 na n g con so sk sa sc sv ini fus sca Lo Hi F G).2 j = 0 :=
  lf_to_P (lf_sz na) (fun a m _ h2 hm => lf_lp_k (ns := ns) (lf_dst hB.2.2.2.2.1 hB.2.2.2.2.2) hB.1.2.1 (lf_PT_le hB.2.1 (lf_PT_le hG.1 (by omega))) hm) (fun j hj => by
    show lf_clr 0 na sca j = 0
    unfold lf_clr
    rw [if_neg (by omega)]
    exact hs j hj)
theorem lz_run {k : Nat} (hB : lf_B na n nl ns F L Lo Hi lLo lHi lF lC sl sk sa sc sv kd ar co va dA dC dO) (hs : ∀ j, na ≤ j → sca j = 0) (hP : lf_P0 nl ph gX gY xg xj xd ∨ lf_P1 nl ph gX gY xg xj xd gf gl yg yj yd) :
    wpX_run (fun r u' => wpY_run (fun r' v' => r' = r ∧ i_Rel (k + 5) u' v') (nI na, nI n, nI nl, nI ns, ph, gY, rc, tmp, con, lLo, lHi, lF, lC, yg, yj, yd, sl, so, dA, dC, dO, kd, ar, co, va, ini, ori, fus, sca)) (nI na, nI n, ph, nI nl, nI ns, gX, rc, tmp, con, sca, ini, ori, fus, lLo, lHi, lF, lC, xg, xj, xd, gf, gl, sl, so, sk, sa, sc, sv) := by
  rcases hP with hP | hP
  · exact br_f (fun z => lf_01 (hP.1.symm.trans z)) (br_t hP.1 ⟨rfl, lf_mk hB hs (Or.inl hP)⟩)
  · obtain ⟨e, g, G, gp, rfl, rfl, hG, hJ⟩ := hP
    subst e
    refine lx_run (s1 := lf_o1 n nl con so sk sa sc sv ini ori sca Lo Hi F) (s2 := lf_o2 na n g con so sk sa sc sv ini fus (lf_o1 n nl con so sk sa sc sv ini ori sca Lo Hi F).2 Lo Hi F G) hB hG rfl rfl ?_
    have z1 := lf_o1z (con := con) (so := so) (ini := ini) (ori := ori) hB hs
    refine ly_run (s1 := lf_o1 n nl con so sk sa sc sv ini ori sca Lo Hi F) (s2 := lf_o2 na n g con so sk sa sc sv ini fus (lf_o1 n nl con so sk sa sc sv ini ori sca Lo Hi F).2 Lo Hi F G) hB hG rfl rfl z1 ?_
    exact ⟨rfl, lf_mk hB (lf_o2z hB hG z1) (Or.inr ⟨rfl, g, G, gp, rfl, rfl, hG, hJ⟩)⟩
theorem i_vc_run {k : Nat} {u : SX} {v : SY} (I : i_Rel k u v) (hk : k + 5 ≤ 2562) : wpX_run (fun r u' => wpY_run (fun r' v' => r' = r ∧ i_Rel (k + 5) u' v') v) u := by
  obtain ⟨na, n, nl, ns, F, L, Lo, Hi, ph, gX, gY, rc, tmp, con, sca, ini, ori, fus, lLo, lHi, lF, lC, xg, xj, xd, gf, gl, sl, so, sk, sa, sc, sv, yg, yj, yd, dA, dC, dO, kd, ar, co, va, rfl, rfl, hB, hs, hP⟩ := I
  exact lz_run hB hs hP
end LFZ
end
section
section LFA1
variable {na n nl ns : Nat} {ph gX gY rc : Int32} {tmp con sca ini ori fus lLo lHi lF lC xg xj xd gf gl sl so sk sa sc sv yg yj yd dA dC dO kd ar co va : Nat → Int32} {F L Lo Hi G gp : Nat → Nat}
/-! least distance: the component -/
theorem lf_mn_n {r : Int32} (h : r ≤ 1000) : lf_mn 1000 r = r := by
  unfold lf_mn
  rw [if_neg (Int32.not_lt.mpr h)]
theorem lf_mn_g {d r : Int32} {P : Int32 → Prop} (k : P (lf_mn d r)) : (r ≤ d → P r) ∧ (¬ r ≤ d → P d) := by
  unfold lf_mn at k
  constructor
  · intro h
    rw [if_neg (Int32.not_lt.mpr h)] at k; exact k
  · intro h
    rw [if_pos (Int32.not_le.mp h)] at k; exact k
theorem lf_gl_b {D : Nat → Nat → Int32} {S : Nat → Nat → Prop} {r : Int32} (h : lf_gl D S r) : r ≤ 1000 := ((h r).mp (lf_rfl r)).1
theorem lf_gl_x {D : Nat → Nat → Int32} (hD : ∀ p q, D p q ≤ 1000) (gs ls le p : Nat) : ∃ r, lf_gl D (fun a b => gs ≤ a ∧ a < gs + p ∧ ls ≤ b ∧ b < ls + le) r := by
  have H : ∀ p0 m, ∃ r, lf_gl D (fun a b => a = p0 ∧ ls ≤ b ∧ b < ls + m) r := by
    intro p0 m
    induction m with
    | zero => exact ⟨1000, lf_gl_0 (fun a b z => by omega)⟩
    | succ m ih =>
      obtain ⟨r, hr⟩ := ih
      exact ⟨_, lf_gl_j hr (lf_gl_1 (hD p0 (ls + m))) (fun a b => by omega)⟩
  induction p with
  | zero => exact ⟨1000, lf_gl_0 (fun a b z => by omega)⟩
  | succ p ih =>
    obtain ⟨r, hr⟩ := ih
    obtain ⟨r', hr'⟩ := H (gs + p) le
    exact ⟨_, lf_gl_j hr hr' (fun a b => by omega)⟩
theorem lx_isW {post : Int32 → Prop} {z : Nat} (hz : z < 36) (f : z % 3 = 2 → post 1) (g : ¬ z % 3 = 2 → post 0) : wpX_isWrite post (nI z) := by
  refine ⟨lf_30, ?_⟩
  rw [lf_r3 (by omega)]
  exact pk_eq (z % 3) 2 f g rfl rfl (by omega) (by decide)
theorem lx_isAcc {post : Int32 → Prop} {z : Nat} (hz : z < 36) (f : sk z = 2 → post 1) (g : ¬ sk z = 2 → post 0) : wpX_isAccess post (nI na, nI n, ph, nI nl, nI ns, gX, rc, tmp, con, sca, ini, ori, fus, lLo, lHi, lF, lC, xg, xj, xd, gf, gl, sl, so, sk, sa, sc, sv) (nI z) := by
  have e : (nI z).toNatClampNeg = z := nI_clamp (by omega)
  refine ⟨vp_in_nI hz (by decide), br_c (fun h => f ?_) (fun h => g ?_)⟩
  · rw [e] at h; exact h
  · rw [e] at h; exact h
theorem lx_conf {post : Int32 → Prop} {p q : Nat} (hp : p < 36) (hq : q < 36) (f : (sk p = 2 ∧ sk q = 2 ∧ sa p = sa q ∧ (p % 3 = 2 ∨ q % 3 = 2)) → post 1) (g : ¬ (sk p = 2 ∧ sk q = 2 ∧ sa p = sa q ∧ (p % 3 = 2 ∨ q % 3 = 2)) → post 0) : wpX_canConflict post (nI na, nI n, ph, nI nl, nI ns, gX, rc, tmp, con, sca, ini, ori, fus, lLo, lHi, lF, lC, xg, xj, xd, gf, gl, sl, so, sk, sa, sc, sv) (nI p) (nI q) := by
  have ep : (nI p).toNatClampNeg = p := nI_clamp (by omega)
  have eq : (nI q).toNatClampNeg = q := nI_clamp (by omega)
  unfold wpX_canConflict
  refine lx_isAcc hp (fun h1 => br_f lf_10 ?_) (fun h1 => br_t rfl (g (fun z => h1 z.1)))
  refine lx_isAcc hq (fun h2 => br_f lf_10 ?_) (fun h2 => br_t rfl (g (fun z => h2 z.2.1)))
  refine ⟨vp_in_nI hp (by decide), vp_in_nI hq (by decide), br_c (fun h3 => ?_) (fun h3 => g (fun z => h3 ?_))⟩
  · rw [ep, eq] at h3
    refine lx_isW hp (fun h4 => br_f lf_10 (f ⟨h1, h2, h3, Or.inl h4⟩)) (fun h4 => br_t rfl ?_)
    exact lx_isW hq (fun h5 => br_f lf_10 (f ⟨h1, h2, h3, Or.inr h5⟩)) (fun h5 => br_t rfl (g (fun z => z.2.2.2.elim h4 h5)))
  · rw [ep, eq]; exact z.2.2.1
theorem lf_st1_t {n : Nat} {cp op cq oq : Int32} {i j : Nat} {b : Int32} (h : cp * nI i + op = cq * nI j + oq ∧ ¬ cp * nI i + op < 0 ∧ cp * nI i + op < nI n) (h2 : ¬ b ≤ nI j - nI i) : lf_st1 n cp op cq oq i j b = nI j - nI i := if_pos ⟨h, Int32.not_le.mp h2⟩
theorem lf_st1_f {n : Nat} {cp op cq oq : Int32} {i j : Nat} {b : Int32} (h : ¬ (cp * nI i + op = cq * nI j + oq ∧ ¬ cp * nI i + op < 0 ∧ cp * nI i + op < nI n) ∨ b ≤ nI j - nI i) : lf_st1 n cp op cq oq i j b = b :=
  if_neg (fun z => h.elim (fun q => q z.1) (fun q => absurd z.2 (Int32.not_lt.mpr q)))
theorem lx_pd41 {post : Int32 → Prop} {J13 : Int32 → Int32 → Prop} {p q l i a : Nat} {b : Int32} (hq : q < 36) (hl : l < nl) (hnl : nl ≤ 8) (hn : n ≤ 16) (hLP : lf_LP nl F Lo Hi lLo lHi lF lC) (ha : a < 6) (eq : sa q = nI a)
    (k : J13 (lf_pi n (sc p) (sv p) (sc q) (sv q) (Lo l) (Hi l) i b) (nI (i + 1))) :
    ∃ m, wX_pairDistance_41 post J13 (nI p) (nI q) (nI l) (nI i) (lf_cell n (nI a) (sc p * nI i + sv p)) (nI na) (nI n) ph (nI nl) (nI ns) gX rc tmp con sca ini ori fus lLo lHi lF lC xg xj xd gf gl sl so sk sa sc sv m b (nI (Lo l)) := by
  have hi : vp_in (nI l) 8 := vp_in_nI (by omega) (by decide)
  have ec : (nI l).toNatClampNeg = l := nI_clamp (by omega)
  obtain ⟨q1, q2, q3, q4, q5, q6⟩ := hLP l hl
  have ex : ∀ j d, Hi l < j → j ≤ 16 → (j ≤ Hi l + 1 ∨ j = Lo l) → wX_pairDistance_41 post J13 (nI p) (nI q) (nI l) (nI i) (lf_cell n (nI a) (sc p * nI i + sv p)) (nI na) (nI n) ph (nI nl) (nI ns) gX rc tmp con sca ini ori fus lLo lHi lF lC xg xj xd gf gl sl so sk sa sc sv (d + 1) (lf_to (fun j b => lf_st1 n (sc p) (sv p) (sc q) (sv q) i j b) (Lo l) j b) (nI j) := by
    intro j d h1 h2 h3
    refine ⟨hi, br_t ?_ (nm_r (nI_1 i) ?_)⟩
    · rw [ec, q2]; exact nI_lt h1 (by omega)
    · rw [lf_to_x h1 h3]; exact k
  have H : ∀ d j, Lo l ≤ j → Hi l + 1 ≤ j + d → (j ≤ Hi l + 1 ∨ j = Lo l) → wX_pairDistance_41 post J13 (nI p) (nI q) (nI l) (nI i) (lf_cell n (nI a) (sc p * nI i + sv p)) (nI na) (nI n) ph (nI nl) (nI ns) gX rc tmp con sca ini ori fus lLo lHi lF lC xg xj xd gf gl sl so sk sa sc sv (d + 1) (lf_to (fun j b => lf_st1 n (sc p) (sv p) (sc q) (sv q) i j b) (Lo l) j b) (nI j) := by
    intro d
    induction d with
    | zero =>
      intro j h1 h2 h3
      exact ex j 0 (by omega) (by omega) h3
    | succ d ih =>
      intro j h1 h2 h3
      by_cases hh : Hi l < j
      · exact ex j (d + 1) hh (by omega) h3
      · have h := ih (j + 1) (by omega) (by omega) (by omega)
        rw [lf_to_s h1] at h
        have hx : ¬ lHi (nI l).toNatClampNeg < nI j := by rw [ec, q2]; exact nI_nlt (by omega) (by omega)
        have hiff := lf_cell_iff (n := n) (a := a) (x := sc p * nI i + sv p) (y := sc q * nI j + sv q) hn ha
        refine ⟨hi, br_f hx (br_c (fun hc => ?_) (fun hc => ?_))⟩
        · rw [lf_st1_f (Or.inl (fun z => (hiff.mpr z).1 hc))] at h
          exact nm_r (nI_1 j) h
        · refine lx_cellAt hq ?_
          rw [eq]
          refine br_c (fun hd => br_c (fun he => ?_) (fun he => ?_)) (fun hd => ?_)
          · rw [lf_st1_f (Or.inr he)] at h
            exact nm_r (nI_1 j) h
          · rw [lf_st1_t (hiff.mp ⟨hc, hd⟩) he] at h
            exact nm_e (nm_r (nI_1 j) h)
          · rw [lf_st1_f (Or.inl (fun z => hd (hiff.mpr z).2))] at h
            exact nm_r (nI_1 j) h
  have h := H (Hi l + 1) (Lo l) (Nat.le_refl _) (by omega) (Or.inr rfl)
  rw [lf_to_e (Nat.le_refl _)] at h
  exact ⟨_, h⟩
theorem lx_pd {post : Int32 → Prop} {p q l : Nat} (hp : p < 36) (hq : q < 36) (hl : l < nl) (hnl : nl ≤ 8) (hna : na ≤ 6) (hn : n ≤ 16) (hLP : lf_LP nl F Lo Hi lLo lHi lF lC) (ha : ∃ a, a < na ∧ sa p = nI a) (epq : sa p = sa q)
    (k : post (lf_pd n (Lo l) (Hi l) (sc p) (sv p) (sc q) (sv q))) : wpX_pairDistance post (nI na, nI n, ph, nI nl, nI ns, gX, rc, tmp, con, sca, ini, ori, fus, lLo, lHi, lF, lC, xg, xj, xd, gf, gl, sl, so, sk, sa, sc, sv) (nI p) (nI q) (nI l) := by
  have hi : vp_in (nI l) 8 := vp_in_nI (by omega) (by decide)
  have ec : (nI l).toNatClampNeg = l := nI_clamp (by omega)
  obtain ⟨q1, q2, q3, q4, q5, q6⟩ := id (hLP l hl)
  obtain ⟨a, ha, ea⟩ := ha
  have ex : ∀ i d, Hi l < i → i ≤ 16 → (i ≤ Hi l + 1 ∨ i = Lo l) → wX_pairDistance_13 post (nI p) (nI q) (nI l) (nI na) (nI n) ph (nI nl) (nI ns) gX rc tmp con sca ini ori fus lLo lHi lF lC xg xj xd gf gl sl so sk sa sc sv (d + 1) (lf_to (fun i b => lf_pi n (sc p) (sv p) (sc q) (sv q) (Lo l) (Hi l) i b) (Lo l) i 1000) (nI i) := by
    intro i d h1 h2 h3
    refine ⟨hi, br_t ?_ ?_⟩
    · rw [ec, q2]; exact nI_lt h1 (by omega)
    · rw [lf_to_x h1 h3]; exact k
  have H : ∀ d i, Lo l ≤ i → Hi l + 1 ≤ i + d → (i ≤ Hi l + 1 ∨ i = Lo l) → wX_pairDistance_13 post (nI p) (nI q) (nI l) (nI na) (nI n) ph (nI nl) (nI ns) gX rc tmp con sca ini ori fus lLo lHi lF lC xg xj xd gf gl sl so sk sa sc sv (d + 1) (lf_to (fun i b => lf_pi n (sc p) (sv p) (sc q) (sv q) (Lo l) (Hi l) i b) (Lo l) i 1000) (nI i) := by
    intro d
    induction d with
    | zero =>
      intro i h1 h2 h3
      exact ex i 0 (by omega) (by omega) h3
    | succ d ih =>
      intro i h1 h2 h3
      by_cases hh : Hi l < i
      · exact ex i (d + 1) hh (by omega) h3
      · have h := ih (i + 1) (by omega) (by omega) (by omega)
        rw [lf_to_s h1] at h
        have hx : ¬ lHi (nI l).toNatClampNeg < nI i := by rw [ec, q2]; exact nI_nlt (by omega) (by omega)
        refine ⟨hi, br_f hx ?_⟩
        refine lx_cellAt hp ?_
        rw [ea]
        exact ⟨hi, nm_r (e' := nI (Lo l)) (by rw [ec]; exact q1) (lx_pd41 hq hl hnl hn hLP (by omega) (epq.symm.trans ea) h)⟩
  refine ⟨hi, nm_r (e' := nI (Lo l)) (by rw [ec]; exact q1) ⟨Hi l + 1 + 1, ?_⟩⟩
  have h := H (Hi l + 1) (Lo l) (Nat.le_refl _) (by omega) (Or.inr rfl)
  rw [lf_to_e (Nat.le_refl _)] at h
  exact h
theorem lf_D_t {n lo hi : Nat} {sk sa sc sv : Nat → Int32} {p q : Nat} (h : sk p = 2 ∧ sk q = 2 ∧ sa p = sa q ∧ (p % 3 = 2 ∨ q % 3 = 2)) : lf_D n lo hi sk sa sc sv p q = lf_pd n lo hi (sc p) (sv p) (sc q) (sv q) := if_pos h
theorem lf_D_f {n lo hi : Nat} {sk sa sc sv : Nat → Int32} {p q : Nat} (h : ¬ (sk p = 2 ∧ sk q = 2 ∧ sa p = sa q ∧ (p % 3 = 2 ∨ q % 3 = 2))) : lf_D n lo hi sk sa sc sv p q = 1000 := if_neg h
theorem lf_WF2 {z : Nat} (hz : z < 3 * ns) (hw : lf_WF na ns sk sa) (h : sk z = 2) : ∃ a, a < na ∧ sa z = nI a := by
  rcases hw z hz with h1 | h1 | h1
  · exact absurd (h1.symm.trans h) (by decide)
  · exact absurd (h1.symm.trans h) (by decide)
  · exact h1.2
theorem lx_ld57 {post : Int32 → Prop} {J48 : Int32 → Int32 → Prop} {l gs ls le p : Nat} {r0 : Int32} (hls : ls ≤ le) (hp : gs ≤ p) (hp2 : p < ls) (hle : le ≤ 3 * ns) (hns : ns ≤ 12) (hl : l < nl) (hnl : nl ≤ 8) (hna : na ≤ 6) (hn : n ≤ 16) (hLP : lf_LP nl F Lo Hi lLo lHi lF lC) (hw : lf_WF na ns sk sa)
    (h0 : lf_gl (lf_D n (Lo l) (Hi l) sk sa sc sv) (fun a b => gs ≤ a ∧ a < p ∧ ls ≤ b ∧ b < le) r0)
    (k : ∀ r, lf_gl (lf_D n (Lo l) (Hi l) sk sa sc sv) (fun a b => gs ≤ a ∧ a < p + 1 ∧ ls ≤ b ∧ b < le) r → J48 r (nI (p + 1))) :
    ∃ m, wX_leastDistance_57 post J48 (nI l) (nI ls) (nI le) (nI p) (nI na) (nI n) ph (nI nl) (nI ns) gX rc tmp con sca ini ori fus lLo lHi lF lC xg xj xd gf gl sl so sk sa sc sv m r0 (nI ls) := by
  have H : ∀ d q r, ls ≤ q → q + d = le → lf_gl (lf_D n (Lo l) (Hi l) sk sa sc sv) (fun a b => (gs ≤ a ∧ a < p ∧ ls ≤ b ∧ b < le) ∨ (a = p ∧ ls ≤ b ∧ b < q)) r → wX_leastDistance_57 post J48 (nI l) (nI ls) (nI le) (nI p) (nI na) (nI n) ph (nI nl) (nI ns) gX rc tmp con sca ini ori fus lLo lHi lF lC xg xj xd gf gl sl so sk sa sc sv (d + 1) r (nI q) := by
    intro d
    induction d with
    | zero =>
      intro q r h1 h2 h3
      obtain rfl : q = le := by omega
      exact br_t (lf_rfl _) (nm_r (nI_1 p) (k r (lf_gl_e h3 (fun a b => by omega))))
    | succ d ih =>
      intro q r h1 h2 h3
      have hj := lf_gl_j (S' := fun a b => (gs ≤ a ∧ a < p ∧ ls ≤ b ∧ b < le) ∨ (a = p ∧ ls ≤ b ∧ b < q + 1)) h3 (lf_gl_1 (p := p) (q := q) lf_D_le) (fun a b => by omega)
      refine br_f (nI_ge (by omega) (by omega)) ?_
      refine lx_conf (by omega) (by omega) (fun hc => br_f lf_10 ?_) (fun hc => br_t rfl ?_)
      · rw [lf_D_t hc] at hj
        refine lx_pd (by omega) (by omega) hl hnl hna hn hLP (lf_WF2 (by omega) hw hc.1) hc.2.2.1 ?_
        exact lf_mn_g (P := fun v => ∀ x7, x7 = nI q + 1 → wX_leastDistance_57 post J48 (nI l) (nI ls) (nI le) (nI p) (nI na) (nI n) ph (nI nl) (nI ns) gX rc tmp con sca ini ori fus lLo lHi lF lC xg xj xd gf gl sl so sk sa sc sv (d + 1) v x7) (nm_r (nI_1 q) (ih (q + 1) _ (by omega) (by omega) hj))
      · rw [lf_D_f hc, lf_mn_n (lf_gl_b h3)] at hj
        exact nm_r (nI_1 q) (ih (q + 1) r (by omega) (by omega) hj)
  exact ⟨_, H (le - ls) ls r0 (Nat.le_refl _) (by omega) (lf_gl_e h0 (fun a b => by omega))⟩
theorem lx_ld {post : Int32 → Prop} {l g : Nat} {r : Int32} (hB : lf_B na n nl ns F L Lo Hi lLo lHi lF lC sl sk sa sc sv kd ar co va dA dC dO) (hG : lf_G l g G gp xg gf gl yg) (h0 : 0 < l) (hl : l < nl)
    (hr : lf_gl (lf_D n (Lo l) (Hi l) sk sa sc sv) (fun a b => 3 * F (G (g - 1)) ≤ a ∧ a < 3 * F l ∧ 3 * F l ≤ b ∧ b < 3 * F (l + 1)) r) (k : post r) : wpX_leastDistance post (nI na, nI n, ph, nI nl, nI ns, nI g, rc, tmp, con, sca, ini, ori, fus, lLo, lHi, lF, lC, xg, xj, xd, gf, gl, sl, so, sk, sa, sc, sv) (nI l) := by
  obtain ⟨⟨_, hna, _, hn, hnl, hns⟩, hPT, hLP, hsl, hSR, hw⟩ := hB
  have hg : g ≤ l := lf_PT_sn hG.1 (fun a ha => (hG.2.1 a ha).1)
  have hg0 : 0 < g := by have := (hG.1.2.2.2 0 h0).1; omega
  obtain ⟨p1, p2, p3⟩ := hG.2.1 (g - 1) (by omega)
  rw [show g - 1 + 1 = g by omega, hG.1.2.1] at p1
  have e1 : (nI g - 1).toNatClampNeg = g - 1 := by rw [lf_p1 hg0]; exact nI_clamp (by omega)
  have i1 : vp_in (nI g - 1) 8 := by rw [lf_p1 hg0]; exact vp_in_nI (by omega) (by decide)
  have i2 : vp_in (nI (G (g - 1))) 8 := vp_in_nI (by omega) (by decide)
  have e2 : (nI (G (g - 1))).toNatClampNeg = G (g - 1) := nI_clamp (by omega)
  have i3 : vp_in (nI l) 8 := vp_in_nI (by omega) (by decide)
  have e3 : (nI l).toNatClampNeg = l := nI_clamp (by omega)
  have hm : F (G (g - 1)) ≤ F l := lf_PT_mono hPT _ (by omega) (by omega)
  have hm2 : F l ≤ F (l + 1) := hPT.2.2.1 l hl
  have hle : F (l + 1) ≤ ns := lf_PT_le hPT (by omega)
  refine ⟨i1, ?_, nm_r (e' := nI (3 * F (G (g - 1)))) ?_ ⟨i3, nm_r (e' := nI (3 * F l)) ?_ ⟨i3, nm_r (e' := nI (3 * F (l + 1))) ?_ ⟨3 * F l - 3 * F (G (g - 1)) + 1, ?_⟩⟩⟩⟩
  · rw [e1, p2]; exact i2
  · rw [e1, p2, e2, (hLP (G (g - 1)) (by omega)).2.2.2.2.1, lf_m3]
  · rw [e3, (hLP l hl).2.2.2.2.1, lf_m3]
  · rw [e3, (hLP l hl).2.2.2.2.2, lf_m3, nI_add]
    exact congrArg nI (by omega)
  · have H : ∀ d p r', 3 * F (G (g - 1)) ≤ p → p + d = 3 * F l → lf_gl (lf_D n (Lo l) (Hi l) sk sa sc sv) (fun a b => 3 * F (G (g - 1)) ≤ a ∧ a < p ∧ 3 * F l ≤ b ∧ b < 3 * F (l + 1)) r' → wX_leastDistance_48 post (nI l) (nI (3 * F l)) (nI (3 * F (l + 1))) (nI na) (nI n) ph (nI nl) (nI ns) (nI g) rc tmp con sca ini ori fus lLo lHi lF lC xg xj xd gf gl sl so sk sa sc sv (d + 1) r' (nI p) := by
      intro d
      induction d with
      | zero =>
        intro p r' h1 h2 h3
        obtain rfl : p = 3 * F l := by omega
        obtain rfl := lf_gl_u hr h3 (fun a b => Iff.rfl)
        exact br_t (lf_rfl _) k
      | succ d ih =>
        intro p r' h1 h2 h3
        exact br_f (nI_ge (by omega) (by omega)) (lx_ld57 (by omega) h1 (by omega) (by omega) hns hl hnl hna hn hLP hw h3 (fun r hr => ih (p + 1) r (by omega) (by omega) hr))
    exact H (3 * F l - 3 * F (G (g - 1))) (3 * F (G (g - 1))) 1000 (Nat.le_refl _) (by omega) (lf_gl_0 (fun a b z => by omega))
end LFA1
end
section
section LFA2
variable {na n nl ns : Nat} {ph gX gY rc : Int32} {tmp con sca ini ori fus lLo lHi lF lC xg xj xd gf gl sl so sk sa sc sv yg yj yd dA dC dO kd ar co va : Nat → Int32} {F L Lo Hi G gp : Nat → Nat}
/-! placing a loop: the component -/
theorem lx_p77 {post : SX → Prop} {k g : Nat} {d j : Int32} (hk : k < 8) (hg0 : 0 < g) (hg : g ≤ 8)
    (K : post (nI na, nI n, ph, nI nl, nI ns, nI g, rc, tmp, con, sca, ini, ori, fus, lLo, lHi, lF, lC, upd xg k (nI (g - 1)), upd xj k j, upd xd k d, gf, upd gl (g - 1) (gl (g - 1) + 1), sl, so, sk, sa, sc, sv)) : wX_placeLoop_77 post (nI k) d j (nI na) (nI n) ph (nI nl) (nI ns) (nI g) rc tmp con sca ini ori fus lLo lHi lF lC xg xj xd gf gl sl so sk sa sc sv := by
  have e1 : (nI g - 1).toNatClampNeg = g - 1 := by rw [lf_p1 hg0]; exact nI_clamp (by omega)
  have i1 : vp_in (nI g - 1) 8 := by rw [lf_p1 hg0]; exact vp_in_nI (by omega) (by decide)
  have i3 : vp_in (nI k) 8 := vp_in_nI (by omega) (by decide)
  have e3 : (nI k).toNatClampNeg = k := nI_clamp (by omega)
  exact ⟨i1, i1, nm_r (by rw [e1]) ⟨i3, nm_r (by rw [e3, lf_p1 hg0]) ⟨i3, nm_r (by rw [e3]) ⟨i3, nm_r (by rw [e3]) K⟩⟩⟩⟩
theorem lx_pnew {post : SX → Prop} {k g : Nat} {d j : Int32} (hk : k < 8) (hg : g < 8) (hj : ¬ j = 1)
    (K : post (nI na, nI n, ph, nI nl, nI ns, nI (g + 1), rc, tmp, con, sca, ini, ori, fus, lLo, lHi, lF, lC, upd xg k (nI g), upd xj k j, upd xd k d, upd gf g (nI k), upd (upd gl g 0) g (upd gl g 0 g + 1), sl, so, sk, sa, sc, sv)) : wX_placeLoop_42 post (nI k) d j (nI na) (nI n) ph (nI nl) (nI ns) (nI g) rc tmp con sca ini ori fus lLo lHi lF lC xg xj xd gf gl sl so sk sa sc sv := by
  have i1 : vp_in (nI g) 8 := vp_in_nI (by omega) (by decide)
  have e1 : (nI g).toNatClampNeg = g := nI_clamp (by omega)
  refine br_f hj ⟨i1, nm_r (by rw [e1]) ⟨i1, nm_r (by rw [e1]) (nm_r (nI_1 g) ?_)⟩⟩
  exact lx_p77 hk (by omega) (by omega) K
theorem lx_bounds {post : Int32 → Prop} {k : Nat} (h0 : 0 < k) (hk : k < nl) (hnl : nl ≤ 8) (hLP : lf_LP nl F Lo Hi lLo lHi lF lC) (f : (Lo k = Lo (k - 1) ∧ Hi k = Hi (k - 1)) → post 1) (g : ¬ (Lo k = Lo (k - 1) ∧ Hi k = Hi (k - 1)) → post 0) : wpX_hasBoundsOf post (nI na, nI n, ph, nI nl, nI ns, gX, rc, tmp, con, sca, ini, ori, fus, lLo, lHi, lF, lC, xg, xj, xd, gf, gl, sl, so, sk, sa, sc, sv) (nI k) (nI k - 1) := by
  rw [lf_p1 h0]
  have i1 : vp_in (nI k) 8 := vp_in_nI (by omega) (by decide)
  have e1 : (nI k).toNatClampNeg = k := nI_clamp (by omega)
  have i2 : vp_in (nI (k - 1)) 8 := vp_in_nI (by omega) (by decide)
  have e2 : (nI (k - 1)).toNatClampNeg = k - 1 := nI_clamp (by omega)
  obtain ⟨a1, a2, a3, a4, _⟩ := hLP k hk
  obtain ⟨b1, b2, b3, b4, _⟩ := hLP (k - 1) (by omega)
  refine ⟨i1, i2, br_c (fun h => ⟨i1, i2, br_c (fun h' => f ?_) (fun h' => g ?_)⟩) (fun h => g ?_)⟩
  · rw [e1, e2, a1, b1, nI_eq (by omega) (by omega)] at h
    rw [e1, e2, a2, b2, nI_eq (by omega) (by omega)] at h'
    exact ⟨h, h'⟩
  · rw [e1, e2, a2, b2, nI_eq (by omega) (by omega)] at h'
    exact fun z => h' z.2
  · rw [e1, e2, a1, b1, nI_eq (by omega) (by omega)] at h
    exact fun z => h z.1
theorem lx_placeA {post : SX → Prop} (K : post (nI na, nI n, ph, nI nl, nI ns, nI (0 + 1), rc, tmp, con, sca, ini, ori, fus, lLo, lHi, lF, lC, upd xg 0 (nI 0), upd xj 0 0, upd xd 0 1000, upd gf 0 (nI 0), upd (upd gl 0 0) 0 (upd gl 0 0 0 + 1), sl, so, sk, sa, sc, sv)) : wpX_placeLoop post (nI na, nI n, ph, nI nl, nI ns, nI 0, rc, tmp, con, sca, ini, ori, fus, lLo, lHi, lF, lC, xg, xj, xd, gf, gl, sl, so, sk, sa, sc, sv) (nI 0) :=
  br_t (lf_rfl _) (lx_pnew (g := 0) (by decide) (by decide) lf_01 K)
theorem lf_21 : ¬ (2 : Int32) = 1 := by decide
theorem lf_31 : ¬ (3 : Int32) = 1 := by decide
theorem lx_placeB {post : SX → Prop} {k g : Nat} (h0 : 0 < k) (hk : k < nl) (hnl : nl ≤ 8) (hg : g < 8) (hLP : lf_LP nl F Lo Hi lLo lHi lF lC) (hb : ¬ (Lo k = Lo (k - 1) ∧ Hi k = Hi (k - 1)))
    (K : post (nI na, nI n, ph, nI nl, nI ns, nI (g + 1), rc, tmp, con, sca, ini, ori, fus, lLo, lHi, lF, lC, upd xg k (nI g), upd xj k 2, upd xd k 1000, upd gf g (nI k), upd (upd gl g 0) g (upd gl g 0 g + 1), sl, so, sk, sa, sc, sv)) : wpX_placeLoop post (nI na, nI n, ph, nI nl, nI ns, nI g, rc, tmp, con, sca, ini, ori, fus, lLo, lHi, lF, lC, xg, xj, xd, gf, gl, sl, so, sk, sa, sc, sv) (nI k) := by
  refine br_f (nI_nle h0 (by omega)) ?_
  exact lx_bounds h0 hk hnl hLP (fun z => absurd z hb) (fun _ => br_t rfl (lx_pnew (by omega) hg lf_21 K))
theorem lx_placeC {post : SX → Prop} {k g : Nat} {r : Int32} (hB : lf_B na n nl ns F L Lo Hi lLo lHi lF lC sl sk sa sc sv kd ar co va dA dC dO) (hG : lf_G k g G gp xg gf gl yg) (h0 : 0 < k) (hk : k < nl) (hb : Lo k = Lo (k - 1) ∧ Hi k = Hi (k - 1))
    (hr : lf_gl (lf_D n (Lo k) (Hi k) sk sa sc sv) (fun a b => 3 * F (G (g - 1)) ≤ a ∧ a < 3 * F k ∧ 3 * F k ≤ b ∧ b < 3 * F (k + 1)) r) (hr0 : ¬ 0 ≤ r)
    (K : post (nI na, nI n, ph, nI nl, nI ns, nI (g + 1), rc, tmp, con, sca, ini, ori, fus, lLo, lHi, lF, lC, upd xg k (nI g), upd xj k 3, upd xd k r, upd gf g (nI k), upd (upd gl g 0) g (upd gl g 0 g + 1), sl, so, sk, sa, sc, sv)) : wpX_placeLoop post (nI na, nI n, ph, nI nl, nI ns, nI g, rc, tmp, con, sca, ini, ori, fus, lLo, lHi, lF, lC, xg, xj, xd, gf, gl, sl, so, sk, sa, sc, sv) (nI k) := by
  have hnl := hB.1.2.2.2.2.1
  have hg : g ≤ k := lf_PT_sn hG.1 (fun a ha => (hG.2.1 a ha).1)
  refine br_f (nI_nle h0 (by omega)) ?_
  refine lx_bounds h0 hk hnl hB.2.2.1 (fun _ => br_f lf_10 ?_) (fun z => absurd hb z)
  refine lx_ld hB hG h0 hk hr ?_
  exact br_f hr0 (lx_pnew (by omega) (by omega) lf_31 K)
theorem lx_placeD {post : SX → Prop} {k g : Nat} {r : Int32} (hB : lf_B na n nl ns F L Lo Hi lLo lHi lF lC sl sk sa sc sv kd ar co va dA dC dO) (hG : lf_G k g G gp xg gf gl yg) (h0 : 0 < k) (hk : k < nl) (hb : Lo k = Lo (k - 1) ∧ Hi k = Hi (k - 1))
    (hr : lf_gl (lf_D n (Lo k) (Hi k) sk sa sc sv) (fun a b => 3 * F (G (g - 1)) ≤ a ∧ a < 3 * F k ∧ 3 * F k ≤ b ∧ b < 3 * F (k + 1)) r) (hr0 : 0 ≤ r)
    (K : post (nI na, nI n, ph, nI nl, nI ns, nI g, rc, tmp, con, sca, ini, ori, fus, lLo, lHi, lF, lC, upd xg k (nI (g - 1)), upd xj k 1, upd xd k r, gf, upd gl (g - 1) (gl (g - 1) + 1), sl, so, sk, sa, sc, sv)) : wpX_placeLoop post (nI na, nI n, ph, nI nl, nI ns, nI g, rc, tmp, con, sca, ini, ori, fus, lLo, lHi, lF, lC, xg, xj, xd, gf, gl, sl, so, sk, sa, sc, sv) (nI k) := by
  have hnl := hB.1.2.2.2.2.1
  have hg : g ≤ k := lf_PT_sn hG.1 (fun a ha => (hG.2.1 a ha).1)
  have hg0 : 0 < g := by have := (hG.1.2.2.2 0 h0).1; omega
  refine br_f (nI_nle h0 (by omega)) ?_
  refine lx_bounds h0 hk hnl hB.2.2.1 (fun _ => br_f lf_10 ?_) (fun z => absurd hb z)
  refine lx_ld hB hG h0 hk hr ?_
  exact br_t hr0 (br_t rfl (lx_p77 (by omega) hg0 (by omega) K))
/-! contraction: the component -/
theorem lx_accOf {post : Int32 → Prop} {x z : Nat} (hz : z < 36) (f : lf_acc sk sa x z → post 1) (g : ¬ lf_acc sk sa x z → post 0) : wpX_isAccessOf post (nI na, nI n, ph, nI nl, nI ns, gX, rc, tmp, con, sca, ini, ori, fus, lLo, lHi, lF, lC, xg, xj, xd, gf, gl, sl, so, sk, sa, sc, sv) (nI x) (nI z) := by
  have e : (nI z).toNatClampNeg = z := nI_clamp (by omega)
  have i : vp_in (nI z) 36 := vp_in_nI hz (by decide)
  refine ⟨i, br_c (fun h => ⟨i, br_c (fun h2 => f ?_) (fun h2 => g ?_)⟩) (fun h => g ?_)⟩
  · rw [e] at h h2; exact ⟨h, h2⟩
  · rw [e] at h2; exact fun z => h2 z.2
  · rw [e] at h; exact fun z => h z.1
theorem lx_first {post : Int32 → Prop} {x : Nat} (hns : ns ≤ 12) (f : ∀ z, z < 3 * ns → lf_acc sk sa x z → (∀ y, y < z → ¬ lf_acc sk sa x y) → post (nI z)) (g : (∀ z, z < 3 * ns → ¬ lf_acc sk sa x z) → post (-1)) : wpX_firstAccess post (nI na, nI n, ph, nI nl, nI ns, gX, rc, tmp, con, sca, ini, ori, fus, lLo, lHi, lF, lC, xg, xj, xd, gf, gl, sl, so, sk, sa, sc, sv) (nI x) := by
  have H : ∀ d z, z + d = 3 * ns → (∀ y, y < z → ¬ lf_acc sk sa x y) → wX_firstAccess_2 post (nI x) (nI na) (nI n) ph (nI nl) (nI ns) gX rc tmp con sca ini ori fus lLo lHi lF lC xg xj xd gf gl sl so sk sa sc sv (d + 1) (nI z) := by
    intro d
    induction d with
    | zero =>
      intro z h h1
      obtain rfl : z = 3 * ns := by omega
      exact br_t (by rw [lf_m3]; exact lf_rfl _) (g h1)
    | succ d ih =>
      intro z h h1
      refine br_f (by rw [lf_m3]; exact nI_ge (by omega) (by omega)) ?_
      refine lx_accOf (by omega) (fun h2 => br_f lf_10 (f z (by omega) h2 h1)) (fun h2 => br_t rfl (nm_r (nI_1 z) (ih (z + 1) (by omega) ?_)))
      intro y hy
      by_cases e : y = z
      · subst e; exact h2
      · exact h1 y (by omega)
  exact ⟨3 * ns + 1, H (3 * ns) 0 (by omega) (fun y hy => absurd hy (by omega))⟩
theorem lx_mat {post : Int32 → Prop} {g z f : Nat} (hns : ns ≤ 12) (hnl : nl ≤ 8) (hPT : lf_PT F L nl ns) (hsl : ∀ s, s < ns → sl s = nI (L s)) (hG : lf_G nl g G gp xg gf gl yg) (hz : z < 3 * ns) (hf : f < 3 * ns)
    (a : lf_mat L gp sc sv z f → post 1) (b : ¬ lf_mat L gp sc sv z f → post 0) : wpX_matches post (nI na, nI n, ph, nI nl, nI ns, gX, rc, tmp, con, sca, ini, ori, fus, lLo, lHi, lF, lC, xg, xj, xd, gf, gl, sl, so, sk, sa, sc, sv) (nI z) (nI f) := by
  have hg : g ≤ nl := lf_PT_sn hG.1 (fun a ha => (hG.2.1 a ha).1)
  have l1 := (hPT.2.2.2 (z / 3) (by omega)).1
  have l2 := (hPT.2.2.2 (f / 3) (by omega)).1
  have g1 := (hG.1.2.2.2 _ l1).1
  have g2 := (hG.1.2.2.2 _ l2).1
  have c1 := (hG.2.2 _ l1).1
  have c2 := (hG.2.2 _ l2).1
  have dz : nI z / 3 = nI (z / 3) := lf_d3 (by omega)
  have df : nI f / 3 = nI (f / 3) := lf_d3 (by omega)
  have iz : vp_in (nI z) 36 := vp_in_nI (by omega) (by decide)
  have jf : vp_in (nI f) 36 := vp_in_nI (by omega) (by decide)
  have ez : (nI z).toNatClampNeg = z := nI_clamp (by omega)
  have ef : (nI f).toNatClampNeg = f := nI_clamp (by omega)
  have el1 : (nI (L (z / 3))).toNatClampNeg = L (z / 3) := nI_clamp (by omega)
  have el2 : (nI (L (f / 3))).toNatClampNeg = L (f / 3) := nI_clamp (by omega)
  refine ⟨lf_30, by rw [dz]; exact vp_in_nI (by omega) (by decide), nm_r (e' := nI (L (z / 3))) (by rw [dz, nI_clamp (by omega)]; exact hsl _ (by omega)) ⟨lf_30, by rw [df]; exact vp_in_nI (by omega) (by decide), nm_r (e' := nI (L (f / 3))) (by rw [df, nI_clamp (by omega)]; exact hsl _ (by omega)) ⟨vp_in_nI (by omega) (by decide), vp_in_nI (by omega) (by decide), br_c (fun h => ⟨iz, jf, br_c (fun h1 => ⟨iz, jf, br_c (fun h2 => a ?_) (fun h2 => b ?_)⟩) (fun h1 => b ?_)⟩) (fun h => b ?_)⟩⟩⟩
  · rw [el1, el2, c1, c2, nI_eq (by omega) (by omega)] at h
    rw [ez, ef] at h1 h2
    exact ⟨h, h1, h2⟩
  · rw [ez, ef] at h2
    exact fun q => h2 q.2.2
  · rw [ez, ef] at h1
    exact fun q => h1 q.2.1
  · rw [el1, el2, c1, c2, nI_eq (by omega) (by omega)] at h
    exact fun q => h q.1
theorem lx_allm {post : Int32 → Prop} {g x f : Nat} (hns : ns ≤ 12) (hnl : nl ≤ 8) (hPT : lf_PT F L nl ns) (hsl : ∀ s, s < ns → sl s = nI (L s)) (hG : lf_G nl g G gp xg gf gl yg) (hf : f < 3 * ns) (h1 : ∀ z, z < f → ¬ lf_acc sk sa x z)
    (a : (∀ z, z < 3 * ns → lf_acc sk sa x z → lf_mat L gp sc sv z f) → post 1) (b : ¬ (∀ z, z < 3 * ns → lf_acc sk sa x z → lf_mat L gp sc sv z f) → post 0) : wpX_allAccessesMatch post (nI na, nI n, ph, nI nl, nI ns, gX, rc, tmp, con, sca, ini, ori, fus, lLo, lHi, lF, lC, xg, xj, xd, gf, gl, sl, so, sk, sa, sc, sv) (nI x) (nI f) := by
  have H : ∀ d z, z + d = 3 * ns → (∀ y, y < z → lf_acc sk sa x y → lf_mat L gp sc sv y f) → wX_allAccessesMatch_2 post (nI x) (nI f) (nI na) (nI n) ph (nI nl) (nI ns) gX rc tmp con sca ini ori fus lLo lHi lF lC xg xj xd gf gl sl so sk sa sc sv (d + 1) (nI z) := by
    intro d
    induction d with
    | zero =>
      intro z h h2
      obtain rfl : z = 3 * ns := by omega
      exact br_t (by rw [lf_m3]; exact lf_rfl _) (a h2)
    | succ d ih =>
      intro z h h2
      refine br_f (by rw [lf_m3]; exact nI_ge (by omega) (by omega)) ?_
      refine lx_accOf (by omega) (fun h3 => br_f lf_10 ?_) (fun h3 => br_t rfl (nm_r (nI_1 z) (ih (z + 1) (by omega) ?_)))
      · refine lx_mat hns hnl hPT hsl hG (by omega) hf (fun h4 => br_f lf_10 (nm_r (nI_1 z) (ih (z + 1) (by omega) ?_))) (fun h4 => br_t rfl (b (fun q => h4 (q z (by omega) h3))))
        intro y hy
        by_cases e : y = z
        · subst e; exact fun _ => h4
        · exact h2 y (by omega)
      · intro y hy
        by_cases e : y = z
        · subst e; exact fun q => absurd q h3
        · exact h2 y (by omega)
  exact ⟨_, H (3 * ns - f) f (by omega) (fun y hy q => absurd q (h1 y hy))⟩
theorem lx_stay {post : Int32 → Prop} {f : Nat} (hB : lf_B na n nl ns F L Lo Hi lLo lHi lF lC sl sk sa sc sv kd ar co va dA dC dO) (hf : f < 3 * ns) (hac : sk f = 2) (a : lf_ran n (Lo (L (f / 3))) (Hi (L (f / 3))) (sc f) (sv f) → post 1) (b : ¬ lf_ran n (Lo (L (f / 3))) (Hi (L (f / 3))) (sc f) (sv f) → post 0) : wpX_staysInRange post (nI na, nI n, ph, nI nl, nI ns, gX, rc, tmp, con, sca, ini, ori, fus, lLo, lHi, lF, lC, xg, xj, xd, gf, gl, sl, so, sk, sa, sc, sv) (nI f) := by
  obtain ⟨⟨_, hna, _, hn, hnl, hns⟩, hPT, hLP, hsl, hSR, hw⟩ := hB
  have hl := (hPT.2.2.2 (f / 3) (by omega)).1
  generalize hL : L (f / 3) = l at *
  have df : nI f / 3 = nI (f / 3) := lf_d3 (by omega)
  have hi : vp_in (nI l) 8 := vp_in_nI (by omega) (by decide)
  have ec : (nI l).toNatClampNeg = l := nI_clamp (by omega)
  obtain ⟨q1, q2, q3, q4, q5, q6⟩ := hLP l hl
  obtain ⟨c, hc, ecf⟩ := lf_WF2 hf hw hac
  have ex : ∀ i d, Hi l < i → i ≤ 16 → (∀ j, Lo l ≤ j → j < i → ¬ (sc f * nI j + sv f < 0 ∨ ¬ sc f * nI j + sv f < nI n)) → wX_staysInRange_16 post (nI f) (nI l) (nI na) (nI n) ph (nI nl) (nI ns) gX rc tmp con sca ini ori fus lLo lHi lF lC xg xj xd gf gl sl so sk sa sc sv (d + 1) (nI i) := by
    intro i d h1 h2 h3
    refine ⟨hi, br_t ?_ (a (fun j hj hj2 => h3 j hj (by omega)))⟩
    rw [ec, q2]; exact nI_lt h1 (by omega)
  have H : ∀ d i, Hi l + 1 ≤ i + d → Lo l ≤ i → i ≤ 16 → (∀ j, Lo l ≤ j → j < i → ¬ (sc f * nI j + sv f < 0 ∨ ¬ sc f * nI j + sv f < nI n)) → wX_staysInRange_16 post (nI f) (nI l) (nI na) (nI n) ph (nI nl) (nI ns) gX rc tmp con sca ini ori fus lLo lHi lF lC xg xj xd gf gl sl so sk sa sc sv (d + 1) (nI i) := by
    intro d
    induction d with
    | zero =>
      intro i h1 h0 h2 h3
      exact ex i 0 (by omega) h2 h3
    | succ d ih =>
      intro i h1 h0 h2 h3
      by_cases hh : Hi l < i
      · exact ex i (d + 1) hh h2 h3
      · have hx : ¬ lHi (nI l).toNatClampNeg < nI i := by rw [ec, q2]; exact nI_nlt (by omega) (by omega)
        refine ⟨hi, br_f hx ?_⟩
        refine lx_cellAt (by omega) ?_
        rcases lf_rng hn (sc f * nI i + sv f) with h4 | ⟨j, hj, ej⟩
        · rw [lf_cell_o h4]
          exact br_t rfl (b (fun q => q i h0 (by omega) h4))
        · rw [ecf, ej, lf_cell_i hj hn]
          refine br_f (lf_ne1 (by omega)) (nm_r (nI_1 i) (ih (i + 1) (by omega) (by omega) (by omega) ?_))
          intro j' hj1 hj2
          by_cases e : j' = i
          · rw [e, ej]; exact lf_rng_n hn hj
          · exact h3 j' hj1 (by omega)
  refine ⟨lf_30, by rw [df]; exact vp_in_nI (by omega) (by decide), nm_r (e' := nI l) (by rw [df, nI_clamp (by omega), hsl _ (by omega), hL]) ⟨hi, nm_r (e' := nI (Lo l)) (by rw [ec]; exact q1) ⟨_, H (Hi l + 1) (Lo l) (by omega) (Nat.le_refl _) (by omega) (fun j h1 h2 => absurd h2 (by omega))⟩⟩⟩
theorem lx_contr {post : Int32 → Prop} {g x : Nat} (hB : lf_B na n nl ns F L Lo Hi lLo lHi lF lC sl sk sa sc sv kd ar co va dA dC dO) (hG : lf_G nl g G gp xg gf gl yg) (hx : x < na) (k : post (lf_b (lf_CT n ns tmp sk sa sc sv L gp G Lo Hi x))) : wpX_isContractible post (nI na, nI n, ph, nI nl, nI ns, gX, rc, tmp, con, sca, ini, ori, fus, lLo, lHi, lF, lC, xg, xj, xd, gf, gl, sl, so, sk, sa, sc, sv) (nI x) := by
  obtain ⟨⟨_, hna, _, hn, hnl, hns⟩, hPT, hLP, hsl, hSR, hw⟩ := id hB
  obtain ⟨k1, k0⟩ := lf_b_k k
  have hi : vp_in (nI x) 6 := vp_in_nI (by omega) (by decide)
  have ec : (nI x).toNatClampNeg = x := nI_clamp (by omega)
  have hg : g ≤ nl := lf_PT_sn hG.1 (fun a ha => (hG.2.1 a ha).1)
  unfold wpX_isContractible
  refine lx_first hns (fun f hf ha h1 => ?_) (fun h1 => ?_)
  · have hl := (hPT.2.2.2 (f / 3) (by omega)).1
    have hgp := (hG.1.2.2.2 _ hl).1
    have hCT := lf_CT_f (n := n) (tmp := tmp) (sc := sc) (sv := sv) (L := L) (gp := gp) (G := G) (lo := Lo) (hi := Hi) hf ha h1
    have df : nI f / 3 = nI (f / 3) := lf_d3 (by omega)
    have ef : (nI f).toNatClampNeg = f := nI_clamp (by omega)
    obtain ⟨p1, p2, p3⟩ := hG.2.1 _ hgp
    have hGl : G (gp (L (f / 3)) + 1) ≤ nl := lf_PT_le hG.1 (by omega)
    have v1 : vp_in (nI f / 3) 12 := by rw [df]; exact vp_in_nI (by omega) (by decide)
    have e1 : sl (nI f / 3).toNatClampNeg = nI (L (f / 3)) := by rw [df, nI_clamp (by omega)]; exact hsl _ (by omega)
    have v2 : vp_in (sl (nI f / 3).toNatClampNeg) 8 := by rw [e1]; exact vp_in_nI (by omega) (by decide)
    have e2 : xg (sl (nI f / 3).toNatClampNeg).toNatClampNeg = nI (gp (L (f / 3))) := by rw [e1, nI_clamp (by omega)]; exact (hG.2.2 _ hl).1
    have e3 : gl (nI (gp (L (f / 3)))).toNatClampNeg = nI (G (gp (L (f / 3)) + 1) - G (gp (L (f / 3)))) := by rw [nI_clamp (by omega)]; exact p3
    refine ⟨hi, br_c (fun h => k0 ?_) (fun h => br_f (lf_ne1 (by omega)) ⟨lf_30, v1, v2, nm_r e2 ⟨vp_in_nI (by omega) (by decide), br_c (fun h2 => k0 ?_) (fun h2 => ⟨vp_in_nI (by omega) (by decide), br_c (fun h3 => k0 ?_) (fun h3 => ?_)⟩)⟩⟩)⟩
    · rw [ec] at h
      exact fun q => q.1 h
    · rw [e3] at h2
      have h2' := (nI_ltI (b := 2) (by omega) (by decide)).mp h2
      rw [hCT]
      intro q
      have := q.2.2.1
      omega
    · rw [ef] at h3
      rw [hCT]
      exact fun q => q.2.2.2.1 h3
    · rw [ec] at h
      rw [ef] at h3
      rw [e3] at h2
      have h2' : ¬ (G (gp (L (f / 3)) + 1) - G (gp (L (f / 3)))) < 2 := fun q => h2 (nI_lt (b := 2) q (by decide))
      refine lx_isW (by omega) (fun h4 => br_f lf_10 ?_) (fun h4 => br_t rfl (k0 ?_))
      · refine lx_allm hns hnl hPT hsl hG hf h1 (fun h5 => br_f lf_10 ?_) (fun h5 => br_t rfl (k0 ?_))
        · refine lx_stay hB hf ha.1 (fun h6 => br_f lf_10 (k1 ?_)) (fun h6 => br_t rfl (k0 ?_))
          · rw [hCT]
            exact ⟨h, h5, by omega, h3, h4, h6⟩
          · rw [hCT]
            exact fun q => h6 q.2.2.2.2.2
        · rw [hCT]
          exact fun q => h5 q.2.1
      · rw [hCT]
        exact fun q => h4 q.2.2.2.2.1
  · exact ⟨hi, br_c (fun _ => k0 (lf_CT_n h1)) (fun _ => br_t rfl (k0 (lf_CT_n h1)))⟩
theorem lf_nb (P : Prop) : vp_nar .boolean (lf_b P) = lf_b P := by
  by_cases h : P
  · rw [lf_b_t h]; decide
  · rw [lf_b_f h]; decide
theorem lx_an32 {post : Int32 → SX → Prop} {g : Nat} (hB : lf_B na n nl ns F L Lo Hi lLo lHi lF lC sl sk sa sc sv kd ar co va dA dC dO) (hG : lf_G nl g G gp xg gf gl yg)
    (k : post (nI g) (nI na, nI n, 1, nI nl, nI ns, nI g, rc, tmp, lf_cp (fun x => lf_b (lf_CT n ns tmp sk sa sc sv L gp G Lo Hi x)) na con, sca, ini, ori, fus, lLo, lHi, lF, lC, xg, xj, xd, gf, gl, sl, so, sk, sa, sc, sv)) : ∃ q, wX_analyze_32 post (nI na) (nI n) ph (nI nl) (nI ns) (nI g) rc q 0 tmp con sca ini ori fus lLo lHi lF lC xg xj xd gf gl sl so sk sa sc sv := by
  have hna := hB.1.2.1
  have H : ∀ d i, i + d = na → wX_analyze_32 post (nI na) (nI n) ph (nI nl) (nI ns) (nI g) rc (d + 1) (nI i) tmp (lf_cp (fun x => lf_b (lf_CT n ns tmp sk sa sc sv L gp G Lo Hi x)) i con) sca ini ori fus lLo lHi lF lC xg xj xd gf gl sl so sk sa sc sv := by
    intro d
    induction d with
    | zero =>
      intro i h
      obtain rfl : i = na := by omega
      exact br_t (lf_rfl _) k
    | succ d ih =>
      intro i h
      have h1 := ih (i + 1) (by omega)
      rw [← lf_cp_s] at h1
      have hi : vp_in (nI i) 6 := vp_in_nI (by omega) (by decide)
      have ec : (nI i).toNatClampNeg = i := nI_clamp (by omega)
      refine br_f (nI_ge (by omega) (by omega)) ?_
      refine lx_contr hB hG (by omega) ?_
      exact ⟨hi, nm_r (by rw [ec, lf_nb]) (nm_r (nI_1 i) h1)⟩
  have h := H na 0 (by omega)
  rw [lf_cp0] at h
  exact ⟨_, h⟩
end LFA2
end
section
section LFA3
variable {na n nl ns : Nat} {ph gX gY rc : Int32} {tmp con sca ini ori fus lLo lHi lF lC xg xj xd gf gl sl so sk sa sc sv yg yj yd dA dC dO kd ar co va : Nat → Int32} {F L Lo Hi G gp : Nat → Nat}
/-! least distance: the reference -/
theorem lf_SRw {s w : Nat} (hs : s < ns) (hw : w < 2) (hSR : lf_SR ns sk sa sc sv kd ar co va dA dC dO) : sk (3 * s + w) = kd (2 * s + w) ∧ sa (3 * s + w) = ar (2 * s + w) ∧ sc (3 * s + w) = co (2 * s + w) ∧ sv (3 * s + w) = va (2 * s + w) := by
  rcases (show w = 0 ∨ w = 1 by omega) with e | e
  · subst e; exact (hSR s hs).1
  · subst e; exact (hSR s hs).2.1
theorem ly_z {s w : Nat} (hs : s < 12) (hw : w < 2) : vp_in (nI s * 2 + nI w) 24 ∧ (nI s * 2 + nI w).toNatClampNeg = 2 * s + w := by
  rw [lf_m2, nI_add]
  exact ⟨vp_in_nI (by omega) (by decide), nI_clamp (by omega)⟩
theorem lf_n2 {p : Nat} (h : p < 2) : ¬ nI p = 2 := lf_eq1 (b := 2) (by omega) (by decide) (by omega)
theorem ly_accArr {post : Int32 → Prop} {s p : Nat} (hs : s < ns) (hns : ns ≤ 12) (hp : p < 3) (hSR : lf_SR ns sk sa sc sv kd ar co va dA dC dO) (f : sk (3 * s + p) = 2 → post (sa (3 * s + p))) (g : ¬ sk (3 * s + p) = 2 → post (-1)) : wpY_accArr post (nI na, nI n, nI nl, nI ns, ph, gY, rc, tmp, con, lLo, lHi, lF, lC, yg, yj, yd, sl, so, dA, dC, dO, kd, ar, co, va, ini, ori, fus, sca) (nI s) (nI p) := by
  have e : (nI s).toNatClampNeg = s := nI_clamp (by omega)
  by_cases hp2 : p = 2
  · subst hp2
    obtain ⟨c1, c2, c3, c4⟩ := (hSR s hs).2.2
    have h := f c1
    rw [c2] at h
    exact br_t rfl ⟨vp_in_nI (by omega) (by decide), by rw [e]; exact h⟩
  · obtain ⟨a1, a2, a3, a4⟩ := lf_SRw (w := p) hs (by omega) hSR
    obtain ⟨i1, e1⟩ := ly_z (s := s) (w := p) (by omega) (by omega)
    rw [a1, a2] at f
    rw [a1] at g
    refine br_f (lf_n2 (by omega)) ⟨i1, br_c (fun h => ⟨i1, ?_⟩) (fun h => g ?_)⟩
    · rw [e1] at h ⊢; exact f h
    · rw [e1] at h; exact h
theorem ly_accCoef {post : Int32 → Prop} {s p : Nat} (hs : s < ns) (hns : ns ≤ 12) (hp : p < 3) (hSR : lf_SR ns sk sa sc sv kd ar co va dA dC dO) (k : post (sc (3 * s + p))) : wpY_accCoef post (nI na, nI n, nI nl, nI ns, ph, gY, rc, tmp, con, lLo, lHi, lF, lC, yg, yj, yd, sl, so, dA, dC, dO, kd, ar, co, va, ini, ori, fus, sca) (nI s) (nI p) := by
  have e : (nI s).toNatClampNeg = s := nI_clamp (by omega)
  by_cases hp2 : p = 2
  · subst hp2
    obtain ⟨c1, c2, c3, c4⟩ := (hSR s hs).2.2
    rw [c3] at k
    exact br_t rfl ⟨vp_in_nI (by omega) (by decide), by rw [e]; exact k⟩
  · obtain ⟨a1, a2, a3, a4⟩ := lf_SRw (w := p) hs (by omega) hSR
    obtain ⟨i1, e1⟩ := ly_z (s := s) (w := p) (by omega) (by omega)
    rw [a3] at k
    exact br_f (lf_n2 (by omega)) ⟨i1, by rw [e1]; exact k⟩
theorem ly_accOff {post : Int32 → Prop} {s p : Nat} (hs : s < ns) (hns : ns ≤ 12) (hp : p < 3) (hSR : lf_SR ns sk sa sc sv kd ar co va dA dC dO) (k : post (sv (3 * s + p))) : wpY_accOff post (nI na, nI n, nI nl, nI ns, ph, gY, rc, tmp, con, lLo, lHi, lF, lC, yg, yj, yd, sl, so, dA, dC, dO, kd, ar, co, va, ini, ori, fus, sca) (nI s) (nI p) := by
  have e : (nI s).toNatClampNeg = s := nI_clamp (by omega)
  by_cases hp2 : p = 2
  · subst hp2
    obtain ⟨c1, c2, c3, c4⟩ := (hSR s hs).2.2
    rw [c4] at k
    exact br_t rfl ⟨vp_in_nI (by omega) (by decide), by rw [e]; exact k⟩
  · obtain ⟨a1, a2, a3, a4⟩ := lf_SRw (w := p) hs (by omega) hSR
    obtain ⟨i1, e1⟩ := ly_z (s := s) (w := p) (by omega) (by omega)
    rw [a4] at k
    exact br_f (lf_n2 (by omega)) ⟨i1, by rw [e1]; exact k⟩
theorem ly_pd94 {post : Int32 → Prop} {J83 : Int32 → Int32 → Prop} {cp op cq oq b : Int32} {lo hi i : Nat} (hlo : lo ≤ 15) (hhi : hi ≤ 15)
    (k : J83 (lf_pi n cp op cq oq lo hi i b) (nI (i + 1))) : ∃ m, wY_pairDist_94 post J83 (nI lo) (nI hi) cp op cq oq (nI i) (nI na) (nI n) (nI nl) (nI ns) ph gY rc tmp con lLo lHi lF lC yg yj yd sl so dA dC dO kd ar co va ini ori fus sca m b (nI lo) := by
  have ex : ∀ j d, hi < j → j ≤ 16 → (j ≤ hi + 1 ∨ j = lo) → wY_pairDist_94 post J83 (nI lo) (nI hi) cp op cq oq (nI i) (nI na) (nI n) (nI nl) (nI ns) ph gY rc tmp con lLo lHi lF lC yg yj yd sl so dA dC dO kd ar co va ini ori fus sca (d + 1) (lf_to (fun j b => lf_st1 n cp op cq oq i j b) lo j b) (nI j) := by
    intro j d h1 h2 h3
    refine br_t (nI_lt h1 (by omega)) (nm_r (nI_1 i) ?_)
    rw [lf_to_x h1 h3]; exact k
  have H : ∀ d j, lo ≤ j → hi + 1 ≤ j + d → (j ≤ hi + 1 ∨ j = lo) → wY_pairDist_94 post J83 (nI lo) (nI hi) cp op cq oq (nI i) (nI na) (nI n) (nI nl) (nI ns) ph gY rc tmp con lLo lHi lF lC yg yj yd sl so dA dC dO kd ar co va ini ori fus sca (d + 1) (lf_to (fun j b => lf_st1 n cp op cq oq i j b) lo j b) (nI j) := by
    intro d
    induction d with
    | zero =>
      intro j h1 h2 h3
      exact ex j 0 (by omega) (by omega) h3
    | succ d ih =>
      intro j h1 h2 h3
      by_cases hh : hi < j
      · exact ex j (d + 1) hh (by omega) h3
      · have h := ih (j + 1) (by omega) (by omega) (by omega)
        rw [lf_to_s h1] at h
        refine br_f (nI_nlt (by omega) (by omega)) (nm_e (br_c (fun c1 => br_c (fun c2 => ?_) (fun c2 => br_c (fun c3 => ?_) (fun c3 => br_c (fun c4 => ?_) (fun c4 => ?_)))) (fun c1 => ?_)))
        · rw [lf_st1_f (Or.inl (fun z => z.2.1 c2))] at h
          exact nm_r (nI_1 j) h
        · rw [lf_st1_f (Or.inl (fun z => absurd z.2.2 (Int32.not_lt.mpr c3)))] at h
          exact nm_r (nI_1 j) h
        · rw [lf_st1_f (Or.inr c4)] at h
          exact nm_r (nI_1 j) h
        · rw [lf_st1_t ⟨c1, c2, Int32.not_le.mp c3⟩ c4] at h
          exact nm_e (nm_r (nI_1 j) h)
        · rw [lf_st1_f (Or.inl (fun z => c1 z.1))] at h
          exact nm_r (nI_1 j) h
  have h := H (hi + 1) lo (Nat.le_refl _) (by omega) (Or.inr rfl)
  rw [lf_to_e (Nat.le_refl _)] at h
  exact ⟨_, h⟩
theorem ly_pd83 {post : Int32 → Prop} {cp op cq oq : Int32} {lo hi : Nat} (hlo : lo ≤ 15) (hhi : hi ≤ 15)
    (k : post (lf_pd n lo hi cp op cq oq)) : ∃ m, wY_pairDist_83 post (nI lo) (nI hi) cp op cq oq (nI na) (nI n) (nI nl) (nI ns) ph gY rc tmp con lLo lHi lF lC yg yj yd sl so dA dC dO kd ar co va ini ori fus sca m 1000 (nI lo) := by
  have ex : ∀ i d, hi < i → i ≤ 16 → (i ≤ hi + 1 ∨ i = lo) → wY_pairDist_83 post (nI lo) (nI hi) cp op cq oq (nI na) (nI n) (nI nl) (nI ns) ph gY rc tmp con lLo lHi lF lC yg yj yd sl so dA dC dO kd ar co va ini ori fus sca (d + 1) (lf_to (fun i b => lf_pi n cp op cq oq lo hi i b) lo i 1000) (nI i) := by
    intro i d h1 h2 h3
    refine br_t (nI_lt h1 (by omega)) ?_
    rw [lf_to_x h1 h3]; exact k
  have H : ∀ d i, lo ≤ i → hi + 1 ≤ i + d → (i ≤ hi + 1 ∨ i = lo) → wY_pairDist_83 post (nI lo) (nI hi) cp op cq oq (nI na) (nI n) (nI nl) (nI ns) ph gY rc tmp con lLo lHi lF lC yg yj yd sl so dA dC dO kd ar co va ini ori fus sca (d + 1) (lf_to (fun i b => lf_pi n cp op cq oq lo hi i b) lo i 1000) (nI i) := by
    intro d
    induction d with
    | zero =>
      intro i h1 h2 h3
      exact ex i 0 (by omega) (by omega) h3
    | succ d ih =>
      intro i h1 h2 h3
      by_cases hh : hi < i
      · exact ex i (d + 1) hh (by omega) h3
      · have h := ih (i + 1) (by omega) (by omega) (by omega)
        rw [lf_to_s h1] at h
        exact br_f (nI_nlt (by omega) (by omega)) (ly_pd94 hlo hhi h)
  have h := H (hi + 1) lo (Nat.le_refl _) (by omega) (Or.inr rfl)
  rw [lf_to_e (Nat.le_refl _)] at h
  exact ⟨_, h⟩
theorem ly_pd40 {post : Int32 → Prop} {s p t q lo hi : Nat} (hs : s < ns) (ht : t < ns) (hns : ns ≤ 12) (hp : p < 3) (hq : q < 3) (hSR : lf_SR ns sk sa sc sv kd ar co va dA dC dO) (hlo : lo ≤ 15) (hhi : hi ≤ 15)
    (k : post (lf_pd n lo hi (sc (3 * s + p)) (sv (3 * s + p)) (sc (3 * t + q)) (sv (3 * t + q)))) : wY_pairDist_40 post (nI s) (nI p) (nI t) (nI q) (nI lo) (nI hi) (nI na) (nI n) (nI nl) (nI ns) ph gY rc tmp con lLo lHi lF lC yg yj yd sl so dA dC dO kd ar co va ini ori fus sca := by
  unfold wY_pairDist_40
  refine ly_accCoef hs hns hp hSR ?_
  refine ly_accOff hs hns hp hSR ?_
  refine ly_accCoef ht hns hq hSR ?_
  refine ly_accOff ht hns hq hSR ?_
  exact ly_pd83 hlo hhi k
theorem ly_pd {post : Int32 → Prop} {s p t q lo hi : Nat} (hs : s < ns) (ht : t < ns) (hns : ns ≤ 12) (hna : na ≤ 6) (hp : p < 3) (hq : q < 3) (hSR : lf_SR ns sk sa sc sv kd ar co va dA dC dO) (hw : lf_WF na ns sk sa) (hlo : lo ≤ 15) (hhi : hi ≤ 15)
    (k : post (lf_D n lo hi sk sa sc sv (3 * s + p) (3 * t + q))) : wpY_pairDist post (nI na, nI n, nI nl, nI ns, ph, gY, rc, tmp, con, lLo, lHi, lF, lC, yg, yj, yd, sl, so, dA, dC, dO, kd, ar, co, va, ini, ori, fus, sca) (nI s) (nI p) (nI t) (nI q) (nI lo) (nI hi) := by
  have m1 : (3 * s + p) % 3 = p := by omega
  have m2 : (3 * t + q) % 3 = q := by omega
  have kf : ¬ (sk (3 * s + p) = 2 ∧ sk (3 * t + q) = 2 ∧ sa (3 * s + p) = sa (3 * t + q) ∧ ((3 * s + p) % 3 = 2 ∨ (3 * t + q) % 3 = 2)) → post 1000 := fun h => by rw [lf_D_f h] at k; exact k
  have kt : (sk (3 * s + p) = 2 ∧ sk (3 * t + q) = 2 ∧ sa (3 * s + p) = sa (3 * t + q) ∧ ((3 * s + p) % 3 = 2 ∨ (3 * t + q) % 3 = 2)) → wY_pairDist_40 post (nI s) (nI p) (nI t) (nI q) (nI lo) (nI hi) (nI na) (nI n) (nI nl) (nI ns) ph gY rc tmp con lLo lHi lF lC yg yj yd sl so dA dC dO kd ar co va ini ori fus sca := fun h => by
    rw [lf_D_t h] at k; exact ly_pd40 hs ht hns hp hq hSR hlo hhi k
  rw [m1, m2] at kf kt
  unfold wpY_pairDist
  refine ly_accArr hs hns hp hSR (fun h1 => ?_) (fun h1 => br_t (by decide) (kf (fun z => h1 z.1)))
  obtain ⟨a, ha, ea⟩ := lf_WF2 (z := 3 * s + p) (by omega) hw h1
  refine br_f (by rw [ea]; exact nI_pos (by omega)) ?_
  refine ly_accArr ht hns hq hSR (fun h2 => ?_) (fun h2 => br_f (by rw [ea]; exact lf_ne1 (by omega)) (kf (fun z => h2 z.2.1)))
  refine br_c (fun h3 => ?_) (fun h3 => kf (fun z => h3 z.2.2.1))
  refine pk_eq p 2 (fun h4 => kt ⟨h1, h2, h3, Or.inl h4⟩) (fun h4 => ?_) rfl rfl (by omega) (by decide)
  exact pk_eq q 2 (fun h5 => kt ⟨h1, h2, h3, Or.inr h5⟩) (fun h5 => kf (fun z => z.2.2.2.elim h4 h5)) rfl rfl (by omega) (by decide)
theorem ly_sd17 {post : Int32 → Prop} {J8 : Int32 → Int32 → Prop} {s p t lo hi : Nat} {r0 : Int32} (hs : s < ns) (ht : t < ns) (hns : ns ≤ 12) (hna : na ≤ 6) (hp : p < 3) (hSR : lf_SR ns sk sa sc sv kd ar co va dA dC dO) (hw : lf_WF na ns sk sa) (hlo : lo ≤ 15) (hhi : hi ≤ 15)
    (h0 : lf_gl (lf_D n lo hi sk sa sc sv) (fun a b => a / 3 = s ∧ b / 3 = t ∧ a % 3 < p) r0)
    (k : ∀ r, lf_gl (lf_D n lo hi sk sa sc sv) (fun a b => a / 3 = s ∧ b / 3 = t ∧ a % 3 < p + 1) r → J8 r (nI (p + 1))) :
    ∃ m, wY_stmtDist_17 post J8 (nI s) (nI t) (nI lo) (nI hi) (nI p) (nI na) (nI n) (nI nl) (nI ns) ph gY rc tmp con lLo lHi lF lC yg yj yd sl so dA dC dO kd ar co va ini ori fus sca m r0 0 := by
  have H : ∀ d q r, q + d = 3 → lf_gl (lf_D n lo hi sk sa sc sv) (fun a b => a / 3 = s ∧ b / 3 = t ∧ (a % 3 < p ∨ (a % 3 = p ∧ b % 3 < q))) r → wY_stmtDist_17 post J8 (nI s) (nI t) (nI lo) (nI hi) (nI p) (nI na) (nI n) (nI nl) (nI ns) ph gY rc tmp con lLo lHi lF lC yg yj yd sl so dA dC dO kd ar co va ini ori fus sca (d + 1) r (nI q) := by
    intro d
    induction d with
    | zero =>
      intro q r h1 h2
      obtain rfl : q = 3 := by omega
      exact br_t (by decide) (nm_r (nI_1 p) (k r (lf_gl_e h2 (fun a b => by omega))))
    | succ d ih =>
      intro q r h1 h2
      have hj := lf_gl_j (S' := fun a b => a / 3 = s ∧ b / 3 = t ∧ (a % 3 < p ∨ (a % 3 = p ∧ b % 3 < q + 1))) h2 (lf_gl_1 (p := 3 * s + p) (q := 3 * t + q) lf_D_le) (fun a b => by omega)
      refine br_f (nI_ge (b := 3) (by omega) (by decide)) ?_
      refine ly_pd hs ht hns hna hp (by omega) hSR hw hlo hhi ?_
      exact lf_mn_g (P := fun v => ∀ x7, x7 = nI q + 1 → wY_stmtDist_17 post J8 (nI s) (nI t) (nI lo) (nI hi) (nI p) (nI na) (nI n) (nI nl) (nI ns) ph gY rc tmp con lLo lHi lF lC yg yj yd sl so dA dC dO kd ar co va ini ori fus sca (d + 1) v x7) (nm_r (nI_1 q) (ih (q + 1) _ (by omega) hj))
  exact ⟨_, H 3 0 r0 rfl (lf_gl_e h0 (fun a b => by omega))⟩
theorem ly_sd {post : Int32 → Prop} {s t lo hi : Nat} (hs : s < ns) (ht : t < ns) (hns : ns ≤ 12) (hna : na ≤ 6) (hSR : lf_SR ns sk sa sc sv kd ar co va dA dC dO) (hw : lf_WF na ns sk sa) (hlo : lo ≤ 15) (hhi : hi ≤ 15)
    (k : ∀ r, lf_gl (lf_D n lo hi sk sa sc sv) (fun a b => a / 3 = s ∧ b / 3 = t) r → post r) : wpY_stmtDist post (nI na, nI n, nI nl, nI ns, ph, gY, rc, tmp, con, lLo, lHi, lF, lC, yg, yj, yd, sl, so, dA, dC, dO, kd, ar, co, va, ini, ori, fus, sca) (nI s) (nI t) (nI lo) (nI hi) := by
  have H : ∀ d p r, p + d = 3 → lf_gl (lf_D n lo hi sk sa sc sv) (fun a b => a / 3 = s ∧ b / 3 = t ∧ a % 3 < p) r → wY_stmtDist_8 post (nI s) (nI t) (nI lo) (nI hi) (nI na) (nI n) (nI nl) (nI ns) ph gY rc tmp con lLo lHi lF lC yg yj yd sl so dA dC dO kd ar co va ini ori fus sca (d + 1) r (nI p) := by
    intro d
    induction d with
    | zero =>
      intro p r h1 h2
      obtain rfl : p = 3 := by omega
      exact br_t (by decide) (k r (lf_gl_e h2 (fun a b => by omega)))
    | succ d ih =>
      intro p r h1 h2
      exact br_f (nI_ge (b := 3) (by omega) (by decide)) (ly_sd17 hs ht hns hna (by omega) hSR hw hlo hhi h2 (fun r hr => ih (p + 1) r (by omega) hr))
  exact ⟨_, H 3 0 1000 rfl (lf_gl_0 (fun a b z => by omega))⟩
theorem lf_set1 {s x : Nat} {C : Nat → Prop} {B : Prop} (hC : C s) : ((x < s + 1 ∧ C x) ∧ B) ↔ ((x < s ∧ C x) ∧ B) ∨ (x = s ∧ B) := by
  constructor
  · intro ⟨⟨h1, h2⟩, h3⟩
    by_cases e : x = s
    · exact Or.inr ⟨e, h3⟩
    · exact Or.inl ⟨⟨by omega, h2⟩, h3⟩
  · intro h
    rcases h with ⟨⟨h1, h2⟩, h3⟩ | ⟨e, h3⟩
    · exact ⟨⟨by omega, h2⟩, h3⟩
    · subst e; exact ⟨⟨by omega, hC⟩, h3⟩
theorem lf_set0 {s x : Nat} {C : Nat → Prop} (hC : ¬ C s) : (x < s + 1 ∧ C x) ↔ (x < s ∧ C x) := by
  constructor
  · intro ⟨h1, h2⟩
    by_cases e : x = s
    · subst e; exact absurd h2 hC
    · exact ⟨by omega, h2⟩
  · intro ⟨h1, h2⟩
    exact ⟨by omega, h2⟩
theorem ly_gd39 {post : Int32 → Prop} {J8 : Int32 → Int32 → Prop} {x1 : Int32} {s c lo hi : Nat} {A : Nat → Nat → Prop} {r0 : Int32} (hs : s < ns) (hc : c < nl) (hB : lf_B na n nl ns F L Lo Hi lLo lHi lF lC sl sk sa sc sv kd ar co va dA dC dO) (hlo : lo ≤ 15) (hhi : hi ≤ 15)
    (h0 : lf_gl (lf_D n lo hi sk sa sc sv) A r0)
    (k : ∀ r, lf_gl (lf_D n lo hi sk sa sc sv) (fun a b => A a b ∨ ((b / 3 < ns ∧ L (b / 3) = c) ∧ a / 3 = s)) r → J8 r (nI (s + 1))) :
    ∃ m, wY_groupDist_39 post J8 x1 (nI c) (nI lo) (nI hi) (nI s) (nI na) (nI n) (nI nl) (nI ns) ph gY rc tmp con lLo lHi lF lC yg yj yd sl so dA dC dO kd ar co va ini ori fus sca m r0 0 := by
  obtain ⟨⟨_, hna, _, hn, hnl, hns⟩, hPT, hLP, hsl, hSR, hw⟩ := hB
  have H : ∀ d t r, t + d = ns → lf_gl (lf_D n lo hi sk sa sc sv) (fun a b => A a b ∨ ((b / 3 < t ∧ L (b / 3) = c) ∧ a / 3 = s)) r → wY_groupDist_39 post J8 x1 (nI c) (nI lo) (nI hi) (nI s) (nI na) (nI n) (nI nl) (nI ns) ph gY rc tmp con lLo lHi lF lC yg yj yd sl so dA dC dO kd ar co va ini ori fus sca (d + 1) r (nI t) := by
    intro d
    induction d with
    | zero =>
      intro t r h1 h2
      obtain rfl : t = ns := by omega
      exact br_t (lf_rfl _) (nm_r (nI_1 s) (k r h2))
    | succ d ih =>
      intro t r h1 h2
      have ec : (nI t).toNatClampNeg = t := nI_clamp (by omega)
      have hL := (hPT.2.2.2 t (by omega)).1
      refine br_f (nI_ge (by omega) (by omega)) ⟨vp_in_nI (by omega) (by decide), br_c (fun z => ?_) (fun z => ?_)⟩
      · rw [ec, hsl t (by omega), nI_eq (by omega) (by omega)] at z
        refine ly_sd hs (by omega) hns hna hSR hw hlo hhi (fun d' hd => ?_)
        have hj := lf_gl_j (S' := fun a b => A a b ∨ ((b / 3 < t + 1 ∧ L (b / 3) = c) ∧ a / 3 = s)) h2 hd (fun a b => by
          rw [lf_set1 (C := fun x => L x = c) (B := a / 3 = s) z]
          constructor
          · intro q
            rcases q with q | q | q
            · exact Or.inl (Or.inl q)
            · exact Or.inl (Or.inr q)
            · exact Or.inr ⟨q.2, q.1⟩
          · intro q
            rcases q with (q | q) | q
            · exact Or.inl q
            · exact Or.inr (Or.inl q)
            · exact Or.inr (Or.inr ⟨q.2, q.1⟩))
        exact lf_mn_g (P := fun v => ∀ x7, x7 = nI t + 1 → wY_groupDist_39 post J8 x1 (nI c) (nI lo) (nI hi) (nI s) (nI na) (nI n) (nI nl) (nI ns) ph gY rc tmp con lLo lHi lF lC yg yj yd sl so dA dC dO kd ar co va ini ori fus sca (d + 1) v x7) (nm_r (nI_1 t) (ih (t + 1) _ (by omega) hj))
      · rw [ec, hsl t (by omega), nI_eq (by omega) (by omega)] at z
        exact nm_r (nI_1 t) (ih (t + 1) r (by omega) (lf_gl_e h2 (fun a b => by rw [lf_set0 (C := fun x => L x = c) z])))
  exact ⟨_, H ns 0 r0 (by omega) (lf_gl_e h0 (fun a b => ⟨Or.inl, fun q => q.elim id (fun q => absurd q.1.1 (by omega))⟩))⟩
theorem ly_gd {post : Int32 → Prop} {c g lo hi : Nat} {r : Int32} (hB : lf_B na n nl ns F L Lo Hi lLo lHi lF lC sl sk sa sc sv kd ar co va dA dC dO) (hG : lf_G c g G gp xg gf gl yg) (hy : ∀ l, c ≤ l → l < 8 → yg l = -1) (h0 : 0 < c) (hc : c < nl) (elo : lo = Lo c) (ehi : hi = Hi c)
    (hr : lf_gl (lf_D n (Lo c) (Hi c) sk sa sc sv) (fun a b => 3 * F (G (g - 1)) ≤ a ∧ a < 3 * F c ∧ 3 * F c ≤ b ∧ b < 3 * F (c + 1)) r) (k : post r) : wpY_groupDist post (nI na, nI n, nI nl, nI ns, ph, gY, rc, tmp, con, lLo, lHi, lF, lC, yg, yj, yd, sl, so, dA, dC, dO, kd, ar, co, va, ini, ori, fus, sca) (nI (g - 1)) (nI c) (nI lo) (nI hi) := by
  obtain ⟨⟨_, hna, _, hn, hnl, hns⟩, hPT, hLP, hsl, hSR, hw⟩ := id hB
  have hg : g ≤ c := lf_PT_sn hG.1 (fun a ha => (hG.2.1 a ha).1)
  have hg0 : 0 < g := by have := (hG.1.2.2.2 0 h0).1; omega
  subst elo ehi
  obtain ⟨q1, q2, q3, q4, q5, q6⟩ := hLP c hc
  have p1 := (hG.2.1 (g - 1) (by omega)).1
  have eG : G (g - 1 + 1) = c := by rw [show g - 1 + 1 = g by omega]; exact hG.1.2.1
  rw [eG] at p1
  have hm2 : F (c + 1) ≤ ns := lf_PT_le hPT (by omega)
  have hcond : ∀ s, s < ns → (yg (L s) = nI (g - 1) ↔ (L s < c ∧ gp (L s) = g - 1)) := by
    intro s hs
    have hL := (hPT.2.2.2 s hs).1
    by_cases h : L s < c
    · have := (hG.1.2.2.2 _ h).1
      rw [(hG.2.2 _ h).2, nI_eq (by omega) (by omega)]
      omega
    · rw [hy _ (by omega) (by omega)]
      constructor
      · intro z; exact absurd z.symm (lf_ne1 (by omega))
      · intro z; omega
  have H : ∀ d s r', s + d = ns → lf_gl (lf_D n (Lo c) (Hi c) sk sa sc sv) (fun a b => (a / 3 < s ∧ (L (a / 3) < c ∧ gp (L (a / 3)) = g - 1)) ∧ (b / 3 < ns ∧ L (b / 3) = c)) r' → wY_groupDist_8 post (nI (g - 1)) (nI c) (nI (Lo c)) (nI (Hi c)) (nI na) (nI n) (nI nl) (nI ns) ph gY rc tmp con lLo lHi lF lC yg yj yd sl so dA dC dO kd ar co va ini ori fus sca (d + 1) r' (nI s) := by
    intro d
    induction d with
    | zero =>
      intro s r' h1 h2
      obtain rfl : s = ns := by omega
      have e : r = r' := lf_gl_u hr h2 (fun a b => by
        by_cases ha : a / 3 < s
        · by_cases hb : b / 3 < s
          · have i1 := lf_PT_ge hPT (s := a / 3) (l := G (g - 1)) ha (by omega)
            have i2 := lf_PT_ge hPT (s := a / 3) (l := c) ha (by omega)
            have i3 := lf_PT_iff hPT (s := b / 3) (l := c) hb hc
            by_cases h : L (a / 3) < c
            · have i4 := lf_PT_iff hG.1 (s := L (a / 3)) (l := g - 1) h (by omega)
              rw [eG] at i4
              omega
            · omega
          · omega
        · have i5 : F c ≤ s := lf_PT_le hPT (by omega)
          omega)
      subst e
      exact br_t (lf_rfl _) k
    | succ d ih =>
      intro s r' h1 h2
      have ec : (nI s).toNatClampNeg = s := nI_clamp (by omega)
      have hL := (hPT.2.2.2 s (by omega)).1
      have el : (nI (L s)).toNatClampNeg = L s := nI_clamp (by omega)
      refine br_f (nI_ge (by omega) (by omega)) ⟨vp_in_nI (by omega) (by decide), ?_, br_c (fun z => ?_) (fun z => ?_)⟩
      · rw [ec, hsl s (by omega)]; exact vp_in_nI (by omega) (by decide)
      · rw [ec, hsl s (by omega), el, hcond s (by omega)] at z
        exact ly_gd39 (by omega) hc hB q3 q4 h2 (fun r hr => ih (s + 1) r (by omega) (lf_gl_e hr (fun a b => by
          rw [lf_set1 (C := fun x => L x < c ∧ gp (L x) = g - 1) z]
          exact ⟨fun q => q.elim Or.inl (fun q => Or.inr ⟨q.2, q.1⟩), fun q => q.elim Or.inl (fun q => Or.inr ⟨q.2, q.1⟩)⟩)))
      · rw [ec, hsl s (by omega), el, hcond s (by omega)] at z
        exact nm_r (nI_1 s) (ih (s + 1) r' (by omega) (lf_gl_e h2 (fun a b => by rw [lf_set0 (C := fun x => L x < c ∧ gp (L x) = g - 1) z])))
  exact ⟨_, H ns 0 1000 (by omega) (lf_gl_0 (fun a b z => absurd z.1.1 (by omega)))⟩
end LFA3
end
section
section LFA4
variable {na n nl ns : Nat} {ph gX gY rc : Int32} {tmp con sca ini ori fus lLo lHi lF lC xg xj xd gf gl sl so sk sa sc sv yg yj yd dA dC dO kd ar co va : Nat → Int32} {F L Lo Hi G gp : Nat → Nat}
/-! contraction: the reference -/
/-- what the scan knows before slot z -/
def lf_I (ns : Nat) (sk sa sc sv : Nat → Int32) (L gp : Nat → Nat) (x z : Nat) (x2 x3 x4 x5 x6 x7 : Int32) : Prop :=
  (x2 = 0 ∧ ∀ y, y < z → ¬ lf_acc sk sa x y) ∨
  (x2 = 1 ∧ ∃ f, f < z ∧ f < 3 * ns ∧ lf_acc sk sa x f ∧ (∀ y, y < f → ¬ lf_acc sk sa x y) ∧ (∀ y, y < z → lf_acc sk sa x y → lf_mat L gp sc sv y f) ∧
    x3 = (if f % 3 = 2 then 1 else 0) ∧ x4 = nI (gp (L (f / 3))) ∧ x5 = sc f ∧ x6 = sv f ∧ x7 = nI (L (f / 3)))
theorem lf_I_n {x z : Nat} {x2 x3 x4 x5 x6 x7 : Int32} (h : lf_I ns sk sa sc sv L gp x z x2 x3 x4 x5 x6 x7) (hn : ¬ lf_acc sk sa x z) : lf_I ns sk sa sc sv L gp x (z + 1) x2 x3 x4 x5 x6 x7 := by
  rcases h with ⟨e, h⟩ | ⟨e, f, h1, h2, h3, h4, h5, h6⟩
  · refine Or.inl ⟨e, fun y hy => ?_⟩
    by_cases c : y = z
    · subst c; exact hn
    · exact h y (by omega)
  · refine Or.inr ⟨e, f, by omega, h2, h3, h4, fun y hy => ?_, h6⟩
    by_cases c : y = z
    · subst c; exact fun q => absurd q hn
    · exact h5 y (by omega)
theorem ly_ct42 {post : Int32 → Prop} {J30 : Int32 → Int32 → Int32 → Int32 → Int32 → Int32 → Int32 → Prop} {g s x : Nat} (hB : lf_B na n nl ns F L Lo Hi lLo lHi lF lC sl sk sa sc sv kd ar co va dA dC dO) (hG : lf_G nl g G gp xg gf gl yg) (hs : s < ns) (hx : x < na)
    (k0 : ¬ lf_CT n ns tmp sk sa sc sv L gp G Lo Hi x → post 0)
    (K : ∀ x2 x3 x4 x5 x6 x7, lf_I ns sk sa sc sv L gp x (3 * (s + 1)) x2 x3 x4 x5 x6 x7 → J30 x2 x3 x4 x5 x6 x7 (nI (s + 1))) :
    ∀ d p x2 x3 x4 x5 x6 x7, p + d = 3 → lf_I ns sk sa sc sv L gp x (3 * s + p) x2 x3 x4 x5 x6 x7 → wY_checkContract_42 post J30 (nI x) (nI s) (nI na) (nI n) (nI nl) (nI ns) ph gY rc tmp con lLo lHi lF lC yg yj yd sl so dA dC dO kd ar co va ini ori fus sca (d + 1) x2 x3 x4 x5 x6 x7 (nI p) := by
  obtain ⟨⟨_, hna, _, hn, hnl, hns⟩, hPT, hLP, hsl, hSR, hw⟩ := id hB
  have hg : g ≤ nl := lf_PT_sn hG.1 (fun a ha => (hG.2.1 a ha).1)
  have ec : (nI s).toNatClampNeg = s := nI_clamp (by omega)
  have is : vp_in (nI s) 12 := vp_in_nI (by omega) (by decide)
  have hL := (hPT.2.2.2 s hs).1
  have hgp := (hG.1.2.2.2 _ hL).1
  have el : (nI (L s)).toNatClampNeg = L s := nI_clamp (by omega)
  have il : vp_in (sl (nI s).toNatClampNeg) 8 := by rw [ec, hsl s hs]; exact vp_in_nI (by omega) (by decide)
  have eg : yg (sl (nI s).toNatClampNeg).toNatClampNeg = nI (gp (L s)) := by rw [ec, hsl s hs, el]; exact (hG.2.2 _ hL).2
  intro d
  induction d with
  | zero =>
    intro p x2 x3 x4 x5 x6 x7 h1 h2
    obtain rfl : p = 3 := by omega
    exact br_t (by decide) (nm_r (nI_1 s) (K _ _ _ _ _ _ h2))
  | succ d ih =>
    intro p x2 x3 x4 x5 x6 x7 h1 h2
    have m3 : (3 * s + p) % 3 = p := by omega
    have d3 : (3 * s + p) / 3 = s := by omega
    have hnext : ¬ lf_acc sk sa x (3 * s + p) → wY_checkContract_42 post J30 (nI x) (nI s) (nI na) (nI n) (nI nl) (nI ns) ph gY rc tmp con lLo lHi lF lC yg yj yd sl so dA dC dO kd ar co va ini ori fus sca (d + 1) x2 x3 x4 x5 x6 x7 (nI (p + 1)) := fun h3 => ih (p + 1) x2 x3 x4 x5 x6 x7 (by omega) (lf_I_n h2 h3)
    refine br_f (nI_ge (b := 3) (by omega) (by decide)) ?_
    refine ly_accArr hs hns (by omega) hSR (fun h3 => br_c (fun h4 => ?_) (fun h4 => nm_r (nI_1 p) (hnext (fun q => h4 q.2)))) (fun h3 => br_f (fun q => lf_ne1 (by omega) q.symm) (nm_r (nI_1 p) (hnext (fun q => h3 q.1))))
    have hacc : lf_acc sk sa x (3 * s + p) := ⟨h3, h4⟩
    refine ⟨is, il, nm_r eg (br_c (fun h5 => ?_) (fun h5 => ?_))⟩
    · rcases h2 with ⟨e, h6⟩ | ⟨e, _⟩
      · refine ly_accCoef hs hns (by omega) hSR ?_
        refine ly_accOff hs hns (by omega) hSR ?_
        have hI : ∀ v : Int32, v = (if p = 2 then 1 else 0) → lf_I ns sk sa sc sv L gp x (3 * s + p + 1) 1 v (nI (gp (L s))) (sc (3 * s + p)) (sv (3 * s + p)) (nI (L s)) := by
          intro v hv
          refine Or.inr ⟨rfl, 3 * s + p, by omega, by omega, hacc, h6, fun y hy q => ?_, ?_, ?_, rfl, rfl, ?_⟩
          · by_cases c : y = 3 * s + p
            · subst c; exact ⟨rfl, rfl, rfl⟩
            · exact absurd q (h6 y (by omega))
          · rw [m3]; exact hv
          · rw [d3]
          · rw [d3]
        refine ⟨is, nm_r (e' := nI (L s)) (by rw [ec]; exact hsl s hs) (pk_eq p 2 (fun h7 => nm_r (nI_1 p) (ih (p + 1) _ _ _ _ _ _ (by omega) (hI 1 (by rw [if_pos h7])))) (fun h7 => nm_r (nI_1 p) (ih (p + 1) _ _ _ _ _ _ (by omega) (hI 0 (by rw [if_neg h7])))) rfl rfl (by omega) (by decide))⟩
      · exact absurd (e.symm.trans h5) lf_10
    · rcases h2 with ⟨e, _⟩ | ⟨e, f, q1, q2, q3, q4, q5, q6, q7, q8, q9, q10⟩
      · exact absurd e h5
      · have hl2 := (hPT.2.2.2 (f / 3) (by omega)).1
        have hgp2 := (hG.1.2.2.2 _ hl2).1
        have hbad : ¬ lf_mat L gp sc sv (3 * s + p) f → post 0 := fun q => k0 (by
          rw [lf_CT_f q2 q3 q4]
          exact fun w => q (w.2.1 _ (by omega) hacc))
        refine br_c (fun h6 => ?_) (fun h6 => hbad (fun q => h6 (by rw [q7, ← q.1, d3])))
        rw [q7, nI_eq (by omega) (by omega)] at h6
        refine ly_accCoef hs hns (by omega) hSR (br_c (fun h7 => ?_) (fun h7 => hbad (fun q => h7 (by rw [q8]; exact q.2.1))))
        refine ly_accOff hs hns (by omega) hSR (br_c (fun h8 => ?_) (fun h8 => hbad (fun q => h8 (by rw [q9]; exact q.2.2))))
        refine nm_r (nI_1 p) (ih (p + 1) _ _ _ _ _ _ (by omega) (Or.inr ⟨e, f, by omega, q2, q3, q4, fun y hy q => ?_, q6, q7, q8, q9, q10⟩))
        by_cases c : y = 3 * s + p
        · subst c
          exact ⟨by rw [d3]; exact h6, h7.trans q8, h8.trans q9⟩
        · exact q5 y (by omega) q
theorem ly_ct242 {post : Int32 → Prop} {l : Nat} {x3 co' ov : Int32} (hl : l < nl) (hnl : nl ≤ 8) (hn : n ≤ 16) (hLP : lf_LP nl F Lo Hi lLo lHi lF lC) (hx3 : x3 = 0 ∨ x3 = 1) (a : lf_ran n (Lo l) (Hi l) co' ov → post x3) (b : ¬ lf_ran n (Lo l) (Hi l) co' ov → post 0) : ∃ m, wY_checkContract_242 post x3 co' ov (nI l) (nI na) (nI n) (nI nl) (nI ns) ph gY rc tmp con lLo lHi lF lC yg yj yd sl so dA dC dO kd ar co va ini ori fus sca m (nI (Lo l)) := by
  have hi : vp_in (nI l) 8 := vp_in_nI (by omega) (by decide)
  have ec : (nI l).toNatClampNeg = l := nI_clamp (by omega)
  obtain ⟨q1, q2, q3, q4, q5, q6⟩ := hLP l hl
  have hnar : narrow .boolean (.int x3) = .int x3 := by
    rcases hx3 with e | e
    · subst e; rfl
    · subst e; rfl
  have ex : ∀ i d, Hi l < i → i ≤ 16 → (∀ j, Lo l ≤ j → j < i → ¬ (co' * nI j + ov < 0 ∨ ¬ co' * nI j + ov < nI n)) → wY_checkContract_242 post x3 co' ov (nI l) (nI na) (nI n) (nI nl) (nI ns) ph gY rc tmp con lLo lHi lF lC yg yj yd sl so dA dC dO kd ar co va ini ori fus sca (d + 1) (nI i) := by
    intro i d h1 h2 h3
    refine ⟨hi, br_t ?_ ⟨hnar, a (fun j hj hj2 => h3 j hj (by omega))⟩⟩
    rw [ec, q2]; exact nI_lt h1 (by omega)
  have H : ∀ d i, Hi l + 1 ≤ i + d → Lo l ≤ i → i ≤ 16 → (∀ j, Lo l ≤ j → j < i → ¬ (co' * nI j + ov < 0 ∨ ¬ co' * nI j + ov < nI n)) → wY_checkContract_242 post x3 co' ov (nI l) (nI na) (nI n) (nI nl) (nI ns) ph gY rc tmp con lLo lHi lF lC yg yj yd sl so dA dC dO kd ar co va ini ori fus sca (d + 1) (nI i) := by
    intro d
    induction d with
    | zero =>
      intro i h1 h0 h2 h3
      exact ex i 0 (by omega) h2 h3
    | succ d ih =>
      intro i h1 h0 h2 h3
      by_cases hh : Hi l < i
      · exact ex i (d + 1) hh h2 h3
      · have hx : ¬ lHi (nI l).toNatClampNeg < nI i := by rw [ec, q2]; exact nI_nlt (by omega) (by omega)
        refine ⟨hi, br_f hx (nm_e (br_c (fun h4 => b (fun q => q i h0 (by omega) (Or.inl h4))) (fun h4 => br_c (fun h5 => nm_r (nI_1 i) (ih (i + 1) (by omega) (by omega) (by omega) ?_)) (fun h5 => b (fun q => q i h0 (by omega) (Or.inr h5))))))⟩
        intro j hj1 hj2
        by_cases e : j = i
        · subst e; exact fun q => q.elim h4 (fun q => q h5)
        · exact h3 j hj1 (by omega)
  exact ⟨_, H (Hi l + 1) (Lo l) (by omega) (Nat.le_refl _) (by omega) (fun j h1 h2 => absurd h2 (by omega))⟩
theorem ly_ct190 {post : Int32 → Prop} {g a l : Nat} {x3 co' ov : Int32} (hl : l < nl) (hnl : nl ≤ 8) (hn : n ≤ 16) (hLP : lf_LP nl F Lo Hi lLo lHi lF lC) (hG : lf_G nl g G gp xg gf gl yg) (ha : a < g) (hx3 : x3 = 0 ∨ x3 = 1)
    (f : (G a + 2 ≤ G (a + 1) ∧ ¬ co' = 0 ∧ lf_ran n (Lo l) (Hi l) co' ov) → post x3) (b : ¬ (G a + 2 ≤ G (a + 1) ∧ ¬ co' = 0 ∧ lf_ran n (Lo l) (Hi l) co' ov) → post 0) : ∃ m, wY_checkContract_190 post x3 (nI a) co' ov (nI l) (nI na) (nI n) (nI nl) (nI ns) ph gY rc tmp con lLo lHi lF lC yg yj yd sl so dA dC dO kd ar co va ini ori fus sca m 0 0 := by
  have hg : g ≤ nl := lf_PT_sn hG.1 (fun a ha => (hG.2.1 a ha).1)
  have hle : G (a + 1) ≤ nl := lf_PT_le hG.1 (by omega)
  have hlt := (hG.2.1 a ha).1
  have hi : vp_in (nI l) 8 := vp_in_nI (by omega) (by decide)
  have ec : (nI l).toNatClampNeg = l := nI_clamp (by omega)
  have H : ∀ d i, i + d = nl → wY_checkContract_190 post x3 (nI a) co' ov (nI l) (nI na) (nI n) (nI nl) (nI ns) ph gY rc tmp con lLo lHi lF lC yg yj yd sl so dA dC dO kd ar co va ini ori fus sca (d + 1) (nI (min i (G (a + 1)) - G a)) (nI i) := by
    intro d
    induction d with
    | zero =>
      intro i h
      obtain rfl : i = nl := by omega
      refine br_t (lf_rfl _) ?_
      rw [show min i (G (a + 1)) - G a = G (a + 1) - G a by omega]
      refine pk_lt (G (a + 1) - G a) 2 (fun h1 => b (fun q => by have := q.1; omega)) (fun h1 => br_c (fun h2 => b (fun q => q.2.1 h2)) (fun h2 => ⟨hi, nm_r (e' := nI (Lo l)) (by rw [ec]; exact (hLP l hl).1) ?_⟩)) rfl rfl (by omega) (by decide)
      exact ly_ct242 hl hnl hn hLP hx3 (fun h3 => f ⟨by omega, h2, h3⟩) (fun h3 => b (fun q => h3 q.2.2))
    | succ d ih =>
      intro i h
      have h1 := ih (i + 1) (by omega)
      have ei : (nI i).toNatClampNeg = i := nI_clamp (by omega)
      have hgi := (hG.1.2.2.2 i (by omega)).1
      refine br_f (nI_ge (by omega) (by omega)) ⟨vp_in_nI (by omega) (by decide), br_c (fun z => ?_) (fun z => ?_)⟩
      · rw [ei, (hG.2.2 i (by omega)).2, nI_eq (by omega) (by omega), lf_PT_iff hG.1 (by omega) ha] at z
        rw [show min (i + 1) (G (a + 1)) - G a = (min i (G (a + 1)) - G a) + 1 by omega] at h1
        exact nm_r (nI_1 _) (nm_r (nI_1 i) h1)
      · rw [ei, (hG.2.2 i (by omega)).2, nI_eq (by omega) (by omega), lf_PT_iff hG.1 (by omega) ha] at z
        rw [show min (i + 1) (G (a + 1)) - G a = min i (G (a + 1)) - G a by omega] at h1
        exact nm_r (nI_1 i) h1
  have h := H nl 0 (by omega)
  rw [show min 0 (G (a + 1)) - G a = 0 by omega] at h
  exact ⟨_, h⟩
theorem ly_contr {post : Int32 → Prop} {g x : Nat} (hB : lf_B na n nl ns F L Lo Hi lLo lHi lF lC sl sk sa sc sv kd ar co va dA dC dO) (hG : lf_G nl g G gp xg gf gl yg) (hx : x < na) (k : post (lf_b (lf_CT n ns tmp sk sa sc sv L gp G Lo Hi x))) : wpY_checkContract post (nI na, nI n, nI nl, nI ns, ph, gY, rc, tmp, con, lLo, lHi, lF, lC, yg, yj, yd, sl, so, dA, dC, dO, kd, ar, co, va, ini, ori, fus, sca) (nI x) := by
  obtain ⟨⟨_, hna, _, hn, hnl, hns⟩, hPT, hLP, hsl, hSR, hw⟩ := id hB
  obtain ⟨k1, k0⟩ := lf_b_k k
  have hi : vp_in (nI x) 6 := vp_in_nI (by omega) (by decide)
  have ec : (nI x).toNatClampNeg = x := nI_clamp (by omega)
  have hg : g ≤ nl := lf_PT_sn hG.1 (fun a ha => (hG.2.1 a ha).1)
  refine ⟨hi, br_c (fun h => k0 ?_) (fun h => ?_)⟩
  · rw [ec] at h
    exact fun q => q.1 h
  · rw [ec] at h
    have H : ∀ d s x2 x3 x4 x5 x6 x7, s + d = ns → lf_I ns sk sa sc sv L gp x (3 * s) x2 x3 x4 x5 x6 x7 → wY_checkContract_30 post (nI x) (nI na) (nI n) (nI nl) (nI ns) ph gY rc tmp con lLo lHi lF lC yg yj yd sl so dA dC dO kd ar co va ini ori fus sca (d + 1) x2 x3 x4 x5 x6 x7 (nI s) := by
      intro d
      induction d with
      | zero =>
        intro s x2 x3 x4 x5 x6 x7 h1 h2
        obtain rfl : s = ns := by omega
        rcases h2 with ⟨e, h3⟩ | ⟨e, f, q1, q2, q3, q4, q5, q6, q7, q8, q9, q10⟩
        · exact br_t (lf_rfl _) (br_t e (k0 (lf_CT_n h3)))
        · subst e
          have hl2 := (hPT.2.2.2 (f / 3) (by omega)).1
          have hgp2 := (hG.1.2.2.2 _ hl2).1
          have hCT := lf_CT_f (n := n) (tmp := tmp) (sc := sc) (sv := sv) (L := L) (gp := gp) (G := G) (lo := Lo) (hi := Hi) q2 q3 q4
          refine br_t (lf_rfl _) (br_f lf_10 ?_)
          rw [q7, q8, q9, q10]
          by_cases hf : f % 3 = 2
          · rw [if_pos hf] at q6
            subst q6
            exact ly_ct190 hl2 hnl hn hLP hG hgp2 (Or.inr rfl) (fun h3 => k1 (by rw [hCT]; exact ⟨h, q5, h3.1, h3.2.1, hf, h3.2.2⟩)) (fun h3 => k0 (by rw [hCT]; exact fun w => h3 ⟨w.2.2.1, w.2.2.2.1, w.2.2.2.2.2⟩))
          · rw [if_neg hf] at q6
            subst q6
            exact ly_ct190 hl2 hnl hn hLP hG hgp2 (Or.inl rfl) (fun _ => k0 (by rw [hCT]; exact fun w => hf w.2.2.2.2.1)) (fun _ => k0 (by rw [hCT]; exact fun w => hf w.2.2.2.2.1))
      | succ d ih =>
        intro s x2 x3 x4 x5 x6 x7 h1 h2
        exact br_f (nI_ge (by omega) (by omega)) ⟨_, ly_ct42 hB hG (by omega) hx k0 (fun y2 y3 y4 y5 y6 y7 hI => ih (s + 1) y2 y3 y4 y5 y6 y7 (by omega) hI) 3 0 x2 x3 x4 x5 x6 x7 rfl h2⟩
    exact ⟨_, H ns 0 0 0 (-1) 0 0 0 (by omega) (Or.inl ⟨rfl, fun y hy => absurd hy (by omega)⟩)⟩
theorem ly_an245 {post : Int32 → SY → Prop} {g : Nat} (hB : lf_B na n nl ns F L Lo Hi lLo lHi lF lC sl sk sa sc sv kd ar co va dA dC dO) (hG : lf_G nl g G gp xg gf gl yg)
    (k : post (nI g) (nI na, nI n, nI nl, nI ns, 1, nI g, rc, tmp, lf_cp (fun x => lf_b (lf_CT n ns tmp sk sa sc sv L gp G Lo Hi x)) na con, lLo, lHi, lF, lC, yg, yj, yd, sl, so, dA, dC, dO, kd, ar, co, va, ini, ori, fus, sca)) : ∃ q, wY_analyze_245 post (nI na) (nI n) (nI nl) (nI ns) ph (nI g) rc q 0 tmp con lLo lHi lF lC yg yj yd sl so dA dC dO kd ar co va ini ori fus sca := by
  have hna := hB.1.2.1
  have H : ∀ d i, i + d = na → wY_analyze_245 post (nI na) (nI n) (nI nl) (nI ns) ph (nI g) rc (d + 1) (nI i) tmp (lf_cp (fun x => lf_b (lf_CT n ns tmp sk sa sc sv L gp G Lo Hi x)) i con) lLo lHi lF lC yg yj yd sl so dA dC dO kd ar co va ini ori fus sca := by
    intro d
    induction d with
    | zero =>
      intro i h
      obtain rfl : i = na := by omega
      exact br_t (lf_rfl _) k
    | succ d ih =>
      intro i h
      have h1 := ih (i + 1) (by omega)
      rw [← lf_cp_s] at h1
      have hi : vp_in (nI i) 6 := vp_in_nI (by omega) (by decide)
      have ec : (nI i).toNatClampNeg = i := nI_clamp (by omega)
      refine br_f (nI_ge (by omega) (by omega)) ?_
      refine ly_contr hB hG (by omega) ?_
      exact ⟨hi, nm_r (by rw [ec, lf_nb]) (nm_r (nI_1 i) h1)⟩
  have h := H na 0 (by omega)
  rw [lf_cp0] at h
  exact ⟨_, h⟩
end LFA4
end
section
section LFA5
variable {na n nl ns : Nat} {ph gX gY rc : Int32} {tmp con sca ini ori fus lLo lHi lF lC xg xj xd gf gl sl so sk sa sc sv yg yj yd dA dC dO kd ar co va : Nat → Int32} {F L Lo Hi G gp : Nat → Nat}
theorem lf_PT_new {G gp : Nat → Nat} {g k : Nat} (h : lf_PT G gp g k) : lf_PT (lf_un G (g + 1) (k + 1)) (lf_un gp k g) (g + 1) (k + 1) := by
  have h2 := lf_PT_ext (Nat.succ_pos g) (lf_PT_app h)
  have e : lf_un (lf_un G (g + 1) k) (g + 1) (k + 1) = lf_un G (g + 1) (k + 1) := by
    funext j
    unfold lf_un
    by_cases c : j = g + 1
    · rw [if_pos c, if_pos c]
    · rw [if_neg c, if_neg c, if_neg c]
  rw [e] at h2
  exact h2
theorem lf_G_new {G gp : Nat → Nat} {g k : Nat} {xg gf gl yg : Nat → Int32} (h : lf_G k g G gp xg gf gl yg) :
    lf_G (k + 1) (g + 1) (lf_un G (g + 1) (k + 1)) (lf_un gp k g) (upd xg k (nI g)) (upd gf g (nI k)) (upd (upd gl g 0) g (upd gl g 0 g + 1)) (upd yg k (nI g)) := by
  refine ⟨lf_PT_new h.1, fun a ha => ?_, fun l hl => ?_⟩
  · by_cases c : a = g
    · subst c
      rw [lf_ue (show a ≠ a + 1 by omega), lf_us, pk_us, pk_us, pk_us, h.1.2.1]
      exact ⟨by omega, rfl, by rw [show k + 1 - k = 1 by omega]; decide⟩
    · rw [lf_ue (show a ≠ g + 1 by omega), lf_ue (show a + 1 ≠ g + 1 by omega), pk_un c, pk_un c, pk_un c]
      exact h.2.1 a (by omega)
  · by_cases c : l = k
    · subst c
      rw [pk_us, pk_us, lf_us]
      exact ⟨rfl, rfl⟩
    · rw [pk_un c, pk_un c, lf_ue c]
      exact h.2.2 l (by omega)
theorem lf_G_app {G gp : Nat → Nat} {g k : Nat} {xg gf gl yg : Nat → Int32} (hg : 0 < g) (h : lf_G k g G gp xg gf gl yg) :
    lf_G (k + 1) g (lf_un G g (k + 1)) (lf_un gp k (g - 1)) (upd xg k (nI (g - 1))) gf (upd gl (g - 1) (gl (g - 1) + 1)) (upd yg k (nI (g - 1))) := by
  refine ⟨lf_PT_ext hg h.1, fun a ha => ?_, fun l hl => ?_⟩
  · obtain ⟨p1, p2, p3⟩ := h.2.1 a ha
    rw [lf_ue (show a ≠ g by omega)]
    by_cases c : a = g - 1
    · have e : a + 1 = g := by omega
      rw [e, h.1.2.1] at p1 p3
      rw [e, lf_us, c, pk_us, ← c, p3, nI_1]
      exact ⟨by omega, p2, congrArg nI (by omega)⟩
    · rw [lf_ue (show a + 1 ≠ g by omega), pk_un c]
      exact ⟨p1, p2, p3⟩
  · by_cases c : l = k
    · subst c
      rw [pk_us, pk_us, lf_us]
      exact ⟨rfl, rfl⟩
    · rw [pk_un c, pk_un c, lf_ue c]
      exact h.2.2 l (by omega)
theorem lf_J_up {k : Nat} {xj xd yj yd : Nat → Int32} {j d : Int32} (h : lf_J k xj xd yj yd) : lf_J (k + 1) (upd xj k j) (upd xd k d) (upd yj k j) (upd yd k d) := by
  intro l hl
  by_cases c : l = k
  · subst c
    rw [pk_us, pk_us, pk_us, pk_us]
    exact ⟨rfl, rfl⟩
  · rw [pk_un c, pk_un c, pk_un c, pk_un c]
    exact h l (by omega)
theorem lf_y_up {k : Nat} {yg : Nat → Int32} {v : Int32} (h : ∀ l, k ≤ l → l < 8 → yg l = -1) : ∀ l, k + 1 ≤ l → l < 8 → upd yg k v l = -1 := by
  intro l h1 h2
  rw [pk_un (by omega)]
  exact h l (by omega) h2
/-! the reference's step -/
theorem ly_stA {post : Int32 → SY → Prop} {d : Nat} (hnl : 0 < nl) (hnl8 : nl ≤ 8) (h : wY_analyze_38 post (nI na) (nI n) (nI nl) (nI ns) ph rc (d + 1) (nI (0 + 1)) (nI (0 + 1)) tmp con lLo lHi lF lC (upd yg 0 (nI 0)) (upd yj 0 0) (upd yd 0 1000) sl so dA dC dO kd ar co va ini ori fus sca) : wY_analyze_38 post (nI na) (nI n) (nI nl) (nI ns) ph rc (d + 1 + 1) (nI 0) (nI 0) tmp con lLo lHi lF lC yg yj yd sl so dA dC dO kd ar co va ini ori fus sca :=
  br_f (nI_ge hnl (by omega)) (br_t rfl (nm_e (nm_e (nm_e (nm_r (nI_1 0) h)))))
theorem ly_st130 {post : Int32 → SY → Prop} {J38 : Int32 → Int32 → (Nat → Int32) → (Nat → Int32) → (Nat → Int32) → (Nat → Int32) → (Nat → Int32) → (Nat → Int32) → (Nat → Int32) → (Nat → Int32) → (Nat → Int32) → (Nat → Int32) → (Nat → Int32) → (Nat → Int32) → (Nat → Int32) → (Nat → Int32) → (Nat → Int32) → (Nat → Int32) → (Nat → Int32) → (Nat → Int32) → (Nat → Int32) → (Nat → Int32) → (Nat → Int32) → (Nat → Int32) → Prop} {k g : Nat} (hk : k < 8) (h : J38 (nI (k + 1)) (nI (g + 1)) tmp con lLo lHi lF lC (upd yg k (nI g)) (upd yj k 2) (upd yd k 1000) sl so dA dC dO kd ar co va ini ori fus sca) : wY_analyze_130 post J38 (nI k) (nI na) (nI n) (nI nl) (nI ns) ph (nI g) rc tmp con lLo lHi lF lC yg yj yd sl so dA dC dO kd ar co va ini ori fus sca := by
  have i3 : vp_in (nI k) 8 := vp_in_nI (by omega) (by decide)
  have e3 : (nI k).toNatClampNeg = k := nI_clamp (by omega)
  exact ⟨i3, nm_r (by rw [e3]) ⟨i3, nm_r (by rw [e3]) ⟨i3, nm_r (by rw [e3]) (nm_r (nI_1 g) (nm_r (nI_1 k) h))⟩⟩⟩
theorem ly_stB {post : Int32 → SY → Prop} {d k g : Nat} (h0 : 0 < k) (hk : k < nl) (hnl : nl ≤ 8) (hLP : lf_LP nl F Lo Hi lLo lHi lF lC) (hb : ¬ (Lo k = Lo (k - 1) ∧ Hi k = Hi (k - 1)))
    (h : wY_analyze_38 post (nI na) (nI n) (nI nl) (nI ns) ph rc (d + 1) (nI (k + 1)) (nI (g + 1)) tmp con lLo lHi lF lC (upd yg k (nI g)) (upd yj k 2) (upd yd k 1000) sl so dA dC dO kd ar co va ini ori fus sca) : wY_analyze_38 post (nI na) (nI n) (nI nl) (nI ns) ph rc (d + 1 + 1) (nI k) (nI g) tmp con lLo lHi lF lC yg yj yd sl so dA dC dO kd ar co va ini ori fus sca := by
  have i1 : vp_in (nI k) 8 := vp_in_nI (by omega) (by decide)
  have e1 : (nI k).toNatClampNeg = k := nI_clamp (by omega)
  have i2 : vp_in (nI k - 1) 8 := by rw [lf_p1 h0]; exact vp_in_nI (by omega) (by decide)
  have e2 : (nI k - 1).toNatClampNeg = k - 1 := by rw [lf_p1 h0]; exact nI_clamp (by omega)
  obtain ⟨a1, a2, a3, a4, _⟩ := hLP k hk
  obtain ⟨b1, b2, b3, b4, _⟩ := hLP (k - 1) (by omega)
  refine br_f (nI_ge hk (by omega)) (br_f (nI_ne0 h0 (by omega)) ⟨i2, nm_e ⟨i2, nm_r (e' := nI (Lo (k - 1))) (by rw [e2, b1]) ⟨i2, nm_r (e' := nI (Hi (k - 1))) (by rw [e2, b2]) ⟨i1, br_c (fun z => ⟨i1, br_c (fun z2 => ?_) (fun _ => ly_st130 (by omega) h)⟩) (fun _ => ly_st130 (by omega) h)⟩⟩⟩⟩)
  rw [e1, a1, nI_eq (by omega) (by omega)] at z
  rw [e1, a2, nI_eq (by omega) (by omega)] at z2
  exact absurd ⟨z, z2⟩ hb
theorem ly_stCD {post : Int32 → SY → Prop} {d k g : Nat} {r : Int32} (hB : lf_B na n nl ns F L Lo Hi lLo lHi lF lC sl sk sa sc sv kd ar co va dA dC dO) (hG : lf_G k g G gp xg gf gl yg) (hy : ∀ l, k ≤ l → l < 8 → yg l = -1) (h0 : 0 < k) (hk : k < nl) (hb : Lo k = Lo (k - 1) ∧ Hi k = Hi (k - 1))
    (hr : lf_gl (lf_D n (Lo k) (Hi k) sk sa sc sv) (fun a b => 3 * F (G (g - 1)) ≤ a ∧ a < 3 * F k ∧ 3 * F k ≤ b ∧ b < 3 * F (k + 1)) r)
    (h1 : ¬ 0 ≤ r → wY_analyze_38 post (nI na) (nI n) (nI nl) (nI ns) ph rc (d + 1) (nI (k + 1)) (nI (g + 1)) tmp con lLo lHi lF lC (upd yg k (nI g)) (upd yj k 3) (upd yd k r) sl so dA dC dO kd ar co va ini ori fus sca)
    (h2 : 0 ≤ r → wY_analyze_38 post (nI na) (nI n) (nI nl) (nI ns) ph rc (d + 1) (nI (k + 1)) (nI g) tmp con lLo lHi lF lC (upd yg k (nI (g - 1))) (upd yj k 1) (upd yd k r) sl so dA dC dO kd ar co va ini ori fus sca) : wY_analyze_38 post (nI na) (nI n) (nI nl) (nI ns) ph rc (d + 1 + 1) (nI k) (nI g) tmp con lLo lHi lF lC yg yj yd sl so dA dC dO kd ar co va ini ori fus sca := by
  obtain ⟨⟨_, hna, _, hn, hnl, hns⟩, hPT, hLP, hsl, hSR, hw⟩ := id hB
  have hg : g ≤ k := lf_PT_sn hG.1 (fun a ha => (hG.2.1 a ha).1)
  have hg0 : 0 < g := by have := (hG.1.2.2.2 0 h0).1; omega
  have i1 : vp_in (nI k) 8 := vp_in_nI (by omega) (by decide)
  have e1 : (nI k).toNatClampNeg = k := nI_clamp (by omega)
  have i2 : vp_in (nI k - 1) 8 := by rw [lf_p1 h0]; exact vp_in_nI (by omega) (by decide)
  have e2 : (nI k - 1).toNatClampNeg = k - 1 := by rw [lf_p1 h0]; exact nI_clamp (by omega)
  obtain ⟨a1, a2, a3, a4, _⟩ := hLP k hk
  obtain ⟨b1, b2, b3, b4, _⟩ := hLP (k - 1) (by omega)
  have eg : yg (nI k - 1).toNatClampNeg = nI (g - 1) := by
    rw [e2, (hG.2.2 (k - 1) (by omega)).2]
    have p1 := (hG.2.1 (g - 1) (by omega)).1
    rw [show g - 1 + 1 = g by omega, hG.1.2.1] at p1
    have := (lf_PT_iff hG.1 (s := k - 1) (l := g - 1) (by omega) (by omega)).mpr (by rw [show g - 1 + 1 = g by omega, hG.1.2.1]; omega)
    rw [this]
  refine br_f (nI_ge hk (by omega)) (br_f (nI_ne0 h0 (by omega)) ⟨i2, nm_r eg ⟨i2, nm_r (e' := nI (Lo (k - 1))) (by rw [e2, b1]) ⟨i2, nm_r (e' := nI (Hi (k - 1))) (by rw [e2, b2]) ⟨i1, br_t ?_ ⟨i1, br_t ?_ ?_⟩⟩⟩⟩⟩)
  · rw [e1, a1, hb.1]
  · rw [e1, a2, hb.2]
  · refine ly_gd hB hG hy h0 hk hb.1.symm hb.2.symm hr ?_
    refine ⟨i1, nm_r (by rw [e1]) (br_c (fun z => ⟨i1, nm_r (by rw [e1]) ⟨i1, nm_r (by rw [e1]) (nm_r (nI_1 k) (h2 z))⟩⟩) (fun z => ⟨i1, nm_r (by rw [e1]) ⟨i1, nm_r (by rw [e1]) (nm_r (nI_1 g) (nm_r (nI_1 k) (h1 z)))⟩⟩))⟩
/-! both sides, loop by loop -/
theorem lz_an11 (hB : lf_B na n nl ns F L Lo Hi lLo lHi lF lC sl sk sa sc sv kd ar co va dA dC dO) : ∀ d k g (G gp : Nat → Nat) (xg xj xd gf gl yg yj yd : Nat → Int32), k + d = nl → lf_G k g G gp xg gf gl yg → lf_J k xj xd yj yd → (∀ l, k ≤ l → l < 8 → yg l = -1) →
    ∃ g' G' gp' xg' xj' xd' gf' gl' yg' yj' yd', lf_G nl g' G' gp' xg' gf' gl' yg' ∧ lf_J nl xj' xd' yj' yd' ∧
      (∀ post, (∃ q, wX_analyze_32 post (nI na) (nI n) ph (nI nl) (nI ns) (nI g') rc q 0 tmp con sca ini ori fus lLo lHi lF lC xg' xj' xd' gf' gl' sl so sk sa sc sv) → wX_analyze_11 post (d + 1) (nI k) (nI na) (nI n) ph (nI nl) (nI ns) (nI g) rc tmp con sca ini ori fus lLo lHi lF lC xg xj xd gf gl sl so sk sa sc sv) ∧
      (∀ post, (∃ q, wY_analyze_245 post (nI na) (nI n) (nI nl) (nI ns) ph (nI g') rc q 0 tmp con lLo lHi lF lC yg' yj' yd' sl so dA dC dO kd ar co va ini ori fus sca) → wY_analyze_38 post (nI na) (nI n) (nI nl) (nI ns) ph rc (d + 1) (nI k) (nI g) tmp con lLo lHi lF lC yg yj yd sl so dA dC dO kd ar co va ini ori fus sca) := by
  obtain ⟨⟨_, hna, _, hn, hnl, hns⟩, hPT, hLP, hsl, hSR, hw⟩ := id hB
  intro d
  induction d with
  | zero =>
    intro k g G gp xg xj xd gf gl yg yj yd hk hG hJ hy
    obtain rfl : k = nl := by omega
    exact ⟨g, G, gp, xg, xj, xd, gf, gl, yg, yj, yd, hG, hJ, fun post q => br_t (lf_rfl _) q, fun post q => br_t (lf_rfl _) q⟩
  | succ d ih =>
    intro k g G gp xg xj xd gf gl yg yj yd hk hG hJ hy
    have hg : g ≤ k := lf_PT_sn hG.1 (fun a ha => (hG.2.1 a ha).1)
    by_cases h0 : k = 0
    · subst h0
      obtain rfl : g = 0 := by omega
      obtain ⟨g', G', gp', xg', xj', xd', gf', gl', yg', yj', yd', h1, h2, h3, h4⟩ := ih (0 + 1) (0 + 1) _ _ _ _ _ _ _ _ _ _ (by omega) (lf_G_new hG) (lf_J_up (j := 0) (d := 1000) hJ) (lf_y_up hy)
      refine ⟨g', G', gp', xg', xj', xd', gf', gl', yg', yj', yd', h1, h2, fun post q => ?_, fun post q => ?_⟩
      · refine br_f (nI_ge (by omega) (by omega)) ?_
        refine lx_placeA ?_
        exact nm_r (nI_1 0) (h3 post q)
      · exact ly_stA (by omega) hnl (h4 post q)
    · by_cases hb : Lo k = Lo (k - 1) ∧ Hi k = Hi (k - 1)
      · have hm1 : F (G (g - 1)) ≤ F k := by
          have hg0 : 0 < g := by have := (hG.1.2.2.2 0 (by omega)).1; omega
          have : G (g - 1) ≤ k := lf_PT_le hG.1 (by omega)
          exact lf_PT_mono hPT _ this (by omega)
        have hm2 : F k ≤ F (k + 1) := hPT.2.2.1 k (by omega)
        obtain ⟨r, hr⟩ := lf_gl_x (D := lf_D n (Lo k) (Hi k) sk sa sc sv) (fun _ _ => lf_D_le) (3 * F (G (g - 1))) (3 * F k) (3 * F (k + 1) - 3 * F k) (3 * F k - 3 * F (G (g - 1)))
        have hr' := lf_gl_e (S' := fun a b => 3 * F (G (g - 1)) ≤ a ∧ a < 3 * F k ∧ 3 * F k ≤ b ∧ b < 3 * F (k + 1)) hr (fun a b => by omega)
        by_cases hr0 : 0 ≤ r
        · have hg0 : 0 < g := by have := (hG.1.2.2.2 0 (by omega)).1; omega
          obtain ⟨g', G', gp', xg', xj', xd', gf', gl', yg', yj', yd', h1, h2, h3, h4⟩ := ih (k + 1) g _ _ _ _ _ _ _ _ _ _ (by omega) (lf_G_app hg0 hG) (lf_J_up (j := 1) (d := r) hJ) (lf_y_up hy)
          refine ⟨g', G', gp', xg', xj', xd', gf', gl', yg', yj', yd', h1, h2, fun post q => ?_, fun post q => ?_⟩
          · refine br_f (nI_ge (by omega) (by omega)) ?_
            refine lx_placeD hB hG (by omega) (by omega) hb hr' hr0 ?_
            exact nm_r (nI_1 k) (h3 post q)
          · exact ly_stCD hB hG hy (by omega) (by omega) hb hr' (fun z => absurd hr0 z) (fun _ => h4 post q)
        · obtain ⟨g', G', gp', xg', xj', xd', gf', gl', yg', yj', yd', h1, h2, h3, h4⟩ := ih (k + 1) (g + 1) _ _ _ _ _ _ _ _ _ _ (by omega) (lf_G_new hG) (lf_J_up (j := 3) (d := r) hJ) (lf_y_up hy)
          refine ⟨g', G', gp', xg', xj', xd', gf', gl', yg', yj', yd', h1, h2, fun post q => ?_, fun post q => ?_⟩
          · refine br_f (nI_ge (by omega) (by omega)) ?_
            refine lx_placeC hB hG (by omega) (by omega) hb hr' hr0 ?_
            exact nm_r (nI_1 k) (h3 post q)
          · exact ly_stCD hB hG hy (by omega) (by omega) hb hr' (fun _ => h4 post q) (fun z => absurd z hr0)
      · obtain ⟨g', G', gp', xg', xj', xd', gf', gl', yg', yj', yd', h1, h2, h3, h4⟩ := ih (k + 1) (g + 1) _ _ _ _ _ _ _ _ _ _ (by omega) (lf_G_new hG) (lf_J_up (j := 2) (d := 1000) hJ) (lf_y_up hy)
        refine ⟨g', G', gp', xg', xj', xd', gf', gl', yg', yj', yd', h1, h2, fun post q => ?_, fun post q => ?_⟩
        · refine br_f (nI_ge (by omega) (by omega)) ?_
          refine lx_placeB (by omega) (by omega) hnl (by omega) hLP hb ?_
          exact nm_r (nI_1 k) (h3 post q)
        · exact ly_stB (by omega) (by omega) hnl hLP hb (h4 post q)
theorem ly_an12 {post : Int32 → SY → Prop} (k : ∃ q, wY_analyze_38 post (nI na) (nI n) (nI nl) (nI ns) ph rc q 0 0 tmp con lLo lHi lF lC (lf_clr (-1) 8 yg) yj yd sl so dA dC dO kd ar co va ini ori fus sca) : ∃ q, wY_analyze_12 post (nI na) (nI n) (nI nl) (nI ns) ph gY rc q 0 tmp con lLo lHi lF lC yg yj yd sl so dA dC dO kd ar co va ini ori fus sca := by
  have H : ∀ d i, i + d = 8 → wY_analyze_12 post (nI na) (nI n) (nI nl) (nI ns) ph gY rc (d + 1) (nI i) tmp con lLo lHi lF lC (lf_clr (-1) i yg) yj yd sl so dA dC dO kd ar co va ini ori fus sca := by
    intro d
    induction d with
    | zero =>
      intro i h
      obtain rfl : i = 8 := by omega
      exact br_t (by decide) k
    | succ d ih =>
      intro i h
      have h1 := ih (i + 1) (by omega)
      rw [← lf_clr_s] at h1
      have hi : vp_in (nI i) 8 := vp_in_nI (by omega) (by decide)
      have ec : (nI i).toNatClampNeg = i := nI_clamp (by omega)
      exact br_f (nI_ge (b := 8) (by omega) (by decide)) ⟨hi, nm_r (by rw [ec]) (nm_r (nI_1 i) h1)⟩
  have h := H 8 0 rfl
  rw [lf_clr0] at h
  exact ⟨_, h⟩
theorem lz_analyze {k : Nat} (hB : lf_B na n nl ns F L Lo Hi lLo lHi lF lC sl sk sa sc sv kd ar co va dA dC dO) (hs : ∀ j, na ≤ j → sca j = 0) (hP : lf_P0 nl ph gX gY xg xj xd ∨ lf_P1 nl ph gX gY xg xj xd gf gl yg yj yd) :
    wpX_analyze (fun r u' => wpY_analyze (fun r' v' => r' = r ∧ i_Rel (k + 5) u' v') (nI na, nI n, nI nl, nI ns, ph, gY, rc, tmp, con, lLo, lHi, lF, lC, yg, yj, yd, sl, so, dA, dC, dO, kd, ar, co, va, ini, ori, fus, sca)) (nI na, nI n, ph, nI nl, nI ns, gX, rc, tmp, con, sca, ini, ori, fus, lLo, lHi, lF, lC, xg, xj, xd, gf, gl, sl, so, sk, sa, sc, sv) := by
  rcases hP with hP | hP
  · obtain ⟨e, eX, eY, hxx⟩ := hP
    subst e eX eY
    have hG0 : lf_G 0 0 (fun _ => 0) (fun _ => 0) xg gf gl (lf_clr (-1) 8 yg) := ⟨lf_PT_0, fun a ha => absurd ha (by omega), fun l hl => absurd hl (by omega)⟩
    have hJ0 : lf_J 0 xj xd yj yd := fun l hl => absurd hl (by omega)
    have hy0 : ∀ l, 0 ≤ l → l < 8 → lf_clr (-1) 8 yg l = -1 := fun l _ h => by unfold lf_clr; rw [if_pos h]
    obtain ⟨g', G', gp', xg', xj', xd', gf', gl', yg', yj', yd', hG, hJ, HX, HY⟩ := lz_an11 (ph := 0) (rc := rc) (tmp := tmp) (con := con) (sca := sca) (ini := ini) (ori := ori) (fus := fus) (so := so) hB nl 0 0 _ _ xg xj xd gf gl (lf_clr (-1) 8 yg) yj yd (by omega) hG0 hJ0 hy0
    refine br_t rfl ⟨nl + 1, HX _ (lx_an32 hB hG ?_)⟩
    refine br_f lf_01 (ly_an12 ⟨nl + 1, HY _ (ly_an245 hB hG ⟨rfl, ?_⟩)⟩)
    exact lf_mk hB hs (Or.inr ⟨rfl, g', G', gp', rfl, rfl, hG, hJ⟩)
  · exact br_f (fun z => lf_10 (hP.1.symm.trans z)) (br_t hP.1 ⟨rfl, lf_mk hB hs (Or.inr hP)⟩)
theorem i_vc_analyze {k : Nat} {u : SX} {v : SY} (I : i_Rel k u v) (hk : k + 5 ≤ 2562) : wpX_analyze (fun r u' => wpY_analyze (fun r' v' => r' = r ∧ i_Rel (k + 5) u' v') v) u := by
  obtain ⟨na, n, nl, ns, F, L, Lo, Hi, ph, gX, gY, rc, tmp, con, sca, ini, ori, fus, lLo, lHi, lF, lC, xg, xj, xd, gf, gl, sl, so, sk, sa, sc, sv, yg, yj, yd, dA, dC, dO, kd, ar, co, va, rfl, rfl, hB, hs, hP⟩ := I
  exact lz_analyze hB hs hP
end LFA5
end
