/-! iteration from one place to another -/
def lf_it {σ : Type} (f : Nat → σ → σ) (a : Nat) : Nat → σ → σ
  | 0, m => m
  | d + 1, m => f (a + d) (lf_it f a d m)
theorem lf_it_add {σ : Type} {f : Nat → σ → σ} {a d : Nat} {m : σ} : ∀ e, lf_it f a (d + e) m = lf_it f (a + d) e (lf_it f a d m) := by
  intro e
  induction e with
  | zero => rfl
  | succ e ih =>
    show f (a + (d + e)) (lf_it f a (d + e) m) = f (a + d + e) (lf_it f (a + d) e (lf_it f a d m))
    rw [ih, Nat.add_assoc]
def lf_to {σ : Type} (f : Nat → σ → σ) (a b : Nat) (m : σ) : σ := lf_it f a (b - a) m
theorem lf_to_e {σ : Type} {f : Nat → σ → σ} {a b : Nat} {m : σ} (h : b ≤ a) : lf_to f a b m = m := by
  unfold lf_to
  rw [Nat.sub_eq_zero_of_le h]
  rfl
theorem lf_to_s {σ : Type} {f : Nat → σ → σ} {a b : Nat} {m : σ} (h : a ≤ b) : lf_to f a (b + 1) m = f b (lf_to f a b m) := by
  unfold lf_to
  rw [show b + 1 - a = (b - a) + 1 by omega]
  show f (a + (b - a)) _ = _
  rw [show a + (b - a) = b by omega]
theorem lf_to_t {σ : Type} {f : Nat → σ → σ} {a b c : Nat} {m : σ} (h1 : a ≤ b) (h2 : b ≤ c) : lf_to f a c m = lf_to f b c (lf_to f a b m) := by
  unfold lf_to
  rw [show c - a = (b - a) + (c - b) by omega, lf_it_add, show a + (b - a) = b by omega]
theorem lf_to_P {σ : Type} {f : Nat → σ → σ} {a b : Nat} {m : σ} (P : σ → Prop) (hs : ∀ i m, a ≤ i → i < b → P m → P (f i m)) (h : P m) : P (lf_to f a b m) := by
  by_cases hb : b ≤ a
  · rw [lf_to_e hb]; exact h
  · obtain ⟨d, rfl⟩ : ∃ d, b = a + d := ⟨b - a, by omega⟩
    clear hb
    induction d with
    | zero => rw [lf_to_e (by omega)]; exact h
    | succ d ih =>
      rw [show a + (d + 1) = (a + d) + 1 by omega, lf_to_s (by omega)]
      exact hs _ _ (by omega) (by omega) (ih fun i m h1 h2 h3 => hs i m h1 (by omega) h3)
theorem lf_to_c {σ : Type} {f g : Nat → σ → σ} {a b : Nat} {m : σ} (hs : ∀ i m, a ≤ i → i < b → f i m = g i m) : lf_to f a b m = lf_to g a b m := by
  by_cases hb : b ≤ a
  · rw [lf_to_e hb, lf_to_e hb]
  · obtain ⟨d, rfl⟩ : ∃ d, b = a + d := ⟨b - a, by omega⟩
    clear hb
    induction d with
    | zero => rw [lf_to_e (by omega), lf_to_e (by omega)]
    | succ d ih =>
      rw [show a + (d + 1) = (a + d) + 1 by omega, lf_to_s (by omega), lf_to_s (by omega), hs _ _ (by omega) (by omega), ih fun i m h1 h2 => hs i m h1 (by omega)]
/-! intervals: F l to F (l + 1) is the l-th, L s the one that holds s -/
def lf_un (f : Nat → Nat) (k v : Nat) : Nat → Nat := fun j => if j = k then v else f j
theorem lf_us {f : Nat → Nat} {k v : Nat} : lf_un f k v k = v := if_pos rfl
theorem lf_ue {f : Nat → Nat} {k v j : Nat} (h : j ≠ k) : lf_un f k v j = f j := if_neg h
def lf_PT (F L : Nat → Nat) (n m : Nat) : Prop := F 0 = 0 ∧ F n = m ∧ (∀ l, l < n → F l ≤ F (l + 1)) ∧ ∀ s, s < m → L s < n ∧ F (L s) ≤ s ∧ s < F (L s + 1)
theorem lf_PT_mono {F L : Nat → Nat} {n m : Nat} (h : lf_PT F L n m) {a : Nat} : ∀ b, a ≤ b → b ≤ n → F a ≤ F b := by
  intro b
  induction b with
  | zero => intro h1 _; rw [show a = 0 by omega]; exact Nat.le_refl _
  | succ b ih =>
    intro h1 h2
    by_cases e : a = b + 1
    · rw [e]; exact Nat.le_refl _
    · exact Nat.le_trans (ih (by omega) (by omega)) (h.2.2.1 b (by omega))
theorem lf_PT_le {F L : Nat → Nat} {n m l : Nat} (h : lf_PT F L n m) (hl : l ≤ n) : F l ≤ m := by
  have := lf_PT_mono h n hl (Nat.le_refl _)
  rw [h.2.1] at this
  exact this
theorem lf_PT_iff {F L : Nat → Nat} {n m s l : Nat} (h : lf_PT F L n m) (hs : s < m) (hl : l < n) : L s = l ↔ F l ≤ s ∧ s < F (l + 1) := by
  obtain ⟨h1, h2, h3⟩ := h.2.2.2 s hs
  constructor
  · intro e; rw [← e]; exact ⟨h2, h3⟩
  · intro ⟨a, b⟩
    by_cases c : L s < l
    · have := lf_PT_mono h (a := L s + 1) l (by omega) (by omega); omega
    · by_cases d : l < L s
      · have := lf_PT_mono h (a := l + 1) (L s) (by omega) (by omega); omega
      · omega
theorem lf_PT_0 : lf_PT (fun _ => 0) (fun _ => 0) 0 0 := ⟨rfl, rfl, fun _ h => absurd h (by omega), fun _ h => absurd h (by omega)⟩
theorem lf_PT_app {F L : Nat → Nat} {n m : Nat} (h : lf_PT F L n m) : lf_PT (lf_un F (n + 1) m) L (n + 1) m := by
  refine ⟨?_, lf_us, ?_, ?_⟩
  · rw [lf_ue (by omega)]; exact h.1
  · intro l hl
    rw [lf_ue (show l ≠ n + 1 by omega)]
    by_cases e : l = n
    · subst e; rw [lf_us]; exact lf_PT_le h (Nat.le_refl _)
    · rw [lf_ue (by omega)]; exact h.2.2.1 l (by omega)
  · intro s hs
    obtain ⟨h1, h2, h3⟩ := h.2.2.2 s hs
    refine ⟨by omega, ?_, ?_⟩
    · rw [lf_ue (by omega)]; exact h2
    · rw [lf_ue (by omega)]; exact h3
theorem lf_PT_ext {F L : Nat → Nat} {n m : Nat} (h0 : 0 < n) (h : lf_PT F L n m) : lf_PT (lf_un F n (m + 1)) (lf_un L m (n - 1)) n (m + 1) := by
  refine ⟨?_, lf_us, ?_, ?_⟩
  · rw [lf_ue (by omega)]; exact h.1
  · intro l hl
    rw [lf_ue (show l ≠ n by omega)]
    by_cases e : l + 1 = n
    · rw [e, lf_us]; have := lf_PT_le h (l := l) (by omega); omega
    · rw [lf_ue e]; exact h.2.2.1 l (by omega)
  · intro s hs
    by_cases e : s = m
    · subst e
      rw [lf_us, lf_ue (show n - 1 ≠ n by omega), show n - 1 + 1 = n by omega, lf_us]
      have := lf_PT_le h (l := n - 1) (by omega)
      omega
    · obtain ⟨h1, h2, h3⟩ := h.2.2.2 s (by omega)
      rw [lf_ue e, lf_ue (show L s ≠ n by omega)]
      refine ⟨h1, h2, ?_⟩
      by_cases c : L s + 1 = n
      · rw [c, lf_us]; omega
      · rw [lf_ue c]; exact h3
/-! least values, as greatest lower bounds -/
theorem lf_le {x y : Int32} : x ≤ y ↔ x.toInt ≤ y.toInt := Int32.le_iff_toInt_le
theorem lf_lt {x y : Int32} : x < y ↔ x.toInt < y.toInt := Int32.lt_iff_toInt_lt
theorem lf_asym {x y : Int32} (h : x ≤ y) (h' : y ≤ x) : x = y := Int32.toInt_inj.mp (by rw [lf_le] at h h'; omega)
theorem lf_rfl (x : Int32) : x ≤ x := by rw [lf_le]; exact Int.le_refl _
def lf_mn (d r : Int32) : Int32 := if d < r then d else r
theorem lf_mn_le {x d r : Int32} : x ≤ lf_mn d r ↔ x ≤ r ∧ x ≤ d := by
  unfold lf_mn
  by_cases h : d < r
  · rw [if_pos h]
    rw [lf_lt] at h
    simp only [lf_le]
    omega
  · rw [if_neg h]
    rw [lf_lt] at h
    simp only [lf_le]
    omega
def lf_gl (D : Nat → Nat → Int32) (S : Nat → Nat → Prop) (r : Int32) : Prop := ∀ x : Int32, x ≤ r ↔ x ≤ 1000 ∧ ∀ p q, S p q → x ≤ D p q
theorem lf_gl_u {D : Nat → Nat → Int32} {S S' : Nat → Nat → Prop} {r r' : Int32} (h : lf_gl D S r) (h' : lf_gl D S' r') (e : ∀ p q, S p q ↔ S' p q) : r = r' := by
  apply lf_asym
  · rw [h' r]
    obtain ⟨a, b⟩ := (h r).mp (lf_rfl r)
    exact ⟨a, fun p q z => b p q ((e p q).mpr z)⟩
  · rw [h r']
    obtain ⟨a, b⟩ := (h' r').mp (lf_rfl r')
    exact ⟨a, fun p q z => b p q ((e p q).mp z)⟩
theorem lf_gl_0 {D : Nat → Nat → Int32} {S : Nat → Nat → Prop} (h : ∀ p q, ¬ S p q) : lf_gl D S 1000 := fun _ => ⟨fun a => ⟨a, fun p q z => absurd z (h p q)⟩, fun a => a.1⟩
theorem lf_gl_e {D : Nat → Nat → Int32} {S S' : Nat → Nat → Prop} {r : Int32} (h : lf_gl D S r) (e : ∀ p q, S p q ↔ S' p q) : lf_gl D S' r := fun x => by
  rw [h x]
  exact ⟨fun a => ⟨a.1, fun p q z => a.2 p q ((e p q).mpr z)⟩, fun a => ⟨a.1, fun p q z => a.2 p q ((e p q).mp z)⟩⟩
theorem lf_gl_j {D : Nat → Nat → Int32} {S T S' : Nat → Nat → Prop} {r d : Int32} (h : lf_gl D S r) (h2 : lf_gl D T d) (e : ∀ p q, S' p q ↔ S p q ∨ T p q) : lf_gl D S' (lf_mn d r) := fun x => by
  rw [lf_mn_le, h x, h2 x]
  constructor
  · intro ⟨⟨a, b⟩, ⟨_, c⟩⟩
    exact ⟨a, fun p q z => ((e p q).mp z).elim (b p q) (c p q)⟩
  · intro ⟨a, b⟩
    exact ⟨⟨a, fun p q z => b p q ((e p q).mpr (Or.inl z))⟩, ⟨a, fun p q z => b p q ((e p q).mpr (Or.inr z))⟩⟩
theorem lf_gl_1 {D : Nat → Nat → Int32} {p q : Nat} (h : D p q ≤ 1000) : lf_gl D (fun a b => a = p ∧ b = q) (D p q) := fun x => by
  constructor
  · intro a
    refine ⟨?_, fun p' q' z => ?_⟩
    · rw [lf_le] at *; omega
    · rw [z.1, z.2]; exact a
  · intro a
    exact a.2 p q ⟨rfl, rfl⟩
/-! a truth as a number -/
noncomputable def lf_b (P : Prop) : Int32 := @ite _ P (Classical.propDecidable P) 1 0
theorem lf_b_t {P : Prop} (h : P) : lf_b P = 1 := if_pos h
theorem lf_b_f {P : Prop} (h : ¬ P) : lf_b P = 0 := if_neg h
theorem lf_b_c {P Q : Prop} (h : P ↔ Q) : lf_b P = lf_b Q := by rw [propext h]
theorem lf_b_k {P : Prop} {post : Int32 → Prop} (h : post (lf_b P)) : (P → post 1) ∧ (¬ P → post 0) := ⟨fun z => by rw [lf_b_t z] at h; exact h, fun z => by rw [lf_b_f z] at h; exact h⟩
