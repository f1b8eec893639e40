theorem lf_PT_ge {F L : Nat → Nat} {n m s l : Nat} (h : lf_PT F L n m) (hs : s < m) (hl : l ≤ n) : l ≤ L s ↔ F l ≤ s := by
  obtain ⟨h1, h2, h3⟩ := h.2.2.2 s hs
  constructor
  · intro a
    have := lf_PT_mono h (a := l) (L s) a (by omega)
    omega
  · intro a
    by_cases c : L s < l
    · have := lf_PT_mono h (a := L s + 1) l (by omega) hl
      omega
    · omega
theorem lf_fil_y {σ : Type} {f : Nat → σ → σ} {a b s : Nat} {m : σ} (h1 : a ≤ s) (h2 : s < b) : lf_to f a (min (s + 1) b) m = f s (lf_to f a (min s b) m) := by
  rw [show min (s + 1) b = s + 1 by omega, show min s b = s by omega, lf_to_s h1]
theorem lf_fil_n {σ : Type} {f : Nat → σ → σ} {a b s : Nat} {m : σ} (h : ¬ (a ≤ s ∧ s < b)) : lf_to f a (min (s + 1) b) m = lf_to f a (min s b) m := by
  by_cases c : b ≤ s
  · rw [show min (s + 1) b = b by omega, show min s b = b by omega]
  · rw [lf_to_e (show min (s + 1) b ≤ a by omega), lf_to_e (show min s b ≤ a by omega)]
theorem lf_fil_0 {σ : Type} {f : Nat → σ → σ} {a b : Nat} {m : σ} : lf_to f a (min 0 b) m = m := lf_to_e (by omega)
theorem lf_fil_e {σ : Type} {f : Nat → σ → σ} {a b e : Nat} {m : σ} (h : b ≤ e) : lf_to f a (min e b) m = lf_to f a b m := by
  rw [show min e b = b by omega]
theorem lf_flat {σ : Type} {f : Nat → σ → σ} {F : Nat → Nat} {a : Nat} {m : σ} : ∀ b, a ≤ b → (∀ k, a ≤ k → k < b → F k ≤ F (k + 1)) → F a ≤ F b ∧ lf_to (fun k m => lf_to f (F k) (F (k + 1)) m) a b m = lf_to f (F a) (F b) m := by
  intro b
  induction b with
  | zero =>
    intro h _
    rw [show a = 0 by omega, lf_to_e (Nat.le_refl _), lf_to_e (Nat.le_refl _)]
    exact ⟨Nat.le_refl _, rfl⟩
  | succ b ih =>
    intro h hm
    by_cases e : a = b + 1
    · rw [e, lf_to_e (Nat.le_refl _), lf_to_e (Nat.le_refl _)]
      exact ⟨Nat.le_refl _, rfl⟩
    · obtain ⟨h1, h2⟩ := ih (by omega) (fun k hk hk2 => hm k hk (by omega))
      have h3 := hm b (by omega) (by omega)
      rw [lf_to_s (by omega), h2, lf_to_t (b := F b) h1 h3]
      exact ⟨by omega, rfl⟩
theorem lf_CT_f {n ns : Nat} {tmp sk sa sc sv : Nat → Int32} {L gp G lo hi : Nat → Nat} {x f : Nat} (hf : f < 3 * ns) (ha : lf_acc sk sa x f) (h1 : ∀ z, z < f → ¬ lf_acc sk sa x z) : lf_CT n ns tmp sk sa sc sv L gp G lo hi x ↔
    (¬ tmp x = 0 ∧ (∀ z, z < 3 * ns → lf_acc sk sa x z → lf_mat L gp sc sv z f) ∧ G (gp (L (f / 3))) + 2 ≤ G (gp (L (f / 3)) + 1) ∧ ¬ sc f = 0 ∧ f % 3 = 2 ∧ lf_ran n (lo (L (f / 3))) (hi (L (f / 3))) (sc f) (sv f)) := by
  constructor
  · intro ⟨t, f', a, b, c, d⟩
    have e : f' = f := by
      by_cases h : f' < f
      · exact absurd b (h1 f' h)
      · by_cases h2 : f < f'
        · exact absurd ha (c f h2)
        · omega
    subst e
    exact ⟨t, d⟩
  · intro ⟨t, d⟩
    exact ⟨t, f, hf, ha, h1, d⟩
theorem lf_CT_n {n ns : Nat} {tmp sk sa sc sv : Nat → Int32} {L gp G lo hi : Nat → Nat} {x : Nat} (h : ∀ z, z < 3 * ns → ¬ lf_acc sk sa x z) : ¬ lf_CT n ns tmp sk sa sc sv L gp G lo hi x := by
  intro ⟨_, f, a, b, _⟩
  exact h f a b
/-! the slots of the component and the tables of the reference -/
def lf_SR (ns : Nat) (sk sa sc sv kd ar co va dA dC dO : Nat → Int32) : Prop := ∀ s, s < ns →
  (sk (3 * s) = kd (2 * s) ∧ sa (3 * s) = ar (2 * s) ∧ sc (3 * s) = co (2 * s) ∧ sv (3 * s) = va (2 * s)) ∧
  (sk (3 * s + 1) = kd (2 * s + 1) ∧ sa (3 * s + 1) = ar (2 * s + 1) ∧ sc (3 * s + 1) = co (2 * s + 1) ∧ sv (3 * s + 1) = va (2 * s + 1)) ∧
  (sk (3 * s + 2) = 2 ∧ sa (3 * s + 2) = dA s ∧ sc (3 * s + 2) = dC s ∧ sv (3 * s + 2) = dO s)
def lf_WF (na ns : Nat) (sk sa : Nat → Int32) : Prop := ∀ z, z < 3 * ns → sk z = 0 ∨ sk z = 1 ∨ (sk z = 2 ∧ ∃ a, a < na ∧ sa z = nI a)
def lf_LP (nl : Nat) (F Lo Hi : Nat → Nat) (lLo lHi lF lC : Nat → Int32) : Prop := ∀ l, l < nl → lLo l = nI (Lo l) ∧ lHi l = nI (Hi l) ∧ Lo l ≤ 15 ∧ Hi l ≤ 15 ∧ lF l = nI (F l) ∧ lC l = nI (F (l + 1) - F l)
/-- what both sides keep of the program -/
def lf_B (na n nl ns : Nat) (F L Lo Hi : Nat → Nat) (lLo lHi lF lC sl sk sa sc sv kd ar co va dA dC dO : Nat → Int32) : Prop :=
  (2 ≤ na ∧ na ≤ 6 ∧ 4 ≤ n ∧ n ≤ 16 ∧ nl ≤ 8 ∧ ns ≤ 12) ∧ lf_PT F L nl ns ∧ lf_LP nl F Lo Hi lLo lHi lF lC ∧ (∀ s, s < ns → sl s = nI (L s)) ∧ lf_SR ns sk sa sc sv kd ar co va dA dC dO ∧ lf_WF na ns sk sa
/-- groups of the first k loops -/
def lf_G (k g : Nat) (G gp : Nat → Nat) (xg gf gl yg : Nat → Int32) : Prop :=
  lf_PT G gp g k ∧ (∀ a, a < g → G a < G (a + 1) ∧ gf a = nI (G a) ∧ gl a = nI (G (a + 1) - G a)) ∧ ∀ l, l < k → xg l = nI (gp l) ∧ yg l = nI (gp l)
def lf_J (k : Nat) (xj xd yj yd : Nat → Int32) : Prop := ∀ l, l < k → xj l = yj l ∧ xd l = yd l
def lf_P0 (nl : Nat) (ph gX gY : Int32) (xg xj xd : Nat → Int32) : Prop := ph = 0 ∧ gX = 0 ∧ gY = 0 ∧ ∀ l, l < nl → xg l = -1 ∧ xj l = -1 ∧ xd l = 1000
def lf_P1 (nl : Nat) (ph gX gY : Int32) (xg xj xd gf gl yg yj yd : Nat → Int32) : Prop := ph = 1 ∧ ∃ g G gp, gX = nI g ∧ gY = nI g ∧ lf_G nl g G gp xg gf gl yg ∧ lf_J nl xj xd yj yd
theorem lf_PT_sn {G gp : Nat → Nat} {g k : Nat} (h : lf_PT G gp g k) (hs : ∀ a, a < g → G a < G (a + 1)) : g ≤ k := by
  have : ∀ a, a ≤ g → a ≤ G a := by
    intro a
    induction a with
    | zero => intro _; omega
    | succ a ih => intro ha; have := ih (by omega); have := hs a (by omega); omega
  have := this g (Nat.le_refl _)
  rw [h.2.1] at this
  exact this
