/-! HOW THE CLASS HOLDS a museum R and what is cleaned C -/
def kpX (t i : Nat) : Bool := t == 36 || t == 5 || t == 37 || t == 6 || t == 39 || t == 0 || t == 20 || t == 21 || t == 9 || t == 43 || t == 44 || t == 45 || t == 46 || t == 47 || (t == 1 && i == 0) || ((t == 10 || t == 52 || t == 53) && decide (i < 8))
def msk (g : Nat → Nat → Nat → Int32) : Nat → Nat → Nat → Int32 := fun t i k => cond (kpX t i) (g t i k) 0
def cDe (g : Nat → Nat → Nat → Int32) (R : Nat → Int32) (o d : Nat) : Prop :=
  (∃ n, n ≤ 2 ∧ g 0 o 0 = nI n ∧ ∀ e, e < 2 → (e < n → R (40 + 7 * d + 2 * e) ≠ 0 ∧ g 20 o e = R (40 + 7 * d + 2 * e) - 1 ∧ g 21 o e = R (40 + 7 * d + 2 * e + 1)) ∧ (n ≤ e → R (40 + 7 * d + 2 * e) = 0)) ∧
  (g 0 o 3 = 0 ↔ R (40 + 7 * d + 4) = 0) ∧
  (R (40 + 7 * d + 4) ≠ 0 → g 6 (o + 12) 0 = R (40 + 7 * d + 4) - 1 ∧ (g 6 (o + 12) 1 = 0 ↔ R (40 + 7 * d + 5) = 1) ∧ g 6 (o + 12) 2 = R (40 + 7 * d + 6))
def cM (g : Nat → Nat → Nat → Int32) (μ : Nat) (R : Nat → Int32) : Prop :=
  (g 36 μ 1 = R 4 ∧ g 36 μ 2 = R 10 ∧ g 36 μ 3 = R 5 ∧ g 36 μ 4 = R 6 ∧ g 36 μ 5 = R 7 ∧ g 36 μ 6 = R 8 ∧ g 36 μ 7 = R 9 ∧ g 36 μ 8 = (if R 181 = 0 then 0 else 1)) ∧
  (g 5 μ 1 = R 0 ∧ g 5 μ 2 = R 1 ∧ g 5 μ 3 = R 2 ∧ g 5 μ 4 = R 3) ∧
  (∀ t, t < gN R 4 → g 37 μ t = R (11 + t)) ∧
  (∀ h, h < gN R 10 → g 6 (6 * μ + h) 0 = R (16 + 4 * h) ∧ (g 6 (6 * μ + h) 1 = 0 ↔ R (16 + 4 * h + 1) = 1) ∧ g 6 (6 * μ + h) 2 = R (16 + 4 * h + 2) ∧ g 39 μ h = R (16 + 4 * h + 3)) ∧
  (∀ d, d < gN R 5 → cDe g R (8 * μ + d) d) ∧
  (∀ p, p < gN R 6 → vS g (4 * μ + p) (plR R p)) ∧
  (∀ s, s < gN R 7 → g 9 (7 * μ + s) 0 = R (124 + 4 * s) ∧ g 9 (7 * μ + s) 1 = R (124 + 4 * s + 1) ∧ g 9 (7 * μ + s) 2 = R (124 + 4 * s + 2) ∧ g 9 (7 * μ + s) 3 = R (124 + 4 * s + 3)) ∧
  (∀ m, m < gN R 8 → g 43 μ m = R (152 + 2 * m) ∧ g 44 μ m = R (152 + 2 * m + 1)) ∧
  (∀ a, a < gN R 9 → g 45 μ a = R (160 + 3 * a) ∧ g 46 μ a = R (160 + 3 * a + 1) ∧ g 47 μ a = R (160 + 3 * a + 2)) ∧
  (R 181 ≠ 0 → g 5 μ 16 = R 181 - 1 ∧ g 5 μ 17 = fo (fun t a => a * 10 + R (181 + 1 + t)) 0 (gN R 4))
def cC (x : Int32) (C : Nat → Bool) : Prop := ∀ s, s < 7 → (x >>> (nI s &&& 31)) &&& 1 = bI (C s)
def cX (σ : M2) (μ : Nat) (R : Nat → Int32) (C : Nat → Bool) : Prop := σ.2.2 8 0 0 = μ ∧ σ.2.2 12 0 4 = μ ∧ μ < 2 ∧ okR R ∧ cM (msk σ.1) μ R ∧ cC (msk σ.1 1 0 2) C
theorem cX.fr {A : Nat → Nat → Nat → Bool} (hA : ∀ t i k, kpX t i = true → A t i k = false) {σ σ' : M2} {μ : Nat} {R : Nat → Int32} {C : Nat → Bool} (h : cX σ μ R C) (hf : fr A σ σ') : cX σ' μ R C := by
  have e : msk σ'.1 = msk σ.1 := by
    funext t i k
    unfold msk
    cases hk : kpX t i
    · rfl
    · exact hf.1 t i k (hA t i k hk)
  unfold cX at *
  rw [e, hf.2]
  exact h
section CXP
variable {σ : M2} {μ : Nat} {R : Nat → Int32} {C : Nat → Bool}
theorem cX.r8 (h : cX σ μ R C) : σ.2.2 8 0 0 = μ := h.1
theorem cX.r12 (h : cX σ μ R C) : σ.2.2 12 0 4 = μ := h.2.1
theorem cX.mu (h : cX σ μ R C) : μ < 2 := h.2.2.1
theorem cX.ok (h : cX σ μ R C) : okR R := h.2.2.2.1
theorem cX.m (h : cX σ μ R C) : cM (msk σ.1) μ R := h.2.2.2.2.1
theorem cX.cnt (h : cX σ μ R C) : σ.1 36 μ 1 = R 4 ∧ σ.1 36 μ 2 = R 10 ∧ σ.1 36 μ 3 = R 5 ∧ σ.1 36 μ 4 = R 6 ∧ σ.1 36 μ 5 = R 7 ∧ σ.1 36 μ 6 = R 8 ∧ σ.1 36 μ 7 = R 9 ∧ σ.1 36 μ 8 = (if R 181 = 0 then 0 else 1) := h.m.1
theorem cX.five (h : cX σ μ R C) : σ.1 5 μ 1 = R 0 ∧ σ.1 5 μ 2 = R 1 ∧ σ.1 5 μ 3 = R 2 ∧ σ.1 5 μ 4 = R 3 := h.m.2.1
theorem cX.lev (h : cX σ μ R C) : ∀ t, t < gN R 4 → σ.1 37 μ t = R (11 + t) := h.m.2.2.1
theorem cX.hrm (h : cX σ μ R C) : ∀ h, h < gN R 10 → σ.1 6 (6 * μ + h) 0 = R (16 + 4 * h) ∧ (σ.1 6 (6 * μ + h) 1 = 0 ↔ R (16 + 4 * h + 1) = 1) ∧ σ.1 6 (6 * μ + h) 2 = R (16 + 4 * h + 2) ∧ σ.1 39 μ h = R (16 + 4 * h + 3) := h.m.2.2.2.1
theorem cX.ded (h : cX σ μ R C) : ∀ d, d < gN R 5 → cDe σ.1 R (8 * μ + d) d := h.m.2.2.2.2.1
theorem vS_m {g : Nat → Nat → Nat → Int32} {o : Nat} {p : Pl} (ho : o < 8) (h : vS (msk g) o p) : vS g o p := by
  have e : ∀ t k, (t = 10 ∨ t = 52 ∨ t = 53) → msk g t o k = g t o k := by
    intro t k ht
    unfold msk
    have : kpX t o = true := by rcases ht with rfl | rfl | rfl <;> simp [kpX, ho]
    rw [this]; rfl
  refine ⟨by rw [← e 10 0 (by decide)]; exact h.1, fun i hi => ⟨?_, ?_⟩⟩
  · rw [← e 52 i (by decide)]; exact (h.2 i hi).1
  · rw [← e 53 i (by decide)]; exact (h.2 i hi).2
theorem cX.pln (h : cX σ μ R C) : ∀ p, p < gN R 6 → vS σ.1 (4 * μ + p) (plR R p) := fun p hp => vS_m (by have := h.mu; have := h.ok.cP.1; omega) (h.m.2.2.2.2.2.1 p hp)
theorem cX.slp (h : cX σ μ R C) : ∀ s, s < gN R 7 → σ.1 9 (7 * μ + s) 0 = R (124 + 4 * s) ∧ σ.1 9 (7 * μ + s) 1 = R (124 + 4 * s + 1) ∧ σ.1 9 (7 * μ + s) 2 = R (124 + 4 * s + 2) ∧ σ.1 9 (7 * μ + s) 3 = R (124 + 4 * s + 3) := h.m.2.2.2.2.2.2.1
theorem cX.man (h : cX σ μ R C) : ∀ m, m < gN R 8 → σ.1 43 μ m = R (152 + 2 * m) ∧ σ.1 44 μ m = R (152 + 2 * m + 1) := h.m.2.2.2.2.2.2.2.1
theorem cX.ask (h : cX σ μ R C) : ∀ a, a < gN R 9 → σ.1 45 μ a = R (160 + 3 * a) ∧ σ.1 46 μ a = R (160 + 3 * a + 1) ∧ σ.1 47 μ a = R (160 + 3 * a + 2) := h.m.2.2.2.2.2.2.2.2.1
theorem cX.end (h : cX σ μ R C) : R 181 ≠ 0 → σ.1 5 μ 16 = R 181 - 1 ∧ σ.1 5 μ 17 = fo (fun t a => a * 10 + R (181 + 1 + t)) 0 (gN R 4) := h.m.2.2.2.2.2.2.2.2.2
theorem cX.cln (h : cX σ μ R C) : cC (σ.1 1 0 2) C := h.2.2.2.2.2
end CXP
