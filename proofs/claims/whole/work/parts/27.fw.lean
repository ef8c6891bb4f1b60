/-! TOOLS for contracts: indices, loops, frames, folds -/
theorem hC {L : Nat} {xs : Nat → Int32} {d : Nat} : dm_cm (CL L xs d) := dm_Call.mono d
theorem ix_k {k n : Nat} {K : Prop} (h : k < n) (hn : n < 2 ^ 31) (q : K) : dm_ix (nI k) n K := dm_ix_of (vp_in_nI h hn) q
theorem nI_mul (a b : Nat) : nI a * nI b = nI (a * b) := (Int32.ofNat_mul a b).symm
theorem nI_div2 {a : Nat} (h : a < 2 ^ 31) : nI a / 2 = nI (a / 2) := by
  apply Int32.toInt_inj.mp
  rw [Int32.toInt_div, nI_toInt h, nI_toInt (by omega)]
  have : (2 : Int32).toInt = 2 := rfl
  rw [this]
  have h2 : (a : Int).tdiv 2 = ((a / 2 : Nat) : Int) := by
    rw [Int.tdiv_eq_ediv_of_nonneg (by omega)]; omega
  rw [h2]
  rw [Int.bmod_eq_of_le (by omega) (by omega)]
theorem nI_sub {a b : Nat} (h : b ≤ a) : nI a - nI b = nI (a - b) := by
  have : a = (a - b) + b := by omega
  rw [this, ← nI_add, show a - b + b - b = a - b by omega, Int32.add_sub_cancel]
theorem nI_dec {a : Nat} (h : 1 ≤ a) : nI a + (-1) = nI (a - 1) := by
  have := nI_sub h
  rw [← this, Int32.sub_eq_add_neg]
  rfl
theorem nI_neg2 {a : Nat} (h : a < 2 ^ 31) : ¬ nI a = -2 := by
  intro e
  have := congrArg Int32.toInt e
  rw [nI_toInt h] at this
  have h2 : (-2 : Int32).toInt = -2 := rfl
  rw [h2] at this
  omega
theorem nI_lt0 {a : Nat} (h : a < 2 ^ 31) : ¬ nI a < 0 := nI_pos h
theorem nI_tn {x : Int32} (h : ¬ x < 0) : nI x.toNatClampNeg = x := by
  obtain ⟨j, hj, rfl⟩ := nI_of h
  rw [nI_clamp hj]
theorem in_tn {x : Int32} {n : Nat} (h : vp_in x n) : x.toNatClampNeg < n ∧ x = nI x.toNatClampNeg := by
  unfold vp_in at h
  refine ⟨?_, (nI_tn ?_).symm⟩
  · exact Nat.lt_of_not_le (fun q => h (Or.inr q))
  · exact fun q => h (Or.inl q)
theorem if_lt {a b : Nat} {A B : Prop} (h : a < b) (hb : b < 2 ^ 31) (q : A) : if nI a < nI b then A else B := by
  rw [if_pos (nI_lt h hb)]; exact q
theorem if_nlt {a b : Nat} {A B : Prop} (h : b ≤ a) (ha : a < 2 ^ 31) (q : B) : if nI a < nI b then A else B := by
  rw [if_neg (nI_nlt h ha)]; exact q
theorem if_y {c A B : Prop} [Decidable c] (h : c) (q : A) : if c then A else B := by rw [if_pos h]; exact q
theorem if_n {c A B : Prop} [Decidable c] (h : ¬ c) (q : B) : if c then A else B := by rw [if_neg h]; exact q
theorem if_c {c A B : Prop} [Decidable c] (h : c → A) (q : ¬ c → B) : if c then A else B := by
  split
  · exact h ‹_›
  · exact q ‹_›
def bI (b : Bool) : Int32 := if b then 1 else 0
theorem if_b {b : Bool} {A B : Prop} (h : b = false → A) (q : b = true → B) : if bI b = 0 then A else B := by
  cases b
  · exact if_y rfl (h rfl)
  · exact if_n (by decide) (q rfl)
/-- a loop that counts upward -/
theorem dm_for {n : Nat} (G : Nat → M2 → Prop) (I : Nat → M2 → Prop) (hs : ∀ k σ, k < n → I k σ → (∀ σ', I (k + 1) σ' → G (k + 1) σ') → G k σ) (he : ∀ σ, I n σ → G n σ) : ∀ k σ, k ≤ n → I k σ → G k σ := by
  have key : ∀ m k σ, k + m = n → I k σ → G k σ := by
    intro m
    induction m with
    | zero => intro k σ h hi; have : k = n := h; subst this; exact he σ hi
    | succ m ih => intro k σ h hi; exact hs k σ (by omega) hi (fun σ' h' => ih (k + 1) σ' (by omega) h')
  exact fun k σ h => key (n - k) k σ (by omega)
/-- a loop that counts downward -/
theorem dm_dwn {a : Nat} (G : Nat → M2 → Prop) (I : Nat → M2 → Prop) (hs : ∀ k σ, a < k → I k σ → (∀ σ', I (k - 1) σ' → G (k - 1) σ') → G k σ) (he : ∀ σ, I a σ → G a σ) : ∀ k σ, a ≤ k → I k σ → G k σ := by
  have key : ∀ m k σ, k = a + m → I k σ → G k σ := by
    intro m
    induction m with
    | zero => intro k σ h hi; have : k = a := h; subst this; exact he σ hi
    | succ m ih => intro k σ h hi; exact hs k σ (by omega) hi (fun σ' h' => ih (k - 1) σ' (by omega) h')
  exact fun k σ h => key (k - a) k σ (by omega)
/-- only ints within A have changed -/
def fr (A : Nat → Nat → Nat → Bool) (σ σ' : M2) : Prop := (∀ t i k, A t i k = false → σ'.1 t i k = σ.1 t i k) ∧ σ'.2 = σ.2
theorem fr.id {A : Nat → Nat → Nat → Bool} {σ : M2} : fr A σ σ := ⟨fun _ _ _ _ => rfl, rfl⟩
theorem fr.trans {A : Nat → Nat → Nat → Bool} {σ σ1 σ2 : M2} (h : fr A σ σ1) (h' : fr A σ1 σ2) : fr A σ σ2 := ⟨fun t i k q => (h'.1 t i k q).trans (h.1 t i k q), h'.2.trans h.2⟩
theorem fr.weak {A B : Nat → Nat → Nat → Bool} (hAB : ∀ t i k, A t i k = true → B t i k = true) {σ σ1 : M2} (h : fr A σ σ1) : fr B σ σ1 := ⟨fun t i k q => h.1 t i k (by
  cases hA : A t i k
  · rfl
  · rw [hAB t i k hA] at q; cases q), h.2⟩
theorem fr.w {A : Nat → Nat → Nat → Bool} {σ σ1 : M2} (h : fr A σ σ1) {t i k : Nat} (hA : A t i k = true) {z : Int32} : fr A σ (m2_wI σ1 t i k z) := by
  refine ⟨fun t' i' k' q => ?_, h.2⟩
  rw [← h.1 t' i' k' q]
  show (if t' = t ∧ i' = i ∧ k' = k then z else σ1.1 t' i' k') = _
  rw [if_neg]
  rintro ⟨rfl, rfl, rfl⟩
  rw [hA] at q; cases q
theorem wI_at {σ : M2} {t i k : Nat} {z : Int32} {t' i' k' : Nat} : (m2_wI σ t i k z).1 t' i' k' = if t' = t ∧ i' = i ∧ k' = k then z else σ.1 t' i' k' := rfl
theorem wI_2 {σ : M2} {t i k : Nat} {z : Int32} : (m2_wI σ t i k z).2 = σ.2 := rfl
theorem wI_same {σ : M2} {t i k : Nat} {z : Int32} : (m2_wI σ t i k z).1 t i k = z := if_pos ⟨rfl, rfl, rfl⟩
theorem wI_t {σ : M2} {t i k : Nat} {z : Int32} {t' i' k' : Nat} (h : t' ≠ t) : (m2_wI σ t i k z).1 t' i' k' = σ.1 t' i' k' := if_neg (fun q => h q.1)
theorem wI_i {σ : M2} {t i k : Nat} {z : Int32} {t' i' k' : Nat} (h : i' ≠ i) : (m2_wI σ t i k z).1 t' i' k' = σ.1 t' i' k' := if_neg (fun q => h q.2.1)
theorem wI_k {σ : M2} {t i k : Nat} {z : Int32} {t' i' k' : Nat} (h : k' ≠ k) : (m2_wI σ t i k z).1 t' i' k' = σ.1 t' i' k' := if_neg (fun q => h q.2.2)
/-- a fold upward -/
def fo (f : Nat → Int32 → Int32) (a : Int32) : Nat → Int32
  | 0 => a
  | k + 1 => f k (fo f a k)
theorem fo_congr {f g : Nat → Int32 → Int32} {a : Int32} : ∀ n, (∀ k x, k < n → f k x = g k x) → fo f a n = fo g a n
  | 0, _ => rfl
  | n + 1, h => by
    show f n (fo f a n) = g n (fo g a n)
    rw [h n _ (by omega), fo_congr n (fun k x hk => h k x (by omega))]
/-- the first of m places from k on -/
def fi (p : Nat → Bool) : Nat → Nat → Option Nat
  | 0, _ => none
  | m + 1, k => if p k then some k else fi p m (k + 1)
theorem fi_some {p : Nat → Bool} : ∀ {m k j : Nat}, fi p m k = some j → k ≤ j ∧ j < k + m ∧ p j = true
  | 0, _, _, h => by cases h
  | m + 1, k, j, h => by
    unfold fi at h
    split at h
    · cases h; exact ⟨Nat.le_refl _, by omega, ‹_›⟩
    · have q := fi_some h; exact ⟨by omega, by omega, q.2.2⟩
theorem l0 : (0 : Int32) = nI 0 := rfl
theorem l1 : (1 : Int32) = nI 1 := rfl
theorem l2 : (2 : Int32) = nI 2 := rfl
theorem l3 : (3 : Int32) = nI 3 := rfl
theorem l4 : (4 : Int32) = nI 4 := rfl
theorem l5 : (5 : Int32) = nI 5 := rfl
theorem l6 : (6 : Int32) = nI 6 := rfl
theorem l7 : (7 : Int32) = nI 7 := rfl
theorem l8 : (8 : Int32) = nI 8 := rfl
theorem l9 : (9 : Int32) = nI 9 := rfl
theorem l10 : (10 : Int32) = nI 10 := rfl
theorem l11 : (11 : Int32) = nI 11 := rfl
theorem l12 : (12 : Int32) = nI 12 := rfl
theorem l16 : (16 : Int32) = nI 16 := rfl
theorem l23 : (23 : Int32) = nI 23 := rfl
theorem l40 : (40 : Int32) = nI 40 := rfl
theorem l96 : (96 : Int32) = nI 96 := rfl
theorem l124 : (124 : Int32) = nI 124 := rfl
theorem l152 : (152 : Int32) = nI 152 := rfl
theorem l160 : (160 : Int32) = nI 160 := rfl
theorem l181 : (181 : Int32) = nI 181 := rfl
theorem l187 : (187 : Int32) = nI 187 := rfl
theorem l215 : (215 : Int32) = nI 215 := rfl
