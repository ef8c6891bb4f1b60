/-! THE LAW'S LOOP: P j stands for at most j throws so far -/
theorem law_loop {L : Nat} {xs : Nat → Int32} {d : Nat} {Q : Option dm_V → M2 → Prop} {P : Nat → Nat → dm_L → List dm_V → M2 → Prop} (hd : 20 ≤ d) (hL : L ≤ 3072) (hp : ∀ j, j ≤ 512 → l281_cl L xs (CL L xs d) Q (P j)) (hq : ∀ σ, IN σ → Q (some (vi 1)) σ)
    (hl : ∀ j i σ, j < 512 → i + 6 ≤ L → IN σ → (∀ σ', IN σ' → P j 23 (lsI (i + 6)) [] σ') → (∀ σ', IN σ' → P (j + 1) 23 (lsI (i + 6)) [] σ') → P j 1511 (lsI i) [vr 80 0, vi (xs ((nI i + 1).toNatClampNeg)), vr 12 0] σ) :
    ∀ n i j σ, L < i + 6 * n + 6 → 6 * j ≤ i → i ≤ 3072 → IN σ → P j 23 (lsI i) [] σ := by
  intro n
  induction n with
  | zero => exact fun i j σ h1 h2 h3 hI => law_end (hp j (by omega)) hL (by omega) h3 (hq σ hI)
  | succ n ih =>
    intro i j σ h1 h2 h3 hI
    by_cases z : L < i + 6
    · exact law_end (hp j (by omega)) hL z h3 (hq σ hI)
    · have n1 : ∀ σ', IN σ' → P j 23 (lsI (i + 6)) [] σ' := fun σ' h => ih (i + 6) j σ' (by omega) (by omega) (by omega) h
      have n2 : ∀ σ', IN σ' → P (j + 1) 23 (lsI (i + 6)) [] σ' := fun σ' h => ih (i + 6) (j + 1) σ' (by omega) (by omega) (by omega) h
      exact law_step hd (hp j (by omega)) hL (by omega) hI (fun σ1 h => hl j i σ1 (by omega) (by omega) h n1 n2) n1
