/-! STEPS in the class's memory -/
def vC (g : Nat → Nat → Nat → Int32) (o i c : Nat) : Prop := g 52 o i = nI (c / 2) ∧ g 53 o i = nI (c % 2)
def vS (g : Nat → Nat → Nat → Int32) (o : Nat) (p : Pl) : Prop := g 10 o 0 = nI p.1 ∧ ∀ i, i < p.1 → vC g o i (p.2 i)
def fS (o : Nat) : Nat → Nat → Nat → Bool := fun t i _ => (t == 10 || t == 52 || t == 53) && i == o
theorem nI_s1 {a : Nat} (h : 1 ≤ a) : nI a - 1 = nI (a - 1) := nI_sub (b := 1) h
theorem and1 (c : Nat) : nI (c % 2) &&& 1 = nI (c % 2) := by
  rcases Nat.mod_two_eq_zero_or_one c with h | h <;> rw [h] <;> decide
theorem vC_set {σ : M2} {o k c : Nat} {a b : Int32} (ha : a = nI (c / 2)) (hb : b = nI (c % 2)) : vC (m2_wI (m2_wI σ 52 o k a) 53 o k b).1 o k c := by
  refine ⟨?_, ?_⟩
  · rw [wI_t (by decide), wI_same, ha]
  · rw [wI_same, hb]
theorem vC_oth {σ : M2} {o k i c : Nat} {a b : Int32} (hi : i ≠ k) (h : vC σ.1 o i c) : vC (m2_wI (m2_wI σ 52 o k a) 53 o k b).1 o i c := by
  refine ⟨?_, ?_⟩
  · rw [wI_t (by decide), wI_k hi, h.1]
  · rw [wI_k hi, wI_t (by decide), h.2]
theorem fr_C {σ σ1 : M2} {o k : Nat} {a b : Int32} (h : fr (fS o) σ σ1) : fr (fS o) σ (m2_wI (m2_wI σ1 52 o k a) 53 o k b) := (h.w (by simp [fS])).w (by simp [fS])
theorem fS_ne {o o' t k : Nat} (h : o' ≠ o) : fS o t o' k = false := by unfold fS; simp [h]
section CST
variable {L : Nat} {xs : Nat → Int32} {d : Nat} {Q : Option dm_V → M2 → Prop} {σ : M2}
theorem c65 (hd : 4 ≤ d) {o0 o1 : Nat} {p : Pl} (ho : o1 ≠ o0) (hv : vS σ.1 o1 p) (hp : p.1 ≤ 12) (q : ∀ σ', fr (fS o0) σ σ' → vS σ'.1 o0 p → Q none σ') : CL L xs d 65 [vr 10 o0, vr 10 o1] σ Q := by
  refine cl_at p65 hd (w65_0 hC ?_)
  refine dm_for (n := p.1) (fun k σ => g65_10 L xs (CL L xs (d - 1)) Q o0 o1 (nI k) σ) (fun k σ' => fr (fS o0) σ σ' ∧ σ'.1 10 o0 0 = nI p.1 ∧ ∀ i, i < k → vC σ'.1 o0 i (p.2 i)) ?_ ?_ 0 _ (Nat.zero_le _) ?_
  · rintro k σ' hk ⟨hf, h0, hi⟩ ih
    refine w65_10 hC ?_
    rw [h0]
    have hc := nI_clamp (n := k) (by omega)
    have e := hv.2 k hk
    refine if_lt hk (by omega) (ix_k (by omega) (by omega) (ix_k (by omega) (by omega) (ix_k (by omega) (by omega) (ix_k (by omega) (by omega) ?_))))
    rw [hc, nI_1]
    refine ih _ ⟨fr_C hf, ?_, ?_⟩
    · rw [wI_t (by decide), wI_t (by decide), h0]
    · intro i hik
      by_cases hkk : i = k
      · subst hkk
        refine vC_set ?_ ?_
        · rw [hf.1 _ _ _ (fS_ne ho), e.1]
        · rw [wI_t (by decide), hf.1 _ _ _ (fS_ne ho), e.2, and1]
      · exact vC_oth hkk (hi i (by omega))
  · rintro σ' ⟨hf, h0, hi⟩
    refine w65_10 hC ?_
    rw [h0]
    exact if_nlt (Nat.le_refl _) (by omega) (q σ' hf ⟨h0, hi⟩)
  · refine ⟨fr.id.w (by simp [fS]), ?_, fun i h => absurd h (Nat.not_lt_zero i)⟩
    rw [wI_same, hv.1]
theorem c66 (hd : 4 ≤ d) {o0 k c : Nat} {p : Pl} {x1 x2 x3 : Int32} (hx1 : x1 = nI k) (hx2 : x2 = nI (c / 2)) (hx3 : x3 = nI (c % 2)) (hv : vS σ.1 o0 p) (hp : p.1 < 12) (hk : k ≤ p.1) (q : ∀ σ', fr (fS o0) σ σ' → vS σ'.1 o0 (pIns p k c) → Q none σ') : CL L xs d 66 [vr 10 o0, vi x1, vi x2, vi x3] σ Q := by
  subst hx1; subst hx2; subst hx3
  refine cl_at p66 hd (w66_0 hC ?_)
  rw [hv.1]
  refine if_n (nI_pos (by omega)) (if_nlt hk (by omega) (if_y (nI_lt (b := 12) (by omega) (by omega)) ?_))
  refine dm_dwn (a := k) (fun j σ => g66_28 L xs (CL L xs (d - 1)) Q o0 (nI k) (nI (c / 2)) (nI (c % 2)) (nI j) σ) (fun j σ' => j ≤ p.1 ∧ fr (fS o0) σ σ' ∧ σ'.1 10 o0 0 = nI p.1 ∧ (∀ i, i < j → vC σ'.1 o0 i (p.2 i)) ∧ ∀ i, j < i → i ≤ p.1 → vC σ'.1 o0 i (p.2 (i - 1))) ?_ ?_ p.1 _ hk ?_
  · rintro j σ' hj ⟨hjn, hf, h0, h1, h2⟩ ih
    refine w66_28 hC ?_
    have e1 : nI j - 1 = nI (j - 1) := nI_s1 (by omega)
    rw [e1, nI_clamp (n := j) (by omega), nI_clamp (n := j - 1) (by omega), nI_dec (by omega)]
    refine if_lt hj (by omega) (ix_k (by omega) (by omega) (ix_k (by omega) (by omega) (ix_k (by omega) (by omega) (ix_k (by omega) (by omega) ?_))))
    have e := h1 (j - 1) (by omega)
    refine ih _ ⟨by omega, fr_C hf, ?_, ?_, ?_⟩
    · rw [wI_t (by decide), wI_t (by decide), h0]
    · exact fun i hi => vC_oth (by omega) (h1 i (by omega))
    · intro i hi hin
      by_cases hij : i = j
      · subst hij
        refine vC_set e.1 ?_
        rw [wI_t (by decide), e.2, and1]
      · exact vC_oth hij (h2 i (by omega) hin)
  · rintro σ' ⟨hjn, hf, h0, h1, h2⟩
    refine w66_28 hC ?_
    rw [nI_clamp (n := k) (by omega)]
    refine if_nlt (Nat.le_refl _) (by omega) (ix_k (by omega) (by omega) (ix_k (by omega) (by omega) ?_))
    refine q _ ((fr_C hf).w (by simp [fS])) ⟨?_, ?_⟩
    · rw [wI_same, wI_t (by decide), wI_t (by decide), h0, nI_1]; rfl
    · intro i hi
      have hi : i < p.1 + 1 := hi
      have tr : ∀ {c'}, vC (m2_wI (m2_wI σ' 52 o0 k (nI (c / 2))) 53 o0 k (nI (c % 2) &&& 1)).1 o0 i c' → vC (m2_wI (m2_wI (m2_wI σ' 52 o0 k (nI (c / 2))) 53 o0 k (nI (c % 2) &&& 1)) 10 o0 0 ((m2_wI (m2_wI σ' 52 o0 k (nI (c / 2))) 53 o0 k (nI (c % 2) &&& 1)).1 10 o0 0 + 1)).1 o0 i c' := fun z => ⟨by rw [wI_t (by decide)]; exact z.1, by rw [wI_t (by decide)]; exact z.2⟩
      refine tr ?_
      show vC _ _ _ (if i < k then p.2 i else if i = k then c else p.2 (i - 1))
      by_cases a : i < k
      · rw [if_pos a]; exact vC_oth (by omega) (h1 i a)
      · rw [if_neg a]
        by_cases b : i = k
        · rw [if_pos b]; subst b; exact vC_set rfl (and1 c)
        · rw [if_neg b]; exact vC_oth b (h2 i (by omega) (by omega))
  · exact ⟨Nat.le_refl _, fr.id, hv.1, hv.2, fun i h1 h2 => by omega⟩
theorem c67 (hd : 4 ≤ d) {o0 k : Nat} {p : Pl} (hv : vS σ.1 o0 p) (hp : p.1 ≤ 12) (hk : k < p.1) (q : ∀ σ', fr (fS o0) σ σ' → vS σ'.1 o0 (pRem p k) → Q none σ') : CL L xs d 67 [vr 10 o0, vi (nI k)] σ Q := by
  refine cl_at p67 hd (w67_0 hC ?_)
  rw [hv.1]
  refine if_n (nI_pos (by omega)) (if_lt hk (by omega) ?_)
  have e1 : nI p.1 - 1 = nI (p.1 - 1) := nI_s1 (by omega)
  rw [e1]
  refine dm_for (n := p.1 - 1) (fun j σ => g67_25 L xs (CL L xs (d - 1)) Q o0 (nI j) σ) (fun j σ' => k ≤ j ∧ fr (fS o0) σ σ' ∧ σ'.1 10 o0 0 = nI (p.1 - 1) ∧ (∀ i, i < j → vC σ'.1 o0 i (if i < k then p.2 i else p.2 (i + 1))) ∧ ∀ i, j ≤ i → i < p.1 → vC σ'.1 o0 i (p.2 i)) ?_ ?_ k _ (by omega) ?_
  · rintro j σ' hj ⟨hkj, hf, h0, h1, h2⟩ ih
    refine w67_25 hC ?_
    rw [h0, nI_1, nI_clamp (n := j) (by omega), nI_clamp (n := j + 1) (by omega)]
    refine if_lt hj (by omega) (ix_k (by omega) (by omega) (ix_k (by omega) (by omega) (ix_k (by omega) (by omega) (ix_k (by omega) (by omega) ?_))))
    have e := h2 (j + 1) (by omega) (by omega)
    refine ih _ ⟨by omega, fr_C hf, ?_, ?_, ?_⟩
    · rw [wI_t (by decide), wI_t (by decide), h0]
    · intro i hi
      by_cases hij : i = j
      · subst hij
        rw [if_neg (by omega)]
        refine vC_set e.1 ?_
        rw [wI_t (by decide), e.2, and1]
      · exact vC_oth hij (h1 i (by omega))
    · exact fun i hi hin => vC_oth (by omega) (h2 i (by omega) hin)
  · rintro σ' ⟨hkj, hf, h0, h1, h2⟩
    refine w67_25 hC ?_
    rw [h0]
    exact if_nlt (Nat.le_refl _) (by omega) (q σ' hf ⟨h0, h1⟩)
  · have tr : ∀ {i c'}, vC σ.1 o0 i c' → vC (m2_wI σ 10 o0 0 (nI (p.1 - 1))).1 o0 i c' := fun z => ⟨by rw [wI_t (by decide)]; exact z.1, by rw [wI_t (by decide)]; exact z.2⟩
    refine ⟨Nat.le_refl _, fr.id.w (by simp [fS]), wI_same, fun i hi => ?_, fun i _ hi => tr (hv.2 i hi)⟩
    rw [if_pos hi]; exact tr (hv.2 i (by omega))
theorem c68 (hd : 4 ≤ d) {o0 k : Nat} {p : Pl} (hv : vS σ.1 o0 p) (hp : p.1 ≤ 12) (h1 : 1 ≤ k) (hk : k < p.1) (q : ∀ σ', fr (fS o0) σ σ' → vS σ'.1 o0 (pSwp p k) → Q none σ') : CL L xs d 68 [vr 10 o0, vi (nI k)] σ Q := by
  refine cl_at p68 hd (w68_0 hC ?_)
  have e1 : nI k - 1 = nI (k - 1) := nI_s1 (by omega)
  rw [hv.1, e1, nI_clamp (n := k) (by omega), nI_clamp (n := k - 1) (by omega)]
  refine if_n (nI_nlt (b := 1) h1 (by omega)) (if_lt hk (by omega) ?_)
  refine ix_k (by omega) (by omega) (ix_k (by omega) (by omega) (ix_k (by omega) (by omega) (ix_k (by omega) (by omega) (ix_k (by omega) (by omega) (ix_k (by omega) (by omega) (ix_k (by omega) (by omega) (ix_k (by omega) (by omega) ?_)))))))
  have ea := hv.2 k hk
  have eb := hv.2 (k - 1) (by omega)
  refine q _ (fr_C (fr_C fr.id)) ⟨?_, ?_⟩
  · rw [wI_t (by decide), wI_t (by decide), wI_t (by decide), wI_t (by decide), hv.1]; rfl
  · intro i hi
    have hi : i < p.1 := hi
    show vC _ _ _ (if i = k then p.2 (k - 1) else if i = k - 1 then p.2 k else p.2 i)
    by_cases a : i = k
    · rw [if_pos a]; subst a
      refine vC_oth (by omega) (vC_set eb.1 ?_)
      rw [wI_t (by decide), eb.2, and1]
    · rw [if_neg a]
      by_cases b : i = k - 1
      · rw [if_pos b]; subst b
        refine vC_set ea.1 ?_
        rw [ea.2, and1]
      · rw [if_neg b]; exact vC_oth b (vC_oth a (hv.2 i hi))
end CST
