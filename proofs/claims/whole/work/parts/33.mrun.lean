/-! RUNS in the model -/
def mX (σ : M2) (R : Nat → Int32) (C : Nat → Bool) : Prop := okR R ∧ (∀ k, σ.1 62 0 k = R k) ∧ ∀ s, s < 7 → (σ.1 64 0 (2 + 3 * s + 2) = 1 ↔ C s = true)
theorem mX.fr {A : Nat → Nat → Nat → Bool} (hA : ∀ k, A 62 0 k = false ∧ A 64 0 k = false) {σ σ' : M2} {R : Nat → Int32} {C : Nat → Bool} (h : mX σ R C) (hf : fr A σ σ') : mX σ' R C :=
  ⟨h.1, fun k => by rw [hf.1 _ _ _ (hA k).1, h.2.1], fun s hs => by rw [hf.1 _ _ _ (hA _).2]; exact h.2.2 s hs⟩
def vM (g : Nat → Nat → Nat → Int32) (p : Pl) : Prop := g 13 0 24 = nI p.1 ∧ ∀ i, i < p.1 → g 67 0 i = nI (p.2 i)
def gSt : Nat → Nat → Nat → Bool := fun t _ k => t == 67 || (t == 13 && k == 24)
def gLv : Nat → Nat → Nat → Bool := fun t _ k => t == 68 || (t == 13 && k == 25)
def gRn : Nat → Nat → Nat → Bool := fun t _ k => t == 67 || t == 68 || (t == 13 && (k == 24 || k == 25))
theorem gSt_Rn : ∀ t i k, gSt t i k = true → gRn t i k = true := by
  intro t i k h
  unfold gSt at h
  unfold gRn
  simp only [Bool.or_eq_true, Bool.and_eq_true, beq_iff_eq] at *
  omega
theorem gLv_Rn : ∀ t i k, gLv t i k = true → gRn t i k = true := by
  intro t i k h
  unfold gLv at h
  unfold gRn
  simp only [Bool.or_eq_true, Bool.and_eq_true, beq_iff_eq] at *
  omega
theorem vM_fr {A : Nat → Nat → Nat → Bool} {σ σ' : M2} {p : Pl} (hf : fr A σ σ') (hA : ∀ k, A 67 0 k = false ∧ A 13 0 24 = false) (hv : vM σ.1 p) : vM σ'.1 p :=
  ⟨by rw [hf.1 _ _ _ (hA 0).2]; exact hv.1, fun i hi => by rw [hf.1 _ _ _ (hA i).1]; exact hv.2 i hi⟩
section MRN
variable {L : Nat} {xs : Nat → Int32} {d : Nat} {Q : Option dm_V → M2 → Prop} {σ : M2} {R : Nat → Int32} {C : Nat → Bool}
theorem e124 (s w : Nat) : (124 + 4 * nI s) + nI w = nI (124 + 4 * s + w) := by rw [l124, l4, nI_mul, nI_add, nI_add]
theorem c196 (hd : 4 ≤ d) {s w : Nat} {x1 x2 : Int32} (h1 : x1 = nI s) (h2 : x2 = nI w) (hX : mX σ R C) (hs : s < 7) (hw : w < 4) (q : Q (some (vi (R (124 + 4 * s + w)))) σ) : CL L xs d 196 [vr 13 0, vi x1, vi x2] σ Q := by
  subst h1; subst h2
  refine cl_at p196 hd (w196_0 hC ?_)
  rw [e124, nI_clamp (by omega), hX.2.1]
  exact ix_k (by omega) (by omega) q
theorem c197 (hd : 4 ≤ d) {s : Nat} {x1 : Int32} (h1 : x1 = nI s) (hX : mX σ R C) (hs : s < 7) (q : Q (some (vi (bI (C s)))) σ) : CL L xs d 197 [vr 13 0, vi x1] σ Q := by
  subst h1
  refine cl_at p197 hd (w197_0 hC ?_)
  have e : (2 + 3 * nI s) + 2 = nI (2 + 3 * s + 2) := by rw [l2, l3, nI_mul, nI_add, nI_add]
  rw [e, nI_clamp (by omega)]
  refine ix_k (by omega) (by omega) (if_c (fun z => ?_) (fun z => ?_))
  · rw [(hX.2.2 s hs).mp z] at q; exact q
  · have : C s = false := by
      cases h : C s
      · rfl
      · exact absurd ((hX.2.2 s hs).mpr h) z
    rw [this] at q; exact q
theorem c198 (hd : 4 ≤ d) {p : Nat} {x1 : Int32} (h1 : x1 = nI p) (hX : mX σ R C) (hp : p < gN R 6) (q : Q (some (vi (nI (gN R (96 + 7 * p))))) σ) : CL L xs d 198 [vr 13 0, vi x1] σ Q := by
  subst h1
  have hP := hX.1.cP.1
  refine cl_at p198 hd (w198_0 hC ?_)
  have e : (96 + 7 * nI p) = nI (96 + 7 * p) := by rw [l96, l7, nI_mul, nI_add]
  rw [e, nI_clamp (by omega), hX.2.1, (gn_in (hX.1.2.2.2.2.2.1 p hp).1).2]
  exact ix_k (by omega) (by omega) q
theorem c202 (hd : 5 ≤ d) {p : Nat} {x1 : Int32} (h1 : x1 = nI p) (hX : mX σ R C) (hp : p < gN R 6) (q : ∀ σ', fr gSt σ σ' → vM σ'.1 (plR R p) → Q none σ') : CL L xs d 202 [vr 13 0, vi x1] σ Q := by
  refine cl_at p202 (by omega) (w202_0 hC ?_)
  refine c198 (by omega) h1 hX hp ⟨_, rfl, ?_⟩
  subst h1
  have hP := hX.1.cP.1
  have hpl := hX.1.2.2.2.2.2.1 p hp
  have hn := (gn_in hpl.1).1
  refine dm_for (n := gN R (96 + 7 * p)) (fun k σ => g202_11 L xs (CL L xs (d - 1)) Q (nI p) (nI k) σ) (fun k σ' => fr gSt σ σ' ∧ σ'.1 13 0 24 = nI (gN R (96 + 7 * p)) ∧ ∀ i, i < k → σ'.1 67 0 i = nI (2 * gN R (96 + 7 * p + 1 + i))) ?_ ?_ 0 _ (Nat.zero_le _) ⟨fr.id.w rfl, wI_same, fun i h => absurd h (Nat.not_lt_zero i)⟩
  · rintro k σ' hk ⟨hf, h0, hi⟩ ih
    have hX' := hX.fr (fun _ => ⟨rfl, rfl⟩) hf
    refine w202_11 hC ?_
    have e : (96 + 7 * nI p) + 1 + nI k = nI (96 + 7 * p + 1 + k) := by rw [l96, l7, nI_mul, nI_add, nI_1, nI_add]
    rw [e, h0, nI_clamp (n := k) (by omega), nI_clamp (n := 96 + 7 * p + 1 + k) (by omega), hX'.2.1, (gn_in (hpl.2 k hk)).2, l2, nI_mul, nI_1]
    refine if_lt hk (by omega) (ix_k (by omega) (by omega) (ix_k (by omega) (by omega) ?_))
    refine ih _ ⟨hf.w rfl, by rw [wI_t (by decide)]; exact h0, fun i hik => ?_⟩
    by_cases h : i = k
    · subst h; rw [wI_same]
    · rw [wI_k h]; exact hi i (by omega)
  · rintro σ' ⟨hf, h0, hi⟩
    refine w202_11 hC ?_
    rw [h0]
    exact if_nlt (Nat.le_refl _) (by omega) (q σ' hf ⟨h0, hi⟩)
theorem c203 (hd : 5 ≤ d) {s : Nat} {p : Pl} {x : Int32} (hx : x = nI s) (hX : mX σ R C) (hv : vM σ.1 p) (hp : okP R 12 p) (hs : s < gN R 7) (q : Q (some (vi (oI (stp R C p s) (-1)))) σ) : CL L xs d 203 [vr 13 0, vi x] σ Q := by
  have hS := hX.1.cS.1
  have hD := hX.1.cD.1
  refine cl_at p203 (by omega) (w203_0 hC ?_)
  refine if_n (by rw [hx]; exact nI_neg2 (by omega)) ?_
  refine c197 (by omega) hx hX (by omega) ⟨_, rfl, ?_⟩
  obtain ⟨hde, ede⟩ := hX.1.de hs
  refine if_b (fun hc => ?_) (fun hc => ?_)
  · have loop : ∀ k0, k0 ≤ p.1 → Q (some (vi (oI (fi (fun i => p.2 i / 2 == gN R (124 + 4 * s + 1)) (p.1 - k0) k0) (-1)))) σ → g203_32 L xs (CL L xs (d - 1)) Q x (nI k0) σ := by
      have key : ∀ m k0, k0 + m = p.1 → Q (some (vi (oI (fi (fun i => p.2 i / 2 == gN R (124 + 4 * s + 1)) m k0) (-1)))) σ → g203_32 L xs (CL L xs (d - 1)) Q x (nI k0) σ := by
        intro m
        induction m with
        | zero =>
          intro k0 hk q
          have := hp.1
          refine w203_32 hC ?_
          rw [hv.1]
          exact if_nlt (by omega) (by omega) q
        | succ m ih =>
          intro k0 hk q
          have h12 := hp.1
          have h16 := okP_16 hX.1 hp (i := k0) (by omega)
          refine w203_32 hC ?_
          rw [hv.1, nI_clamp (n := k0) (by omega), hv.2 k0 (by omega), nI_div2 (by omega), nI_1]
          refine if_lt (by omega) (by omega) (ix_k (by omega) (by omega) ?_)
          refine c196 (w := 1) (by omega) hx rfl hX (by omega) (by omega) ⟨_, rfl, ?_⟩
          rw [ede]
          unfold fi at q
          refine if_c (fun z => ?_) (fun z => ?_)
          · have z := (nI_eq (by omega) (by omega)).mp z
            rw [if_pos (by simp [z])] at q
            exact q
          · rw [if_neg (by simp; exact fun z' => z (by rw [z']))] at q
            exact ih (k0 + 1) (by omega) q
      exact fun k0 hk q => key (p.1 - k0) k0 (by omega) q
    unfold stp at q
    rw [hc, if_neg (by decide)] at q
    refine c196 (w := 0) (by omega) hx rfl hX (by omega) (by omega) ⟨_, rfl, ?_⟩
    unfold st0 at q
    refine if_c (fun z => ?_) (fun z => ?_)
    · have z : R (124 + 4 * s) = 3 := z
      rw [if_pos z] at q
      by_cases h1 : 1 ≤ p.1
      · exact loop 1 h1 q
      · have h0 : p.1 = 0 := by omega
        rw [h0] at q
        refine w203_32 hC ?_
        rw [hv.1, h0]
        exact if_n (by decide) q
    · have z : ¬ R (124 + 4 * s) = 3 := z
      rw [if_neg z] at q
      exact loop 0 (by omega) q
  · unfold stp at q
    rw [if_pos hc] at q
    exact q
theorem c204 (hd : 4 ≤ d) {k c : Nat} {p : Pl} {x1 x2 : Int32} (hx1 : x1 = nI k) (hx2 : x2 = nI c) (hv : vM σ.1 p) (hp : p.1 < 12) (hk : k ≤ p.1) (q : ∀ σ', fr gSt σ σ' → vM σ'.1 (pIns p k c) → Q none σ') : CL L xs d 204 [vr 13 0, vi x1, vi x2] σ Q := by
  subst hx1; subst hx2
  refine cl_at p204 hd (w204_0 hC ?_)
  rw [hv.1]
  refine dm_dwn (a := k) (fun j σ => g204_5 L xs (CL L xs (d - 1)) Q (nI k) (nI c) (nI j) σ) (fun j σ' => j ≤ p.1 ∧ fr gSt σ σ' ∧ σ'.1 13 0 24 = nI p.1 ∧ (∀ i, i < j → σ'.1 67 0 i = nI (p.2 i)) ∧ ∀ i, j < i → i ≤ p.1 → σ'.1 67 0 i = nI (p.2 (i - 1))) ?_ ?_ p.1 _ hk ?_
  · rintro j σ' hj ⟨hjn, hf, h0, h1, h2⟩ ih
    refine w204_5 hC ?_
    rw [nI_s1 (a := j) (by omega), nI_clamp (n := j) (by omega), nI_clamp (n := j - 1) (by omega), nI_dec (by omega)]
    refine if_lt hj (by omega) (ix_k (by omega) (by omega) (ix_k (by omega) (by omega) ?_))
    refine ih _ ⟨by omega, hf.w rfl, by rw [wI_t (by decide)]; exact h0, fun i hi => ?_, fun i hi hin => ?_⟩
    · rw [wI_k (by omega)]; exact h1 i (by omega)
    · by_cases hij : i = j
      · subst hij; rw [wI_same]; exact h1 (i - 1) (by omega)
      · rw [wI_k hij]; exact h2 i (by omega) hin
  · rintro σ' ⟨hjn, hf, h0, h1, h2⟩
    refine w204_5 hC ?_
    rw [nI_clamp (n := k) (by omega)]
    refine if_nlt (Nat.le_refl _) (by omega) (ix_k (by omega) (by omega) ?_)
    refine q _ ((hf.w rfl).w rfl) ⟨?_, fun i hi => ?_⟩
    · rw [wI_same, wI_t (by decide), h0, nI_1]; rfl
    · have hi : i < p.1 + 1 := hi
      rw [wI_t (by decide)]
      show _ = nI (if i < k then p.2 i else if i = k then c else p.2 (i - 1))
      by_cases a : i < k
      · rw [if_pos a, wI_k (by omega)]; exact h1 i a
      · rw [if_neg a]
        by_cases b : i = k
        · rw [if_pos b, b, wI_same]
        · rw [if_neg b, wI_k b]; exact h2 i (by omega) (by omega)
  · exact ⟨Nat.le_refl _, fr.id, hv.1, hv.2, fun i h1 h2 => by omega⟩
theorem xor1 : ∀ c, c < 16 → nI c ^^^ 1 = nI (flp c) := by decide
theorem vM_set {σ : M2} {k c : Nat} {p : Pl} {z : Int32} (hv : vM σ.1 p) (hz : z = nI c) : vM (m2_wI σ 67 0 k z).1 (pSet p k c) := by
  refine ⟨by rw [wI_t (by decide), hv.1]; rfl, fun i hi => ?_⟩
  show _ = nI (if i = k then c else p.2 i)
  by_cases h : i = k
  · rw [if_pos h, h, wI_same, hz]
  · rw [if_neg h, wI_k h]; exact hv.2 i hi
theorem c205 (hd : 6 ≤ d) {p : Pl} {x : Int32} (hx : isC R x) (hX : mX σ R C) (hv : vM σ.1 p) (hp : okP R 11 p) (q : ∀ σ', fr gSt σ σ' → vM σ'.1 (mkc R C p x) → Q none σ') : CL L xs d 205 [vr 13 0, vi x] σ Q := by
  refine cl_at p205 (by omega) (w205_0 hC ?_)
  rcases hx with hx | ⟨s, hs, hx⟩
  · refine cl_at p203 (by omega) (w203_0 hC ?_)
    refine if_y hx ⟨_, rfl, ?_⟩
    refine if_y (by decide) (q σ fr.id ?_)
    have : mkc R C p x = p := if_pos hx
    rw [this]; exact hv
  have hS := hX.1.cS.1
  have e : mkc R C p x = mkk R C p s := by
    rw [hx]
    show (if nI s = -2 then _ else _) = _
    rw [if_neg (nI_neg2 (by omega)), nI_clamp (by omega)]
  rw [e] at q
  refine c203 (by omega) hx hX hv (hp.up (by omega)) hs ⟨_, rfl, ?_⟩
  have hn := hp.1
  unfold mkk at q
  cases h : stp R C p s with
  | none => rw [h] at q; exact if_y (by decide) (q σ fr.id hv)
  | some k =>
    rw [h] at q
    obtain ⟨hk, hk0⟩ := stp_some h
    have hkk : (nI k).toNatClampNeg = k := nI_clamp (by omega)
    have hvk := hv.2 k hk
    have h16 := okP_16 hX.1 hp hk
    have q : ∀ σ', fr gSt σ σ' → vM σ'.1 (mkA R p s k) → Q none σ' := q
    unfold mkA at q
    rw [show oI (some k) (-1) = nI k from rfl]
    refine if_n (nI_pos (by omega)) (ix_k (by omega) (by omega) ?_)
    refine c196 (w := 0) (by omega) hx rfl hX (by omega) (by omega) ⟨_, rfl, ?_⟩
    rw [hkk, hvk]
    refine if_c (fun z => ?_) (fun z => ?_)
    · have z : R (124 + 4 * s) = 0 := z
      simp only [if_pos z] at q
      rw [nI_1]
      refine dm_for (n := p.1) (fun j σ => g205_61 L xs (CL L xs (d - 1)) Q (nI j) σ) (fun j σ' => k + 1 ≤ j ∧ fr gSt σ σ' ∧ σ'.1 13 0 24 = nI p.1 ∧ (∀ i, i + 1 < j → σ'.1 67 0 i = nI (if i < k then p.2 i else p.2 (i + 1))) ∧ ∀ i, j ≤ i → i < p.1 → σ'.1 67 0 i = nI (p.2 i)) ?_ ?_ (k + 1) _ (by omega) ?_
      · rintro j σ' hj ⟨hkj, hf, h0, h1, h2⟩ ih
        refine w205_61 hC ?_
        rw [h0, nI_s1 (a := j) (by omega), nI_1, nI_clamp (n := j) (by omega), nI_clamp (n := j - 1) (by omega)]
        refine if_lt hj (by omega) (ix_k (by omega) (by omega) (ix_k (by omega) (by omega) ?_))
        refine ih _ ⟨by omega, hf.w rfl, by rw [wI_t (by decide)]; exact h0, fun i hi => ?_, fun i hi hin => ?_⟩
        · by_cases hij : i = j - 1
          · subst hij
            rw [wI_same, if_neg (by omega), show j - 1 + 1 = j by omega]
            exact h2 j (Nat.le_refl _) hj
          · rw [wI_k hij]; exact h1 i (by omega)
        · rw [wI_k (by omega)]; exact h2 i (by omega) hin
      · rintro σ' ⟨hkj, hf, h0, h1, h2⟩
        refine w205_61 hC ?_
        rw [h0, nI_s1 (a := p.1) (by omega)]
        refine if_nlt (Nat.le_refl _) (by omega) (q _ (hf.w rfl) ⟨wI_same, fun i hi => ?_⟩)
        have hi : i < p.1 - 1 := hi
        rw [wI_t (by decide)]
        exact h1 i (by omega)
      · refine ⟨Nat.le_refl _, fr.id, hv.1, fun i hi => ?_, fun i _ hi => hv.2 i hi⟩
        rw [if_pos (by omega)]; exact hv.2 i (by omega)
    have z : ¬ R (124 + 4 * s) = 0 := z
    simp only [if_neg z] at q
    refine if_c (fun z => ?_) (fun z => ?_)
    · have z : R (124 + 4 * s) = 1 := z
      simp only [if_pos z] at q
      exact c204 (by omega) (nI_1 k) rfl hv (by omega) (by omega) (fun σ' h1 h2 => ⟨rfl, q σ' h1 h2⟩)
    have z : ¬ R (124 + 4 * s) = 1 := z
    simp only [if_neg z] at q
    refine if_c (fun z => ?_) (fun z => ?_)
    · have z : R (124 + 4 * s) = 2 := z
      simp only [if_pos z] at q
      exact ix_k (by omega) (by omega) (q _ (fr.id.w rfl) (vM_set hv (xor1 _ h16)))
    have z : ¬ R (124 + 4 * s) = 2 := z
    simp only [if_neg z] at q
    refine if_c (fun z => ?_) (fun z => ?_)
    · have z : R (124 + 4 * s) = 3 := z
      simp only [if_pos z] at q
      have h1 : 1 ≤ k := by unfold st0 at hk0; rw [if_pos z] at hk0; exact hk0
      rw [nI_s1 h1, nI_clamp (n := k - 1) (by omega)]
      refine ix_k (by omega) (by omega) (ix_k (by omega) (by omega) (ix_k (by omega) (by omega) ?_))
      refine q _ ((fr.id.w rfl).w rfl) ⟨?_, fun i hi => ?_⟩
      · rw [wI_t (by decide), wI_t (by decide), hv.1]; rfl
      · have hi : i < p.1 := hi
        show _ = nI (if i = k then p.2 (k - 1) else if i = k - 1 then p.2 k else p.2 i)
        by_cases a : i = k
        · rw [if_pos a, wI_k (by omega), a, wI_same]; exact hv.2 (k - 1) (by omega)
        · rw [if_neg a]
          by_cases b : i = k - 1
          · rw [if_pos b, b, wI_same]
          · rw [if_neg b, wI_k b, wI_k a]; exact hv.2 i hi
    · have z : ¬ R (124 + 4 * s) = 3 := z
      simp only [if_neg z] at q
      refine c196 (w := 2) (by omega) hx rfl hX (by omega) (by omega) ⟨_, rfl, ?_⟩
      refine ix_k (by omega) (by omega) (q _ (fr.id.w rfl) (vM_set hv ?_))
      have hh := hX.1.2.2.2.2.2.2.1 s hs
      have h4 : R (124 + 4 * s) = 4 := by
        obtain ⟨j, hj, e⟩ := vp_in_of hh.1 (by omega)
        match j, hj, e with
        | 0, _, e => exact absurd e ‹¬ R (124 + 4 * s) = 0›
        | 1, _, e => exact absurd e ‹¬ R (124 + 4 * s) = 1›
        | 2, _, e => exact absurd e ‹¬ R (124 + 4 * s) = 2›
        | 3, _, e => exact absurd e ‹¬ R (124 + 4 * s) = 3›
        | 4, _, e => exact e
      rw [(gn_in (hh.2.2.1 h4)).2, l2, nI_mul]
end MRN
