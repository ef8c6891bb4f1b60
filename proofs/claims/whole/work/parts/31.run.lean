/-! RUNS in the class -/
def fLv : Nat → Nat → Nat → Bool := fun t _ _ => t == 51
def fRn : Nat → Nat → Nat → Bool := fun t i _ => t == 51 || t == 8 || ((t == 10 || t == 52 || t == 53) && i == 8)
theorem fRn_k : ∀ t i k, kpX t i = true → fRn t i k = false := by
  intro t i k h
  unfold kpX at h
  unfold fRn
  simp only [Bool.or_eq_true, Bool.and_eq_true, beq_iff_eq, decide_eq_true_eq] at h
  simp only [Bool.or_eq_false_iff, Bool.and_eq_false_iff, beq_eq_false_iff_ne, ne_eq]
  omega
theorem fS_k {o : Nat} (ho : 8 ≤ o) : ∀ t i k, kpX t i = true → fS o t i k = false := by
  intro t i k h
  unfold kpX at h
  unfold fS
  simp only [Bool.or_eq_true, Bool.and_eq_true, beq_iff_eq, decide_eq_true_eq] at h
  simp only [Bool.or_eq_false_iff, Bool.and_eq_false_iff, beq_eq_false_iff_ne, ne_eq]
  omega
theorem fLv_k : ∀ t i k, kpX t i = true → fLv t i k = false := by
  intro t i k h
  unfold kpX at h
  unfold fLv
  simp only [Bool.or_eq_true, Bool.and_eq_true, beq_iff_eq, decide_eq_true_eq] at h
  simp only [beq_eq_false_iff_ne, ne_eq]
  omega
theorem fS_Rn : ∀ t i k, fS 8 t i k = true → fRn t i k = true := by
  intro t i k h
  unfold fS at h
  unfold fRn
  rw [h, Bool.or_true]
theorem fLv_Rn : ∀ t i k, fLv t i k = true → fRn t i k = true := by
  intro t i k h
  unfold fLv at h
  unfold fRn
  rw [h]; rfl
section CRN
variable {L : Nat} {xs : Nat → Int32} {d : Nat} {Q : Option dm_V → M2 → Prop} {σ : M2} {μ : Nat} {R : Nat → Int32} {C : Nat → Bool}
theorem c26 (hd : 4 ≤ d) {o t : Nat} {u b : Int32} {lv : Nat → Int32} (ht : t < 5) (h0 : σ.1 6 o 0 = nI t) (h1 : σ.1 6 o 1 = 0 ↔ u = 1) (h2 : σ.1 6 o 2 = b) (hl : σ.1 51 0 t = lv t) (q : Q (some (vi (bI (soo lv t u b)))) σ) : CL L xs d 26 [vr 6 o, vr 51 0] σ Q := by
  refine cl_at p26 hd (w26_0 hC ?_)
  rw [h0, nI_clamp (by omega), h2, hl]
  unfold soo at q
  refine if_c (fun h => ix_k ht (by omega) ?_) (fun h => ix_k ht (by omega) ?_)
  · rw [if_pos (h1.mp h)] at q
    refine if_c (fun z => ?_) (fun z => ?_)
    · rw [decide_eq_true z] at q; exact q
    · rw [decide_eq_false z] at q; exact q
  · rw [if_neg (fun e => h (h1.mpr e))] at q
    refine if_c (fun z => ?_) (fun z => ?_)
    · rw [decide_eq_true z] at q; exact q
    · rw [decide_eq_false z] at q; exact q
theorem c1 (hd : 4 ≤ d) {o e b : Nat} {lv : Nat → Int32} (hR : okR R) (he : e < gN R 5) (hc : cDe σ.1 R o e) (hb : b < 2) (hl : ∀ t, t < gN R 4 → σ.1 51 0 t = lv t) (q : ∀ σ', fr fLv σ σ' → (∀ t, t < gN R 4 → σ'.1 51 0 t = efK R e b lv 2 t) → Q none σ') : CL L xs d 1 [vr 0 o, vr 51 0, vi (nI b)] σ Q := by
  refine cl_at p1 hd (w1_0 hC ?_)
  have hT := hR.cT.1
  obtain ⟨n, hn, hn0, hne⟩ := hc.1
  refine dm_for (n := n) (fun k σ => g1_2 L xs (CL L xs (d - 1)) Q o (nI b) (nI k) σ) (fun k σ' => fr fLv σ σ' ∧ ∀ t, t < gN R 4 → σ'.1 51 0 t = efK R e b lv k t) ?_ ?_ 0 _ (Nat.zero_le _) ⟨fr.id, hl⟩
  · rintro k σ' hk ⟨hf, hi⟩ ih
    refine w1_2 hC ?_
    obtain ⟨hz, h20, h21⟩ := (hne k (by omega)).1 hk
    obtain ⟨hj, ej⟩ := gn_in ((hR.2.2.2.2.1 e he).1 k (by omega))
    have hj1 : 1 ≤ gN R (40 + 7 * e + 2 * k) := by
      rcases Nat.eq_zero_or_pos (gN R (40 + 7 * e + 2 * k)) with z | z
      · rw [z] at ej; exact absurd ej hz
      · exact z
    have ea : σ'.1 20 o k = nI (gN R (40 + 7 * e + 2 * k) - 1) := by rw [hf.1 _ _ _ rfl, h20, ej, nI_s1 hj1]
    have eb : σ'.1 21 o k = R (40 + 7 * e + 2 * k + 1) := by rw [hf.1 _ _ _ rfl, h21]
    have hck : (nI k).toNatClampNeg = k := nI_clamp (by omega)
    have e0 : σ'.1 0 o 0 = nI n := by rw [hf.1 _ _ _ rfl, hn0]
    have fin : ∀ v, v = (if b = 0 then R (40 + 7 * e + 2 * k + 1) else -(R (40 + 7 * e + 2 * k + 1))) → g1_38 L xs (CL L xs (d - 1)) Q o (nI b) (nI k) v (σ'.1 51 0 (gN R (40 + 7 * e + 2 * k) - 1)) σ' := by
      intro v hv
      refine w1_38 hC ?_
      rw [hck, ea, nI_clamp (by omega), nI_1, cl9_eq]
      refine ix_k (by omega) (by omega) (ix_k (by omega) (by omega) ?_)
      refine ih _ ⟨hf.w rfl, fun t ht => ?_⟩
      show _ = efE R e b k (efK R e b lv k) t
      unfold efE
      rw [if_neg hz]
      show _ = if t = gN R (40 + 7 * e + 2 * k) - 1 then cl9 _ else _
      by_cases a : t = gN R (40 + 7 * e + 2 * k) - 1
      · rw [if_pos a, a, wI_same, hi _ (by omega), hv]
      · rw [if_neg a, wI_k a, hi t ht]
    rw [e0, hck, ea, eb, nI_clamp (n := gN R (40 + 7 * e + 2 * k) - 1) (by omega)]
    refine if_lt hk (by omega) (ix_k (by omega) (by omega) (ix_k (by omega) (by omega) ?_))
    refine if_c (fun z => ix_k (by omega) (by omega) (fin _ ?_)) (fun z => ix_k (by omega) (by omega) (fin _ ?_))
    · rw [if_pos ((nI_eq (b := 0) (by omega) (by omega)).mp z)]
    · rw [if_neg (fun z' => z (by rw [z']; rfl))]
  · rintro σ' ⟨hf, hi⟩
    refine w1_2 hC ?_
    rw [hf.1 _ _ _ (show fLv 0 o 0 = false from rfl), hn0]
    refine if_nlt (Nat.le_refl _) (by omega) (q σ' hf fun t ht => ?_)
    rw [hi t ht]
    have step : ∀ k, n ≤ k → k < 2 → efK R e b lv (k + 1) = efK R e b lv k := fun k h1 h2 => by
      show efE R e b k _ = _
      unfold efE
      rw [if_pos ((hne k h2).2 h1)]
    match n, hn, step with
    | 2, _, _ => rfl
    | 1, _, s => rw [s 1 (by omega) (by omega)]
    | 0, _, s => rw [s 1 (by omega) (by omega), s 0 (by omega) (by omega)]
theorem c54 (hd : 4 ≤ d) {o s : Nat} {p : Pl} {x : Int32} (hx : x = nI s) (hX : cX σ μ R C) (hv : vS σ.1 o p) (hp : okP R 12 p) (hs : s < gN R 7) (q : Q (some (vi (oI (stp R C p s) (-1)))) σ) : CL L xs d 54 [vr 8 0, vr 10 o, vi x] σ Q := by
  subst hx
  refine cl_at p54 hd (w54_0 hC ?_)
  have hS := hX.ok.cS.1
  have hck : (nI s).toNatClampNeg = s := nI_clamp (by omega)
  have hD := hX.ok.cD.1
  rw [hX.cln s (by omega), hck, hX.r8, (hX.slp s hs).1, (hX.slp s hs).2.1]
  obtain ⟨hde, ede⟩ := hX.ok.de hs
  refine if_b (fun hc => ?_) (fun hc => ?_)
  · have loop : ∀ k0, k0 ≤ p.1 → Q (some (vi (oI (fi (fun i => p.2 i / 2 == gN R (124 + 4 * s + 1)) (p.1 - k0) k0) (-1)))) σ → g54_56 L xs (CL L xs (d - 1)) Q o (R (124 + 4 * s + 1)) (nI k0) σ := by
      have key : ∀ m k0, k0 + m = p.1 → Q (some (vi (oI (fi (fun i => p.2 i / 2 == gN R (124 + 4 * s + 1)) m k0) (-1)))) σ → g54_56 L xs (CL L xs (d - 1)) Q o (R (124 + 4 * s + 1)) (nI k0) σ := by
        intro m
        induction m with
        | zero =>
          intro k0 hk q
          have := hp.1
          refine w54_56 hC ?_
          rw [hv.1]
          exact if_nlt (by omega) (by omega) q
        | succ m ih =>
          intro k0 hk q
          have h12 := hp.1
          refine w54_56 hC ?_
          rw [hv.1, nI_clamp (n := k0) (by omega), (hv.2 k0 (by omega)).1, ede, nI_1]
          refine if_lt (by omega) (by omega) (ix_k (by omega) (by omega) ?_)
          have h16 := hp.2 k0 (by omega)
          unfold fi at q
          refine if_c (fun z => ?_) (fun z => ?_)
          · have z := (nI_eq (by omega) (by omega)).mp z
            rw [if_pos (by simp [z])] at q
            exact q
          · rw [if_neg (by simp; exact fun z' => z (by rw [z']))] at q
            rw [← ede]
            exact ih (k0 + 1) (by omega) q
      exact fun k0 hk q => key (p.1 - k0) k0 (by omega) q
    unfold stp at q
    rw [hc, if_neg (by decide)] at q
    refine ix_k (by omega) (by omega) (ix_k (by omega) (by omega) ?_)
    have z0 : 0 - 1 = 0 := rfl
    unfold st0 at q
    refine if_c (fun z => ?_) (fun z => ?_)
    · rw [if_pos z] at q
      by_cases h1 : 1 ≤ p.1
      · exact loop 1 h1 q
      · have h0 : p.1 = 0 := by omega
        rw [h0] at q
        refine w54_56 hC ?_
        rw [hv.1, h0]
        exact if_n (by decide) q
    · rw [if_neg z] at q
      exact loop 0 (by omega) q
  · unfold stp at q
    rw [if_pos hc] at q
    exact q
theorem oI_neg {o : Option Nat} (h : ∀ k, o = some k → k < 2 ^ 31) : oI o (-1) < 0 ↔ o = none := by
  cases o with
  | none => exact ⟨fun _ => rfl, fun _ => by decide⟩
  | some k => exact ⟨fun z => absurd z (nI_pos (h k rfl)), fun z => by cases z⟩
theorem c53 (hd : 5 ≤ d) {o s : Nat} {p : Pl} {x : Int32} (hx : x = nI s) (hX : cX σ μ R C) (hv : vS σ.1 o p) (hp : okP R 12 p) (hs : s < gN R 7) (q : Q (some (vi (bI (stp R C p s).isSome))) σ) : CL L xs d 53 [vr 8 0, vr 10 o, vi x] σ Q := by
  refine cl_at p53 (by omega) (w53_0 hC ?_)
  refine c54 (by omega) hx hX hv hp hs ⟨_, rfl, ?_⟩
  have hb : ∀ k, stp R C p s = some k → k < 2 ^ 31 := fun k h => by have := stp_some h; have := hp.1; omega
  cases h : stp R C p s with
  | none => rw [h] at q; exact if_y (by decide) q
  | some k => rw [h] at q; exact if_n (nI_pos (hb k h)) q
theorem vS_52 {σ : M2} {o k c : Nat} {p : Pl} {a b : Int32} (hv : vS σ.1 o p) (ha : a = nI (c / 2)) (hb : b = nI (c % 2)) : vS (m2_wI (m2_wI σ 52 o k a) 53 o k b).1 o (pSet p k c) := by
  refine ⟨?_, fun i hi => ?_⟩
  · rw [wI_t (by decide), wI_t (by decide), hv.1]; rfl
  · show vC _ _ _ (if i = k then c else p.2 i)
    by_cases h : i = k
    · rw [if_pos h, h]; exact vC_set ha hb
    · rw [if_neg h]; exact vC_oth h (hv.2 i hi)
theorem vS_53 {σ : M2} {o k c : Nat} {p : Pl} {b : Int32} (hv : vS σ.1 o p) (hk : k < p.1) (ha : p.2 k / 2 = c / 2) (hb : b = nI (c % 2)) : vS (m2_wI σ 53 o k b).1 o (pSet p k c) := by
  refine ⟨?_, fun i hi => ?_⟩
  · rw [wI_t (by decide), hv.1]; rfl
  · show vC _ _ _ (if i = k then c else p.2 i)
    by_cases h : i = k
    · rw [if_pos h, h]
      refine ⟨?_, by rw [wI_same, hb]⟩
      rw [wI_t (by decide), (hv.2 k hk).1, ha]
    · rw [if_neg h]
      refine ⟨?_, ?_⟩
      · rw [wI_t (by decide), (hv.2 i hi).1]
      · rw [wI_k h, (hv.2 i hi).2]
theorem c55 (hd : 5 ≤ d) {s : Nat} {p : Pl} {x : Int32} (hx : x = nI s) (hX : cX σ μ R C) (hv : vS σ.1 8 p) (hp : okP R 11 p) (hs : s < gN R 7) (q : ∀ σ', fr (fS 8) σ σ' → vS σ'.1 8 (mkk R C p s) → Q none σ') : CL L xs d 55 [vr 8 0, vi x] σ Q := by
  refine cl_at p55 (by omega) (w55_0 hC ?_)
  refine c54 (by omega) hx hX hv (hp.up (by omega)) hs ⟨_, rfl, ?_⟩
  subst hx
  have hS := hX.ok.cS.1
  have hck : (nI s).toNatClampNeg = s := nI_clamp (by omega)
  have hn := hp.1
  unfold mkk at q
  cases h : stp R C p s with
  | none => rw [h] at q; exact if_y (by decide) (q σ fr.id hv)
  | some k =>
    rw [h] at q
    obtain ⟨hk, hk0⟩ := stp_some h
    have hkk : (nI k).toNatClampNeg = k := nI_clamp (by omega)
    have hvk := hv.2 k hk
    have q : ∀ σ', fr (fS 8) σ σ' → vS σ'.1 8 (mkA R p s k) → Q none σ' := q
    unfold mkA at q
    rw [show oI (some k) (-1) = nI k from rfl]
    refine if_n (nI_pos (by omega)) (ix_k (by omega) (by omega) ?_)
    rw [hck, hkk, hX.r8, (hX.slp s hs).1, hvk.1, hvk.2]
    refine if_c (fun z => ?_) (fun z => ?_)
    · simp only [if_pos z] at q
      exact c67 (by omega) hv (by omega) hk (fun σ' h1 h2 => ⟨rfl, q σ' h1 h2⟩)
    simp only [if_neg z] at q
    refine if_c (fun z => ?_) (fun z => ?_)
    · simp only [if_pos z] at q
      refine ix_k (by omega) (by omega) (ix_k (by omega) (by omega) ?_)
      exact c66 (by omega) (nI_1 k) rfl rfl hv (by omega) (by omega) (fun σ' h1 h2 => ⟨rfl, q σ' h1 h2⟩)
    simp only [if_neg z] at q
    refine if_c (fun z => ?_) (fun z => ?_)
    · simp only [if_pos z] at q
      refine ix_k (by omega) (by omega) ?_
      refine if_c (fun z0 => ix_k (by omega) (by omega) (q _ (fr.id.w rfl) (vS_53 hv hk ?_ ?_))) (fun z0 => ix_k (by omega) (by omega) (q _ (fr.id.w rfl) (vS_53 hv hk ?_ ?_)))
      · unfold flp; omega
      · have := (nI_eq (b := 0) (by omega) (by omega)).mp z0
        have : flp (p.2 k) % 2 = 1 := by unfold flp; omega
        rw [this]; rfl
      · unfold flp; omega
      · have h2 : p.2 k % 2 ≠ 0 := fun e => z0 (by rw [e]; rfl)
        have : flp (p.2 k) % 2 = 0 := by unfold flp; omega
        rw [this]; rfl
    simp only [if_neg z] at q
    refine if_c (fun z => ?_) (fun z => ?_)
    · simp only [if_pos z] at q
      have h1 : 1 ≤ k := by unfold st0 at hk0; rw [if_pos z] at hk0; exact hk0
      exact c68 (by omega) hv (by omega) h1 hk (fun σ' h1 h2 => ⟨rfl, q σ' h1 h2⟩)
    · simp only [if_neg z] at q
      refine ix_k (by omega) (by omega) (ix_k (by omega) (by omega) (ix_k (by omega) (by omega) ?_))
      refine q _ ((fr.id.w rfl).w rfl) (vS_52 hv ?_ ?_)
      · rw [(hX.slp s hs).2.2.1]
        have hh := hX.ok.2.2.2.2.2.2.1 s hs
        have h4 : R (124 + 4 * s) = 4 := by
          obtain ⟨j, hj, e⟩ := vp_in_of hh.1 (by omega)
          match j, hj, e with
          | 0, _, e => exact absurd e ‹¬ R (124 + 4 * s) = 0›
          | 1, _, e => exact absurd e ‹¬ R (124 + 4 * s) = 1›
          | 2, _, e => exact absurd e ‹¬ R (124 + 4 * s) = 2›
          | 3, _, e => exact absurd e ‹¬ R (124 + 4 * s) = 3›
          | 4, _, e => exact e
        rw [Nat.mul_div_cancel_left _ (by omega)]
        exact (gn_in (hh.2.2.1 h4)).2
      · rw [Nat.mul_mod_right]; rfl
end CRN
