/-! RUNS in the class: whole runs, harms, ends -/
theorem vS_fr {A : Nat → Nat → Nat → Bool} {σ σ' : M2} {o : Nat} {p : Pl} (hf : fr A σ σ') (hA : ∀ k, A 10 o k = false ∧ A 52 o k = false ∧ A 53 o k = false) (hv : vS σ.1 o p) : vS σ'.1 o p :=
  ⟨by rw [hf.1 _ _ _ (hA 0).1]; exact hv.1, fun i hi => ⟨by rw [hf.1 _ _ _ (hA i).2.1]; exact (hv.2 i hi).1, by rw [hf.1 _ _ _ (hA i).2.2]; exact (hv.2 i hi).2⟩⟩
def f85 : Nat → Nat → Nat → Bool := fun t _ k => t == 8 && k == 5
theorem f85_k : ∀ t i k, kpX t i = true → f85 t i k = false := by
  intro t i k h
  unfold kpX at h
  unfold f85
  simp only [Bool.or_eq_true, Bool.and_eq_true, beq_iff_eq, decide_eq_true_eq] at h
  simp only [Bool.and_eq_false_iff, beq_eq_false_iff_ne, ne_eq]
  omega
theorem f85_Rn : ∀ t i k, f85 t i k = true → fRn t i k = true := by
  intro t i k h
  unfold f85 at h
  unfold fRn
  simp only [Bool.and_eq_true, beq_iff_eq] at h
  simp [h.1]
section CFL
variable {L : Nat} {xs : Nat → Int32} {d : Nat} {Q : Option dm_V → M2 → Prop} {σ : M2} {μ : Nat} {R : Nat → Int32} {C : Nat → Bool}
theorem c57 (hd : 5 ≤ d) {lv : Nat → Int32} {b : Option Nat} (hX : cX σ μ R C) (hl : ∀ t, t < gN R 4 → σ.1 51 0 t = lv t) (hbb : ∀ k, b = some k → k < 2 ^ 31) (hb : σ.1 8 0 4 = oI b (-2)) (q : ∀ σ', fr f85 σ σ' → σ'.1 8 0 5 = hmm R (lv, b) → Q none σ') : CL L xs d 57 [vr 8 0] σ Q := by
  refine cl_at p57 (by omega) (w57_0 hC ?_)
  have hH := hX.ok.cH
  have hT := hX.ok.cT.1
  have loop : ∀ σ1, fr f85 σ σ1 → σ1.1 8 0 5 = hmB R b → g57_26 L xs (CL L xs (d - 1)) Q (nI 0) σ1 := by
    intro σ1 hf1 h51
    refine dm_for (n := gN R 10) (fun k σ => g57_26 L xs (CL L xs (d - 1)) Q (nI k) σ) (fun k σ' => fr f85 σ σ' ∧ σ'.1 8 0 5 = fo (hmH R lv) (hmB R b) k) ?_ ?_ 0 _ (Nat.zero_le _) ⟨hf1, h51⟩
    · rintro k σ' hk ⟨hf, h5⟩ ih
      have hX' := hX.fr f85_k hf
      refine w57_26 hC ?_
      have e := hX'.hrm k hk
      obtain ⟨hj, ej⟩ := gn_in (hX.ok.2.2.2.1 k hk).1
      rw [hX'.r8, hX'.cnt.2.1, hH.2, nI_clamp (n := k) (by omega), nI_1]
      refine if_lt hk (by omega) (ix_k (by omega) (by omega) ?_)
      refine c26 (t := gN R (16 + 4 * k)) (u := R (16 + 4 * k + 1)) (b := R (16 + 4 * k + 2)) (lv := lv) (by omega) (by omega) (by rw [e.1, ← ej]) e.2.1 e.2.2.1 (by rw [hf.1 _ _ _ rfl, hl _ hj]) ⟨_, rfl, ?_⟩
      refine if_b (fun z => ?_) (fun z => ?_)
      · refine ih _ ⟨hf, ?_⟩
        show _ = hmH R lv k (fo (hmH R lv) (hmB R b) k)
        unfold hmH
        rw [if_neg (by rw [z]; decide)]
        exact h5
      · refine ix_k (by omega) (by omega) ?_
        refine ih _ ⟨hf.w rfl, ?_⟩
        show _ = hmH R lv k (fo (hmH R lv) (hmB R b) k)
        rw [wI_same, hX'.r8, e.2.2.2, h5]
        conv => rhs; unfold hmH
        rw [if_pos z]
        rfl
    · rintro σ' ⟨hf, h5⟩
      have hX' := hX.fr f85_k hf
      refine w57_26 hC ?_
      rw [hX'.r8, hX'.cnt.2.1, hH.2]
      exact if_nlt (Nat.le_refl _) (by omega) (q σ' hf h5)
  rw [hb]
  cases b with
  | none => exact if_y rfl (loop _ (fr.id.w rfl) wI_same)
  | some k =>
    refine if_n (nI_neg2 (hbb k rfl)) (loop _ (fr.id.w rfl) ?_)
    rw [wI_same, hX.r8, hX.five.2.1]; rfl
theorem rn_lt {f : Nat → Nat} : ∀ {m k : Nat} {lv : Nat → Int32} {j : Nat}, (rn R f m k lv).2 = some j → j < k + m
  | 0, _, _, _, h => by cases h
  | m + 1, k, lv, j, h => by
    unfold rn at h
    split at h
    · cases h; omega
    · have := rn_lt h; omega
theorem c56 (hd : 7 ≤ d) {o most : Nat} {p : Pl} {x2 x3 x4 : Int32} (hX : cX σ μ R C) (hv : vS σ.1 o p) (ho : o ≠ 8) (hp : okP R 8 p) (h2 : isC R x2) (h3 : isC R x3) (h4 : x4 = nI most) (hm : most < 2 ^ 31)
    (q : ∀ σ', fr fRn σ σ' → (∀ t, t < gN R 4 → σ'.1 51 0 t = (run R (mkc R C (mkc R C p x2) x3) most).1 t) → σ'.1 8 0 4 = oI (run R (mkc R C (mkc R C p x2) x3) most).2 (-2) → σ'.1 8 0 5 = hmm R (run R (mkc R C (mkc R C p x2) x3) most) → Q none σ') : CL L xs d 56 [vr 8 0, vr 10 o, vi x2, vi x3, vi x4] σ Q := by
  subst h4
  refine cl_at p56 (by omega) (w56_0 hC ?_)
  have hT := hX.ok.cT
  have hD := hX.ok.cD.1
  have hp2 := okP_mkc hX.ok (C := C) hp h2
  have hp3 := okP_mkc hX.ok (C := C) hp2 h3
  have hS := hX.ok.cS.1
  -- the loop over the steps
  have fin : ∀ {x5 x6 : Int32} {σ' : M2} {lv : Nat → Int32} {b : Option Nat}, fr fRn σ σ' → (∀ t, t < gN R 4 → σ'.1 51 0 t = lv t) → (∀ k, b = some k → k < 2 ^ 31) → σ'.1 8 0 4 = oI b (-2) → (x6 < x5 → b ≠ none) → (lv, b) = run R (mkc R C (mkc R C p x2) x3) most → g56_93 L xs (CL L xs (d - 1)) Q x5 x6 σ' := by
    intro x5 x6 σ' lv b hf hl hbb hb hx he
    refine w56_93 hC ?_
    have c : CL L xs (d - 1) 57 [vr 8 0] σ' (fun r σ1 => r = none ∧ Q none σ1) := by
      refine c57 (by omega) (hX.fr fRn_k hf) hl hbb hb (fun σ1 h1 h5 => ⟨rfl, ?_⟩)
      refine q σ1 (hf.trans (h1.weak f85_Rn)) (fun t ht => ?_) ?_ ?_
      · rw [← he, h1.1 _ _ _ rfl, hl t ht]
      · rw [← he, h1.1 _ _ _ rfl, hb]
      · rw [← he, h5]
    refine if_c (fun z => ?_) (fun _ => c)
    refine if_n ?_ c
    rw [hb]
    cases b with
    | none => exact absurd rfl (hx z)
    | some k => exact nI_neg2 (hbb k rfl)
  have l93 : ∀ (p3 : Pl), p3 = mkc R C (mkc R C p x2) x3 → ∀ m k lv σ', k + m = min most p3.1 → fr fRn σ σ' → vS σ'.1 8 p3 → (∀ t, t < gN R 4 → σ'.1 51 0 t = lv t) → σ'.1 8 0 4 = -2 → rn R p3.2 m k lv = run R p3 most → g56_93 L xs (CL L xs (d - 1)) Q (nI (min most p3.1)) (nI k) σ' := by
    intro p3 hp3e m
    subst hp3e
    have hn := hp3.1
    induction m with
    | zero =>
      intro k lv σ' hk hf hv3 hl hb he
      refine fin (b := none) hf hl (fun k h => by cases h) hb (fun z => ?_) he
      exact absurd z (nI_nlt (by omega) (by omega))
    | succ m ih =>
      intro k lv σ' hk hf hv3 hl hb he
      have hX' := hX.fr fRn_k hf
      have hkn : k < (mkc R C (mkc R C p x2) x3).1 := by omega
      have h16 := hp3.2 k hkn
      have e := hv3.2 k hkn
      have hde := hX'.ded _ h16
      generalize hc : (mkc R C (mkc R C p x2) x3).2 k = c at *
      have hck : (nI (c / 2)).toNatClampNeg = c / 2 := nI_clamp (by omega)
      refine w56_93 hC ?_
      have go : ∀ σ4, σ4 = σ' → ned R (c / 2) lv = false → CL L xs (d - 1) 1 [vr 0 (8 * μ + c / 2), vr 51 0, vi (nI (c % 2))] σ4 (fun r σ6 => r = none ∧ g56_93 L xs (CL L xs (d - 1)) Q (nI (min most (mkc R C (mkc R C p x2) x3).1)) (nI (k + 1)) σ6) := by
        intro σ4 h4 hne
        subst h4
        refine c1 (by omega) hX.ok h16 hde (by omega) hl (fun σ6 h1 hl6 => ⟨rfl, ?_⟩)
        refine ih (k + 1) _ σ6 (by omega) (hf.trans (h1.weak fLv_Rn)) (vS_fr h1 (fun _ => ⟨rfl, rfl, rfl⟩) hv3) hl6 (by rw [h1.1 _ _ _ rfl]; exact hb) ?_
        rw [← he]
        conv => rhs; unfold rn
        rw [hc, if_neg (by rw [hne]; decide)]
      rw [hb, nI_clamp (n := k) (by omega), e.1, e.2, hck, hX'.r8, nI_1]
      refine if_lt (by omega) (by omega) (if_y rfl (ix_k (by omega) (by omega) (ix_k (by omega) (by omega) ?_)))
      refine if_c (fun z => ?_) (fun z => ?_)
      · refine ix_k (by omega) (by omega) (go σ' rfl ?_)
        unfold ned
        rw [hde.2.1.mp z]; rfl
      · have hz : R (40 + 7 * (c / 2) + 4) ≠ 0 := fun e => z (hde.2.1.mpr e)
        obtain ⟨hj, ej⟩ := gn_in (hX.ok.2.2.2.2.1 (c / 2) h16).2
        have hj1 : 1 ≤ gN R (40 + 7 * (c / 2) + 4) := by
          rcases Nat.eq_zero_or_pos (gN R (40 + 7 * (c / 2) + 4)) with z | z
          · rw [z] at ej; exact absurd ej hz
          · exact z
        have hpos : (0 : Int32) < R (40 + 7 * (c / 2) + 4) := by rw [ej]; exact nI_lt (a := 0) (by omega) (by omega)
        obtain ⟨n0, n1, n2⟩ := hde.2.2 hz
        refine c26 (t := gN R (40 + 7 * (c / 2) + 4) - 1) (u := R (40 + 7 * (c / 2) + 5)) (b := R (40 + 7 * (c / 2) + 6)) (lv := lv) (by omega) (by omega) (by rw [n0, ej, nI_s1 hj1]) n1 n2 (hl _ (by omega)) ⟨_, rfl, ?_⟩
        refine if_b (fun zz => ?_) (fun zz => ?_)
        · refine fin (lv := lv) (b := some k) (hf.w rfl) (fun t ht => ?_) (fun j h => by cases h; omega) wI_same (fun _ h => by cases h) ?_
          · rw [wI_t (by decide)]; exact hl t ht
          · rw [← he]
            conv => rhs; unfold rn
            rw [hc, if_pos]
            unfold ned
            rw [zz, decide_eq_true hpos]; rfl
        · refine ix_k (by omega) (by omega) ?_
          rw [e.2]
          refine go σ' rfl ?_
          unfold ned
          rw [zz]; simp
  have l33 : ∀ σ', fr fRn σ σ' → vS σ'.1 8 (mkc R C (mkc R C p x2) x3) → g56_33 L xs (CL L xs (d - 1)) Q (nI most) (nI 0) σ' := by
    intro σ1 hf1 hv1
    refine dm_for (n := gN R 4) (fun k σ => g56_33 L xs (CL L xs (d - 1)) Q (nI most) (nI k) σ) (fun k σ' => fr fRn σ σ' ∧ vS σ'.1 8 (mkc R C (mkc R C p x2) x3) ∧ ∀ t, t < k → σ'.1 51 0 t = R (11 + t)) ?_ ?_ 0 _ (Nat.zero_le _) ⟨hf1, hv1, fun t h => absurd h (Nat.not_lt_zero t)⟩
    · rintro k σ' hk ⟨hf, hv', hl⟩ ih
      have hX' := hX.fr fRn_k hf
      refine w56_33 hC ?_
      rw [hX'.r8, hX'.cnt.1, hT.2, nI_clamp (n := k) (by omega), nI_1, hX'.lev k hk]
      refine if_lt hk (by omega) (ix_k (by omega) (by omega) (ix_k (by omega) (by omega) ?_))
      refine ih _ ⟨hf.w rfl, ?_, fun t ht => ?_⟩
      · exact vS_fr (A := fLv) (fr.id.w rfl) (fun _ => ⟨rfl, rfl, rfl⟩) hv'
      · by_cases h : t = k
        · rw [h, wI_same]
        · rw [wI_k h]; exact hl t (by omega)
    · rintro σ' ⟨hf, hv', hl⟩
      have hX' := hX.fr fRn_k hf
      refine w56_33 hC ?_
      rw [hX'.r8, hX'.cnt.1, hT.2]
      refine if_nlt (Nat.le_refl _) (by omega) ?_
      have hv'' : vS (m2_wI σ' 8 0 4 (-2)).1 8 (mkc R C (mkc R C p x2) x3) := vS_fr (A := fun t _ _ => t == 8) (fr.id.w rfl) (fun _ => ⟨rfl, rfl, rfl⟩) hv'
      have e5 : (if (m2_wI σ' 8 0 4 (-2)).1 10 8 0 < nI most then (m2_wI σ' 8 0 4 (-2)).1 10 8 0 else nI most) = nI (min most (mkc R C (mkc R C p x2) x3).1) := by
        rw [hv''.1]
        have := hp3.1
        by_cases h : (mkc R C (mkc R C p x2) x3).1 < most
        · rw [if_pos (nI_lt h (by omega)), Nat.min_eq_right (by omega)]
        · rw [if_neg (nI_nlt (by omega) (by omega)), Nat.min_eq_left (by omega)]
      show g56_93 L xs (CL L xs (d - 1)) Q (if (m2_wI σ' 8 0 4 (-2)).1 10 8 0 < nI most then (m2_wI σ' 8 0 4 (-2)).1 10 8 0 else nI most) (nI 0) (m2_wI σ' 8 0 4 (-2))
      rw [e5]
      exact l93 _ rfl _ 0 (lv0 R) _ (Nat.zero_add _) (hf.w rfl) hv'' (fun t ht => by rw [wI_t (by decide)]; exact hl t ht) wI_same rfl
  have fr3 : ∀ {σ1 σ2 : M2}, fr (fS 8) σ1 σ2 → fr fRn σ1 σ2 := fun h => h.weak fS_Rn
  have second : ∀ σ1, fr fRn σ σ1 → vS σ1.1 8 (mkc R C p x2) → (if x3 = -2 then g56_33 L xs (CL L xs (d - 1)) Q (nI most) (nI 0) σ1 else CL L xs (d - 1) 55 [vr 8 0, vi x3] σ1 (fun r σ2 => r = none ∧ g56_33 L xs (CL L xs (d - 1)) Q (nI most) (nI 0) σ2)) := by
    intro σ1 hf1 hv1
    refine if_c (fun z => ?_) (fun z => ?_)
    · refine l33 σ1 hf1 ?_
      have : mkc R C (mkc R C p x2) x3 = mkc R C p x2 := by rw [z]; exact if_pos rfl
      rw [this]; exact hv1
    · rcases h3 with h | ⟨s, hs, h⟩
      · exact absurd h z
      · refine c55 (by omega) h (hX.fr fRn_k hf1) hv1 (hp2.up (by omega)) hs (fun σ2 h1 hv2 => ⟨rfl, l33 σ2 (hf1.trans (fr3 h1)) ?_⟩)
        have : mkc R C (mkc R C p x2) x3 = mkk R C (mkc R C p x2) s := by
          rw [h]
          show (if nI s = -2 then _ else _) = _
          rw [if_neg (nI_neg2 (by omega)), nI_clamp (by omega)]
        rw [this]; exact hv2
  refine c65 (by omega) ho hv (by have := hp.1; omega) (fun σ1 h1 hv1 => ⟨rfl, ?_⟩)
  refine if_c (fun z => ?_) (fun z => ?_)
  · have : mkc R C p x2 = p := by rw [z]; exact if_pos rfl
    exact second σ1 (fr3 h1) (by rw [this]; exact hv1)
  · rcases h2 with h | ⟨s, hs, h⟩
    · exact absurd h z
    · refine c55 (by omega) h (hX.fr (fS_k (by omega)) h1) hv1 (hp.up (by omega)) hs (fun σ2 h2 hv2 => ⟨rfl, second σ2 (fr3 (h1.trans h2)) ?_⟩)
      have : mkc R C p x2 = mkk R C p s := by
        rw [h]
        show (if nI s = -2 then _ else _) = _
        rw [if_neg (nI_neg2 (by omega)), nI_clamp (by omega)]
      rw [this]; exact hv2
/-- harm and end of a plan with two choices -/
def hm2 (R : Nat → Int32) (C : Nat → Bool) (p : Pl) (x y : Int32) : Int32 := hm R (mkc R C (mkc R C p x) y)
def en2 (R : Nat → Int32) (C : Nat → Bool) (p : Pl) (x y : Int32) : Int32 := enn R (mkc R C (mkc R C p x) y)
theorem c59 (hd : 8 ≤ d) {o : Nat} {p : Pl} {x2 x3 : Int32} (hX : cX σ μ R C) (hv : vS σ.1 o p) (ho : o ≠ 8) (hp : okP R 8 p) (h2 : isC R x2) (h3 : isC R x3) (q : ∀ σ', fr fRn σ σ' → Q (some (vi (hm2 R C p x2 x3))) σ') : CL L xs d 59 [vr 8 0, vr 10 o, vi x2, vi x3] σ Q := by
  refine cl_at p59 (by omega) (w59_0 hC ?_)
  refine c56 (most := 12) (by omega) hX hv ho hp h2 h3 rfl (by omega) (fun σ' hf _ _ h5 => ⟨rfl, ?_⟩)
  rw [h5]
  exact q σ' hf
theorem c58 (hd : 8 ≤ d) {o : Nat} {p : Pl} {x2 x3 : Int32} (hX : cX σ μ R C) (hv : vS σ.1 o p) (ho : o ≠ 8) (hp : okP R 8 p) (h2 : isC R x2) (h3 : isC R x3) (q : ∀ σ', fr fRn σ σ' → Q (some (vi (en2 R C p x2 x3))) σ') : CL L xs d 58 [vr 8 0, vr 10 o, vi x2, vi x3] σ Q := by
  refine cl_at p58 (by omega) (w58_0 hC ?_)
  refine c56 (most := 12) (by omega) hX hv ho hp h2 h3 rfl (by omega) (fun σ' hf hl _ _ => ⟨rfl, ?_⟩)
  have hX' := hX.fr fRn_k hf
  have hT := hX.ok.cT
  refine dm_for (n := gN R 4) (fun k σ => g58_15 L xs (CL L xs (d - 1)) Q (fo (fun t a => a * 10 + (run R (mkc R C (mkc R C p x2) x3) 12).1 t) 0 k) (nI k) σ) (fun _ σ1 => σ1 = σ') ?_ ?_ 0 _ (Nat.zero_le _) rfl
  · rintro k σ1 hk rfl ih
    refine w58_15 hC ?_
    rw [hX'.r8, hX'.cnt.1, hT.2, nI_clamp (n := k) (by omega), nI_1, hl k hk]
    exact if_lt hk (by omega) (ix_k (by omega) (by omega) (ih _ rfl))
  · rintro σ1 rfl
    refine w58_15 hC ?_
    rw [hX'.r8, hX'.cnt.1, hT.2]
    exact if_nlt (Nat.le_refl _) (by omega) (q _ hf)
end CFL
