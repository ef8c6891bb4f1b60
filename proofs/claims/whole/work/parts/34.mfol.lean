/-! RUNS in the model: whole runs, harms, ends -/
section MFL
variable {L : Nat} {xs : Nat → Int32} {d : Nat} {Q : Option dm_V → M2 → Prop} {σ : M2} {R : Nat → Int32} {C : Nat → Bool}
theorem c207 (hd : 4 ≤ d) {t : Nat} {u b : Int32} {lv : Nat → Int32} {x1 : Int32} (ht : t < 5) (h1 : x1 = nI t) (hl : σ.1 68 0 t = lv t) (q : Q (some (vi (bI (soo lv t u b)))) σ) : CL L xs d 207 [vr 13 0, vi x1, vi u, vi b] σ Q := by
  subst h1
  refine cl_at p207 hd (w207_0 hC ?_)
  rw [nI_clamp (by omega), hl]
  unfold soo at q
  refine if_c (fun h => ix_k ht (by omega) ?_) (fun h => ix_k ht (by omega) ?_)
  · rw [if_pos h] at q
    refine if_c (fun z => ?_) (fun z => ?_)
    · rw [decide_eq_true z] at q; exact q
    · rw [decide_eq_false z] at q; exact q
  · rw [if_neg h] at q
    refine if_c (fun z => ?_) (fun z => ?_)
    · rw [decide_eq_true z] at q; exact q
    · rw [decide_eq_false z] at q; exact q
theorem mod2 {c : Nat} (h : c < 2 ^ 31) : nI c - nI c / 2 * 2 = nI (c % 2) := by
  rw [nI_div2 h, l2, nI_mul, nI_sub (by omega)]
  congr 1
  omega
theorem oI_lt {o : Option Nat} (h : ∀ k, o = some k → k < 2 ^ 31) : oI o (-1) < 0 ↔ o = none := by
  cases o with
  | none => exact ⟨fun _ => rfl, fun _ => by decide⟩
  | some k => exact ⟨fun z => absurd z (nI_pos (h k rfl)), fun z => by cases z⟩
theorem c206 (hd : 5 ≤ d) {most : Nat} {p : Pl} {x1 : Int32} (h1 : x1 = nI most) (hm : most < 2 ^ 31) (hX : mX σ R C) (hv : vM σ.1 p) (hp : okP R 12 p)
    (q : ∀ σ', fr gLv σ σ' → (∀ t, t < gN R 4 → σ'.1 68 0 t = (run R p most).1 t) → σ'.1 13 0 25 = oI (run R p most).2 (-1) → Q none σ') : CL L xs d 206 [vr 13 0, vi x1] σ Q := by
  subst h1
  refine cl_at p206 (by omega) (w206_0 hC ?_)
  have hT := hX.1.cT.1
  have hD := hX.1.cD.1
  have hn := hp.1
  have fin : ∀ {x2 : Int32} {σ' : M2} {lv : Nat → Int32} {b : Option Nat}, fr gLv σ σ' → (∀ t, t < gN R 4 → σ'.1 68 0 t = lv t) → (∀ k, b = some k → k < 2 ^ 31) → σ'.1 13 0 25 = oI b (-1) → (x2 < nI most → x2 < nI p.1 → b ≠ none) → (lv, b) = run R p most → g206_35 L xs (CL L xs (d - 1)) Q (nI most) x2 σ' := by
    intro x2 σ' lv b hf hl hbb hb hx he
    refine w206_35 hC ?_
    have c : Q none σ' := by
      refine q σ' hf (fun t ht => ?_) ?_
      · rw [← he, hl t ht]
      · rw [← he, hb]
    refine if_c (fun z => ?_) (fun _ => c)
    refine if_c (fun z' => ?_) (fun _ => c)
    refine if_n ?_ c
    rw [hb, oI_lt hbb]
    exact hx z (by rw [hf.1 _ _ _ rfl, hv.1] at z'; exact z')
  have l35 : ∀ m k lv σ', k + m = min most p.1 → fr gLv σ σ' → (∀ t, t < gN R 4 → σ'.1 68 0 t = lv t) → σ'.1 13 0 25 = -1 → rn R p.2 m k lv = run R p most → g206_35 L xs (CL L xs (d - 1)) Q (nI most) (nI k) σ' := by
    intro m
    induction m with
    | zero =>
      intro k lv σ' hk hf hl hb he
      refine fin (b := none) hf hl (fun k h => by cases h) hb (fun z z' => ?_) he
      rcases Nat.le_total most p.1 with h | h
      · exact absurd z (nI_nlt (by omega) (by omega))
      · exact absurd z' (nI_nlt (by omega) (by omega))
    | succ m ih =>
      intro k lv σ' hk hf hl hb he
      have hX' := hX.fr (fun _ => ⟨rfl, rfl⟩) hf
      have hv' := vM_fr hf (fun _ => ⟨rfl, rfl⟩) hv
      have hkn : k < p.1 := by omega
      have h8 := hp.2 k hkn
      have e := hv'.2 k hkn
      have h16 := okP_16 hX.1 hp hkn
      generalize hc : p.2 k = c at *
      have de := hX.1.2.2.2.2.1 (c / 2) h8
      have hck : (nI k).toNatClampNeg = k := nI_clamp (by omega)
      have e40 : 40 + 7 * (nI c / 2) = nI (40 + 7 * (c / 2)) := by rw [nI_div2 (by omega), l40, l7, nI_mul, nI_add]
      have l126 : ned R (c / 2) lv = false → g206_126 L xs (CL L xs (d - 1)) Q (nI most) (nI k) (nI (40 + 7 * (c / 2))) (nI 0) σ' := by
        intro hne
        refine dm_for (n := 2) (fun j σ => g206_126 L xs (CL L xs (d - 1)) Q (nI most) (nI k) (nI (40 + 7 * (c / 2))) (nI j) σ) (fun j σ1 => fr gLv σ σ1 ∧ (∀ t, t < gN R 4 → σ1.1 68 0 t = efK R (c / 2) (c % 2) lv j t) ∧ σ1.1 13 0 25 = -1) ?_ ?_ 0 _ (Nat.zero_le _) ⟨hf, hl, hb⟩
        · rintro j σ1 hj ⟨hf1, hl1, hb1⟩ ih1
          have hX1 := hX.fr (fun _ => ⟨rfl, rfl⟩) hf1
          have hv1 := vM_fr hf1 (fun _ => ⟨rfl, rfl⟩) hv
          refine w206_126 hC ?_
          have ex : nI (40 + 7 * (c / 2)) + 2 * nI j = nI (40 + 7 * (c / 2) + 2 * j) := by rw [l2, nI_mul, nI_add]
          obtain ⟨hj3, ej⟩ := gn_in (de.1 j hj)
          rw [ex, nI_1 (40 + 7 * (c / 2) + 2 * j), nI_clamp (n := 40 + 7 * (c / 2) + 2 * j) (by omega), nI_clamp (n := 40 + 7 * (c / 2) + 2 * j + 1) (by omega), hX1.2.1, hX1.2.1, hck, hv1.2 k hkn, hc, mod2 (by omega), nI_1 j]
          refine if_y (nI_lt (b := 2) hj (by omega)) (ix_k (by omega) (by omega) ?_)
          refine if_c (fun z => ?_) (fun z => ?_)
          · refine ih1 _ ⟨hf1, fun t ht => ?_, hb1⟩
            show _ = efE R (c / 2) (c % 2) j _ t
            unfold efE
            rw [if_pos z]; exact hl1 t ht
          · have hj1 : 1 ≤ gN R (40 + 7 * (c / 2) + 2 * j) := by
              rcases Nat.eq_zero_or_pos (gN R (40 + 7 * (c / 2) + 2 * j)) with z' | z'
              · rw [z'] at ej; exact absurd ej z
              · exact z'
            have et : R (40 + 7 * (c / 2) + 2 * j) - 1 = nI (gN R (40 + 7 * (c / 2) + 2 * j) - 1) := by rw [ej, nI_s1 hj1]
            rw [et, nI_clamp (n := gN R (40 + 7 * (c / 2) + 2 * j) - 1) (by omega)]
            refine ix_k (by omega) (by omega) (ix_k (by omega) (by omega) (ix_k (by omega) (by omega) ?_))
            have w : ∀ v, v = (if c % 2 = 0 then R (40 + 7 * (c / 2) + 2 * j + 1) else -(R (40 + 7 * (c / 2) + 2 * j + 1))) → g206_212 L xs (CL L xs (d - 1)) Q (nI most) (nI k) (nI (40 + 7 * (c / 2))) (nI j) (nI (gN R (40 + 7 * (c / 2) + 2 * j) - 1)) v (σ1.1 68 0 (gN R (40 + 7 * (c / 2) + 2 * j) - 1)) σ1 := by
              intro v hv
              refine w206_212 hC ?_
              rw [nI_clamp (n := gN R (40 + 7 * (c / 2) + 2 * j) - 1) (by omega), nI_1]
              have nx : g206_126 L xs (CL L xs (d - 1)) Q (nI most) (nI k) (nI (40 + 7 * (c / 2))) (nI (j + 1)) (m2_wI σ1 68 0 (gN R (40 + 7 * (c / 2) + 2 * j) - 1) (cl9 (σ1.1 68 0 (gN R (40 + 7 * (c / 2) + 2 * j) - 1) + v))) := by
                refine ih1 _ ⟨hf1.w rfl, fun t ht => ?_, by rw [wI_t (by decide)]; exact hb1⟩
                show _ = efE R (c / 2) (c % 2) j _ t
                unfold efE
                rw [if_neg z]
                show _ = if t = gN R (40 + 7 * (c / 2) + 2 * j) - 1 then cl9 _ else _
                by_cases a : t = gN R (40 + 7 * (c / 2) + 2 * j) - 1
                · rw [if_pos a, a, wI_same, hl1 _ (by omega), hv]
                · rw [if_neg a, wI_k a, hl1 t ht]
              unfold cl9 at nx
              refine if_c (fun z1 => ix_k (by omega) (by omega) ?_) (fun z1 => if_c (fun z2 => ix_k (by omega) (by omega) ?_) (fun z2 => ix_k (by omega) (by omega) ?_))
              · rw [if_pos z1] at nx; exact nx
              · rw [if_neg z1, if_pos z2] at nx; exact nx
              · rw [if_neg z1, if_neg z2] at nx; exact nx
            refine if_c (fun z' => ix_k (by omega) (by omega) (w _ ?_)) (fun z' => ix_k (by omega) (by omega) (w _ ?_))
            · rw [if_pos ((nI_eq (b := 0) (by omega) (by omega)).mp z')]
            · rw [if_neg (fun z'' => z' (by rw [z'']; rfl))]
        · rintro σ1 ⟨hf1, hl1, hb1⟩
          refine w206_126 hC ?_
          rw [nI_1 k]
          refine if_n (by decide) (ih (k + 1) _ σ1 (by omega) hf1 hl1 hb1 ?_)
          rw [← he]
          conv => rhs; unfold rn
          rw [hc, if_neg (by rw [hne]; decide)]
      refine w206_35 hC ?_
      rw [hb, hck, e, e40, hv'.1, nI_1 k, l4, l5, l6, nI_add, nI_add, nI_add, nI_clamp (n := 40 + 7 * (c / 2) + 4) (by omega), nI_clamp (n := 40 + 7 * (c / 2) + 5) (by omega), nI_clamp (n := 40 + 7 * (c / 2) + 6) (by omega), hX'.2.1, hX'.2.1, hX'.2.1]
      refine if_lt (by omega) (by omega) (if_lt hkn (by omega) (if_y (by decide) (ix_k (by omega) (by omega) (ix_k (by omega) (by omega) ?_))))
      refine if_c (fun z => ?_) (fun z => ?_)
      · refine ix_k (by omega) (by omega) (ix_k (by omega) (by omega) (ix_k (by omega) (by omega) ?_))
        obtain ⟨hj, ej⟩ := gn_in de.2
        have hj1 : 1 ≤ gN R (40 + 7 * (c / 2) + 4) := by
          rcases Nat.eq_zero_or_pos (gN R (40 + 7 * (c / 2) + 4)) with z' | z'
          · rw [z'] at ej; rw [ej] at z; exact absurd z (by decide)
          · exact z'
        refine c207 (t := gN R (40 + 7 * (c / 2) + 4) - 1) (lv := lv) (by omega) (by omega) (by rw [ej, nI_s1 hj1]) (hl _ (by omega)) ⟨_, rfl, ?_⟩
        refine if_b (fun zz => ?_) (fun zz => ?_)
        · refine fin (lv := lv) (b := some k) (hf.w rfl) (fun t ht => ?_) (fun j h => by cases h; omega) wI_same (fun _ _ h => by cases h) ?_
          · rw [wI_t (by decide)]; exact hl t ht
          · rw [← he]
            conv => rhs; unfold rn
            rw [hc, if_pos]
            unfold ned
            rw [zz, decide_eq_true z]; rfl
        · refine l126 ?_
          unfold ned
          rw [zz]; simp
      · refine l126 ?_
        unfold ned
        rw [decide_eq_false z]; rfl
  refine dm_for (n := 5) (fun k σ => g206_2 L xs (CL L xs (d - 1)) Q (nI most) (nI k) σ) (fun k σ' => fr gLv σ σ' ∧ ∀ t, t < k → σ'.1 68 0 t = R (11 + t)) ?_ ?_ 0 _ (Nat.zero_le _) ⟨fr.id, fun t h => absurd h (Nat.not_lt_zero t)⟩
  · rintro k σ' hk ⟨hf, hl⟩ ih
    have hX' := hX.fr (fun _ => ⟨rfl, rfl⟩) hf
    refine w206_2 hC ?_
    rw [l11, nI_add, nI_clamp (n := k) (by omega), nI_clamp (n := 11 + k) (by omega), hX'.2.1, nI_1]
    refine if_y (nI_lt (b := 5) hk (by omega)) (ix_k (by omega) (by omega) (ix_k (by omega) (by omega) ?_))
    refine ih _ ⟨hf.w rfl, fun t ht => ?_⟩
    by_cases h : t = k
    · rw [h, wI_same]
    · rw [wI_k h]; exact hl t (by omega)
  · rintro σ' ⟨hf, hl⟩
    refine w206_2 hC ?_
    refine if_n (by decide) ?_
    exact l35 _ 0 (lv0 R) _ (Nat.zero_add _) (hf.w rfl) (fun t ht => by rw [wI_t (by decide)]; exact hl t (by omega)) wI_same rfl
theorem run_lt {p : Pl} {most j : Nat} (h : (run R p most).2 = some j) : j < p.1 := by
  have := rn_lt (R := R) (f := p.2) h
  omega
theorem c208 (hd : 6 ≤ d) {p : Pl} (hX : mX σ R C) (hv : vM σ.1 p) (hp : okP R 12 p) (q : ∀ σ', fr gLv σ σ' → Q (some (vi (hm R p))) σ') : CL L xs d 208 [vr 13 0] σ Q := by
  refine cl_at p208 (by omega) (w208_0 hC ?_)
  refine c206 (most := 12) (by omega) rfl (by omega) hX hv hp (fun σ' hf hl hb => ⟨rfl, ?_⟩)
  have hX' := hX.fr (fun _ => ⟨rfl, rfl⟩) hf
  have hT := hX.1.cT.1
  have hH := hX.1.cH
  have loop : ∀ a, a = hmB R (run R p 12).2 → g208_26 L xs (CL L xs (d - 1)) Q a (nI 0) σ' := by
    rintro a rfl
    refine dm_for (n := gN R 10) (fun k σ => g208_26 L xs (CL L xs (d - 1)) Q (fo (hmH R (run R p 12).1) (hmB R (run R p 12).2) k) (nI k) σ) (fun _ σ1 => σ1 = σ') ?_ ?_ 0 _ (Nat.zero_le _) rfl
    · rintro k σ1 hk rfl ih
      refine w208_26 hC ?_
      have ex : 16 + 4 * nI k = nI (16 + 4 * k) := by rw [l16, l4, nI_mul, nI_add]
      obtain ⟨hj, ej⟩ := gn_in (hX.1.2.2.2.1 k hk).1
      rw [ex, hX'.2.1, hH.2, nI_1 k, l3, l2, nI_add, nI_add, nI_1 (16 + 4 * k), nI_clamp (n := 16 + 4 * k) (by omega), nI_clamp (n := 16 + 4 * k + 1) (by omega), nI_clamp (n := 16 + 4 * k + 2) (by omega), hX'.2.1, hX'.2.1, hX'.2.1]
      refine if_lt hk (by omega) (ix_k (by omega) (by omega) (ix_k (by omega) (by omega) (ix_k (by omega) (by omega) ?_)))
      refine c207 (t := gN R (16 + 4 * k)) (lv := (run R p 12).1) (by omega) (by omega) ej (hl _ hj) ⟨_, rfl, ?_⟩
      have st : fo (hmH R (run R p 12).1) (hmB R (run R p 12).2) (k + 1) = hmH R (run R p 12).1 k (fo (hmH R (run R p 12).1) (hmB R (run R p 12).2) k) := rfl
      have ih := ih _ rfl
      rw [st] at ih
      unfold hmH at ih
      refine if_b (fun z => ?_) (fun z => ?_)
      · rw [if_neg (by rw [z]; decide)] at ih
        rw [Int32.add_zero]; exact ih
      · rw [if_pos z] at ih
        rw [nI_clamp (n := 16 + 4 * k + 3) (by omega), hX'.2.1]
        exact ix_k (by omega) (by omega) ih
    · rintro σ1 rfl
      refine w208_26 hC ?_
      rw [hX'.2.1, hH.2]
      exact if_nlt (Nat.le_refl _) (by omega) (q _ hf)
  rw [hb]
  have hbb : ∀ k, (run R p 12).2 = some k → k < 2 ^ 31 := fun k h => by have := run_lt h; have := hp.1; omega
  refine if_c (fun z => loop _ ?_) (fun z => loop _ ?_)
  · rw [oI_lt hbb] at z; rw [z]; rfl
  · rw [oI_lt hbb] at z
    rw [hX'.2.1]
    cases h : (run R p 12).2 with
    | none => exact absurd h z
    | some k => rfl
theorem c209 (hd : 7 ≤ d) {p : Nat} {x1 x2 x3 : Int32} (hX : mX σ R C) (h1 : x1 = nI p) (hp : p < gN R 6) (h2 : isC R x2) (h3 : isC R x3) (q : ∀ σ', fr gRn σ σ' → Q (some (vi (hm2 R C (plR R p) x2 x3))) σ') : CL L xs d 209 [vr 13 0, vi x1, vi x2, vi x3] σ Q := by
  refine cl_at p209 (by omega) (w209_0 hC ?_)
  have k := hX.1.pl hp
  refine c202 (by omega) h1 hX hp (fun σ1 f1 v1 => ⟨rfl, ?_⟩)
  have X1 := hX.fr (fun _ => ⟨rfl, rfl⟩) f1
  refine c205 (by omega) h2 X1 v1 (k.up (by omega)) (fun σ2 f2 v2 => ⟨rfl, ?_⟩)
  have X2 := X1.fr (fun _ => ⟨rfl, rfl⟩) f2
  refine c205 (by omega) h3 X2 v2 ((okP_mkc hX.1 k h2).up (by omega)) (fun σ3 f3 v3 => ⟨rfl, ?_⟩)
  have X3 := X2.fr (fun _ => ⟨rfl, rfl⟩) f3
  exact c208 (by omega) X3 v3 ((okP_mkc hX.1 (okP_mkc hX.1 k h2) h3).up (by omega)) (fun σ4 f4 => ⟨_, rfl, q σ4 ((((f1.trans f2).trans f3).weak gSt_Rn).trans (f4.weak gLv_Rn))⟩)
theorem c211 (hd : 4 ≤ d) {lv : Nat → Int32} (hX : mX σ R C) (hl : ∀ t, t < gN R 4 → σ.1 68 0 t = lv t) (q : Q (some (vi (lcd R lv))) σ) : CL L xs d 211 [vr 13 0] σ Q := by
  refine cl_at p211 (by omega) (w211_0 hC ?_)
  have hT := hX.1.cT
  refine dm_for (n := gN R 4) (fun k σ => g211_4 L xs (CL L xs (d - 1)) Q (fo (fun t a => a * 10 + lv t) 0 k) (nI k) σ) (fun _ σ1 => σ1 = σ) ?_ ?_ 0 _ (Nat.zero_le _) rfl
  · rintro k σ1 hk rfl ih
    refine w211_4 hC ?_
    rw [hX.2.1, hT.2, nI_clamp (n := k) (by omega), nI_1, hl k hk, Int32.mul_comm]
    exact if_lt hk (by omega) (ix_k (by omega) (by omega) (ih _ rfl))
  · rintro σ1 rfl
    refine w211_4 hC ?_
    rw [hX.2.1, hT.2]
    exact if_nlt (Nat.le_refl _) (by omega) q
theorem c210 (hd : 7 ≤ d) {p : Nat} {x1 x2 x3 : Int32} (hX : mX σ R C) (h1 : x1 = nI p) (hp : p < gN R 6) (h2 : isC R x2) (h3 : isC R x3)
    (q : ∀ σ', fr gRn σ σ' → (∀ t, t < gN R 4 → σ'.1 68 0 t = (run R (mkc R C (mkc R C (plR R p) x2) x3) 12).1 t) → σ'.1 13 0 25 = oI (run R (mkc R C (mkc R C (plR R p) x2) x3) 12).2 (-1) → Q (some (vi (en2 R C (plR R p) x2 x3))) σ') : CL L xs d 210 [vr 13 0, vi x1, vi x2, vi x3] σ Q := by
  refine cl_at p210 (by omega) (w210_0 hC ?_)
  have k := hX.1.pl hp
  refine c202 (by omega) h1 hX hp (fun σ1 f1 v1 => ⟨rfl, ?_⟩)
  have X1 := hX.fr (fun _ => ⟨rfl, rfl⟩) f1
  refine c205 (by omega) h2 X1 v1 (k.up (by omega)) (fun σ2 f2 v2 => ⟨rfl, ?_⟩)
  have X2 := X1.fr (fun _ => ⟨rfl, rfl⟩) f2
  refine c205 (by omega) h3 X2 v2 ((okP_mkc hX.1 k h2).up (by omega)) (fun σ3 f3 v3 => ⟨rfl, ?_⟩)
  have X3 := X2.fr (fun _ => ⟨rfl, rfl⟩) f3
  refine c206 (most := 12) (by omega) rfl (by omega) X3 v3 ((okP_mkc hX.1 (okP_mkc hX.1 k h2) h3).up (by omega)) (fun σ4 f4 l4 b4 => ⟨rfl, ?_⟩)
  exact c211 (by omega) (X3.fr (fun _ => ⟨rfl, rfl⟩) f4) l4 ⟨_, rfl, q σ4 ((((f1.trans f2).trans f3).weak gSt_Rn).trans (f4.weak gLv_Rn)) l4 b4⟩
theorem c212 (hd : 6 ≤ d) {p s : Nat} {x1 x2 : Int32} (hX : mX σ R C) (h1 : x1 = nI p) (hp : p < gN R 6) (h2 : x2 = nI s) (hs : s < gN R 7) (q : ∀ σ', fr gRn σ σ' → Q (some (vi (bI (stp R C (plR R p) s).isSome))) σ') : CL L xs d 212 [vr 13 0, vi x1, vi x2] σ Q := by
  refine cl_at p212 (by omega) (w212_0 hC ?_)
  have k := hX.1.pl hp
  refine c202 (by omega) h1 hX hp (fun σ1 f1 v1 => ⟨rfl, ?_⟩)
  refine c203 (by omega) h2 (hX.fr (fun _ => ⟨rfl, rfl⟩) f1) v1 (k.up (by omega)) hs ⟨_, rfl, ?_⟩
  have q := q σ1 (f1.weak gSt_Rn)
  have hb : ∀ j, stp R C (plR R p) s = some j → j < 2 ^ 31 := fun j h => by have := stp_some h; have := k.1; omega
  cases h : stp R C (plR R p) s with
  | none => rw [h] at q; exact if_y (by decide) q
  | some j => rw [h] at q; exact if_n (nI_pos (hb j h)) q
end MFL
