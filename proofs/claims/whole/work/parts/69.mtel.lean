/-! THE LINES in the model -/
def MFc (σ : M2) (R : PR) (Q : Option dm_V → M2 → Prop) : Prop := ∀ f p σ', R = .inl (f, p) → f ≠ 0 → fr gRd σ σ' → FM σ' f p → Q none σ'
def MSc (T : Nat → Nat) (n : Nat) (σ : M2) (R : PR) (Q : Option dm_V → M2 → Prop) : Prop := ∀ c' F' N' σ', R = .inr (c', F', N') → fr gRd σ σ' → MR σ' T n c' F' N' → Q none σ'
def gFw : Nat → Nat → Nat → Bool := fun t _ k => t == 13 && (k == 9 || (k == 10 || k == 13))
theorem gFw_R : ∀ t i k, gFw t i k = true → gRd t i k = true := by
  intro t i k h
  unfold gFw at h
  unfold gRd
  simp only [Bool.or_eq_true, Bool.and_eq_true, beq_iff_eq] at *
  omega
theorem g63 {k : Nat} : gRd 63 0 k = true := rfl
section MTEL
variable {L : Nat} {xs : Nat → Int32} {d : Nat} {Q : Option dm_V → M2 → Prop} {σ σ0 : M2} {T : Nat → Nat} {n c : Nat} {N : Nat → Nat} {F : Nat → Int32} {ff pp : Nat}
theorem c161k (hd : 4 ≤ d) {f : Nat} {w p : Int32} (h : MR σ T n c F N) (hw : w = nI f) (hp : p = nI (tA T n c)) (q : ∀ σ', fr gFw σ σ' → FM σ' f (tA T n c) → Q none σ') : CL L xs d 161 [vr 13 0, vi w, vi p] σ Q := by
  refine cl_at p161 hd (w161_0 hC ?_)
  rw [h.2.2.2.2.2.2]
  refine if_y rfl ?_
  exact q _ (((fr.id.w rfl).w rfl).w rfl) ⟨by rw [wI_k (by decide), wI_k (by decide), wI_same], by rw [wI_k (by decide), wI_same]; exact hw, by rw [wI_same]; exact hp⟩
theorem c165k (hd : 6 ≤ d) (h : MR σ T n c F N) (qf : ¬ isNm T n c = true → ∀ σ', fr gFw σ σ' → FM σ' 1 (tA T n c) → Q none σ') (qt : isNm T n c = true → Q none σ) : CL L xs d 165 [vr 13 0] σ Q := by
  refine cl_at p165 (by omega) (w165_0 hC ?_)
  have k5 := kd_5 (T := T) (n := n) (c := c)
  have bar : (∃ o, o < 10 ∧ cd T n c = kw o) → g165_90 L xs (CL L xs (d - 1)) Q σ := by
    intro ⟨o, ho, e⟩
    have nn := isNm_r (T := T) (n := n) (c := c) (resv_t.mpr ⟨o, ho, e⟩)
    have go : CL L xs (d - 1) 161 [vr 13 0, vi 1, vi (σ.1 13 0 4)] σ (fun r σ1 => r = none ∧ Q none σ1) := c161k (by omega) h (f := 1) rfl h.at (fun σ' f' m' => ⟨rfl, qf nn σ' f' m'⟩)
    refine w165_90 hC (w165_95 hC ?_)
    exact if_c (fun _ => if_n (by decide) go) (fun _ => go)
  have clr : (∀ o, o < 10 → cd T n c ≠ kw o) → g165_95 L xs (CL L xs (d - 1)) Q 0 σ := by
    intro hno
    have rv : resv (cd T n c) = false := by
      cases hv : resv (cd T n c)
      · rfl
      · obtain ⟨o, ho, e⟩ := resv_t.mp hv
        exact absurd e (hno o ho)
    refine w165_95 hC ?_
    rw [h.2.2.1.1]
    refine if_c (fun z => if_y rfl (qt (isNm_t ((mk2 k5).mp z) rv))) (fun z => ?_)
    exact c161k (by omega) h (f := 1) rfl h.at (fun σ' f' m' => ⟨rfl, qf (isNm_k (fun w => z ((mk2 k5).mpr w))) σ' f' m'⟩)
  refine h.wd (by omega) (o := 0) (by omega) ⟨_, rfl, ?_⟩
  refine if_b (fun z0 => ?_) (fun z => bar ⟨0, by omega, of_decide_eq_true z⟩)
  refine h.wd (by omega) (o := 1) (by omega) ⟨_, rfl, ?_⟩
  refine if_b (fun z1 => ?_) (fun z => bar ⟨1, by omega, of_decide_eq_true z⟩)
  refine h.wd (by omega) (o := 2) (by omega) ⟨_, rfl, ?_⟩
  refine if_b (fun z2 => ?_) (fun z => bar ⟨2, by omega, of_decide_eq_true z⟩)
  refine h.wd (by omega) (o := 3) (by omega) ⟨_, rfl, ?_⟩
  refine if_b (fun z3 => ?_) (fun z => bar ⟨3, by omega, of_decide_eq_true z⟩)
  refine h.wd (by omega) (o := 4) (by omega) ⟨_, rfl, ?_⟩
  refine if_b (fun z4 => ?_) (fun z => bar ⟨4, by omega, of_decide_eq_true z⟩)
  refine h.wd (by omega) (o := 5) (by omega) ⟨_, rfl, ?_⟩
  refine if_b (fun z5 => ?_) (fun z => bar ⟨5, by omega, of_decide_eq_true z⟩)
  refine h.wd (by omega) (o := 6) (by omega) ⟨_, rfl, ?_⟩
  refine if_b (fun z6 => ?_) (fun z => bar ⟨6, by omega, of_decide_eq_true z⟩)
  refine h.wd (by omega) (o := 7) (by omega) ⟨_, rfl, ?_⟩
  refine if_b (fun z7 => ?_) (fun z => bar ⟨7, by omega, of_decide_eq_true z⟩)
  refine h.wd (by omega) (o := 8) (by omega) ⟨_, rfl, ?_⟩
  refine if_b (fun z8 => ?_) (fun z => bar ⟨8, by omega, of_decide_eq_true z⟩)
  refine h.wd (by omega) (o := 9) (by omega) ⟨_, rfl, ?_⟩
  refine if_b (fun z9 => ?_) (fun z => bar ⟨9, by omega, of_decide_eq_true z⟩)
  refine clr (fun o ho => ?_)
  match o, ho with
  | 0, _ => exact of_decide_eq_false z0
  | 1, _ => exact of_decide_eq_false z1
  | 2, _ => exact of_decide_eq_false z2
  | 3, _ => exact of_decide_eq_false z3
  | 4, _ => exact of_decide_eq_false z4
  | 5, _ => exact of_decide_eq_false z5
  | 6, _ => exact of_decide_eq_false z6
  | 7, _ => exact of_decide_eq_false z7
  | 8, _ => exact of_decide_eq_false z8
  | 9, _ => exact of_decide_eq_false z9
theorem c168k (hd : 7 ≤ d) {lo hi : Nat} {x1 x2 : Int32} (h1 : x1 = nI lo) (h2 : x2 = nI hi) (hh : hi < 28) (hlo : lo < 28) (h : MR σ T n c F N) (qf : ∀ f, f ≠ 0 → (∀ K, pUse T n N lo hi c K = .inl (f, tA T n c)) → ∀ σ', fr gFw σ σ' → FM σ' f (tA T n c) → Q (some (vi 0)) σ') (qt : ∀ v, lo + v ≤ hi → N (lo + v) ≠ 0 → (∀ K, pUse T n N lo hi c K = K v (nx T n c)) → Q (some (vi (nI v))) σ) : CL L xs d 168 [vr 13 0, vi x1, vi x2] σ Q := by
  subst h1; subst h2
  refine cl_at p168 (by omega) (w168_0 hC ?_)
  rw [h.2.2.2.2.2.2]
  refine if_y rfl ?_
  refine c165k (by omega) h (fun z σ' f' m' => ⟨rfl, ?_⟩) (fun z => ⟨rfl, ?_⟩)
  · rw [m'.1]
    exact if_n (by decide) (qf 1 (by omega) (fun K => if_neg z) σ' f' m')
  rw [h.2.2.2.2.2.2]
  refine if_y rfl ?_
  have hk := isNm_i z
  have bad : (∀ K, pUse T n N lo hi c K = .inl (2, tA T n c)) → ∀ v3 : Int32, CL L xs (d - 1) 161 [vr 13 0, vi 2, vi (σ.1 13 0 4)] σ (fun r σ6 => r = none ∧ (if σ6.1 13 0 13 = 0 then Q (some (vi (v3 - nI lo))) σ6 else Q (some (vi 0)) σ6)) := fun hK v3 => c161k (by omega) h (f := 2) rfl h.at (fun σ' f' m' => ⟨rfl, by rw [m'.1]; exact if_n (by decide) (qf 2 (by omega) hK σ' f' m')⟩)
  refine c166 (by omega) h hk ⟨_, rfl, ?_⟩
  refine c153 (by omega) ⟨_, rfl, ?_⟩
  cases hl : lkN N (cd T n c) with
  | none =>
    have : inc (oI none (-1)) (nI lo) (nI hi) = false := by
      unfold inc
      rw [decide_eq_false (p := ¬ oI none (-1) < nI lo) (fun w => w (Int32.lt_iff_toInt_lt.mpr (by rw [nI_toInt (by omega)]; show (-1 : Int) < _; omega)))]; rfl
    rw [this]
    exact if_y rfl (bad (fun K => by unfold pUse; rw [if_pos z, hl]) _)
  | some s =>
    have ls := lkN_s hl
    have hK : ∀ K, pUse T n N lo hi c K = (if lo ≤ s ∧ s ≤ hi then K (s - lo) (nx T n c) else .inl (2, tA T n c)) := fun K => by unfold pUse; rw [if_pos z, hl]
    have ei : inc (oI (some s) (-1)) (nI lo) (nI hi) = decide (lo ≤ s ∧ s ≤ hi) := by
      unfold inc
      show (decide (¬ nI s < nI lo) && decide (¬ nI hi < nI s)) = _
      by_cases g : lo ≤ s ∧ s ≤ hi
      · rw [decide_eq_true (p := ¬ nI s < nI lo) (nI_nlt g.1 (by omega)), decide_eq_true (p := ¬ nI hi < nI s) (nI_nlt g.2 (by omega)), decide_eq_true g]; rfl
      · rw [decide_eq_false g]
        by_cases g1 : lo ≤ s
        · rw [decide_eq_false (p := ¬ nI hi < nI s) (fun w => w (nI_lt (by omega) (by omega))), Bool.and_false]
        · rw [decide_eq_false (p := ¬ nI s < nI lo) (fun w => w (nI_lt (by omega) (by omega))), Bool.false_and]
    rw [ei]
    by_cases g : lo ≤ s ∧ s ≤ hi
    · rw [decide_eq_true g]
      refine if_n (by decide) ?_
      rw [h.2.2.2.2.2.2]
      refine if_y rfl ?_
      show Q (some (vi (nI s - nI lo))) σ
      rw [nI_sub g.1]
      refine qt (s - lo) (by omega) ?_ (fun K => by rw [hK, if_pos g])
      rw [show lo + (s - lo) = s by omega, ls.2]
      exact cd_pos h.2.1 hk
    · rw [decide_eq_false g]
      exact if_y rfl (bad (fun K => by rw [hK, if_neg g]) _)
theorem c169k (hd : 8 ≤ d) {lo hi : Nat} {x1 x2 : Int32} (h1 : x1 = nI lo) (h2 : x2 = nI hi) (hh : hi < 28) (hlo : lo < 28) (h : MR σ T n c F N) (qf : ∀ f, f ≠ 0 → (∀ K, pUse T n N lo hi c K = .inl (f, tA T n c)) → ∀ σ', fr gFw σ σ' → FM σ' f (tA T n c) → Q (some (vi 0)) σ') (qt : ∀ v, lo + v ≤ hi → N (lo + v) ≠ 0 → (∀ K, pUse T n N lo hi c K = K v (nx T n c)) → ∀ σ', fr gRd σ σ' → MR σ' T n (nx T n c) F N → Q (some (vi (nI v))) σ') : CL L xs d 169 [vr 13 0, vi x1, vi x2] σ Q := by
  refine cl_at p169 (by omega) (w169_0 hC ?_)
  refine c168k (by omega) h1 h2 hh hlo h (fun f hf hK σ' f' m' => ⟨_, rfl, ?_⟩) (fun v hv hN hK => ⟨_, rfl, ?_⟩)
  · rw [m'.1]; exact if_n (by decide) (qf f hf hK σ' f' m')
  · rw [h.2.2.2.2.2.2]
    exact if_y rfl (h.nx (by omega) (fun σ' f' m' => ⟨rfl, qt v hv hN hK σ' f' m'⟩))
theorem c172k (hd : 7 ≤ d) {lo hi : Nat} {x1 x2 : Int32} (h1 : x1 = nI lo) (h2 : x2 = nI hi) (hh : hi < 1000) (hl : lo < 1000) (h : MR σ T n c F N) (qf : ∀ f, f ≠ 0 → (∀ K, pN T n lo hi c K = .inl (f, tA T n c)) → ∀ σ', fr gFw σ σ' → FM σ' f (tA T n c) → Q (some (vi (nI lo))) σ') (qt : ∀ v, lo ≤ v → v ≤ hi → (∀ K, pN T n lo hi c K = K v (nx T n c)) → ∀ σ', fr gRd σ σ' → MR σ' T n (nx T n c) F N → Q (some (vi (nI v))) σ') : CL L xs d 172 [vr 13 0, vi x1, vi x2] σ Q := by
  subst h1; subst h2
  refine cl_at p172 (by omega) (w172_0 hC ?_)
  have h13 := h.2.2.2.2.2.2
  have k5 := kd_5 (T := T) (n := n) (c := c)
  have hT := h.2.2.1
  rw [h13, hT.1]
  refine if_y rfl ?_
  have bad : ∀ f w, w = nI f → f ≠ 0 → (∀ K, pN T n lo hi c K = .inl (f, tA T n c)) → CL L xs (d - 1) 161 [vr 13 0, vi w, vi (σ.1 13 0 4)] σ (fun r σ4 => r = none ∧ g172_50 L xs (CL L xs (d - 1)) Q (nI lo) σ4) := by
    intro f w ew hf hK
    refine c161k (by omega) h ew h.at (fun σ' f' m' => ⟨rfl, ?_⟩)
    refine w172_50 hC ?_
    rw [m'.1]
    exact if_n (by decide) (qf f hf hK σ' f' m')
  refine if_c (fun z => ?_) (fun z => ?_)
  · have z := (mk_eq _ k5).2.1.mp z
    rw [hT.2.2.2.1 z]
    have hv : tV T n c < 2 ^ 31 := by
      have ha := tA_b (T := T) h.2.1
      unfold tV
      have l2 : re T n isDi (tA T n c) - tA T n c ≤ 2 := by
        by_cases z0 : n ≤ tA T n c
        · rw [(kd_0 z0).1] at z; cases z
        cases z1 : isLo (T (tA T n c))
        · cases z2 : isDi (T (tA T n c))
          · rw [(kd_o z0 z1 z2).1] at z
            split at z
            · cases z
            split at z <;> cases z
          · rw [(kd_d z0 z1 z2).1] at z
            split at z
            · assumption
            · cases z
        · rw [(kd_l z0 z1).1] at z
          split at z <;> cases z
      have din : ∀ i, i < re T n isDi (tA T n c) - tA T n c → T (tA T n c + i) - 48 ≤ 9 := fun i hi => by
        have := isDi_b.mp (re_in ha.2 i hi); omega
      generalize re T n isDi (tA T n c) - tA T n c = l at *
      match l, l2, din with
      | 0, _, _ => exact Nat.zero_lt_succ _
      | 1, _, din => have := din 0 (by omega); show 10 * 0 + (T (tA T n c + 0) - 48) < _; omega
      | 2, _, din => have := din 0 (by omega); have := din 1 (by omega); show 10 * (10 * 0 + (T (tA T n c + 0) - 48)) + (T (tA T n c + 1) - 48) < _; omega
    refine c153 (by omega) ⟨_, rfl, ?_⟩
    have ei : inc (nI (tV T n c)) (nI lo) (nI hi) = decide (lo ≤ tV T n c ∧ tV T n c ≤ hi) := by
      unfold inc
      by_cases g : lo ≤ tV T n c ∧ tV T n c ≤ hi
      · rw [decide_eq_true (p := ¬ nI (tV T n c) < nI lo) (nI_nlt g.1 hv), decide_eq_true (p := ¬ nI hi < nI (tV T n c)) (nI_nlt g.2 (by omega)), decide_eq_true g]; rfl
      · rw [decide_eq_false g]
        by_cases g1 : lo ≤ tV T n c
        · rw [decide_eq_false (p := ¬ nI hi < nI (tV T n c)) (fun w => w (nI_lt (by omega) hv)), Bool.and_false]
        · rw [decide_eq_false (p := ¬ nI (tV T n c) < nI lo) (fun w => w (nI_lt (by omega) (by omega))), Bool.false_and]
    rw [ei]
    by_cases g : lo ≤ tV T n c ∧ tV T n c ≤ hi
    · rw [decide_eq_true g]
      refine if_n (by decide) ?_
      refine w172_50 hC ?_
      rw [h13, hT.2.2.2.1 z]
      exact if_y rfl (h.nx (by omega) (fun σ' f' m' => ⟨rfl, qt _ g.1 g.2 (pN_t z g) σ' f' m'⟩))
    · rw [decide_eq_false g]
      exact if_y rfl (bad 4 4 rfl (by omega) (fun K => pN_f (by rw [if_pos z, if_neg g]) (by omega) K))
  · have z : kd T n c ≠ 2 := fun w => z ((mk_eq _ k5).2.1.mpr w)
    exact bad 1 1 rfl (by omega) (fun K => pN_f (by rw [if_neg z]) (by omega) K)
theorem MR.h13 (h : MR σ T n c F N) : σ.1 13 0 13 = 0 := h.2.2.2.2.2.2
theorem MR.row (h : MR σ T n c F N) {k : Nat} (hk : k < 187) : σ.1 63 0 k = F k := h.2.2.2.1.1 k hk
theorem c170 (hd : 9 ≤ d) (h : MR σ T n c F N) (qf : ∀ f, f ≠ 0 → (∀ K, pUse T n N 0 4 c K = .inl (f, tA T n c)) → ∀ σ', fr gRd σ σ' → FM σ' f (tA T n c) → Q (some (vi 0)) σ') (qt : ∀ v, 0 + v ≤ 4 → N (0 + v) ≠ 0 → (∀ K, pUse T n N 0 4 c K = K v (nx T n c)) → ∀ σ', fr gRd σ σ' → MR σ' T n (nx T n c) F N → Q (some (vi (nI v))) σ') : CL L xs d 170 [vr 13 0] σ Q := by
  refine cl_at p170 (by omega) (w170_0 hC ?_)
  exact c169 (lo := 0) (hi := 4) (by omega) rfl rfl (by omega) (by omega) h (fun f hf hK σ' f' m' => ⟨_, rfl, qf f hf hK σ' f' m'⟩) (fun v h1 h2 hK σ' f' m' => ⟨_, rfl, qt v h1 h2 hK σ' f' m'⟩)
theorem c170f (hd : 6 ≤ d) (h : FM σ ff pp) (q : Q (some (vi 0)) σ) : CL L xs d 170 [vr 13 0] σ Q :=
  cl_at p170 (by omega) (w170_0 hC (c169f (by omega) h ⟨_, rfl, q⟩))
theorem c171 (hd : 9 ≤ d) (h : MR σ T n c F N) (qf : ∀ f, f ≠ 0 → (∀ K, pUse T n N 5 12 c K = .inl (f, tA T n c)) → ∀ σ', fr gRd σ σ' → FM σ' f (tA T n c) → Q (some (vi 0)) σ') (qt : ∀ v, 5 + v ≤ 12 → N (5 + v) ≠ 0 → (∀ K, pUse T n N 5 12 c K = K v (nx T n c)) → ∀ σ', fr gRd σ σ' → MR σ' T n (nx T n c) F N → Q (some (vi (nI v))) σ') : CL L xs d 171 [vr 13 0] σ Q := by
  refine cl_at p171 (by omega) (w171_0 hC ?_)
  exact c169 (lo := 5) (hi := 12) (by omega) rfl rfl (by omega) (by omega) h (fun f hf hK σ' f' m' => ⟨_, rfl, qf f hf hK σ' f' m'⟩) (fun v h1 h2 hK σ' f' m' => ⟨_, rfl, qt v h1 h2 hK σ' f' m'⟩)
theorem c171f (hd : 6 ≤ d) (h : FM σ ff pp) (q : Q (some (vi 0)) σ) : CL L xs d 171 [vr 13 0] σ Q :=
  cl_at p171 (by omega) (w171_0 hC (c169f (by omega) h ⟨_, rfl, q⟩))
/-- the end of a line that has failed -/
theorem ff_end {σ1 : M2} {R : PR} {K : Prop} (qf : MFc σ R Q) (E : R = .inl (ff, pp)) (h0 : ff ≠ 0) (g : fr gRd σ σ1) (h : FM σ1 ff pp) : (if σ1.1 13 0 13 = 0 then K else Q none σ1) := by
  rw [h.1]
  exact if_n (by decide) (qf ff pp σ1 E h0 g h)
theorem c178 (hd : 11 ≤ d) (h : MR σ T n c F N) (hP : PV F N) (qf : MFc σ (if F 0 = 0 then lMus T n F N (nx T n c) else .inl (3, tA T n c)) Q) (qt : MSc T n σ (if F 0 = 0 then lMus T n F N (nx T n c) else .inl (3, tA T n c)) Q) : CL L xs d 178 [vr 13 0] σ Q := by
  refine cl_at p178 (by omega) (w178_0 hC ?_)
  rw [h.row (by omega)]
  obtain ⟨j0, e0⟩ := gn_in hP.1.2.1.1
  by_cases z : F 0 = 0
  · rw [if_pos z] at qf qt
    refine if_n (by rw [z]; decide) ?_
    refine w178_18 hC ?_
    rw [h.h13]
    refine if_y rfl ?_
    refine h.nx (by omega) (fun σ1 f1 m1 => ⟨rfl, ?_⟩)
    refine c173 (o := 10) (lo := 1) (hi := 3) (by omega) (by omega) rfl rfl (by omega) (by omega) m1 (fun f p hf hK σ2 f2 m2 => ⟨_, rfl, ?_⟩) (fun v1 c1 a1 b1 hK1 σ2 f2 m2 => ⟨_, rfl, ?_⟩)
    · have g := f1.trans f2
      refine c173f (by omega) m2 ⟨_, rfl, c173f (by omega) m2.w ⟨_, rfl, c173f (by omega) m2.w.w ⟨_, rfl, ?_⟩⟩⟩
      exact ff_end qf (hK _) hf (((g.w g63).w g63).w g63) m2.w.w.w
    have E1 : lMus T n F N (nx T n c) = _ := hK1 _
    have g2 := f1.trans f2
    refine c173 (o := 11) (lo := 0) (hi := 99) (by omega) (by omega) rfl rfl (by omega) (by omega) m2 (fun f p hf hK σ3 f3 m3 => ⟨_, rfl, ?_⟩) (fun v2 c2 a2 b2 hK2 σ3 f3 m3 => ⟨_, rfl, ?_⟩)
    · have g := g2.trans f3
      refine c173f (by omega) m3.w ⟨_, rfl, c173f (by omega) m3.w.w ⟨_, rfl, ?_⟩⟩
      exact ff_end qf (E1.trans (hK _)) hf (((g.w g63).w g63).w g63) m3.w.w.w
    have E2 := E1.trans (hK2 _)
    have g3 := (g2.trans f3).w (z := nI v2) (g63 (k := 1))
    have m3' := m3.w (k := 1) (v := nI v2) (by omega)
    refine c173 (o := 12) (lo := 0) (hi := 9) (by omega) (by omega) rfl rfl (by omega) (by omega) m3' (fun f p hf hK σ4 f4 m4 => ⟨_, rfl, ?_⟩) (fun v3 c3 a3 b3 hK3 σ4 f4 m4 => ⟨_, rfl, ?_⟩)
    · have g := g3.trans f4
      refine c173f (by omega) m4.w ⟨_, rfl, ?_⟩
      exact ff_end qf (E2.trans (hK _)) hf ((g.w g63).w g63) m4.w.w
    have E3 := E2.trans (hK3 _)
    have g4 := (g3.trans f4).w (z := nI v3) (g63 (k := 2))
    have m4' := m4.w (k := 2) (v := nI v3) (by omega)
    refine c173 (o := 13) (lo := 0) (hi := 99) (by omega) (by omega) rfl rfl (by omega) (by omega) m4' (fun f p hf hK σ5 f5 m5 => ⟨_, rfl, ?_⟩) (fun v4 c4 a4 b4 hK4 σ5 f5 m5 => ⟨_, rfl, ?_⟩)
    · exact ff_end qf (E3.trans (hK _)) hf ((g4.trans f5).w g63) m5.w
    have E4 := E3.trans (hK4 _)
    have m5' := m5.w (k := 3) (v := nI v4) (by omega)
    show (if (m2_wI σ5 63 0 3 (nI v4)).1 13 0 13 = 0 then _ else _)
    rw [m5'.h13]
    refine if_y rfl ?_
    exact qt _ _ _ _ E4 (((g4.trans f5).w g63).w g63) (m5'.w (by omega))
  · rw [if_neg z] at qf qt
    have jne : gN F 0 ≠ 0 := fun w => z (by rw [e0, w]; rfl)
    refine if_y (by rw [e0]; exact nI_lt (a := 0) (by omega) (by omega)) ?_
    refine c161 (by omega) h (f := 3) rfl h.at (fun σ' f' m' => ⟨rfl, ?_⟩)
    exact w178_18 hC (ff_end qf rfl (by omega) f' m')
theorem c179 (hd : 10 ≤ d) (h : MR σ T n c F N) (hP : PV F N) (hr : gN F 4 < 5) (qf : MFc σ (lThg T n F N c) Q) (qt : MSc T n σ (lThg T n F N c) Q) : CL L xs d 179 [vr 13 0] σ Q := by
  refine cl_at p179 (by omega) (w179_0 hC ?_)
  have b4 := hP.1.cT
  rw [h.row (by omega), b4.2]
  rw [h.h13]
  refine if_y rfl ?_
  have e11 : 11 + nI (gN F 4) = nI (11 + gN F 4) := by rw [l11, nI_add]
  rw [e11, nI_clamp (by omega)]
  refine c167 (slot := gN F 4) (by omega) rfl (by omega) h (fun f hf hK σ1 f1 m1 => ⟨rfl, ?_⟩) (fun hK σ1 f1 m1 => ⟨rfl, ?_⟩)
  · refine c172f (by omega) m1 ⟨_, rfl, ix_k (by omega) (by omega) ?_⟩
    exact ff_end qf (hK _) hf (f1.w g63) m1.w
  have E1 : lThg T n F N c = _ := hK _
  refine c172 (lo := 0) (hi := 9) (by omega) rfl rfl (by omega) (by omega) m1 (fun f hf hK σ2 f2 m2 => ⟨_, rfl, ix_k (by omega) (by omega) ?_⟩) (fun v v1 v2 hK2 σ2 f2 m2 => ⟨_, rfl, ix_k (by omega) (by omega) ?_⟩)
  · exact ff_end qf (E1.trans (hK _)) hf ((f1.trans f2).w g63) m2.w
  have E2 := E1.trans (hK2 _)
  have m2' := m2.w (k := 11 + gN F 4) (v := nI v) (by omega)
  show (if (m2_wI σ2 63 0 (11 + gN F 4) (nI v)).1 13 0 13 = 0 then Q none (m2_wI (m2_wI σ2 63 0 (11 + gN F 4) (nI v)) 63 0 4 ((m2_wI σ2 63 0 (11 + gN F 4) (nI v)).1 63 0 4 + 1)) else _)
  rw [m2'.h13, m2'.row (k := 4) (by omega), updR_ne (by omega), b4.2, nI_1]
  refine if_y rfl ?_
  exact qt _ _ _ _ E2 (((f1.trans f2).w g63).w g63) (m2'.w (by omega))
theorem c181 (hd : 11 ≤ d) (h : MR σ T n c F N) (hP : PV F N) (hr : gN F 10 < 6) (qf : MFc σ (lHrm T n F N c) Q) (qt : MSc T n σ (lHrm T n F N c) Q) : CL L xs d 181 [vr 13 0] σ Q := by
  refine cl_at p181 (by omega) (w181_0 hC ?_)
  have b10 := hP.1.cH
  rw [h.row (by omega), b10.2, h.h13]
  refine if_y rfl ?_
  have e0 : 16 + (4 * nI (gN F 10)) = nI (16 + 4 * gN F 10) := by rw [l16, l4, nI_mul, nI_add]
  have e1 : nI (16 + 4 * gN F 10) + 1 = nI (16 + 4 * gN F 10 + 1) := nI_1 _
  have e2 : nI (16 + 4 * gN F 10) + 2 = nI (16 + 4 * gN F 10 + 2) := nI_add _ 2
  have e3 : nI (16 + 4 * gN F 10) + 3 = nI (16 + 4 * gN F 10 + 3) := nI_add _ 3
  rw [e0, e1, e2, e3, nI_clamp (n := 16 + 4 * gN F 10) (by omega), nI_clamp (n := 16 + 4 * gN F 10 + 1) (by omega), nI_clamp (n := 16 + 4 * gN F 10 + 2) (by omega), nI_clamp (n := 16 + 4 * gN F 10 + 3) (by omega)]
  refine c170 (by omega) h (fun f hf hK σ1 f1 m1 => ⟨_, rfl, ix_k (by omega) (by omega) ?_⟩) (fun t t1 t2 hK σ1 f1 m1 => ⟨_, rfl, ix_k (by omega) (by omega) ?_⟩)
  · refine c180f (by omega) m1.w ⟨_, rfl, ix_k (by omega) (by omega) ?_⟩
    refine c172f (by omega) m1.w.w ⟨_, rfl, ix_k (by omega) (by omega) ?_⟩
    refine c173f (by omega) m1.w.w.w ⟨_, rfl, ix_k (by omega) (by omega) ?_⟩
    exact ff_end qf (hK _) hf ((((f1.w g63).w g63).w g63).w g63) m1.w.w.w.w
  have E1 : lHrm T n F N c = _ := hK _
  have m1' := m1.w (k := 16 + 4 * gN F 10) (v := nI t) (by omega)
  have g1 := f1.w (z := nI t) (g63 (k := 16 + 4 * gN F 10))
  refine c180 (by omega) m1' (fun f p hf hK σ2 f2 m2 v => ⟨_, rfl, ix_k (by omega) (by omega) ?_⟩) (fun u hu hK2 σ2 f2 m2 => ⟨_, rfl, ix_k (by omega) (by omega) ?_⟩)
  · refine c172f (by omega) m2.w ⟨_, rfl, ix_k (by omega) (by omega) ?_⟩
    refine c173f (by omega) m2.w.w ⟨_, rfl, ix_k (by omega) (by omega) ?_⟩
    exact ff_end qf (E1.trans (hK _)) hf ((((g1.trans f2).w g63).w g63).w g63) m2.w.w.w
  have E2 := E1.trans (hK2 _)
  have m2' := m2.w (k := 16 + 4 * gN F 10 + 1) (v := u) (by omega)
  have g2 := (g1.trans f2).w (z := u) (g63 (k := 16 + 4 * gN F 10 + 1))
  refine c172 (lo := 0) (hi := 9) (by omega) rfl rfl (by omega) (by omega) m2' (fun f hf hK σ3 f3 m3 => ⟨_, rfl, ix_k (by omega) (by omega) ?_⟩) (fun b v1 v2 hK3 σ3 f3 m3 => ⟨_, rfl, ix_k (by omega) (by omega) ?_⟩)
  · refine c173f (by omega) m3.w ⟨_, rfl, ix_k (by omega) (by omega) ?_⟩
    exact ff_end qf (E2.trans (hK _)) hf (((g2.trans f3).w g63).w g63) m3.w.w
  have E3 := E2.trans (hK3 _)
  have m3' := m3.w (k := 16 + 4 * gN F 10 + 2) (v := nI b) (by omega)
  have g3 := (g2.trans f3).w (z := nI b) (g63 (k := 16 + 4 * gN F 10 + 2))
  refine c173 (o := 16) (lo := 1) (hi := 99) (by omega) (by omega) rfl rfl (by omega) (by omega) m3' (fun f p hf hK σ4 f4 m4 => ⟨_, rfl, ix_k (by omega) (by omega) ?_⟩) (fun z c4 z1 z2 hK4 σ4 f4 m4 => ⟨_, rfl, ix_k (by omega) (by omega) ?_⟩)
  · exact ff_end qf (E3.trans (hK _)) hf ((g3.trans f4).w g63) m4.w
  have E4 := E3.trans (hK4 _)
  have m4' := m4.w (k := 16 + 4 * gN F 10 + 3) (v := nI z) (by omega)
  show (if (m2_wI σ4 63 0 (16 + 4 * gN F 10 + 3) (nI z)).1 13 0 13 = 0 then Q none (m2_wI (m2_wI σ4 63 0 (16 + 4 * gN F 10 + 3) (nI z)) 63 0 10 ((m2_wI σ4 63 0 (16 + 4 * gN F 10 + 3) (nI z)).1 63 0 10 + 1)) else _)
  rw [m4'.h13, m4'.row (k := 10) (by omega), updR_ne (by omega), updR_ne (by omega), updR_ne (by omega), updR_ne (by omega), b10.2, nI_1]
  refine if_y rfl ?_
  exact qt _ _ _ _ E4 (((g3.trans f4).w g63).w g63) (m4'.w (by omega))
theorem c185 (hd : 11 ≤ d) (h : MR σ T n c F N) (hP : PV F N) (hr : gN F 8 < 4) (qf : MFc σ (lMan T n F N c) Q) (qt : MSc T n σ (lMan T n F N c) Q) : CL L xs d 185 [vr 13 0] σ Q := by
  refine cl_at p185 (by omega) (w185_0 hC ?_)
  have b8 := hP.1.cM
  rw [h.row (by omega), b8.2, h.h13]
  refine if_y rfl ?_
  have e24 : 24 + nI (gN F 8) = nI (24 + gN F 8) := nI_add 24 _
  rw [e24]
  have fail80 : ∀ σ1 f p x2, fr gRd σ σ1 → FM σ1 f p → f ≠ 0 → lMan T n F N c = .inl (f, p) → g185_80 L xs (CL L xs (d - 1)) Q (nI (gN F 8)) x2 σ1 := fun σ1 f p x2 g m hf E => w185_80 hC (ff_end qf E hf g m)
  refine c167 (slot := 24 + gN F 8) (by omega) rfl (by omega) h (fun f hf hK σ1 f1 m1 => ⟨rfl, ?_⟩) (fun hK σ1 f1 m1 => ⟨rfl, ?_⟩)
  · refine c162f (by omega) m1 ⟨_, rfl, if_y rfl (c162f (by omega) m1 ⟨_, rfl, if_y rfl (c162f (by omega) m1 ⟨_, rfl, if_y rfl ?_⟩)⟩)⟩
    refine w185_66 hC (if_y (by decide) (c161f (by omega) m1 ⟨rfl, ?_⟩))
    exact fail80 σ1 f _ _ f1 m1 hf (hK _)
  have E1 : lMan T n F N c = pKnd T n (nx T n c) _ := hK _
  generalize upN N (24 + gN F 8) (cd T n c) = N1 at *
  have fin : ∀ kn, kn ≤ 2 → (∀ K, pKnd T n (nx T n c) K = K kn (nx T n (nx T n c))) → g185_66 L xs (CL L xs (d - 1)) Q (nI (gN F 8)) (nI kn) σ1 := by
    intro kn hkn hK2
    have E2 := E1.trans (hK2 _)
    refine w185_66 hC (if_n (nI_pos (by omega)) ?_)
    refine w185_80 hC ?_
    rw [m1.h13]
    refine if_y rfl ?_
    have e0 : 152 + (2 * nI (gN F 8)) = nI (152 + 2 * gN F 8) := by rw [l152, l2, nI_mul, nI_add]
    rw [e0, nI_1, nI_clamp (n := 152 + 2 * gN F 8) (by omega), nI_clamp (n := 152 + 2 * gN F 8 + 1) (by omega)]
    refine m1.nx (by omega) (fun σ2 f2 m2 => ⟨rfl, ix_k (by omega) (by omega) ?_⟩)
    have m2' := m2.w (k := 152 + 2 * gN F 8) (v := nI kn) (by omega)
    have g2 := (f1.trans f2).w (z := nI kn) (g63 (k := 152 + 2 * gN F 8))
    refine c169 (lo := 13) (hi := 16) (by omega) rfl rfl (by omega) (by omega) m2' (fun f hf hK σ3 f3 m3 => ⟨_, rfl, ix_k (by omega) (by omega) ?_⟩) (fun p p1 p2 hK3 σ3 f3 m3 => ⟨_, rfl, ix_k (by omega) (by omega) ?_⟩)
    · exact ff_end qf (E2.trans (hK _)) hf ((g2.trans f3).w g63) m3.w
    have E3 := E2.trans (hK3 _)
    have m3' := m3.w (k := 152 + 2 * gN F 8 + 1) (v := nI p) (by omega)
    show (if (m2_wI σ3 63 0 (152 + 2 * gN F 8 + 1) (nI p)).1 13 0 13 = 0 then Q none (m2_wI (m2_wI σ3 63 0 (152 + 2 * gN F 8 + 1) (nI p)) 63 0 8 ((m2_wI σ3 63 0 (152 + 2 * gN F 8 + 1) (nI p)).1 63 0 8 + 1)) else _)
    rw [m3'.h13, m3'.row (k := 8) (by omega), updR_ne (by omega), updR_ne (by omega), b8.2, nI_1]
    refine if_y rfl ?_
    exact qt _ _ _ _ E3 (((g2.trans f3).w g63).w g63) (m3'.w (by omega))
  refine m1.wd (by omega) (o := 13) (by omega) ⟨_, rfl, ?_⟩
  refine if_b (fun z => ?_) (fun z => fin 0 (by omega) (fun K => by unfold pKnd; rw [if_pos (of_decide_eq_true z)]))
  have z := of_decide_eq_false z
  refine m1.wd (by omega) (o := 25) (by omega) ⟨_, rfl, ?_⟩
  refine if_b (fun z1 => ?_) (fun z1 => fin 1 (by omega) (fun K => by unfold pKnd; rw [if_neg z, if_pos (of_decide_eq_true z1)]))
  have z1 := of_decide_eq_false z1
  refine m1.wd (by omega) (o := 26) (by omega) ⟨_, rfl, ?_⟩
  refine if_b (fun z2 => ?_) (fun z2 => fin 2 (by omega) (fun K => by unfold pKnd; rw [if_neg z, if_neg z1, if_pos (of_decide_eq_true z2)]))
  have z2 := of_decide_eq_false z2
  refine w185_66 hC (if_y (by decide) (c161 (by omega) m1 (f := 1) rfl m1.at (fun σ2 f2 m2 => ⟨rfl, ?_⟩)))
  exact fail80 σ2 1 _ _ (f1.trans f2) m2 (by omega) (E1.trans (by unfold pKnd; rw [if_neg z, if_neg z1, if_neg z2]))
theorem c186 (hd : 11 ≤ d) (h : MR σ T n c F N) (hP : PV F N) (hr : gN F 9 < 7) (qf : MFc σ (lAsk T n F N c) Q) (qt : MSc T n σ (lAsk T n F N c) Q) : CL L xs d 186 [vr 13 0] σ Q := by
  refine cl_at p186 (by omega) (w186_0 hC ?_)
  have b9 := hP.1.cA
  rw [h.row (by omega), b9.2, h.h13]
  refine if_y rfl ?_
  have e0 : 160 + (3 * nI (gN F 9)) = nI (160 + 3 * gN F 9) := by rw [l160, l3, nI_mul, nI_add]
  rw [e0]
  have fl : ∀ mm x2 x3 j σ1 f p, j + mm = gN F 9 → fr gRd σ σ1 → FM σ1 f p → σ1.1 63 0 9 = nI (gN F 9) → f ≠ 0 → lAsk T n F N c = .inl (f, p) → g186_43 L xs (CL L xs (d - 1)) Q (nI (160 + 3 * gN F 9)) x2 x3 (nI j) σ1 := by
    intro mm
    induction mm with
    | zero =>
      intro x2 x3 j σ1 f p hj g m e9 hf E
      refine w186_43 hC ?_
      rw [e9]
      refine if_n (nI_nlt (by omega) (by omega)) ?_
      exact ff_end qf E hf g m
    | succ mm ih =>
      intro x2 x3 j σ1 f p hj g m e9 hf E
      refine w186_43 hC ?_
      rw [e9, m.1, nI_1]
      exact if_y (nI_lt (by omega) (by omega)) (if_n (by decide) (ih x2 x3 (j + 1) σ1 f p (by omega) g m e9 hf E))
  have r9 : ∀ {σ1 : M2} {c1 : Nat} {N1 : Nat → Nat}, MR σ1 T n c1 F N1 → σ1.1 63 0 9 = nI (gN F 9) := fun m => by rw [m.row (by omega)]; exact b9.2
  refine c169k (lo := 24) (hi := 27) (by omega) rfl rfl (by omega) (by omega) h (fun f hf hK σ1 f1 m1 => ⟨_, rfl, ?_⟩) (fun mm p1 p2 hK1 σ1 f1 m1 => ⟨_, rfl, ?_⟩)
  · refine c168f (by omega) m1 ⟨_, rfl, ?_⟩
    exact fl (gN F 9) 0 0 0 σ1 f _ (by omega) (f1.weak gFw_R) m1 (by rw [f1.1 _ _ _ rfl]; exact r9 h) hf (hK _)
  have E1 : lAsk T n F N c = _ := hK1 _
  refine c168k (lo := 17) (hi := 23) (by omega) rfl rfl (by omega) (by omega) m1 (fun f hf hK σ2 f2 m2 => ⟨_, rfl, ?_⟩) (fun ss q1 q2 hK2 => ⟨_, rfl, ?_⟩)
  · exact fl (gN F 9) _ _ 0 σ2 f _ (by omega) (f1.trans (f2.weak gFw_R)) m2 (by rw [f2.1 _ _ _ rfl]; exact r9 m1) hf (E1.trans (hK _))
  have E2 := E1.trans (hK2 _)
  have loop : ∀ mmm j, j + mmm = gN F 9 → al (fun k => !(decide (F (160 + 3 * k) = nI mm) && decide (F (160 + 3 * k + 1) = nI ss))) j = true → g186_43 L xs (CL L xs (d - 1)) Q (nI (160 + 3 * gN F 9)) (nI mm) (nI ss) (nI j) σ1 := by
    intro mmm
    induction mmm with
    | zero =>
      intro j hj ha
      obtain rfl : j = gN F 9 := by omega
      have hd' : ¬ dup F mm ss (gN F 9) = true := by unfold dup; rw [ha]; decide
      have E3 := E2.trans (if_neg hd')
      refine w186_43 hC ?_
      rw [r9 m1, m1.h13]
      refine if_n (nI_nlt (Nat.le_refl _) (by omega)) (if_y rfl ?_)
      have e1 : nI (160 + 3 * gN F 9) + 1 = nI (160 + 3 * gN F 9 + 1) := nI_1 _
      have e2 : nI (160 + 3 * gN F 9) + 2 = nI (160 + 3 * gN F 9 + 2) := nI_add _ 2
      rw [e1, e2, nI_clamp (n := 160 + 3 * gN F 9) (by omega), nI_clamp (n := 160 + 3 * gN F 9 + 1) (by omega), nI_clamp (n := 160 + 3 * gN F 9 + 2) (by omega)]
      refine m1.nx (by omega) (fun σ2 f2 m2 => ⟨rfl, ix_k (by omega) (by omega) (ix_k (by omega) (by omega) ?_)⟩)
      have m2' := (m2.w (k := 160 + 3 * gN F 9) (v := nI mm) (by omega)).w (k := 160 + 3 * gN F 9 + 1) (v := nI ss) (by omega)
      have g2 := ((f1.trans f2).w (z := nI mm) (g63 (k := 160 + 3 * gN F 9))).w (z := nI ss) (g63 (k := 160 + 3 * gN F 9 + 1))
      refine c173 (o := 27) (lo := 0) (hi := 99) (by omega) (by omega) rfl rfl (by omega) (by omega) m2' (fun f p hf hK σ3 f3 m3 => ⟨_, rfl, ix_k (by omega) (by omega) ?_⟩) (fun v c3 v1 v2 hK3 σ3 f3 m3 => ⟨_, rfl, ix_k (by omega) (by omega) ?_⟩)
      · exact ff_end qf (E3.trans (hK _)) hf ((g2.trans f3).w g63) m3.w
      have E4 := E3.trans (hK3 _)
      have m3' := m3.w (k := 160 + 3 * gN F 9 + 2) (v := nI v) (by omega)
      show (if (m2_wI σ3 63 0 (160 + 3 * gN F 9 + 2) (nI v)).1 13 0 13 = 0 then Q none (m2_wI (m2_wI σ3 63 0 (160 + 3 * gN F 9 + 2) (nI v)) 63 0 9 ((m2_wI σ3 63 0 (160 + 3 * gN F 9 + 2) (nI v)).1 63 0 9 + 1)) else _)
      rw [m3'.h13, m3'.row (k := 9) (by omega), updR_ne (by omega), updR_ne (by omega), updR_ne (by omega), b9.2, nI_1]
      refine if_y rfl ?_
      exact qt _ _ _ _ E4 (((g2.trans f3).w g63).w g63) (m3'.w (by omega))
    | succ mmm ih =>
      intro j hj ha
      refine w186_43 hC ?_
      have ea : 160 + (3 * nI j) = nI (160 + 3 * j) := by rw [l160, l3, nI_mul, nI_add]
      rw [r9 m1, m1.h13, ea, nI_1 (160 + 3 * j), nI_1 j, nI_clamp (n := 160 + 3 * j) (by omega), nI_clamp (n := 160 + 3 * j + 1) (by omega), m1.row (k := 160 + 3 * j) (by omega), m1.row (k := 160 + 3 * j + 1) (by omega)]
      refine if_y (nI_lt (by omega) (by omega)) (if_y rfl (ix_k (by omega) (by omega) ?_))
      refine if_c (fun z => ix_k (by omega) (by omega) ?_) (fun z => ?_)
      · refine if_c (fun z1 => ?_) (fun z1 => ?_)
        · have hd' : dup F mm ss (gN F 9) = true := by
            unfold dup
            rw [al_f (k := j) (by omega) (by show (!(decide (F (160 + 3 * j) = nI mm) && decide (F (160 + 3 * j + 1) = nI ss))) = false; rw [decide_eq_true z, decide_eq_true z1]; rfl)]; rfl
          refine c161k (by omega) m1 (f := 3) rfl m1.at (fun σ2 f2 m2 => ⟨rfl, ?_⟩)
          exact fl mmm _ _ (j + 1) σ2 3 _ (by omega) (f1.trans (f2.weak gFw_R)) m2 (by rw [f2.1 _ _ _ rfl]; exact r9 m1) (by omega) (E2.trans (if_pos hd'))
        · refine ih (j + 1) (by omega) ?_
          show (al _ j && !(decide (F (160 + 3 * j) = nI mm) && decide (F (160 + 3 * j + 1) = nI ss))) = true
          rw [ha, decide_eq_false z1, Bool.and_false]; rfl
      · refine ih (j + 1) (by omega) ?_
        show (al _ j && !(decide (F (160 + 3 * j) = nI mm) && decide (F (160 + 3 * j + 1) = nI ss))) = true
        rw [ha, decide_eq_false z, Bool.false_and]; rfl
  exact loop (gN F 9) 0 (by omega) rfl
theorem c187 (hd : 11 ≤ d) (h : MR σ T n c F N) (hP : PV F N) (qf : MFc σ (if F 181 = 0 then (if F 0 = 0 then .inl (6, tA T n c) else lEnd T n F N (nx T n c)) else .inl (3, tA T n c)) Q) (qt : MSc T n σ (if F 181 = 0 then (if F 0 = 0 then .inl (6, tA T n c) else lEnd T n F N (nx T n c)) else .inl (3, tA T n c)) Q) (h0' : F 181 ≠ 0 → F 0 ≠ 0) : CL L xs d 187 [vr 13 0] σ Q := by
  refine cl_at p187 (by omega) (w187_0 hC ?_)
  rw [h.row (by omega)]
  obtain ⟨j1, e1⟩ := gn_in hP.1.2.1.2.2.2.2
  have b6 := hP.1.cP.1
  have b4 := hP.1.cT
  by_cases z : F 181 = 0
  · rw [if_pos z] at qf qt
    refine if_n (by rw [z]; decide) ?_
    refine w187_20 hC ?_
    rw [h.row (by omega)]
    by_cases z0 : F 0 = 0
    · rw [if_pos z0] at qf qt
      refine if_y z0 ?_
      refine c161 (by omega) h (f := 6) rfl h.at (fun σ' f' m' => ⟨rfl, ?_⟩)
      exact ff_end qf rfl (by omega) f' m'
    rw [if_neg z0] at qf qt
    refine if_n z0 ?_
    rw [h.h13]
    refine if_y rfl ?_
    refine h.nx (by omega) (fun σ1 f1 m1 => ⟨rfl, ?_⟩)
    -- failed loops
    have fl : ∀ mm x1 j σ1 f p, j + mm = gN F 4 → fr gRd σ σ1 → FM σ1 f p → σ1.1 63 0 4 = nI (gN F 4) → f ≠ 0 → lEnd T n F N (nx T n c) = .inl (f, p) → g187_62 L xs (CL L xs (d - 1)) Q x1 (nI j) σ1 := by
      intro mm
      induction mm with
      | zero =>
        intro x1 j σ1 f p hj g m e4 hf E
        refine w187_62 hC ?_
        rw [e4, m.1]
        refine if_n (nI_nlt (by omega) (by omega)) (if_n (by decide) ?_)
        exact w187_147 hC (ff_end qf E hf g m)
      | succ mm ih =>
        intro x1 j σ1 f p hj g m e4 hf E
        have st : g187_99 L xs (CL L xs (d - 1)) Q x1 (nI j) σ1 := by
          refine w187_99 hC ?_
          have ea : 182 + nI j = nI (182 + j) := nI_add 182 j
          rw [ea, nI_1, nI_clamp (by omega)]
          refine c172f (by omega) m ⟨_, rfl, ix_k (by omega) (by omega) ?_⟩
          exact ih x1 (j + 1) _ f p (by omega) (g.w g63) m.w (by rw [wI_k (by omega)]; exact e4) hf E
        refine w187_62 hC ?_
        rw [e4, m.1]
        refine if_y (nI_lt (by omega) (by omega)) ?_
        exact if_c (fun _ => if_n (by decide) st) (fun _ => st)
    have r4 : ∀ {σ1 : M2} {c1 : Nat} {F1 : Nat → Int32} {N1 : Nat → Nat}, MR σ1 T n c1 F1 N1 → F1 4 = F 4 → σ1.1 63 0 4 = nI (gN F 4) := fun m e => by rw [m.row (by omega), e]; exact b4.2
    refine c169k (lo := 13) (hi := 16) (by omega) rfl rfl (by omega) (by omega) m1 (fun f hf hK σ2 f2 m2 => ⟨_, rfl, ?_⟩) (fun p p1 p2 hK1 σ2 f2 m2 => ⟨_, rfl, ?_⟩)
    · exact fl (gN F 4) _ 0 σ2 f _ (by omega) (f1.trans (f2.weak gFw_R)) m2 (by rw [f2.1 _ _ _ rfl]; exact r4 m1 rfl) hf (hK _)
    have hp := hP.2.1.pl p1 p2
    have t0 : gN F 4 ≠ 0 := fun w => by have := hP.2.2.2.1 w; have := hP.2.2.2.2 this; omega
    have E1 : lEnd T n F N (nx T n c) = pEs T n N p (gN F 4) 0 F (nx T n (nx T n c)) := hK1 _
    have g2 := f1.trans f2
    have loop : ∀ mm t F1 c1 σ3, t + mm = gN F 4 → MR σ3 T n c1 F1 N → fr gRd σ σ3 → F1 4 = F 4 → lEnd T n F N (nx T n c) = pEs T n N p mm t F1 c1 → g187_62 L xs (CL L xs (d - 1)) Q (nI p) (nI t) σ3 := by
      intro mm
      induction mm with
      | zero =>
        intro t F1 c1 σ3 ht m3 g3 e4 E
        have E' : lEnd T n F N (nx T n c) = .inr (c1, updR F1 181 (nI (p + 1)), N) := E.trans (by cases t <;> rfl)
        refine w187_62 hC ?_
        rw [r4 m3 e4, m3.h13]
        refine if_n (nI_nlt (by omega) (by omega)) (if_y rfl (if_n (fun w => t0 ((nI_eq (b := 0) (by omega) (by omega)).mp w)) ?_))
        refine w187_147 hC ?_
        rw [m3.h13, nI_1]
        refine if_y rfl ?_
        exact qt _ _ _ _ E' (g3.w g63) (m3.w (by omega))
      | succ mm ih =>
        intro t F1 c1 σ3 ht m3 g3 e4 E
        have step : ∀ c2 σ4, MR σ4 T n c2 F1 N → fr gRd σ σ4 → lEnd T n F N (nx T n c) = pN T n 0 9 c2 (fun v c => pEs T n N p mm (t + 1) (updR F1 (182 + t) (nI v)) c) → g187_99 L xs (CL L xs (d - 1)) Q (nI p) (nI t) σ4 := by
          intro c2 σ4 m4 g4 E4
          refine w187_99 hC ?_
          have ea : 182 + nI t = nI (182 + t) := nI_add 182 t
          rw [ea, nI_1, nI_clamp (by omega)]
          refine c172k (lo := 0) (hi := 9) (by omega) rfl rfl (by omega) (by omega) m4 (fun f hf hK σ5 f5 m5 => ⟨_, rfl, ix_k (by omega) (by omega) ?_⟩) (fun v v1 v2 hK5 σ5 f5 m5 => ⟨_, rfl, ix_k (by omega) (by omega) ?_⟩)
          · exact fl mm _ (t + 1) _ f _ (by omega) ((g4.trans (f5.weak gFw_R)).w g63) m5.w (by rw [wI_k (by omega), f5.1 _ _ _ rfl]; exact r4 m4 e4) hf (E4.trans (hK _))
          · exact ih (t + 1) _ _ _ (by omega) (m5.w (by omega)) ((g4.trans f5).w g63) (by rw [updR_ne (by omega)]; exact e4) (E4.trans (hK5 _))
        refine w187_62 hC ?_
        rw [r4 m3 e4, m3.h13]
        refine if_y (nI_lt (by omega) (by omega)) ?_
        match t, ht, E, step with
        | 0, ht, E, step => exact if_n (by decide) (step c1 σ3 m3 g3 E)
        | t + 1, ht, E, step =>
          refine if_y (nI_lt (a := 0) (by omega) (by omega)) (if_y rfl ?_)
          refine c174 (by omega) m3 (fun z4 => ⟨_, rfl, if_y rfl ?_⟩) (fun z4 σ4 f4 m4 => ⟨_, rfl, if_n (by decide) ?_⟩)
          · refine c161k (by omega) m3 (f := 1) rfl m3.at (fun σ4 f4 m4 => ⟨rfl, ?_⟩)
            refine w187_99 hC ?_
            have ea : 182 + nI (t + 1) = nI (182 + (t + 1)) := nI_add 182 (t + 1)
            rw [ea, nI_1, nI_clamp (by omega)]
            refine c172f (by omega) m4 ⟨_, rfl, ix_k (by omega) (by omega) ?_⟩
            exact fl mm _ (t + 1 + 1) _ 1 _ (by omega) ((g3.trans (f4.weak gFw_R)).w g63) m4.w (by rw [wI_k (by omega), f4.1 _ _ _ rfl]; exact r4 m3 e4) (by omega) (E.trans (if_neg z4))
          · exact step _ σ4 m4 (g3.trans f4) (E.trans (if_pos z4))
    exact loop (gN F 4) 0 F _ σ2 (by omega) m2 g2 rfl E1
  · rw [if_neg z] at qf qt
    have jne : gN F 181 ≠ 0 := fun w => z (by rw [e1, w]; rfl)
    refine if_y (by rw [e1]; exact nI_lt (a := 0) (by omega) (by omega)) ?_
    refine c161k (by omega) h (f := 3) rfl h.at (fun σ' f' m' => ⟨rfl, ?_⟩)
    refine w187_20 hC ?_
    rw [f'.1 63 0 0 rfl, h.row (by omega)]
    exact if_n (h0' z) (ff_end qf rfl (by omega) (f'.weak gFw_R) m')
end MTEL
