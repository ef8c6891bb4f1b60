/-! CALLS: bears, made, madeAt -/
theorem mkc_2 {R : Nat → Int32} {C : Nat → Bool} {P : Pl} : mkc R C P (-2) = P := if_pos rfl
theorem hm2_22 {R : Nat → Int32} {C : Nat → Bool} {P : Pl} : hm2 R C P (-2) (-2) = hm R P := by unfold hm2; rw [mkc_2, mkc_2]
theorem hm2_2 {R : Nat → Int32} {C : Nat → Bool} {P : Pl} {x : Int32} : hm2 R C P x (-2) = hm R (mkc R C P x) := by unfold hm2; rw [mkc_2]
def bearL (R : Nat → Int32) (C : Nat → Bool) (P : Pl) (w : Int32) : Nat → Nat → Bool
  | 0, _ => true
  | m + 1, k => if fit R C P k = true then (if w < hm2 R C P (nI k) (-2) then false else bearL R C P w m (k + 1)) else bearL R C P w m (k + 1)
def bear (R : Nat → Int32) (C : Nat → Bool) (P : Pl) (lim : Int32) : Bool := if lim < hm R P then false else bearL R C P (hm R P) (gN R 7) 0
def pfs {α : Type} (R : Nat → Int32) (F : Pl → Option α) (P : Pl) : Option (Nat × α) := fs (fun k => fs (fun e => (F (pIns P k (2 * e))).map (fun v => (10 * k + e, v))) (gN R 5) 0) (P.1 + 1) 0
def brF (R : Nat → Int32) (C : Nat → Bool) (lim : Int32) (P : Pl) : Option Unit := if bear R C P lim = true then some () else none
def f1 (R : Nat → Int32) (C : Nat → Bool) (lim : Int32) (P : Pl) : Option (Nat × Unit) := pfs R (brF R C lim) P
def f2 (R : Nat → Int32) (C : Nat → Bool) (lim : Int32) (P : Pl) : Option (Nat × (Nat × Unit)) := pfs R (f1 R C lim) P
def mkd (R : Nat → Int32) (C : Nat → Bool) (P : Pl) : Int32 × Int32 × Int32 := if bear R C P (hm R P) = true then (0, 0, 0) else match f1 R C (hm R P) P with
  | some v => (1, nI v.1, 0)
  | none => match f2 R C (hm R P) P with
    | some v => (2, nI v.1, nI v.2.1)
    | none => (-2, 0, 0)
def a_bears (R : Nat → Int32) (C : Nat → Bool) (p : Int32) : Int32 × Int32 := if inn p (R 6) = true then (bI (bear R C (plR R p.toNatClampNeg) 1000000), 0) else no1
def a_made (R : Nat → Int32) (C : Nat → Bool) (p : Int32) : Int32 × Int32 := if inn p (R 6) = true then ((mkd R C (plR R p.toNatClampNeg)).1, 0) else no1
def a_madeAt (R : Nat → Int32) (C : Nat → Bool) (p i : Int32) : Int32 × Int32 := if inn p (R 6) = true then (if inn i (mkd R C (plR R p.toNatClampNeg)).1 = true then ((if i = 0 then (mkd R C (plR R p.toNatClampNeg)).2.1 else (mkd R C (plR R p.toNatClampNeg)).2.2), 0) else no1) else no1
/-- a search's place is small -/
theorem pfs_b {α : Type} {R : Nat → Int32} {F : Pl → Option α} {P : Pl} {v : Nat × α} (h : pfs R F P = some v) : v.1 < 10 * (P.1 + 1) + gN R 5 := by
  obtain ⟨k, -, hk, e⟩ := fs_some h
  obtain ⟨j, -, hj, e2⟩ := fs_some e
  cases e3 : F (pIns P k (2 * j)) with
  | none => rw [e3] at e2; cases e2
  | some w => rw [e3] at e2; cases e2; show 10 * k + j < _; omega
def fMk (p : Nat) : Nat → Nat → Nat → Bool := fun t i k => fRn t i k || (((t == 10 || t == 52 || t == 53) && (i == 9 || i == 10)) || ((t == 32 || t == 33 || t == 34 || t == 35) && k == p))
def fSt2 : Nat → Nat → Nat → Bool := fun t i k => fRn t i k || ((t == 10 || t == 52 || t == 53) && (i == 9 || i == 10))
theorem fRn_S2 : ∀ t i k, fRn t i k = true → fSt2 t i k = true := fun t i k h => by unfold fSt2; rw [h]; rfl
theorem fS2_Mk {p : Nat} : ∀ t i k, fSt2 t i k = true → fMk p t i k = true := fun t i k h => by
  unfold fSt2 at h
  unfold fMk
  rcases Bool.or_eq_true_iff.mp h with h | h
  · rw [h]; rfl
  · rw [h]; simp
theorem fS2_O : ∀ t i k, fSt2 t i k = true → fO t i k = true := by
  intro t i k h
  unfold fSt2 at h
  rcases Bool.or_eq_true_iff.mp h with h | h
  · exact fRn_O t i k h
  · unfold fO
    simp only [Bool.or_eq_true, Bool.and_eq_true, beq_iff_eq, decide_eq_true_eq] at *
    omega
theorem fMk_k {p : Nat} : ∀ t i k, kpX t i = true → fMk p t i k = false := by
  intro t i k h
  have h0 := fRn_k t i k h
  unfold kpX at h
  unfold fMk
  rw [h0]
  simp only [Bool.or_eq_true, Bool.and_eq_true, beq_iff_eq, decide_eq_true_eq] at h
  simp only [Bool.false_or, Bool.or_eq_false_iff, Bool.and_eq_false_iff, beq_eq_false_iff_ne, ne_eq]
  omega
theorem fS_S2 {o : Nat} (ho : o = 9 ∨ o = 10) : ∀ t i k, fS o t i k = true → fSt2 t i k = true := by
  intro t i k h
  unfold fS at h
  unfold fSt2
  simp only [Bool.or_eq_true, Bool.and_eq_true, beq_iff_eq] at *
  omega
theorem vS_Rn {σ σ' : M2} {o : Nat} {p : Pl} (ho : o ≠ 8) (hf : fr fRn σ σ') (hv : vS σ.1 o p) : vS σ'.1 o p := vS_fr hf (fun k => ⟨by simp [fRn, ho], by simp [fRn, ho], by simp [fRn, ho]⟩) hv
theorem vS_S2 {σ σ' : M2} {o : Nat} {p : Pl} (ho : o < 8) (hf : fr fSt2 σ σ') (hv : vS σ.1 o p) : vS σ'.1 o p := vS_O ho (hf.weak fS2_O) hv
section OP7
variable {L : Nat} {xs : Nat → Int32} {d : Nat} {Q : Option dm_V → M2 → Prop} {σ : M2} {μ : Nat} {R : Nat → Int32} {C : Nat → Bool} {h : Bool}
theorem S2_k : ∀ t i k, kpX t i = true → fSt2 t i k = false := fun t i k h => by
  cases e : fSt2 t i k
  · rfl
  · have := fO_k t i k h
    rw [fS2_O t i k e] at this; cases this
theorem c60 (hd : 8 ≤ d) {o : Nat} {P : Pl} {lim : Int32} (hX : cX σ μ R C) (hv : vS σ.1 o P) (ho : o ≠ 8) (hp : okP R 8 P) (q : ∀ σ', fr fRn σ σ' → Q (some (vi (bI (bear R C P lim)))) σ') : CL L xs d 60 [vr 8 0, vr 10 o, vi lim] σ Q := by
  refine cl_at p60 (by omega) (w60_0 hC ?_)
  have hS := hX.ok.cS
  refine c56 (most := 12) (by omega) hX hv ho hp isC_2 isC_2 rfl (by omega) (fun σ1 g1 _ _ e5 => ⟨rfl, ?_⟩)
  rw [mkc_2, mkc_2] at e5
  have e5 : σ1.1 8 0 5 = hm R P := e5
  rw [e5]
  unfold bear at q
  refine if_c (fun z => ?_) (fun z => ?_)
  · rw [if_pos z] at q; exact q σ1 g1
  rw [if_neg z] at q
  have loop : ∀ m k σ2, k + m = gN R 7 → fr fRn σ σ2 → (∀ σ', fr fRn σ σ' → Q (some (vi (bI (bearL R C P (hm R P) m k)))) σ') → g60_26 L xs (CL L xs (d - 1)) Q o (hm R P) (nI k) σ2 := by
    intro m
    induction m with
    | zero =>
      intro k σ2 hk g2 q
      obtain rfl : k = gN R 7 := hk
      have X2 := hX.fr fRn_k g2
      refine w60_26 hC ?_
      rw [X2.r8, X2.cnt.2.2.2.2.1, hS.2]
      exact if_nlt (Nat.le_refl _) (by omega) (q σ2 g2)
    | succ m ih =>
      intro k σ2 hk g2 q
      have X2 := hX.fr fRn_k g2
      refine w60_26 hC ?_
      rw [X2.r8, X2.cnt.2.2.2.2.1, hS.2, nI_1]
      refine if_lt (by omega) (by omega) ?_
      refine c53 (by omega) rfl X2 (vS_Rn ho g2 hv) (hp.up (by omega)) (by omega) ⟨_, rfl, ?_⟩
      unfold bearL at q
      refine if_b (fun z => ?_) (fun z => ?_)
      · rw [if_neg (by unfold fit; rw [z]; decide)] at q
        exact ih (k + 1) σ2 (by omega) g2 q
      rw [if_pos (by unfold fit; exact z)] at q
      refine c56 (most := 12) (by omega) X2 (vS_Rn ho g2 hv) ho hp (isC_s (by omega)) isC_2 rfl (by omega) (fun σ3 g3 _ _ e3 => ⟨rfl, ?_⟩)
      rw [mkc_2] at e3
      have e3 : σ3.1 8 0 5 = hm2 R C P (nI k) (-2) := by rw [hm2_2]; exact e3
      rw [e3]
      refine if_c (fun z => ?_) (fun z => ?_)
      · rw [if_pos z] at q; exact q σ3 (g2.trans g3)
      · rw [if_neg z] at q; exact ih (k + 1) σ3 (by omega) (g2.trans g3) q
  exact loop _ 0 σ1 (Nat.zero_add _) g1 q
/-- a deed put in behind a copy -/
theorem c_put (hd : 4 ≤ d) {o o' k e : Nat} {P : Pl} (ho : o' ≠ o) (hv : vS σ.1 o' P) (hP : P.1 < 12) (hk : k ≤ P.1) (q : ∀ σ', fr (fS o) σ σ' → vS σ'.1 o (pIns P k (2 * e)) → Q none σ') : CL L xs d 65 [vr 10 o, vr 10 o'] σ (fun r σ1 => r = none ∧ CL L xs d 66 [vr 10 o, vi (nI k), vi (nI e), vi 0] σ1 Q) := by
  refine c65 hd ho hv (by omega) (fun σ1 g1 v1 => ⟨rfl, ?_⟩)
  exact c66 (k := k) (c := 2 * e) hd rfl (by rw [Nat.mul_div_cancel_left _ (by omega)]) (by rw [Nat.mul_mod_right]; rfl) v1 hP hk (fun σ2 g2 v2 => q σ2 (g1.trans g2) v2)
theorem c23 (hd : 9 ≤ d) {P : Pl} {lim : Int32} (hX : cX σ μ R C) (hv : vS σ.1 9 P) (hp : okP R 7 P) (q : ∀ σ', fr fSt2 σ σ' → vS σ'.1 9 P → Q (some (vi (oI ((f1 R C lim P).map Prod.fst) (-1)))) σ') : CL L xs d 23 [vr 4 0, vr 8 0, vi lim] σ Q := by
  refine cl_at p23 (by omega) (w23_0 hC ?_)
  have hD := hX.ok.cD
  have h7 := hp.1
  unfold f1 pfs at q
  refine dm_fs (n := P.1 + 1) (fun k => fs (fun e => (brF R C lim (pIns P k (2 * e))).map (fun v => (10 * k + e, v))) (gN R 5) 0) (fun k σ => g23_2 L xs (CL L xs (d - 1)) Q lim (nI k) σ) (fun v σ => Q (some (vi (nI v.1))) σ) (fun σ' => fr fSt2 σ σ' ∧ vS σ'.1 9 P) ?_ _ 0 σ (Nat.zero_add _) ⟨fr.id, hv⟩ ?_ ?_
  · rintro k σ1 hk ⟨g1, v1⟩ no yes
    refine w23_2 hC ?_
    rw [v1.1]
    refine if_nlt (by omega) (by omega) ?_
    refine dm_fs (n := gN R 5) (fun e => (brF R C lim (pIns P k (2 * e))).map (fun v => (10 * k + e, v))) (fun e σ => g23_16 L xs (CL L xs (d - 1)) Q lim (nI k) (nI e) σ) (fun v σ => Q (some (vi (nI v.1))) σ) (fun σ' => fr fSt2 σ σ' ∧ vS σ'.1 9 P) ?_ _ 0 σ1 (Nat.zero_add _) ⟨g1, v1⟩ ?_ ?_
    · rintro e σ2 he ⟨g2, v2⟩ no2 yes2
      have X2 := hX.fr S2_k g2
      refine w23_16 hC ?_
      rw [X2.r8, X2.cnt.2.2.1, hD.2, nI_1]
      refine if_lt he (by omega) ?_
      refine c_put (o := 10) (o' := 9) (by omega) (by decide) v2 (by omega) (by omega) (fun σ3 g3 v3 => ⟨rfl, ?_⟩)
      have g3' := g2.trans (g3.weak (fS_S2 (Or.inr rfl)))
      refine c60 (by omega) (hX.fr S2_k g3') v3 (by decide) (hp.ins (by omega) he) (fun σ4 g4 => ⟨_, rfl, ?_⟩)
      have g4' := g3'.trans (g4.weak fRn_S2)
      have v4 : vS σ4.1 9 P := vS_Rn (by decide) g4 (vS_fr g3 (fun _ => ⟨fS_ne (by decide), fS_ne (by decide), fS_ne (by decide)⟩) v2)
      unfold brF at no2 yes2
      refine if_b (fun z => ?_) (fun z => ?_)
      · exact no2 (by rw [z]; rfl) σ4 ⟨g4', v4⟩
      · have y := yes2 (10 * k + e, ()) (by rw [z]; rfl) σ4 ⟨g4', v4⟩
        rw [l10, nI_mul, nI_add]; exact y
    · rintro e σ2 ⟨g2, v2⟩
      have X2 := hX.fr S2_k g2
      refine w23_16 hC ?_
      rw [X2.r8, X2.cnt.2.2.1, hD.2, nI_1 k]
      exact if_nlt (Nat.le_refl _) (by omega) (no e σ2 ⟨g2, v2⟩)
    · exact fun v e σ2 g2 => yes v e σ2 g2
  · rintro e σ1 ⟨g1, v1⟩
    refine w23_2 hC ?_
    rw [v1.1]
    refine if_lt (by omega) (by omega) ?_
    have q := q σ1 g1 v1
    rw [e] at q
    exact q
  · rintro v e σ1 ⟨g1, v1⟩
    have q := q σ1 g1 v1
    rw [e] at q
    exact q
theorem c21 (hd : 9 ≤ d) {p : Nat} {lim x2 : Int32} (h2 : x2 = nI p) (hX : cX σ μ R C) (hp : p < gN R 6) (q0 : f1 R C lim (plR R p) = none → ∀ σ', fr fSt2 σ σ' → Q (some (vi 0)) σ') (q1 : ∀ v, f1 R C lim (plR R p) = some v → ∀ σ', fr (fMk p) σ σ' → σ'.1 34 0 p = nI v.1 → σ'.1 32 0 p = σ.1 32 0 p → Q (some (vi 1)) σ') : CL L xs d 21 [vr 4 0, vr 8 0, vi x2, vi lim] σ Q := by
  subst h2
  refine cl_at p21 (by omega) (w21_0 hC ?_)
  have hP := hX.ok.cP.1
  have hm := hX.mu
  have hD := hX.ok.cD
  have hk := hX.ok.pl hp
  have h6 := hk.1
  have hv := hX.pln p hp
  have ho : 4 * μ + p < 8 := by omega
  rw [hX.r8, nI_clamp (by omega)]
  refine ix_k (by omega) (by omega) ?_
  refine dm_fs (n := (plR R p).1 + 1) (fun k => fs (fun e => (brF R C lim (pIns (plR R p) k (2 * e))).map (fun v => (10 * k + e, v))) (gN R 5) 0) (fun k σ => g21_14 L xs (CL L xs (d - 1)) Q (nI p) lim (4 * μ + p) (nI k) σ) (fun v σ' => Q (some (vi 1)) (m2_wI σ' 34 0 p (nI v.1))) (fun σ' => fr fSt2 σ σ') ?_ _ 0 σ (Nat.zero_add _) fr.id ?_ ?_
  · intro k σ1 hk1 g1 no yes
    have v1 := vS_S2 ho g1 hv
    refine w21_14 hC ?_
    rw [v1.1]
    refine if_nlt (by omega) (by omega) ?_
    refine dm_fs (n := gN R 5) (fun e => (brF R C lim (pIns (plR R p) k (2 * e))).map (fun v => (10 * k + e, v))) (fun e σ => g21_27 L xs (CL L xs (d - 1)) Q (nI p) lim (4 * μ + p) (nI k) (nI e) σ) (fun v σ' => Q (some (vi 1)) (m2_wI σ' 34 0 p (nI v.1))) (fun σ' => fr fSt2 σ σ') ?_ _ 0 σ1 (Nat.zero_add _) g1 ?_ ?_
    · intro e σ2 he g2 no2 yes2
      have X2 := hX.fr S2_k g2
      have v2 := vS_S2 ho g2 hv
      refine w21_27 hC ?_
      rw [X2.r8, X2.cnt.2.2.1, hD.2, nI_1, nI_clamp (n := p) (by omega)]
      refine if_lt he (by omega) ?_
      refine c_put (o := 9) (by omega) (by omega) v2 (by omega) (by omega) (fun σ3 g3 v3 => ⟨rfl, ?_⟩)
      have g3' := g2.trans (g3.weak (fS_S2 (Or.inl rfl)))
      refine c60 (by omega) (hX.fr S2_k g3') v3 (by decide) ((hk.ins (by omega) he).up (by omega)) (fun σ4 g4 => ⟨_, rfl, ?_⟩)
      have g4' := g3'.trans (g4.weak fRn_S2)
      unfold brF at no2 yes2
      refine if_b (fun z => ?_) (fun z => ?_)
      · exact no2 (by rw [z]; rfl) σ4 g4'
      · have y := yes2 (10 * k + e, ()) (by rw [z]; rfl) σ4 g4'
        rw [l10, nI_mul, nI_add]; exact ix_k (by omega) (by omega) y
    · intro e σ2 g2
      have X2 := hX.fr S2_k g2
      refine w21_27 hC ?_
      rw [X2.r8, X2.cnt.2.2.1, hD.2, nI_1 k]
      exact if_nlt (Nat.le_refl _) (by omega) (no e σ2 g2)
    · exact fun v e σ2 g2 => yes v e σ2 g2
  · intro e σ1 g1
    have v1 := vS_S2 ho g1 hv
    refine w21_14 hC ?_
    rw [v1.1]
    exact if_lt (by omega) (by omega) (q0 e σ1 g1)
  · intro v e σ1 g1
    exact q1 v e _ ((g1.weak fS2_Mk).w (by simp [fMk])) wI_same (by rw [wI_t (by decide), g1.1 _ _ _ rfl])
theorem c22 (hd : 10 ≤ d) {p : Nat} {lim x2 : Int32} (h2 : x2 = nI p) (hX : cX σ μ R C) (hp : p < gN R 6) (q0 : f2 R C lim (plR R p) = none → ∀ σ', fr fSt2 σ σ' → Q (some (vi 0)) σ') (q1 : ∀ v, f2 R C lim (plR R p) = some v → ∀ σ', fr (fMk p) σ σ' → σ'.1 34 0 p = nI v.1 → σ'.1 35 0 p = nI v.2.1 → σ'.1 32 0 p = σ.1 32 0 p → Q (some (vi 1)) σ') : CL L xs d 22 [vr 4 0, vr 8 0, vi x2, vi lim] σ Q := by
  subst h2
  refine cl_at p22 (by omega) (w22_0 hC ?_)
  have hP := hX.ok.cP.1
  have hm := hX.mu
  have hD := hX.ok.cD
  have hk := hX.ok.pl hp
  have h6 := hk.1
  have hv := hX.pln p hp
  have ho : 4 * μ + p < 8 := by omega
  rw [hX.r8, nI_clamp (by omega)]
  refine ix_k (by omega) (by omega) ?_
  refine dm_fs (n := (plR R p).1 + 1) (fun k => fs (fun e => (f1 R C lim (pIns (plR R p) k (2 * e))).map (fun v => (10 * k + e, v))) (gN R 5) 0) (fun k σ => g22_14 L xs (CL L xs (d - 1)) Q (nI p) lim (4 * μ + p) (nI k) σ) (fun v σ' => Q (some (vi 1)) (m2_wI (m2_wI σ' 34 0 p (nI v.1)) 35 0 p (nI v.2.1))) (fun σ' => fr fSt2 σ σ') ?_ _ 0 σ (Nat.zero_add _) fr.id ?_ ?_
  · intro k σ1 hk1 g1 no yes
    have v1 := vS_S2 ho g1 hv
    refine w22_14 hC ?_
    rw [v1.1]
    refine if_nlt (by omega) (by omega) ?_
    refine dm_fs (n := gN R 5) (fun e => (f1 R C lim (pIns (plR R p) k (2 * e))).map (fun v => (10 * k + e, v))) (fun e σ => g22_27 L xs (CL L xs (d - 1)) Q (nI p) lim (4 * μ + p) (nI k) (nI e) σ) (fun v σ' => Q (some (vi 1)) (m2_wI (m2_wI σ' 34 0 p (nI v.1)) 35 0 p (nI v.2.1))) (fun σ' => fr fSt2 σ σ') ?_ _ 0 σ1 (Nat.zero_add _) g1 ?_ ?_
    · intro e σ2 he g2 no2 yes2
      have X2 := hX.fr S2_k g2
      have v2 := vS_S2 ho g2 hv
      refine w22_27 hC ?_
      rw [X2.r8, X2.cnt.2.2.1, hD.2, nI_1, nI_clamp (n := p) (by omega)]
      refine if_lt he (by omega) ?_
      refine c_put (o := 9) (by omega) (by omega) v2 (by omega) (by omega) (fun σ3 g3 v3 => ⟨rfl, ?_⟩)
      have g3' := g2.trans (g3.weak (fS_S2 (Or.inl rfl)))
      have kp := hk.ins (e := e) (k := k) (by omega) he
      refine c23 (by omega) (hX.fr S2_k g3') v3 kp (fun σ4 g4 v4 => ⟨_, rfl, ?_⟩)
      have g4' := g3'.trans g4
      cases z : f1 R C lim (pIns (plR R p) k (2 * e)) with
      | none => exact if_y (by decide) (no2 (by rw [z]; rfl) σ4 g4')
      | some v =>
        have hb := pfs_b z
        have h7 : (pIns (plR R p) k (2 * e)).1 ≤ 7 := kp.1
        refine if_n (nI_pos (by omega)) ?_
        have y := yes2 (10 * k + e, v) (by rw [z]; rfl) σ4 g4'
        rw [l10, nI_mul, nI_add]
        exact ix_k (by omega) (by omega) (ix_k (by omega) (by omega) y)
    · intro e σ2 g2
      have X2 := hX.fr S2_k g2
      refine w22_27 hC ?_
      rw [X2.r8, X2.cnt.2.2.1, hD.2, nI_1 k]
      exact if_nlt (Nat.le_refl _) (by omega) (no e σ2 g2)
    · exact fun v e σ2 g2 => yes v e σ2 g2
  · intro e σ1 g1
    have v1 := vS_S2 ho g1 hv
    refine w22_14 hC ?_
    rw [v1.1]
    exact if_lt (by omega) (by omega) (q0 e σ1 g1)
  · intro v e σ1 g1
    exact q1 v e _ (((g1.weak fS2_Mk).w (by simp [fMk])).w (by simp [fMk])) (by rw [wI_t (by decide), wI_same]) wI_same (by rw [wI_t (by decide), wI_t (by decide), g1.1 _ _ _ rfl])
/-- what the maker keeps of a plan -/
def mkH (σ : M2) (p : Nat) (m : Int32 × Int32 × Int32) : Prop := σ.1 33 0 p = m.1 ∧ (0 < m.1 → σ.1 34 0 p = m.2.1) ∧ (1 < m.1 → σ.1 35 0 p = m.2.2)
theorem c20 (hd : 11 ≤ d) {p : Nat} {x2 : Int32} (h2 : x2 = nI p) (hX : cX σ μ R C) (hp : p < gN R 6) (hm : σ.1 32 0 p = σ.1 1 0 2 → mkH σ p (mkd R C (plR R p))) (q : ∀ σ', fr (fMk p) σ σ' → σ'.1 32 0 p = σ.1 1 0 2 → mkH σ' p (mkd R C (plR R p)) → Q none σ') : CL L xs d 20 [vr 4 0, vr 8 0, vi x2] σ Q := by
  subst h2
  refine cl_at p20 (by omega) (w20_0 hC ?_)
  have hP := hX.ok.cP.1
  have hmu := hX.mu
  have hk := hX.ok.pl hp
  rw [nI_clamp (n := p) (by omega)]
  refine ix_k (by omega) (by omega) ?_
  refine if_c (fun z => q σ fr.id z (hm z)) (fun z => ix_k (by omega) (by omega) (ix_k (by omega) (by omega) ?_))
  have g1 : fr (fMk p) σ (m2_wI σ 32 0 p (σ.1 1 0 2)) := fr.id.w (by simp [fMk])
  have X1 := hX.fr fMk_k g1
  have e1 : (m2_wI σ 32 0 p (σ.1 1 0 2)).1 32 0 p = σ.1 1 0 2 := wI_same
  generalize m2_wI σ 32 0 p (σ.1 1 0 2) = σ1 at *
  rw [X1.r8]
  have o8 : 4 * μ + p ≠ 8 := by omega
  refine c59 (by omega) X1 (X1.pln p hp) o8 (hk.up (by omega)) isC_2 isC_2 (fun σ2 g2 => ⟨_, rfl, ?_⟩)
  rw [hm2_22]
  have X2 := X1.fr fRn_k g2
  refine c60 (by omega) X2 (X2.pln p hp) o8 (hk.up (by omega)) (fun σ3 g3 => ⟨_, rfl, ?_⟩)
  have g13 : fr fSt2 σ1 σ3 := (g2.trans g3).weak fRn_S2
  have X3 := X1.fr S2_k g13
  unfold mkd at q
  have fin : ∀ σ4 n, fr (fMk p) σ σ4 → σ4.1 32 0 p = σ.1 1 0 2 → fr (fMk p) σ (m2_wI σ4 33 0 p n) ∧ (m2_wI σ4 33 0 p n).1 32 0 p = σ.1 1 0 2 := fun σ4 n g4 e4 => ⟨g4.w (by simp [fMk]), by rw [wI_t (by decide)]; exact e4⟩
  have e3 : σ3.1 32 0 p = σ.1 1 0 2 := by rw [g13.1 _ _ _ rfl]; exact e1
  have f3 := g1.trans (g13.weak (fS2_Mk (p := p)))
  refine if_b (fun z1 => ?_) (fun z1 => ?_)
  · rw [if_neg (by rw [z1]; decide)] at q
    refine c21 (by omega) rfl X3 hp (fun e σ4 g4 => ⟨_, rfl, ?_⟩) (fun v e σ4 g4 h4 h32 => ⟨_, rfl, ?_⟩)
    · rw [e] at q
      refine if_y rfl ?_
      have X4 := X3.fr S2_k g4
      have f4 := f3.trans (g4.weak (fS2_Mk (p := p)))
      have e4 : σ4.1 32 0 p = σ.1 1 0 2 := by rw [g4.1 _ _ _ rfl]; exact e3
      refine c22 (by omega) rfl X4 hp (fun e σ5 g5 => ⟨_, rfl, ?_⟩) (fun v e σ5 g5 h5 h6 h32 => ⟨_, rfl, ?_⟩)
      · rw [e] at q
        refine if_y rfl (ix_k (by omega) (by omega) ?_)
        obtain ⟨a, b⟩ := fin σ5 (-2) (f4.trans (g5.weak (fS2_Mk (p := p)))) (by rw [g5.1 _ _ _ rfl]; exact e4)
        exact q _ a b ⟨wI_same, fun z => absurd z (by decide), fun z => absurd z (by decide)⟩
      · rw [e] at q
        refine if_n (by decide) (ix_k (by omega) (by omega) ?_)
        obtain ⟨a, b⟩ := fin σ5 2 (f4.trans g5) (by rw [h32]; exact e4)
        exact q _ a b ⟨wI_same, fun _ => by rw [wI_t (by decide)]; exact h5, fun _ => by rw [wI_t (by decide)]; exact h6⟩
    · rw [e] at q
      refine if_n (by decide) (ix_k (by omega) (by omega) ?_)
      obtain ⟨a, b⟩ := fin σ4 1 (f3.trans g4) (by rw [h32]; exact e3)
      exact q _ a b ⟨wI_same, fun _ => by rw [wI_t (by decide)]; exact h4, fun z => absurd (show (1 : Int32) < 1 from z) (by decide)⟩
  · rw [if_pos z1] at q
    refine ix_k (by omega) (by omega) ?_
    obtain ⟨a, b⟩ := fin σ3 0 f3 e3
    exact q _ a b ⟨wI_same, fun z => absurd z (by decide), fun z => absurd z (by decide)⟩
theorem o116 (hd : 9 ≤ d) {p : Int32} (hX : cX σ μ R C) (q : ∀ σ', cG σ σ' (a_bears R C p).2 → Q (some (vi (a_bears R C p).1)) σ') : CL L xs d 116 [vr 12 0, vi p] σ Q := by
  refine cl_at p116 (by omega) (w116_0 hC ?_)
  refine c85 (s := 4) (by omega) rfl (by omega) hX hX.cnt.2.2.2.1 ⟨_, rfl, ?_⟩
  unfold a_bears at q
  refine if_b (fun z => ?_) (fun z => ?_)
  · rw [if_neg (by rw [z]; decide)] at q
    exact c81 (by omega) fr.id q
  rw [if_pos z] at q
  obtain ⟨hp, ep, hp4, ho, hv, hk⟩ := pl_in hX z
  refine ix_x hp4 ep (by omega) ?_
  rw [hX.r12]
  refine c60 (by omega) hX hv (by omega) hk (fun σ1 g1 => ⟨_, rfl, ?_⟩)
  refine if_b (fun z => ?_) (fun z => ?_)
  · rw [z] at q; exact c83 (by omega) (g1.weak fRn_O) q
  · rw [z] at q; exact c83 (by omega) (g1.weak fRn_O) q
/-- frame of a call that may use the maker -/
def cGm (p : Nat) (σ σ' : M2) (tr : Int32) : Prop := fr (fun t i k => fO t i k || fMk p t i k) σ σ' ∧ σ'.1 12 0 13 = tr
def fOM (p : Nat) : Nat → Nat → Nat → Bool := fun t i k => fO t i k || fMk p t i k
theorem cG_m {p : Nat} {σ σ' : M2} {tr : Int32} (h : cG σ σ' tr) : cGm p σ σ' tr := ⟨h.1.weak (fun t i k z => by show (fO t i k || fMk p t i k) = true; rw [z]; rfl), h.2⟩
theorem w_m {p : Nat} {σ σ1 : M2} (h : fr (fMk p) σ σ1) {w : Int32} : cGm p σ (m2_wI σ1 12 0 13 w) w := ⟨(h.weak (fun t i k z => by show (fO t i k || fMk p t i k) = true; rw [z, Bool.or_true])).w rfl, wI_same⟩
theorem o117 (hd : 12 ≤ d) {p : Int32} (hX : cX σ μ R C) (hm : inn p (R 6) = true → σ.1 32 0 p.toNatClampNeg = σ.1 1 0 2 → mkH σ p.toNatClampNeg (mkd R C (plR R p.toNatClampNeg))) (q : ∀ σ', cGm p.toNatClampNeg σ σ' (a_made R C p).2 → (inn p (R 6) = true → σ'.1 32 0 p.toNatClampNeg = σ.1 1 0 2 ∧ mkH σ' p.toNatClampNeg (mkd R C (plR R p.toNatClampNeg))) → Q (some (vi (a_made R C p).1)) σ') : CL L xs d 117 [vr 12 0, vi p] σ Q := by
  refine cl_at p117 (by omega) (w117_0 hC ?_)
  refine c85 (s := 4) (by omega) rfl (by omega) hX hX.cnt.2.2.2.1 ⟨_, rfl, ?_⟩
  unfold a_made at q
  refine if_b (fun z => ?_) (fun z => ?_)
  · rw [if_neg (by rw [z]; decide)] at q
    exact c81 (by omega) fr.id (fun σ' g => q σ' (cG_m g) (fun z' => by rw [z] at z'; cases z'))
  rw [if_pos z] at q
  obtain ⟨hp, ep, hp4, ho, hv, hk⟩ := pl_in hX z
  refine c20 (by omega) ep hX hp (hm z) (fun σ1 g1 e1 m1 => ⟨rfl, ?_⟩)
  refine ix_x hp4 ep (by omega) ?_
  refine cl_at p83 (by omega) (w83_0 hC ⟨_, rfl, ?_⟩)
  rw [m1.1]
  refine q _ (w_m g1) (fun _ => ⟨by rw [wI_t (by decide)]; exact e1, ?_⟩)
  exact ⟨by rw [wI_t (by decide)]; exact m1.1, fun z => by rw [wI_t (by decide)]; exact m1.2.1 z, fun z => by rw [wI_t (by decide)]; exact m1.2.2 z⟩
theorem mkd_in {P : Pl} {i : Int32} (h : inn i (mkd R C P).1 = true) : (i = 0 ∧ 0 < (mkd R C P).1) ∨ (i = 1 ∧ (mkd R C P).1 = 2) := by
  have e : (mkd R C P).1 = 0 ∨ (mkd R C P).1 = 1 ∨ (mkd R C P).1 = 2 ∨ (mkd R C P).1 = -2 := by
    unfold mkd
    split
    · exact Or.inl rfl
    · split
      · exact Or.inr (Or.inl rfl)
      · split
        · exact Or.inr (Or.inr (Or.inl rfl))
        · exact Or.inr (Or.inr (Or.inr rfl))
  rcases e with e | e | e | e
  · rw [e, inn_0] at h; cases h
  · rw [e] at h
    obtain ⟨a, b⟩ := inn_n (n := 1) (by omega) h
    have : i.toNatClampNeg = 0 := by have : i.toNatClampNeg < 1 := a; omega
    have b : i = nI i.toNatClampNeg := b
    rw [this] at b
    exact Or.inl ⟨b, by rw [e]; decide⟩
  · rw [e] at h
    obtain ⟨a, b⟩ := inn_n (n := 2) (by omega) h
    have a : i.toNatClampNeg < 2 := a
    have b : i = nI i.toNatClampNeg := b
    rcases Nat.lt_or_ge i.toNatClampNeg 1 with z | z
    · have : i.toNatClampNeg = 0 := by omega
      rw [this] at b
      exact Or.inl ⟨b, by rw [e]; decide⟩
    · have : i.toNatClampNeg = 1 := by omega
      rw [this] at b
      exact Or.inr ⟨b, e⟩
  · rw [e] at h
    unfold inn at h
    simp only [Bool.and_eq_true, decide_eq_true_eq] at h
    obtain ⟨j, hj, rfl⟩ := nI_of h.1
    have := Int32.lt_iff_toInt_lt.mp h.2
    rw [nI_toInt hj] at this
    have e2 : (-2 : Int32).toInt = -2 := rfl
    rw [e2] at this
    omega
theorem o118 (hd : 12 ≤ d) {p i : Int32} (hX : cX σ μ R C) (hm : inn p (R 6) = true → σ.1 32 0 p.toNatClampNeg = σ.1 1 0 2 → mkH σ p.toNatClampNeg (mkd R C (plR R p.toNatClampNeg))) (q : ∀ σ', cGm p.toNatClampNeg σ σ' (a_madeAt R C p i).2 → (inn p (R 6) = true → σ'.1 32 0 p.toNatClampNeg = σ.1 1 0 2 ∧ mkH σ' p.toNatClampNeg (mkd R C (plR R p.toNatClampNeg))) → Q (some (vi (a_madeAt R C p i).1)) σ') : CL L xs d 118 [vr 12 0, vi p, vi i] σ Q := by
  refine cl_at p118 (by omega) (w118_0 hC ?_)
  refine c85 (s := 4) (by omega) rfl (by omega) hX hX.cnt.2.2.2.1 ⟨_, rfl, ?_⟩
  unfold a_madeAt at q
  refine if_b (fun z => ?_) (fun z => ?_)
  · rw [if_neg (by rw [z]; decide)] at q
    exact c81 (by omega) fr.id (fun σ' g => q σ' (cG_m g) (fun z' => by rw [z] at z'; cases z'))
  rw [if_pos z] at q
  obtain ⟨hp, ep, hp4, ho, hv, hk⟩ := pl_in hX z
  refine c20 (by omega) ep hX hp (hm z) (fun σ1 g1 e1 m1 => ⟨rfl, ?_⟩)
  have keep : ∀ w : Int32, inn p (R 6) = true → (m2_wI σ1 12 0 13 w).1 32 0 p.toNatClampNeg = σ.1 1 0 2 ∧ mkH (m2_wI σ1 12 0 13 w) p.toNatClampNeg (mkd R C (plR R p.toNatClampNeg)) := fun w _ => ⟨by rw [wI_t (by decide)]; exact e1, by rw [wI_t (by decide)]; exact m1.1, fun z => by rw [wI_t (by decide)]; exact m1.2.1 z, fun z => by rw [wI_t (by decide)]; exact m1.2.2 z⟩
  have no : inn i (mkd R C (plR R p.toNatClampNeg)).1 = false → CL L xs (d - 1) 81 [vr 12 0, vi 1] σ1 (fun r σ' => ∃ v : Int32, r = some (vi v) ∧ Q (some (vi v)) σ') := by
    intro e
    rw [if_neg (by rw [e]; decide)] at q
    exact cl_at p81 (by omega) (w81_0 hC ⟨_, rfl, q _ (w_m g1) (keep 1)⟩)
  refine if_c (fun z1 => ?_) (fun z1 => ix_x hp4 ep (by omega) ?_)
  · exact no (by unfold inn; rw [decide_eq_false (fun e => e z1)]; rfl)
  rw [m1.1]
  refine if_c (fun z2 => ?_) (fun z2 => ?_)
  · have e : inn i (mkd R C (plR R p.toNatClampNeg)).1 = true := by unfold inn; rw [decide_eq_true z1, decide_eq_true z2]; rfl
    rw [if_pos e] at q
    rcases mkd_in e with ⟨rfl, e2⟩ | ⟨rfl, e2⟩
    · refine if_y rfl (ix_x hp4 ep (by omega) ?_)
      refine cl_at p83 (by omega) (w83_0 hC ⟨_, rfl, ?_⟩)
      rw [m1.2.1 e2]
      exact q _ (w_m g1) (keep 0)
    · refine if_n (by decide) (ix_x hp4 ep (by omega) ?_)
      refine cl_at p83 (by omega) (w83_0 hC ⟨_, rfl, ?_⟩)
      rw [m1.2.2 (by rw [e2]; decide)]
      exact q _ (w_m g1) (keep 0)
  · exact no (by unfold inn; rw [decide_eq_false z2, Bool.and_false])
end OP7
