/-! CALLS of the model: bears, made, madeAt -/
def vT (g : Nat → Nat → Nat → Int32) (p : Pl) : Prop := g 13 0 29 = nI p.1 ∧ ∀ i, i < p.1 → g 70 0 i = nI (p.2 i)
def gTr : Nat → Nat → Nat → Bool := fun t _ k => t == 70 || (t == 13 && k == 29)
def gMk : Nat → Nat → Nat → Bool := fun t i k => gRn t i k || (t == 70 || (t == 71 || (t == 13 && k == 29)))
theorem gRn_Mk : ∀ t i k, gRn t i k = true → gMk t i k = true := fun t i k h => by unfold gMk; rw [h]; rfl
theorem gTr_Mk : ∀ t i k, gTr t i k = true → gMk t i k = true := fun t i k h => by
  unfold gTr at h
  unfold gMk
  simp only [Bool.or_eq_true, Bool.and_eq_true, beq_iff_eq] at *
  omega
theorem gMk_O : ∀ t i k, gMk t i k = true → gO t i k = true := by
  intro t i k h
  unfold gMk at h
  rcases Bool.or_eq_true_iff.mp h with h | h
  · exact gRn_O t i k h
  · unfold gO
    simp only [Bool.or_eq_true, Bool.and_eq_true, beq_iff_eq, decide_eq_true_eq] at *
    omega
theorem vT_fr {A : Nat → Nat → Nat → Bool} {σ σ' : M2} {p : Pl} (hf : fr A σ σ') (hA : ∀ k, A 70 0 k = false ∧ A 13 0 29 = false) (hv : vT σ.1 p) : vT σ'.1 p :=
  ⟨by rw [hf.1 _ _ _ (hA 0).2]; exact hv.1, fun i hi => by rw [hf.1 _ _ _ (hA i).1]; exact hv.2 i hi⟩
theorem fCp_w {B b n : Nat} {A : Nat → Nat → Nat → Bool} (h : ∀ k, A B 0 k = true) : ∀ t i k, fCp B b n t i k = true → A t i k = true := by
  intro t i k e
  unfold fCp at e
  simp only [Bool.and_eq_true, beq_iff_eq, decide_eq_true_eq] at e
  rw [e.1, e.2.1]; exact h k
theorem dm_fs2 {α : Type} {n : Nat} (f : Nat → Option α) (G : Nat → M2 → Prop) (Z : α → M2 → Prop) (I : M2 → Prop) (J : α → M2 → Prop)
    (hs : ∀ k σ, k < n → I σ → (f k = none → ∀ σ', I σ' → G (k + 1) σ') → (∀ v, f k = some v → ∀ σ', J v σ' → Z v σ') → G k σ) : ∀ m k σ, k + m = n → I σ → (fs f m k = none → ∀ σ', I σ' → G n σ') → (∀ v, fs f m k = some v → ∀ σ', J v σ' → Z v σ') → G k σ := by
  intro m
  induction m with
  | zero => intro k σ h hi he hz; have : k = n := h; subst this; exact he rfl σ hi
  | succ m ih =>
    intro k σ h hi he hz
    refine hs k σ (by omega) hi (fun e σ' h' => ?_) (fun v e σ' h' => ?_)
    · refine ih (k + 1) σ' (by omega) h' (fun e2 => he (by unfold fs; rw [e]; exact e2)) (fun v e2 => hz v (by unfold fs; rw [e]; exact e2))
    · exact hz v (by unfold fs; rw [e]) σ' h'
section OP8
variable {L : Nat} {xs : Nat → Int32} {d : Nat} {Q : Option dm_V → M2 → Prop} {σ : M2} {μ : Nat} {R : Nat → Int32} {C : Nat → Bool} {h : Bool}
theorem c236 (hd : 5 ≤ d) {P : Pl} (hv : vT σ.1 P) (hp : P.1 ≤ 12) (q : ∀ σ', fr gSt σ σ' → vM σ'.1 P → Q none σ') : CL L xs d 236 [vr 13 0] σ Q := by
  refine cl_at p236 (by omega) (w236_0 hC ?_)
  have e : (m2_wI σ 13 0 24 (σ.1 13 0 29)).1 13 0 29 = nI P.1 := by rw [wI_k (by decide)]; exact hv.1
  refine c155_70_67 (a := 0) (b := 0) (n := P.1) (by omega) rfl rfl e (by omega) (by omega) (fun σ1 f1 h1 => ⟨rfl, ?_⟩)
  refine q σ1 ((fr.id.w rfl).trans (f1.weak (fCp_w (fun _ => rfl)))) ⟨?_, fun i hi => ?_⟩
  · rw [f1.1 _ _ _ (fCp_t (by decide)), wI_same, hv.1]
  · have := h1 i hi
    rw [Nat.zero_add] at this
    rw [this, wI_t (by decide)]; exact hv.2 i hi
theorem c237 (hd : 7 ≤ d) {P : Pl} {lim : Int32} (hX : mX σ R C) (hv : vT σ.1 P) (hp : okP R 8 P) (q : ∀ σ', fr gRn σ σ' → Q (some (vi (bI (bear R C P lim)))) σ') : CL L xs d 237 [vr 13 0, vi lim] σ Q := by
  refine cl_at p237 (by omega) (w237_0 hC ?_)
  have hS := hX.1.cS
  have h8 := hp.1
  have K : ∀ {σ1 : M2}, fr gRn σ σ1 → mX σ1 R C := fun f => hX.fr (fun _ => ⟨rfl, rfl⟩) f
  have V : ∀ {σ1 : M2}, fr gRn σ σ1 → vT σ1.1 P := fun f => vT_fr f (fun _ => ⟨rfl, rfl⟩) hv
  refine c236 (by omega) hv (by omega) (fun σ1 f1 v1 => ⟨rfl, ?_⟩)
  have f1 := f1.weak gSt_Rn
  refine c208 (by omega) (K f1) v1 (hp.up (by omega)) (fun σ2 f2 => ⟨_, rfl, ?_⟩)
  have f2 := f1.trans (f2.weak gLv_Rn)
  have stop : ∀ k σ3, k ≤ gN R 7 → Q (some (vi 0)) σ3 → fr gRn σ σ3 → g237_23 L xs (CL L xs (d - 1)) Q (hm R P) 0 (nI k) σ3 := by
    intro k σ3 hk q3 f3
    refine w237_23 hC ?_
    rw [(K f3).2.1, hS.2]
    exact if_c (fun _ => if_y rfl q3) (fun _ => q3)
  have loop : ∀ m k σ3, k + m = gN R 7 → fr gRn σ σ3 → (∀ σ', fr gRn σ σ' → Q (some (vi (bI (bearL R C P (hm R P) m k)))) σ') → g237_23 L xs (CL L xs (d - 1)) Q (hm R P) 1 (nI k) σ3 := by
    intro m
    induction m with
    | zero =>
      intro k σ3 hk f3 q
      obtain rfl : k = gN R 7 := hk
      refine w237_23 hC ?_
      rw [(K f3).2.1, hS.2]
      exact if_nlt (Nat.le_refl _) (by omega) (q σ3 f3)
    | succ m ih =>
      intro k σ3 hk f3 q
      refine w237_23 hC ?_
      rw [(K f3).2.1, hS.2, nI_1]
      refine if_lt (by omega) (by omega) (if_n (by decide) ?_)
      refine c236 (by omega) (V f3) (by omega) (fun σ4 f4 v4 => ⟨rfl, ?_⟩)
      have f4 := f3.trans (f4.weak gSt_Rn)
      refine c203 (by omega) rfl (K f4) v4 (hp.up (by omega)) (by omega) ⟨_, rfl, ?_⟩
      unfold bearL fit at q
      have hb : ∀ j, stp R C P k = some j → j < 2 ^ 31 := fun j h => by have := stp_some h; omega
      cases z : stp R C P k with
      | none =>
        rw [z] at q
        exact if_y (by decide) (ih (k + 1) σ4 (by omega) f4 q)
      | some j =>
        rw [z] at q
        refine if_n (nI_pos (hb j z)) ?_
        refine c205 (by omega) (isC_s (by omega)) (K f4) v4 (hp.up (by omega)) (fun σ5 f5 v5 => ⟨rfl, ?_⟩)
        have f5 := f4.trans (f5.weak gSt_Rn)
        refine c208 (by omega) (K f5) v5 ((okP_mkc hX.1 hp (isC_s (by omega))).up (by omega)) (fun σ6 f6 => ⟨_, rfl, ?_⟩)
        have f6 := f5.trans (f6.weak gLv_Rn)
        rw [hm2_2] at q
        refine if_c (fun z1 => ?_) (fun z1 => ?_)
        · have q : ∀ σ', fr gRn σ σ' → Q (some (vi (bI (if hm R P < hm R (mkc R C P (nI k)) then false else bearL R C P (hm R P) m (k + 1))))) σ' := q
          rw [if_pos z1] at q
          exact stop (k + 1) σ6 (by omega) (q σ6 f6) f6
        · have q : ∀ σ', fr gRn σ σ' → Q (some (vi (bI (if hm R P < hm R (mkc R C P (nI k)) then false else bearL R C P (hm R P) m (k + 1))))) σ' := q
          rw [if_neg z1] at q
          exact ih (k + 1) σ6 (by omega) f6 q
  unfold bear at q
  refine if_c (fun z => ?_) (fun z => ?_)
  · rw [if_pos z] at q
    exact stop 0 σ2 (Nat.zero_le _) (q σ2 f2) f2
  · rw [if_neg z] at q
    exact loop _ 0 σ2 (Nat.zero_add _) f2 q
theorem c238 (hd : 6 ≤ d) {p : Nat} {x1 : Int32} (h1 : x1 = nI p) (hX : mX σ R C) (hp : p < gN R 6) (q : ∀ σ', fr gMk σ σ' → vT σ'.1 (plR R p) → Q none σ') : CL L xs d 238 [vr 13 0, vi x1] σ Q := by
  refine cl_at p238 (by omega) (w238_0 hC ?_)
  have h6 := (hX.1.pl hp).1
  refine c202 (by omega) h1 hX hp (fun σ1 f1 v1 => ⟨rfl, ?_⟩)
  have e : (m2_wI σ1 13 0 29 (σ1.1 13 0 24)).1 13 0 24 = nI (plR R p).1 := by rw [wI_k (by decide)]; exact v1.1
  refine c155_67_70 (a := 0) (b := 0) (n := (plR R p).1) (by omega) rfl rfl e (by omega) (by omega) (fun σ2 f2 h2 => ⟨rfl, ?_⟩)
  refine q σ2 ((((f1.weak gSt_Rn).weak gRn_Mk).w rfl).trans (f2.weak (fCp_w (fun _ => rfl)))) ⟨?_, fun i hi => ?_⟩
  · rw [f2.1 _ _ _ (fCp_t (by decide)), wI_same, v1.1]
  · have := h2 i hi
    rw [Nat.zero_add] at this
    rw [this, wI_t (by decide)]; exact v1.2 i hi
theorem c239 (hd : 4 ≤ d) {k e : Nat} {P : Pl} (hv : vT σ.1 P) (hp : P.1 < 12) (hk : k ≤ P.1) (q : ∀ σ', fr gTr σ σ' → vT σ'.1 (pIns P k (2 * e)) → Q none σ') : CL L xs d 239 [vr 13 0, vi (nI k), vi (nI e)] σ Q := by
  refine cl_at p239 hd (w239_0 hC ?_)
  rw [hv.1]
  refine dm_dwn (a := k) (fun j σ => g239_5 L xs (CL L xs (d - 1)) Q (nI k) (nI e) (nI j) σ) (fun j σ' => j ≤ P.1 ∧ fr gTr σ σ' ∧ σ'.1 13 0 29 = nI P.1 ∧ (∀ i, i < j → σ'.1 70 0 i = nI (P.2 i)) ∧ ∀ i, j < i → i ≤ P.1 → σ'.1 70 0 i = nI (P.2 (i - 1))) ?_ ?_ P.1 _ hk ?_
  · rintro j σ' hj ⟨hjn, hf, h0, h1, h2⟩ ih
    refine w239_5 hC ?_
    rw [nI_s1 (a := j) (by omega), nI_clamp (n := j) (by omega), nI_clamp (n := j - 1) (by omega), nI_dec (by omega)]
    refine if_lt hj (by omega) (ix_k (by omega) (by omega) (ix_k (by omega) (by omega) ?_))
    refine ih _ ⟨by omega, hf.w rfl, by rw [wI_t (by decide)]; exact h0, fun i hi => ?_, fun i hi hin => ?_⟩
    · rw [wI_k (by omega)]; exact h1 i (by omega)
    · by_cases hij : i = j
      · subst hij; rw [wI_same]; exact h1 (i - 1) (by omega)
      · rw [wI_k hij]; exact h2 i (by omega) hin
  · rintro σ' ⟨hjn, hf, h0, h1, h2⟩
    refine w239_5 hC ?_
    rw [nI_clamp (n := k) (by omega), l2, nI_mul]
    refine if_nlt (Nat.le_refl _) (by omega) (ix_k (by omega) (by omega) ?_)
    refine q _ ((hf.w rfl).w rfl) ⟨?_, fun i hi => ?_⟩
    · rw [wI_same, wI_t (by decide), h0, nI_1]; rfl
    · have hi : i < P.1 + 1 := hi
      rw [wI_t (by decide)]
      show _ = nI (if i < k then P.2 i else if i = k then 2 * e else P.2 (i - 1))
      by_cases a : i < k
      · rw [if_pos a, wI_k (by omega)]; exact h1 i a
      · rw [if_neg a]
        by_cases b : i = k
        · rw [if_pos b, b, wI_same]
        · rw [if_neg b, wI_k b]; exact h2 i (by omega) (by omega)
  · exact ⟨Nat.le_refl _, fr.id, hv.1, hv.2, fun i h1 h2 => by omega⟩
theorem c240 (hd : 4 ≤ d) {k : Nat} {P : Pl} (hv : vT σ.1 P) (hp : P.1 ≤ 12) (hk : k < P.1) (q : ∀ σ', fr gTr σ σ' → vT σ'.1 (pRem P k) → Q none σ') : CL L xs d 240 [vr 13 0, vi (nI k)] σ Q := by
  refine cl_at p240 hd (w240_0 hC ?_)
  rw [nI_1]
  refine dm_for (n := P.1) (fun j σ => g240_4 L xs (CL L xs (d - 1)) Q (nI j) σ) (fun j σ' => k + 1 ≤ j ∧ fr gTr σ σ' ∧ σ'.1 13 0 29 = nI P.1 ∧ (∀ i, i + 1 < j → σ'.1 70 0 i = nI (if i < k then P.2 i else P.2 (i + 1))) ∧ ∀ i, j ≤ i → i < P.1 → σ'.1 70 0 i = nI (P.2 i)) ?_ ?_ (k + 1) _ (by omega) ?_
  · rintro j σ' hj ⟨hkj, hf, h0, h1, h2⟩ ih
    refine w240_4 hC ?_
    rw [h0, nI_s1 (a := j) (by omega), nI_1, nI_clamp (n := j) (by omega), nI_clamp (n := j - 1) (by omega)]
    refine if_lt hj (by omega) (ix_k (by omega) (by omega) (ix_k (by omega) (by omega) ?_))
    refine ih _ ⟨by omega, hf.w rfl, by rw [wI_t (by decide)]; exact h0, fun i hi => ?_, fun i hi hin => ?_⟩
    · by_cases hij : i = j - 1
      · subst hij
        rw [wI_same, if_neg (by omega), show j - 1 + 1 = j by omega]
        exact h2 j (Nat.le_refl _) hj
      · rw [wI_k hij]; exact h1 i (by omega)
    · rw [wI_k (by omega)]; exact h2 i (by omega) hin
  · rintro σ' ⟨hkj, hf, h0, h1, h2⟩
    refine w240_4 hC ?_
    rw [h0, nI_s1 (a := P.1) (by omega)]
    refine if_nlt (Nat.le_refl _) (by omega) (q _ (hf.w rfl) ⟨wI_same, fun i hi => ?_⟩)
    have hi : i < P.1 - 1 := hi
    rw [wI_t (by decide)]
    exact h1 i (by omega)
  · refine ⟨Nat.le_refl _, fr.id, hv.1, fun i hi => ?_, fun i _ hi => hv.2 i hi⟩
    rw [if_pos (by omega)]; exact hv.2 i (by omega)
theorem vT_back {g : Nat → Nat → Nat → Int32} {P : Pl} {k c : Nat} (hk : k ≤ P.1) (h : vT g (pRem (pIns P k c) k)) : vT g P := by
  refine ⟨h.1, fun i hi => ?_⟩
  have := h.2 i (by show i < P.1 + 1 - 1; omega)
  rw [this]
  congr 1
  show (if i < k then (if i < k then P.2 i else if i = k then c else P.2 (i - 1)) else (if i + 1 < k then P.2 (i + 1) else if i + 1 = k then c else P.2 (i + 1 - 1))) = P.2 i
  by_cases a : i < k
  · rw [if_pos a, if_pos a]
  · rw [if_neg a, if_neg (by omega), if_neg (by omega), Nat.add_sub_cancel]
theorem c242_0 (hd : 8 ≤ d) {P : Pl} {lim : Int32} (hX : mX σ R C) (hv : vT σ.1 P) (hp : okP R 8 P) (q0 : brF R C lim P = none → ∀ σ', fr gMk σ σ' → vT σ'.1 P → Q (some (vi 0)) σ') (q1 : ∀ v, brF R C lim P = some v → ∀ σ', fr gMk σ σ' → vT σ'.1 P → True → Q (some (vi 1)) σ') : CL L xs d 242 [vr 13 0, vi (nI 0), vi lim] σ Q := by
  refine cl_at p242 (by omega) (w242_0 hC ?_)
  refine if_y rfl ?_
  refine c237 (by omega) hX hv hp (fun σ1 g1 => ⟨_, rfl, ?_⟩)
  have v1 := vT_fr g1 (fun _ => ⟨rfl, rfl⟩) hv
  unfold brF at q0 q1
  cases z : bear R C P lim
  · rw [z] at q0
    exact q0 rfl σ1 (g1.weak gRn_Mk) v1
  · rw [z] at q1
    exact q1 () rfl σ1 (g1.weak gRn_Mk) v1 trivial
/-- one more deed put in -/
theorem c242_s {α : Type} {n m : Nat} (hn : n < 2) (hm8 : m < 8) {lim : Int32} (F : Pl → Option α) (Z : α → M2 → Prop) (hZ : ∀ v σ σ', fr gTr σ σ' → Z v σ → Z v σ') (hZw : ∀ v σ z, Z v σ → Z v (m2_wI σ 71 0 n z))
    (hd : 8 ≤ d) (inner : ∀ (P : Pl) (σ1 : M2) (Q1 : Option dm_V → M2 → Prop), okP R (m + 1) P → mX σ1 R C → vT σ1.1 P → (F P = none → ∀ σ2, fr gMk σ1 σ2 → vT σ2.1 P → Q1 (some (vi 0)) σ2) → (∀ v, F P = some v → ∀ σ2, fr gMk σ1 σ2 → vT σ2.1 P → Z v σ2 → Q1 (some (vi 1)) σ2) → CL L xs (d - 1) 242 [vr 13 0, vi (nI n), vi lim] σ1 Q1)
    {P : Pl} (hX : mX σ R C) (hv : vT σ.1 P) (hp : okP R m P) (q0 : pfs R F P = none → ∀ σ', fr gMk σ σ' → vT σ'.1 P → Q (some (vi 0)) σ') (q1 : ∀ v, pfs R F P = some v → ∀ σ', fr gMk σ σ' → vT σ'.1 P → (Z v.2 σ' ∧ σ'.1 71 0 n = nI v.1) → Q (some (vi 1)) σ') : CL L xs d 242 [vr 13 0, vi (nI (n + 1)), vi lim] σ Q := by
  refine cl_at p242 (by omega) (w242_0 hC ?_)
  have hD := hX.1.cD
  have h8 := hp.1
  have K : ∀ {σ1 : M2}, fr gMk σ σ1 → mX σ1 R C := fun f => hX.fr (fun _ => ⟨rfl, rfl⟩) f
  refine if_n (fun e => by have := (nI_eq (a := n + 1) (b := 0) (by omega) (by omega)).mp e; omega) ?_
  rw [hv.1]
  refine dm_fs2 (n := P.1 + 1) (fun k => fs (fun e => (F (pIns P k (2 * e))).map (fun v => (10 * k + e, v))) (gN R 5) 0) (fun k σ => g242_18 L xs (CL L xs (d - 1)) Q (nI (n + 1)) lim (nI P.1) (nI k) σ) (fun _ σ' => Q (some (vi 1)) σ') (fun σ' => fr gMk σ σ' ∧ vT σ'.1 P) (fun v σ' => fr gMk σ σ' ∧ vT σ'.1 P ∧ Z v.2 σ' ∧ σ'.1 71 0 n = nI v.1) ?_ _ 0 σ (Nat.zero_add _) ⟨fr.id, hv⟩ ?_ ?_
  · rintro k σ1 hk ⟨g1, v1⟩ no yes
    refine w242_18 hC ?_
    refine if_nlt (by omega) (by omega) ?_
    refine dm_fs2 (n := gN R 5) (fun e => (F (pIns P k (2 * e))).map (fun v => (10 * k + e, v))) (fun e σ => g242_27 L xs (CL L xs (d - 1)) Q (nI (n + 1)) lim (nI P.1) (nI k) (nI e) σ) (fun _ σ' => Q (some (vi 1)) σ') (fun σ' => fr gMk σ σ' ∧ vT σ'.1 P) (fun v σ' => fr gMk σ σ' ∧ vT σ'.1 P ∧ Z v.2 σ' ∧ σ'.1 71 0 n = nI v.1) ?_ _ 0 σ1 (Nat.zero_add _) ⟨g1, v1⟩ ?_ ?_
    · rintro e σ2 he ⟨g2, v2⟩ no2 yes2
      refine w242_27 hC ?_
      rw [(K g2).2.1, hD.2, nI_1 e, nI_s1 (a := n + 1) (by omega), Nat.add_sub_cancel, nI_clamp (n := n) (by omega)]
      refine if_lt he (by omega) ?_
      refine c239 (by omega) v2 (by omega) (by omega) (fun σ3 g3 v3 => ⟨rfl, ?_⟩)
      have g3' := g2.trans (g3.weak gTr_Mk)
      refine inner (pIns P k (2 * e)) σ3 _ (hp.ins (by omega) he) (K g3') v3 (fun z σ4 g4 v4 => ⟨_, rfl, ?_⟩) (fun v z σ4 g4 v4 z4 => ⟨_, rfl, ?_⟩)
      · have g4' := g3'.trans g4
        refine c240 (by omega) v4 (by show P.1 + 1 ≤ 12; omega) (by show k < P.1 + 1; omega) (fun σ5 g5 v5 => ⟨rfl, ?_⟩)
        exact if_y rfl (no2 (by rw [z]; rfl) σ5 ⟨g4'.trans (g5.weak gTr_Mk), vT_back (by omega) v5⟩)
      · have g4' := g3'.trans g4
        refine c240 (by omega) v4 (by show P.1 + 1 ≤ 12; omega) (by show k < P.1 + 1; omega) (fun σ5 g5 v5 => ⟨rfl, ?_⟩)
        refine if_n (by decide) (ix_k hn (by omega) ?_)
        rw [l10, nI_mul, nI_add]
        refine yes2 (10 * k + e, v) (by rw [z]; rfl) _ ⟨(g4'.trans (g5.weak gTr_Mk)).w rfl, ?_, hZw v _ _ (hZ v σ4 σ5 g5 z4), wI_same⟩
        have v5' := vT_back (by omega) v5
        exact ⟨by rw [wI_t (by decide)]; exact v5'.1, fun i hi => by rw [wI_t (by decide)]; exact v5'.2 i hi⟩
    · rintro e σ2 ⟨g2, v2⟩
      refine w242_27 hC ?_
      rw [(K g2).2.1, hD.2, nI_1 k]
      exact if_nlt (Nat.le_refl _) (by omega) (no e σ2 ⟨g2, v2⟩)
    · exact fun v e σ2 j2 => yes v e σ2 j2
  · rintro e σ1 ⟨g1, v1⟩
    refine w242_18 hC ?_
    exact if_lt (by omega) (by omega) (q0 e σ1 g1 v1)
  · rintro v e σ1 ⟨g1, v1, z1, e1⟩
    exact q1 v e σ1 g1 v1 ⟨z1, e1⟩
theorem c242_1 (hd : 9 ≤ d) {P : Pl} {lim : Int32} (hX : mX σ R C) (hv : vT σ.1 P) (hp : okP R 7 P) (q0 : f1 R C lim P = none → ∀ σ', fr gMk σ σ' → vT σ'.1 P → Q (some (vi 0)) σ') (q1 : ∀ v, f1 R C lim P = some v → ∀ σ', fr gMk σ σ' → vT σ'.1 P → (True ∧ σ'.1 71 0 0 = nI v.1) → Q (some (vi 1)) σ') : CL L xs d 242 [vr 13 0, vi (nI 1), vi lim] σ Q :=
  c242_s (n := 0) (m := 7) (by omega) (by omega) (brF R C lim) (fun _ _ => True) (fun _ _ _ _ _ => trivial) (fun _ _ _ _ => trivial) (by omega) (fun P σ1 Q1 k1 k2 k3 k4 k5 => c242_0 (by omega) k2 k3 k1 k4 k5) hX hv hp q0 q1
theorem c242_2 (hd : 10 ≤ d) {P : Pl} {lim : Int32} (hX : mX σ R C) (hv : vT σ.1 P) (hp : okP R 6 P) (q0 : f2 R C lim P = none → ∀ σ', fr gMk σ σ' → vT σ'.1 P → Q (some (vi 0)) σ') (q1 : ∀ v, f2 R C lim P = some v → ∀ σ', fr gMk σ σ' → vT σ'.1 P → ((True ∧ σ'.1 71 0 0 = nI v.2.1) ∧ σ'.1 71 0 1 = nI v.1) → Q (some (vi 1)) σ') : CL L xs d 242 [vr 13 0, vi (nI 2), vi lim] σ Q :=
  c242_s (n := 1) (m := 6) (by omega) (by omega) (f1 R C lim) (fun v σ => True ∧ σ.1 71 0 0 = nI v.1) (fun v σ σ' hf hz => ⟨trivial, by rw [hf.1 _ _ _ rfl]; exact hz.2⟩) (fun v σ z hz => ⟨trivial, by rw [wI_k (by decide)]; exact hz.2⟩) (by omega) (fun P σ1 Q1 k1 k2 k3 k4 k5 => c242_1 (by omega) k2 k3 k1 k4 k5) hX hv hp q0 q1
/-- what the model's maker has -/
def mdH (σ : M2) (m : Int32 × Int32 × Int32) : Prop := (m.1 = 1 → σ.1 71 0 0 = m.2.1) ∧ (m.1 = 2 → σ.1 71 0 1 = m.2.1 ∧ σ.1 71 0 0 = m.2.2)
theorem c243 (hd : 11 ≤ d) {p : Nat} {x1 : Int32} (h1 : x1 = nI p) (hX : mX σ R C) (hp : p < gN R 6) (q : ∀ σ', fr gMk σ σ' → mdH σ' (mkd R C (plR R p)) → Q (some (vi (mkd R C (plR R p)).1)) σ') : CL L xs d 243 [vr 13 0, vi x1] σ Q := by
  refine cl_at p243 (by omega) (w243_0 hC ?_)
  have hk := hX.1.pl hp
  have K : ∀ {σ1 : M2}, fr gMk σ σ1 → mX σ1 R C := fun f => hX.fr (fun _ => ⟨rfl, rfl⟩) f
  refine c209 (by omega) hX h1 hp isC_2 isC_2 (fun σ1 g1 => ⟨_, rfl, ?_⟩)
  rw [hm2_22]
  have g1 := g1.weak gRn_Mk
  unfold mkd at q
  refine w243_12 hC (if_y (by decide) ?_)
  refine c238 (by omega) h1 (K g1) hp (fun σ2 g2 v2 => ⟨rfl, ?_⟩)
  have g2 := g1.trans g2
  refine c242_0 (by omega) (K g2) v2 (hk.up (by omega)) (fun z σ3 g3 v3 => ⟨_, rfl, ?_⟩) (fun v z σ3 g3 v3 _ => ⟨_, rfl, ?_⟩)
  · have z0 : ¬ bear R C (plR R p) (hm R (plR R p)) = true := fun e => by unfold brF at z; rw [if_pos e] at z; cases z
    rw [if_neg z0] at q
    have g3 := g2.trans g3
    refine if_y rfl (w243_12 hC (if_y (by decide) ?_))
    refine c238 (by omega) h1 (K g3) hp (fun σ4 g4 v4 => ⟨rfl, ?_⟩)
    have g4 := g3.trans g4
    refine c242_1 (by omega) (K g4) v4 (hk.up (by omega)) (fun z σ5 g5 v5 => ⟨_, rfl, ?_⟩) (fun v z σ5 g5 v5 z5 => ⟨_, rfl, ?_⟩)
    · rw [z] at q
      have g5 := g4.trans g5
      refine if_y rfl (w243_12 hC (if_y (by decide) ?_))
      refine c238 (by omega) h1 (K g5) hp (fun σ6 g6 v6 => ⟨rfl, ?_⟩)
      have g6 := g5.trans g6
      refine c242_2 (by omega) (K g6) v6 hk (fun z σ7 g7 v7 => ⟨_, rfl, ?_⟩) (fun v z σ7 g7 v7 z7 => ⟨_, rfl, ?_⟩)
      · rw [z] at q
        refine if_y rfl (w243_12 hC (if_n (by decide) ?_))
        exact q σ7 (g6.trans g7) ⟨fun e => absurd e (by decide), fun e => absurd e (by decide)⟩
      · rw [z] at q
        exact if_n (by decide) (q σ7 (g6.trans g7) ⟨fun e => absurd (show (2 : Int32) = 1 from e) (by decide), fun _ => ⟨z7.2, z7.1.2⟩⟩)
    · rw [z] at q
      exact if_n (by decide) (q σ5 (g4.trans g5) ⟨fun _ => z5.2, fun e => absurd (show (1 : Int32) = 2 from e) (by decide)⟩)
  · have z0 : bear R C (plR R p) (hm R (plR R p)) = true := by
      unfold brF at z
      by_cases e : bear R C (plR R p) (hm R (plR R p)) = true
      · exact e
      · rw [if_neg e] at z; cases z
    rw [if_pos z0] at q
    exact if_n (by decide) (q σ3 (g2.trans g3) ⟨fun e => absurd e (by decide), fun e => absurd e (by decide)⟩)
theorem o241 (hd : 9 ≤ d) {p : Int32} (hY : mY σ R C h) (q : ∀ σ', mG σ σ' (a_bears R C p).2 → Q (some (vi (a_bears R C p).1)) σ') : CL L xs d 241 [vr 13 0, vi p] σ Q := by
  refine cl_at p241 (by omega) (w241_0 hC ?_)
  refine c150 (by omega) (fun σ1 g1 => ⟨rfl, ?_⟩)
  have Y1 := mY_o hY g1.1
  unfold a_bears at q
  refine c190 (by omega) Y1 ⟨_, rfl, ?_⟩
  refine if_b (fun z => ?_) (fun z => ?_)
  · rw [if_neg (by rw [z]; decide)] at q
    exact c151 (by omega) g1 q
  rw [if_pos z] at q
  obtain ⟨hp, ep, hp4⟩ := pl_im hY.1.1 z
  refine c238 (by omega) ep Y1.1 hp (fun σ2 f2 v2 => ⟨rfl, ?_⟩)
  have G2 := g1.o gMk_O rfl rfl f2
  refine c237 (by omega) (mY_o hY G2.1).1 v2 ((hY.1.1.pl hp).up (by omega)) (fun σ3 f3 => ⟨_, rfl, ?_⟩)
  exact bI_pass rfl (q σ3 (G2.rn f3))
theorem o244 (hd : 12 ≤ d) {p : Int32} (hY : mY σ R C h) (q : ∀ σ', mG σ σ' (a_made R C p).2 → Q (some (vi (a_made R C p).1)) σ') : CL L xs d 244 [vr 13 0, vi p] σ Q := by
  refine cl_at p244 (by omega) (w244_0 hC ?_)
  refine c150 (by omega) (fun σ1 g1 => ⟨rfl, ?_⟩)
  have Y1 := mY_o hY g1.1
  unfold a_made at q
  refine c190 (by omega) Y1 ⟨_, rfl, ?_⟩
  refine if_b (fun z => ?_) (fun z => ?_)
  · rw [if_neg (by rw [z]; decide)] at q
    exact c151 (by omega) g1 q
  rw [if_pos z] at q
  obtain ⟨hp, ep, hp4⟩ := pl_im hY.1.1 z
  exact c243 (by omega) ep Y1.1 hp (fun σ2 f2 _ => ⟨_, rfl, q σ2 (g1.o gMk_O rfl rfl f2)⟩)
theorem mkd_4 {P : Pl} : (mkd R C P).1 = 0 ∨ (mkd R C P).1 = 1 ∨ (mkd R C P).1 = 2 ∨ (mkd R C P).1 = -2 := by
  unfold mkd
  split
  · exact Or.inl rfl
  · split
    · exact Or.inr (Or.inl rfl)
    · split
      · exact Or.inr (Or.inr (Or.inl rfl))
      · exact Or.inr (Or.inr (Or.inr rfl))
theorem inc_m {P : Pl} {i : Int32} : inc i 0 ((mkd R C P).1 - 1) = inn i (mkd R C P).1 := by
  rcases mkd_4 (R := R) (C := C) (P := P) with e | e | e | e <;> rw [e]
  · exact inc_s1 (n := 0) (by omega)
  · exact inc_s1 (n := 1) (by omega)
  · exact inc_s1 (n := 2) (by omega)
  · have a : ∀ x : Int32, (-2 : Int32) - 1 < x ∨ x < 0 := by
      intro x
      by_cases h : x < 0
      · exact Or.inr h
      · obtain ⟨j, hj, rfl⟩ := nI_of h
        left
        rw [Int32.lt_iff_toInt_lt, nI_toInt hj]
        show (-3 : Int) < _
        omega
    have b : ∀ x : Int32, x < 0 ∨ ¬ x < -2 := by
      intro x
      by_cases h : x < 0
      · exact Or.inl h
      · obtain ⟨j, hj, rfl⟩ := nI_of h
        right
        rw [Int32.lt_iff_toInt_lt, nI_toInt hj]
        show ¬ (_ : Int) < -2
        omega
    unfold inc inn
    by_cases h : i < 0
    · simp [h]
    · rcases a i with a | a
      · rcases b i with b | b
        · exact absurd b h
        · rw [decide_eq_false (p := ¬ _ < i) (fun z => z a), decide_eq_false b]
      · exact absurd a h
theorem o245 (hd : 12 ≤ d) {p i : Int32} (hY : mY σ R C h) (q : ∀ σ', mG σ σ' (a_madeAt R C p i).2 → Q (some (vi (a_madeAt R C p i).1)) σ') : CL L xs d 245 [vr 13 0, vi p, vi i] σ Q := by
  refine cl_at p245 (by omega) (w245_0 hC ?_)
  refine c150 (by omega) (fun σ1 g1 => ⟨rfl, ?_⟩)
  have Y1 := mY_o hY g1.1
  unfold a_madeAt at q
  refine c190 (by omega) Y1 ⟨_, rfl, ?_⟩
  refine if_b (fun z => ?_) (fun z => ?_)
  · rw [if_neg (by rw [z]; decide)] at q
    exact c151 (by omega) g1 q
  rw [if_pos z] at q
  obtain ⟨hp, ep, hp4⟩ := pl_im hY.1.1 z
  refine c243 (by omega) ep Y1.1 hp (fun σ2 f2 m2 => ⟨_, rfl, ?_⟩)
  have G2 := g1.o gMk_O rfl rfl f2
  refine c153 (by omega) ⟨_, rfl, ?_⟩
  rw [inc_m]
  refine if_b (fun z => ?_) (fun z => ?_)
  · rw [if_neg (by rw [z]; decide)] at q
    exact c151 (by omega) G2 q
  rw [if_pos z] at q
  have q := q σ2 G2
  rcases mkd_in z with ⟨rfl, e2⟩ | ⟨rfl, e2⟩
  · rw [if_pos rfl] at q
    rcases mkd_4 (R := R) (C := C) (P := plR R p.toNatClampNeg) with e | e | e | e
    · rw [e] at e2; exact absurd e2 (by decide)
    · rw [e]
      refine ix_k (k := 0) (by omega) (by omega) ?_
      rw [← m2.1 e] at q; exact q
    · rw [e]
      refine ix_k (k := 1) (by omega) (by omega) ?_
      rw [← (m2.2 e).1] at q; exact q
    · rw [e] at e2; exact absurd e2 (by decide)
  · rw [if_neg (by decide)] at q
    rw [e2]
    refine ix_k (k := 0) (by omega) (by omega) ?_
    rw [← (m2.2 e2).2] at q; exact q
end OP8
