/-! CALLS: cancels, cancel, worstTwo -/
section OP3
variable {L : Nat} {xs : Nat → Int32} {d : Nat} {Q : Option dm_V → M2 → Prop} {σ : M2} {μ : Nat} {R : Nat → Int32} {C : Nat → Bool} {h : Bool}
theorem c103 (hd : 9 ≤ d) {o s : Nat} {P : Pl} {x3 : Int32} (hX : cX σ μ R C) (ho : o < 8) (hv : vS σ.1 o P) (hp : okP R 8 P) (hs : s < gN R 7) (h3 : x3 = en2 R C P (-2) (-2)) (q : ∀ σ', fr fRn σ σ' → Q (some (vi (bI (chg R C P s)))) σ') : CL L xs d 103 [vr 12 0, vr 10 o, vi (nI s), vi x3] σ Q := by
  refine cl_at p103 (by omega) (w103_0 hC ?_)
  refine c53 (by omega) rfl hX hv (hp.up (by omega)) hs ⟨_, rfl, ?_⟩
  unfold chg at q
  refine if_b (fun z => ?_) (fun z => ?_)
  · have q := q σ fr.id
    unfold fit at q
    rw [z] at q; exact q
  · refine c58 (by omega) hX hv (by omega) hp (isC_s hs) isC_2 (fun σ1 f1 => ⟨_, rfl, ?_⟩)
    have q := q σ1 f1
    unfold fit at q
    rw [z, ← h3] at q
    refine if_c (fun z => ?_) (fun z => ?_)
    · rw [decide_eq_true z] at q; exact q
    · rw [decide_eq_false z] at q; exact q
theorem cnI_J {P : Pl} {i : Int32} {s : Nat} : ∀ k a a', k < gN R 7 → a ≤ 8 * s + k → cnI R C P i s k a = .inl a' → a' ≤ 8 * s + (k + 1) := by
  intro k a a' _ h e
  unfold cnI at e
  split at e
  · split at e
    · cases e
    · cases e; omega
  · cases e; omega
theorem cnO_J {P : Pl} {i : Int32} (hR : okR R) : ∀ k a a', k < gN R 7 → a ≤ 8 * k → cnO R C P i k a = .inl a' → a' ≤ 8 * (k + 1) := by
  intro k a a' hk h e
  have := hR.cS.1
  have := fx_J (n := gN R 7) (J := fun o n => n ≤ 8 * k + o) cnI_J (gN R 7 - (k + 1)) (k + 1) a a' (by omega) (by omega) e
  omega
theorem c102 (hd : 10 ≤ d) {o : Nat} {P : Pl} {i : Int32} (hX : cX σ μ R C) (ho : o < 8) (hv : vS σ.1 o P) (hp : okP R 8 P)
    (q : ∀ σ' v, fr fO σ σ' → (∀ n, k_canc R C P i = .inl n → n < 100 ∧ v = (if i = -1 then nI n else -1)) → (∀ b, k_canc R C P i = .inr b → v = b) → Q (some (vi v)) σ') : CL L xs d 102 [vr 12 0, vr 10 o, vi i] σ Q := by
  refine cl_at p102 (by omega) (w102_0 hC ?_)
  have hS := hX.ok.cS
  refine c58 (by omega) hX hv (by omega) hp isC_2 isC_2 (fun σ1 f1 => ⟨_, rfl, ?_⟩)
  refine dm_fx (n := gN R 7) (cnO R C P i) (fun k a σ => g102_19 L xs (CL L xs (d - 1)) Q o i (en2 R C P (-2) (-2)) (nI a) (nI k) σ) (fun b σ => Q (some (vi b)) σ) (fun σ' => fr fO σ σ') (fun k a => a ≤ 8 * k) (cnO_J hX.ok) ?_ _ 0 0 σ1 (Nat.zero_add _) (by omega) (f1.weak fRn_O) ?_ ?_
  · intro k a σ' hk hj hf ih hz
    have hX' := hX.fr fO_k hf
    have hv' := vS_O ho hf hv
    refine w102_19 hC ?_
    rw [hX'.r12, hX'.cnt.2.2.2.2.1, hS.2, nI_1 k]
    refine if_lt hk (by omega) ?_
    refine c103 (by omega) hX' ho hv' hp hk rfl (fun σ2 f2 => ⟨_, rfl, ?_⟩)
    have hf2 := frO hf f2
    refine if_b (fun z => ?_) (fun z => ?_)
    · refine ih a σ2 ?_ hf2
      have key : ∀ m o, fx (cnI R C P i k) m o a = .inl a := by
        intro m
        induction m with
        | zero => intro o; rfl
        | succ m ihm =>
          intro o
          unfold fx
          have e : cnI R C P i k o a = .inl a := by
            unfold cnI canc
            rw [z]
            simp
          rw [e]
          exact ihm (o + 1)
      exact key _ _
    · refine dm_fx (n := gN R 7) (cnI R C P i k) (fun j a σ => g102_50 L xs (CL L xs (d - 1)) Q o i (en2 R C P (-2) (-2)) (nI a) (nI k) (nI j) σ) (fun b σ => Q (some (vi b)) σ) (fun σ' => fr fO σ σ') (fun o n => n ≤ 8 * k + o) cnI_J ?_ (gN R 7 - (k + 1)) (k + 1) a σ2 (by omega) (by omega) hf2 ?_ ?_
      · intro j a σ' hj2 hjj hf ih2 hz2
        have hX' := hX.fr fO_k hf
        have hv' := vS_O ho hf hv
        refine w102_50 hC ?_
        rw [hX'.r12, hX'.cnt.2.2.2.2.1, hS.2, nI_1 j, nI_1 a]
        refine if_lt hj2 (by omega) ?_
        refine c103 (by omega) hX' ho hv' hp hj2 rfl (fun σ3 f3 => ⟨_, rfl, ?_⟩)
        have hf3 := frO hf f3
        unfold cnI canc at ih2 hz2
        refine if_b (fun z2 => ?_) (fun z2 => ?_)
        · exact ih2 a σ3 (by rw [z2]; simp) hf3
        · refine c58 (by omega) (hX.fr fO_k hf3) (vS_O ho hf3 hv) (by omega) hp (isC_s hk) (isC_s hj2) (fun σ4 f4 => ⟨_, rfl, ?_⟩)
          have hf4 := frO hf3 f4
          rw [z, z2] at ih2 hz2
          refine if_c (fun z3 => ?_) (fun z3 => ?_)
          · rw [decide_eq_true z3] at ih2 hz2
            refine if_c (fun z4 => ?_) (fun z4 => ?_)
            · exact hz2 _ σ4 (by simp [z4]) hf4
            · exact ih2 _ σ4 (by simp [z4]) hf4
          · rw [decide_eq_false z3] at ih2
            exact ih2 a σ4 (by simp) hf4
      · intro a' σ' e _ hf
        have hX' := hX.fr fO_k hf
        refine w102_50 hC ?_
        rw [hX'.r12, hX'.cnt.2.2.2.2.1, hS.2, nI_1 k]
        exact if_nlt (Nat.le_refl _) (by omega) (ih a' σ' e hf)
      · intro b σ' e hf
        exact hz b σ' e hf
  · intro a' σ' e hj hf
    have hX' := hX.fr fO_k hf
    refine w102_19 hC ?_
    rw [hX'.r12, hX'.cnt.2.2.2.2.1, hS.2]
    refine if_nlt (Nat.le_refl _) (by omega) ?_
    have e : k_canc R C P i = .inl a' := e
    refine if_c (fun z => q σ' _ hf (fun n hn => ?_) (fun b hb => ?_)) (fun z => q σ' _ hf (fun n hn => ?_) (fun b hb => ?_))
    · rw [e] at hn; cases hn; exact ⟨by omega, by rw [if_pos z]⟩
    · rw [e] at hb; cases hb
    · rw [e] at hn; cases hn; exact ⟨by omega, by rw [if_neg z]⟩
    · rw [e] at hb; cases hb
  · intro b σ' e hf
    have e : k_canc R C P i = .inr b := e
    refine q σ' _ hf (fun n hn => ?_) (fun b' hb => ?_)
    · rw [e] at hn; cases hn
    · rw [e] at hb; cases hb; rfl
theorem o100 (hd : 11 ≤ d) {p : Int32} (hX : cX σ μ R C) (q : ∀ σ', cG σ σ' (a_cancels R C p).2 → Q (some (vi (a_cancels R C p).1)) σ') (hne : ∀ P b, k_canc R C P (-1) ≠ .inr b) : CL L xs d 100 [vr 12 0, vi p] σ Q := by
  refine cl_at p100 (by omega) (w100_0 hC ?_)
  refine c85 (s := 4) (by omega) rfl (by omega) hX hX.cnt.2.2.2.1 ⟨_, rfl, ?_⟩
  unfold a_cancels at q
  refine if_b (fun z => ?_) (fun z => ?_)
  · rw [if_neg (by rw [z]; decide)] at q
    exact c81 (by omega) fr.id q
  rw [if_pos z] at q
  obtain ⟨hp, ep, hp4, ho, hv, hk⟩ := pl_in hX z
  refine ix_x hp4 ep (by omega) ?_
  rw [hX.r12]
  refine c102 (by omega) hX ho hv hk (fun σ1 v f1 h1 h2 => ⟨_, rfl, ?_⟩)
  cases e : k_canc R C (plR R p.toNatClampNeg) (-1) with
  | inl n =>
    rw [e] at q
    rw [(h1 n e).2, if_pos rfl]
    exact c83 (by omega) f1 q
  | inr b => exact absurd e (hne _ b)
theorem cnI_neg {P : Pl} {i : Int32} (hi : i < 0) {s : Nat} : ∀ m k a b, a + m < 1000 → fx (cnI R C P i s) m k a ≠ .inr b
  | 0, _, _, _, _ => by intro e; cases e
  | m + 1, k, a, b, h => by
    intro e
    unfold fx at e
    have hne : ¬ nI a = i := fun z => by rw [← z] at hi; exact nI_pos (by omega) hi
    have e2 : cnI R C P i s k a = .inl a ∨ cnI R C P i s k a = .inl (a + 1) := by
      unfold cnI
      split
      · right; simp [hne]
      · left; rfl
    rcases e2 with e2 | e2 <;> rw [e2] at e
    · exact cnI_neg hi m (k + 1) a b (by omega) e
    · exact cnI_neg hi m (k + 1) (a + 1) b (by omega) e
theorem k_canc_neg (hR : okR R) {P : Pl} {i : Int32} (hi : i < 0) : ∀ b, k_canc R C P i ≠ .inr b := by
  have hS := hR.cS.1
  have key : ∀ m k a b, k + m = gN R 7 → a ≤ 8 * k → fx (cnO R C P i) m k a ≠ .inr b := by
    intro m
    induction m with
    | zero => intro k a b _ _ e; cases e
    | succ m ih =>
      intro k a b hk ha e
      unfold fx at e
      split at e
      · exact ih (k + 1) _ b (by omega) (cnO_J hR k a _ (by omega) ha ‹_›) e
      · rename_i b' hb
        exact cnI_neg hi _ _ _ b' (by omega) hb
  intro b
  exact key _ 0 0 b (by omega) (by omega)
theorem o101 (hd : 11 ≤ d) {p i : Int32} (hX : cX σ μ R C) (q : ∀ σ', cG σ σ' (a_cancel R C p i).2 → Q (some (vi (a_cancel R C p i).1)) σ') (hb : ∀ P b, k_canc R C P i = .inr b → ¬ b < 0) : CL L xs d 101 [vr 12 0, vi p, vi i] σ Q := by
  refine cl_at p101 (by omega) (w101_0 hC ?_)
  refine c85 (s := 4) (by omega) rfl (by omega) hX hX.cnt.2.2.2.1 ⟨_, rfl, ?_⟩
  unfold a_cancel at q
  refine if_b (fun z => ?_) (fun z => ?_)
  · rw [if_neg (by rw [z]; decide)] at q
    exact c81 (by omega) fr.id q
  rw [if_pos z] at q
  obtain ⟨hp, ep, hp4, ho, hv, hk⟩ := pl_in hX z
  refine if_c (fun zi => ?_) (fun zi => ?_)
  · cases e : k_canc R C (plR R p.toNatClampNeg) i with
    | inl n => rw [e] at q; exact c81 (by omega) fr.id q
    | inr b => exact absurd e (k_canc_neg hX.ok zi b)
  refine ix_x hp4 ep (by omega) ?_
  rw [hX.r12]
  have hi1 : ¬ i = -1 := fun e => zi (by rw [e]; decide)
  refine c102 (by omega) hX ho hv hk (fun σ1 v f1 h1 h2 => ⟨_, rfl, ?_⟩)
  cases e : k_canc R C (plR R p.toNatClampNeg) i with
  | inl n =>
    rw [e] at q
    rw [(h1 n e).2, if_neg hi1]
    exact if_y (by decide) (c81 (by omega) f1 q)
  | inr b =>
    rw [e] at q
    rw [h2 b e]
    exact if_n (hb _ b e) (c83 (by omega) f1 q)
theorem k_canc_pos (hR : okR R) {P : Pl} {i : Int32} : ∀ b, k_canc R C P i = .inr b → ¬ b < 0 := by
  have hS := hR.cS.1
  have inner : ∀ s, s < 8 → ∀ m k a b, k + m ≤ 8 → fx (cnI R C P i s) m k a = .inr b → ¬ b < 0 := by
    intro s hs m
    induction m with
    | zero => intro k a b _ e; cases e
    | succ m ih =>
      intro k a b hk e
      unfold fx at e
      split at e
      · exact ih (k + 1) _ b (by omega) e
      · rename_i b' hb
        cases e
        unfold cnI at hb
        split at hb
        · split at hb
          · cases hb
            rw [l10, nI_mul, nI_add]
            exact nI_pos (by omega)
          · cases hb
        · cases hb
  have key : ∀ m k a b, k + m = gN R 7 → fx (cnO R C P i) m k a = .inr b → ¬ b < 0 := by
    intro m
    induction m with
    | zero => intro k a b _ e; cases e
    | succ m ih =>
      intro k a b hk e
      unfold fx at e
      split at e
      · exact ih (k + 1) _ b (by omega) e
      · rename_i b' hb
        cases e
        exact inner k (by omega) _ _ _ b (by omega) hb
  intro b
  exact key _ 0 0 b (by omega)
theorem c221 (hd : 8 ≤ d) {p s o : Nat} {x : Int32} (hX : mX σ R C) (h1 : x = nI p) (hp : p < gN R 6) (hs : s < gN R 7) (ho : o < gN R 7) (q : ∀ σ', fr gRn σ σ' → Q (some (vi (bI (canc R C (plR R p) s o)))) σ') : CL L xs d 221 [vr 13 0, vi x, vi (nI s), vi (nI o)] σ Q := by
  refine cl_at p221 (by omega) (w221_0 hC ?_)
  unfold canc chg fit at q
  have K : ∀ {σ1 : M2}, fr gRn σ σ1 → mX σ1 R C := fun f => hX.fr (fun _ => ⟨rfl, rfl⟩) f
  refine c212 (by omega) hX h1 hp rfl hs (fun σ1 f1 => ⟨_, rfl, ?_⟩)
  refine if_b (fun z => ?_) (fun z => ?_)
  · have q := q σ1 f1; rw [z] at q; exact q
  refine c212 (by omega) (K f1) h1 hp rfl ho (fun σ2 f2 => ⟨_, rfl, ?_⟩)
  have f2 := f1.trans f2
  refine if_b (fun z2 => ?_) (fun z2 => ?_)
  · have q := q σ2 f2; rw [z, z2] at q; simp only [Bool.false_and, Bool.and_false] at q; exact q
  refine c210 (by omega) (K f2) h1 hp isC_2 isC_2 (fun σ3 f3 _ _ => ⟨_, rfl, ?_⟩)
  have f3 := f2.trans f3
  refine c210 (by omega) (K f3) h1 hp (isC_s hs) isC_2 (fun σ4 f4 _ _ => ⟨_, rfl, ?_⟩)
  have f4 := f3.trans f4
  refine if_c (fun z3 => ?_) (fun z3 => ?_)
  · have q := q σ4 f4; rw [z, z2, decide_eq_true z3] at q; exact q
  refine c210 (by omega) (K f4) h1 hp (isC_s ho) isC_2 (fun σ5 f5 _ _ => ⟨_, rfl, ?_⟩)
  have f5 := f4.trans f5
  refine if_c (fun z4 => ?_) (fun z4 => ?_)
  · have q := q σ5 f5; rw [z, z2, decide_eq_true z4] at q; simp only [Bool.not_true, Bool.and_false, Bool.false_and] at q; exact q
  refine c210 (by omega) (K f5) h1 hp (isC_s hs) (isC_s ho) (fun σ6 f6 _ _ => ⟨_, rfl, ?_⟩)
  have q := q σ6 (f5.trans f6)
  rw [z, z2, decide_eq_false z3, decide_eq_false z4] at q
  refine if_c (fun z5 => ?_) (fun z5 => ?_)
  · rw [decide_eq_true z5] at q; exact q
  · rw [decide_eq_false z5] at q; exact q
theorem o222 (hd : 10 ≤ d) {p : Int32} (hY : mY σ R C h) (q : ∀ σ', mG σ σ' (a_cancels R C p).2 → Q (some (vi (a_cancels R C p).1)) σ') : CL L xs d 222 [vr 13 0, vi p] σ Q := by
  refine cl_at p222 (by omega) (w222_0 hC ?_)
  refine c150 (by omega) (fun σ1 g1 => ⟨rfl, ?_⟩)
  have Y1 := mY_o hY g1.1
  unfold a_cancels at q
  refine c190 (by omega) Y1 ⟨_, rfl, ?_⟩
  refine if_b (fun z => ?_) (fun z => ?_)
  · rw [if_neg (by rw [z]; decide)] at q
    exact c151 (by omega) g1 q
  rw [if_pos z] at q
  obtain ⟨hp, ep, hp4⟩ := pl_im hY.1.1 z
  have hS := hY.1.1.cS
  refine dm_fx (n := gN R 7) (cnO R C (plR R p.toNatClampNeg) (-1)) (fun k a σ => g222_22 L xs (CL L xs (d - 1)) Q p (nI a) (nI k) σ) (fun b σ => False) (fun σ' => mG σ σ' 0) (fun k a => a ≤ 8 * k) (cnO_J hY.1.1) ?_ _ 0 0 σ1 (Nat.zero_add _) (by omega) g1 ?_ ?_
  · intro k a σ' hk hj hf ih hz
    have Y' := mY_o hY hf.1
    refine w222_22 hC ?_
    rw [Y'.1.2.1, hS.2, nI_1 k]
    refine if_lt hk (by omega) ?_
    refine dm_fx (n := gN R 7) (cnI R C (plR R p.toNatClampNeg) (-1) k) (fun j a σ => g222_38 L xs (CL L xs (d - 1)) Q p (nI a) (nI k) (nI j) σ) (fun b σ => False) (fun σ' => mG σ σ' 0) (fun o n => n ≤ 8 * k + o) cnI_J ?_ (gN R 7 - (k + 1)) (k + 1) a σ' (by omega) (by omega) hf ?_ ?_
    · intro j a σ2 hj2 hjj hf ih2 hz2
      have Y' := mY_o hY hf.1
      refine w222_38 hC ?_
      rw [Y'.1.2.1, hS.2, nI_1 j, nI_1 a]
      refine if_lt hj2 (by omega) ?_
      refine c221 (by omega) Y'.1 ep hp hk hj2 (fun σ3 f3 => ⟨_, rfl, ?_⟩)
      unfold cnI at ih2
      refine if_b (fun z => ?_) (fun z => ?_)
      · rw [Int32.add_zero]; exact ih2 a σ3 (by rw [z]; simp) (hf.rn f3)
      · refine ih2 (a + 1) σ3 ?_ (hf.rn f3)
        rw [if_pos z, if_neg]
        intro e
        have := congrArg (fun x => decide (x < 0)) e
        simp only [decide_eq_false (nI_pos (n := a) (by omega))] at this
        exact absurd this (by decide)
    · intro a' σ2 e _ hf
      have Y' := mY_o hY hf.1
      refine w222_38 hC ?_
      rw [Y'.1.2.1, hS.2, nI_1 k]
      exact if_nlt (Nat.le_refl _) (by omega) (ih a' σ2 e hf)
    · intro b σ2 e hf
      exact cnI_neg (i := -1) (by decide) _ _ _ b (by omega) e
  · intro a' σ' e hj hf
    have Y' := mY_o hY hf.1
    refine w222_22 hC ?_
    rw [Y'.1.2.1, hS.2]
    have e : k_canc R C (plR R p.toNatClampNeg) (-1) = .inl a' := e
    rw [e] at q
    exact if_nlt (Nat.le_refl _) (by omega) (q σ' hf)
  · intro b σ' e hf
    exact k_canc_neg hY.1.1 (by decide) b e
theorem o223 (hd : 10 ≤ d) {p i : Int32} (hY : mY σ R C h) (q : ∀ σ', mG σ σ' (a_cancel R C p i).2 → Q (some (vi (a_cancel R C p i).1)) σ') : CL L xs d 223 [vr 13 0, vi p, vi i] σ Q := by
  refine cl_at p223 (by omega) (w223_0 hC ?_)
  refine c150 (by omega) (fun σ1 g1 => ⟨rfl, ?_⟩)
  have Y1 := mY_o hY g1.1
  unfold a_cancel at q
  refine c190 (by omega) Y1 ⟨_, rfl, ?_⟩
  refine if_b (fun z => ?_) (fun z => ?_)
  · rw [if_neg (by rw [z]; decide)] at q
    exact c151 (by omega) g1 q
  rw [if_pos z] at q
  obtain ⟨hp, ep, hp4⟩ := pl_im hY.1.1 z
  have hS := hY.1.1.cS
  refine dm_fx (n := gN R 7) (cnO R C (plR R p.toNatClampNeg) i) (fun k a σ => g223_23 L xs (CL L xs (d - 1)) Q p i (nI a) (nI k) σ) (fun b σ => Q (some (vi b)) σ) (fun σ' => mG σ σ' 0) (fun k a => a ≤ 8 * k) (cnO_J hY.1.1) ?_ _ 0 0 σ1 (Nat.zero_add _) (by omega) g1 ?_ ?_
  · intro k a σ' hk hj hf ih hz
    have Y' := mY_o hY hf.1
    refine w223_23 hC ?_
    rw [Y'.1.2.1, hS.2, nI_1 k]
    refine if_lt hk (by omega) ?_
    refine dm_fx (n := gN R 7) (cnI R C (plR R p.toNatClampNeg) i k) (fun j a σ => g223_41 L xs (CL L xs (d - 1)) Q p i (nI a) (nI k) (nI j) σ) (fun b σ => Q (some (vi b)) σ) (fun σ' => mG σ σ' 0) (fun o n => n ≤ 8 * k + o) cnI_J ?_ (gN R 7 - (k + 1)) (k + 1) a σ' (by omega) (by omega) hf ?_ ?_
    · intro j a σ2 hj2 hjj hf ih2 hz2
      have Y' := mY_o hY hf.1
      refine w223_41 hC ?_
      rw [Y'.1.2.1, hS.2, nI_1 j, nI_1 a]
      refine if_lt hj2 (by omega) ?_
      refine c221 (by omega) Y'.1 ep hp hk hj2 (fun σ3 f3 => ⟨_, rfl, ?_⟩)
      unfold cnI at ih2 hz2
      refine if_b (fun z => ?_) (fun z => ?_)
      · exact ih2 a σ3 (by rw [z]; simp) (hf.rn f3)
      · refine if_c (fun z4 => ?_) (fun z4 => ?_)
        · exact hz2 _ σ3 (by rw [if_pos z, if_pos z4]) (hf.rn f3)
        · exact ih2 _ σ3 (by rw [if_pos z, if_neg z4]) (hf.rn f3)
    · intro a' σ2 e _ hf
      have Y' := mY_o hY hf.1
      refine w223_41 hC ?_
      rw [Y'.1.2.1, hS.2, nI_1 k]
      exact if_nlt (Nat.le_refl _) (by omega) (ih a' σ2 e hf)
    · intro b σ2 e hf
      exact hz b σ2 e hf
  · intro a' σ' e hj hf
    have Y' := mY_o hY hf.1
    refine w223_23 hC ?_
    rw [Y'.1.2.1, hS.2]
    have e : k_canc R C (plR R p.toNatClampNeg) i = .inl a' := e
    rw [e] at q
    exact if_nlt (Nat.le_refl _) (by omega) (c151 (by omega) hf q)
  · intro b σ' e hf
    have e : k_canc R C (plR R p.toNatClampNeg) i = .inr b := e
    rw [e] at q
    exact q σ' hf
theorem o104 (hd : 10 ≤ d) {p : Int32} (hX : cX σ μ R C) (q : ∀ σ', cG σ σ' (a_worst R C p).2 → Q (some (vi (a_worst R C p).1)) σ') : CL L xs d 104 [vr 12 0, vi p] σ Q := by
  refine cl_at p104 (by omega) (w104_0 hC ?_)
  refine c85 (s := 4) (by omega) rfl (by omega) hX hX.cnt.2.2.2.1 ⟨_, rfl, ?_⟩
  unfold a_worst at q
  refine if_b (fun z => ?_) (fun z => ?_)
  · rw [if_neg (by rw [z]; decide)] at q
    exact c81 (by omega) fr.id q
  rw [if_pos z] at q
  obtain ⟨hp, ep, hp4, ho, hv, hk8⟩ := pl_in hX z
  refine ix_x hp4 ep (by omega) ?_
  rw [hX.r12]
  have hS := hX.ok.cS
  refine dm_ff (n := gN R 7) (w2O R C (plR R p.toNatClampNeg)) (fun k a σ => g104_30 L xs (CL L xs (d - 1)) Q (4 * μ + p.toNatClampNeg) a (nI k) σ) (fun σ' => fr fO σ σ') ?_ _ 0 (-1) σ (Nat.zero_add _) fr.id ?_
  · intro k a σ' hk hf ih
    have hX' := hX.fr fO_k hf
    have hv' := vS_O ho hf hv
    refine w104_30 hC ?_
    rw [hX'.r12, hX'.cnt.2.2.2.2.1, hS.2, nI_1]
    refine if_lt hk (by omega) ?_
    refine c53 (by omega) rfl hX' hv' (hk8.up (by omega)) hk ⟨_, rfl, ?_⟩
    unfold w2O at ih
    refine if_b (fun z => ?_) (fun z => ?_)
    · rw [if_neg (by unfold fit; rw [z]; decide)] at ih; exact ih σ' hf
    · rw [if_pos (by unfold fit; exact z)] at ih
      refine dm_ff (n := gN R 7) (w2I R C (plR R p.toNatClampNeg) k) (fun j a σ => g104_60 L xs (CL L xs (d - 1)) Q (4 * μ + p.toNatClampNeg) a (nI k) (nI j) σ) (fun σ' => fr fO σ σ') ?_ _ 0 a σ' (Nat.zero_add _) hf ?_
      · intro j a σ2 hj hf ih2
        have hX' := hX.fr fO_k hf
        have hv' := vS_O ho hf hv
        refine w104_60 hC ?_
        rw [hX'.r12, hX'.cnt.2.2.2.2.1, hS.2, nI_1 j]
        refine if_lt hj (by omega) ?_
        refine c53 (by omega) rfl hX' hv' (hk8.up (by omega)) hj ⟨_, rfl, ?_⟩
        unfold w2I at ih2
        refine if_b (fun z => ?_) (fun z => ?_)
        · rw [if_neg (by unfold fit; rw [z]; decide)] at ih2; exact ih2 σ2 hf
        · rw [if_pos (by unfold fit; exact z)] at ih2
          exact c59 (by omega) hX' hv' (by omega) hk8 (isC_s hk) (isC_s hj) (fun σ3 f3 => ⟨_, rfl, ih2 σ3 (frO hf f3)⟩)
      · intro σ2 hf
        have hX' := hX.fr fO_k hf
        refine w104_60 hC ?_
        rw [hX'.r12, hX'.cnt.2.2.2.2.1, hS.2, nI_1 k]
        exact if_nlt (Nat.le_refl _) (by omega) (ih σ2 hf)
  · intro σ' hf
    have hX' := hX.fr fO_k hf
    refine w104_30 hC ?_
    rw [hX'.r12, hX'.cnt.2.2.2.2.1, hS.2]
    refine if_nlt (Nat.le_refl _) (by omega) ?_
    refine if_c (fun z => ?_) (fun z => ?_)
    · rw [if_pos z] at q
      exact c59 (by omega) hX' (vS_O ho hf hv) (by omega) hk8 isC_2 isC_2 (fun σ3 f3 => ⟨_, rfl, c83 (by omega) (frO hf f3) q⟩)
    · rw [if_neg z] at q
      exact c83 (by omega) hf q
theorem o224 (hd : 9 ≤ d) {p : Int32} (hY : mY σ R C h) (q : ∀ σ', mG σ σ' (a_worst R C p).2 → Q (some (vi (a_worst R C p).1)) σ') : CL L xs d 224 [vr 13 0, vi p] σ Q := by
  refine cl_at p224 (by omega) (w224_0 hC ?_)
  refine c150 (by omega) (fun σ1 g1 => ⟨rfl, ?_⟩)
  have Y1 := mY_o hY g1.1
  unfold a_worst at q
  refine c190 (by omega) Y1 ⟨_, rfl, ?_⟩
  refine if_b (fun z => ?_) (fun z => ?_)
  · rw [if_neg (by rw [z]; decide)] at q
    exact c151 (by omega) g1 q
  rw [if_pos z] at q
  obtain ⟨hp, ep, hp4⟩ := pl_im hY.1.1 z
  have hS := hY.1.1.cS
  refine dm_ff (n := gN R 7) (w2O R C (plR R p.toNatClampNeg)) (fun k a σ => g224_22 L xs (CL L xs (d - 1)) Q p a (nI k) σ) (fun σ' => mG σ σ' 0) ?_ _ 0 (-1) σ1 (Nat.zero_add _) g1 ?_
  · intro k a σ' hk hf ih
    have Y' := mY_o hY hf.1
    refine w224_22 hC ?_
    rw [Y'.1.2.1, hS.2]
    refine if_lt hk (by omega) ?_
    have eW : w2O R C (plR R p.toNatClampNeg) k a = ff (fun o a => if fit R C (plR R p.toNatClampNeg) k = true then w2I R C (plR R p.toNatClampNeg) k o a else a) (gN R 7) 0 a := by
      unfold w2O
      by_cases c : fit R C (plR R p.toNatClampNeg) k = true
      · rw [if_pos c]; congr 1; funext o a; rw [if_pos c]
      · rw [if_neg c, ff_id]; intro o a; rw [if_neg c]
    rw [eW] at ih
    refine dm_ff (n := gN R 7) (fun o a => if fit R C (plR R p.toNatClampNeg) k = true then w2I R C (plR R p.toNatClampNeg) k o a else a) (fun j a σ => g224_36 L xs (CL L xs (d - 1)) Q p a (nI k) (nI j) σ) (fun σ' => mG σ σ' 0) ?_ _ 0 a σ' (Nat.zero_add _) hf ?_
    · intro j a σ2 hj hf ih2
      have Y' := mY_o hY hf.1
      refine w224_36 hC ?_
      rw [Y'.1.2.1, hS.2, nI_1 j]
      refine if_lt hj (by omega) ?_
      refine c212 (by omega) Y'.1 ep hp rfl hk (fun σ3 f3 => ⟨_, rfl, ?_⟩)
      have g3 := hf.rn f3
      refine if_b (fun z => ?_) (fun z => ?_)
      · rw [if_neg (by unfold fit; rw [z]; decide)] at ih2; exact ih2 σ3 g3
      rw [if_pos (by unfold fit; exact z)] at ih2
      refine c212 (by omega) (mY_o hY g3.1).1 ep hp rfl hj (fun σ4 f4 => ⟨_, rfl, ?_⟩)
      have g4 := g3.rn f4
      unfold w2I at ih2
      refine if_b (fun z => ?_) (fun z => ?_)
      · rw [if_neg (by unfold fit; rw [z]; decide)] at ih2; exact ih2 σ4 g4
      rw [if_pos (by unfold fit; exact z)] at ih2
      refine c209 (by omega) (mY_o hY g4.1).1 ep hp (isC_s hk) (isC_s hj) (fun σ5 f5 => ⟨_, rfl, ?_⟩)
      have ih2 := ih2 σ5 (g4.rn f5)
      refine if_c (fun z => ?_) (fun z => ?_)
      · rw [if_pos z] at ih2; exact ih2
      · rw [if_neg z] at ih2; exact ih2
    · intro σ2 hf
      have Y' := mY_o hY hf.1
      refine w224_36 hC ?_
      rw [Y'.1.2.1, hS.2, nI_1 k]
      exact if_nlt (Nat.le_refl _) (by omega) (ih σ2 hf)
  · intro σ' hf
    have Y' := mY_o hY hf.1
    refine w224_22 hC ?_
    rw [Y'.1.2.1, hS.2]
    refine if_nlt (Nat.le_refl _) (by omega) ?_
    refine if_c (fun z => ?_) (fun z => ?_)
    · rw [if_pos z] at q
      exact c209 (by omega) Y'.1 ep hp isC_2 isC_2 (fun σ3 f3 => ⟨_, rfl, q σ3 (hf.rn f3)⟩)
    · rw [if_neg z] at q
      exact q σ' hf
end OP3
