/-! CALLS of the model: apart, copies -/
def g72 : Nat → Nat → Nat → Bool := fun t i k => gRn t i k || t == 72
theorem gRn_72 : ∀ t i k, gRn t i k = true → g72 t i k = true := fun t i k h => by unfold g72; rw [h]; rfl
theorem g72_O : ∀ t i k, g72 t i k = true → gO t i k = true := by
  intro t i k h
  unfold g72 at h
  rcases Bool.or_eq_true_iff.mp h with h | h
  · exact gRn_O t i k h
  · unfold gO
    simp only [beq_iff_eq] at h
    simp [h]
section OP10
variable {L : Nat} {xs : Nat → Int32} {d : Nat} {Q : Option dm_V → M2 → Prop} {σ : M2} {μ : Nat} {R : Nat → Int32} {C : Nat → Bool} {h : Bool}
theorem c246 (hd : 8 ≤ d) (hX : mX σ R C) (q : ∀ σ', fr g72 σ σ' → tE σ'.1 72 R C (gN R 6) → Q none σ') : CL L xs d 246 [vr 13 0] σ Q := by
  refine cl_at p246 (by omega) (w246_0 hC ?_)
  have hP := hX.1.cP
  have hS := hX.1.cS
  have K : ∀ {σ1 : M2}, fr g72 σ σ1 → mX σ1 R C := fun f => hX.fr (fun _ => ⟨rfl, rfl⟩) f
  refine dm_for (n := gN R 6) (fun k σ => g246_2 L xs (CL L xs (d - 1)) Q (nI k) σ) (fun k σ' => fr g72 σ σ' ∧ tE σ'.1 72 R C k) ?_ ?_ 0 _ (Nat.zero_le _) ⟨fr.id, fun p hp => absurd hp (Nat.not_lt_zero p)⟩
  · rintro k σ1 hk ⟨g1, t1⟩ ih
    refine w246_2 hC ?_
    rw [(K g1).2.1, hP.2]
    refine if_lt hk (by omega) ?_
    -- column a is x2 + 1
    have loop : ∀ m a σ2, a + m = gN R 7 + 1 → fr g72 σ σ2 → tE σ2.1 72 R C k → (∀ a', a' < a → σ2.1 72 0 (8 * k + a') = eT R C k a') → g246_15 L xs (CL L xs (d - 1)) Q (nI k) (nI a + (-1)) σ2 := by
      intro m
      induction m with
      | zero =>
        intro a σ2 ha g2 t2 z2
        have e : nI a + (-1) = nI (gN R 7) := by rw [nI_dec (by omega)]; congr 1; omega
        refine w246_15 hC ?_
        rw [e, (K g2).2.1, hS.2, nI_1 k]
        refine if_nlt (Nat.le_refl _) (by omega) (ih σ2 ⟨g2, fun p hp a' ha' => ?_⟩)
        rcases Nat.lt_or_ge p k with e | e
        · exact t2 p e a' ha'
        · obtain rfl : p = k := by omega
          exact z2 a' (by omega)
      | succ m ihm =>
        intro a σ2 ha g2 t2 z2
        have e1 : nI a + (-1) + 1 = nI a := by rw [Int32.add_assoc]; exact Int32.add_zero _
        have e2 : 8 * nI k + (nI a + (-1)) + 1 = nI (8 * k + a) := by rw [Int32.add_assoc, e1, l8, nI_mul, nI_add]
        have nx : ∀ σ3 v, fr gRn σ2 σ3 → v = eT R C k a → g246_15 L xs (CL L xs (d - 1)) Q (nI k) (nI a + (-1) + 1) (m2_wI σ3 72 0 (8 * k + a) v) := by
          intro σ3 v g3 ev
          have := ihm (a + 1) (m2_wI σ3 72 0 (8 * k + a) v) (by omega) ((g2.trans (g3.weak gRn_72)).w rfl) (fun p hp a' ha' => by rw [wI_k (by omega), g3.1 _ _ _ rfl]; exact t2 p hp a' ha') (fun a' ha' => by
            by_cases e : a' = a
            · rw [e, wI_same, ev]
            · rw [wI_k (by omega), g3.1 _ _ _ rfl]; exact z2 a' (by omega))
          rw [e1]
          rw [nI_dec (by omega), Nat.add_sub_cancel] at this
          exact this
        refine w246_15 hC ?_
        rw [(K g2).2.1, hS.2, e2, nI_clamp (n := 8 * k + a) (by omega)]
        rcases Nat.eq_zero_or_pos a with e0 | e0
        · subst e0
          refine if_y ?_ (if_y (by decide) ?_)
          · exact Int32.lt_iff_toInt_lt.mpr (by rw [nI_toInt (by omega)]; show (-1 : Int) < _; omega)
          · refine c210 (by omega) (K g2) rfl hk isC_2 isC_2 (fun σ3 g3 _ _ => ⟨_, rfl, ix_k (by omega) (by omega) (nx σ3 _ g3 rfl)⟩)
        · obtain ⟨j, rfl⟩ : ∃ j, a = j + 1 := ⟨a - 1, by omega⟩
          have ej : nI (j + 1) + (-1) = nI j := by rw [nI_dec (by omega), Nat.add_sub_cancel]
          rw [ej] at nx ⊢
          refine if_lt (by omega) (by omega) (if_n (nI_pos (by omega)) ?_)
          refine c210 (by omega) (K g2) rfl hk (isC_s (by omega)) isC_2 (fun σ3 g3 _ _ => ⟨_, rfl, ix_k (by omega) (by omega) (nx σ3 _ g3 ?_)⟩)
          unfold eT
          rw [if_neg (by omega), Nat.add_sub_cancel]
    exact loop (gN R 7 + 1) 0 σ1 (by omega) g1 t1 (fun a' h => absurd h (Nat.not_lt_zero _))
  · rintro σ1 ⟨g1, t1⟩
    refine w246_2 hC ?_
    rw [(K g1).2.1, hP.2]
    exact if_nlt (Nat.le_refl _) (by omega) (q σ1 g1 t1)
theorem c247 (hd : 4 ≤ d) {a b : Nat} (hX : mX σ R C) (ht : tE σ.1 72 R C (gN R 6)) (ha : a ≤ gN R 7) (hb : b ≤ gN R 7) (q : Q (some (vi (tAf (neA R C a b) (gN R 6)))) σ) : CL L xs d 247 [vr 13 0, vi (nI a), vi (nI b)] σ Q := by
  refine cl_at p247 (by omega) (w247_0 hC ?_)
  have hP := hX.1.cP
  have hS := hX.1.cS
  unfold tAf at q
  refine dm_ff (n := gN R 6) (fun p acc => if neA R C a b p = true then acc ||| bt p else acc) (fun k acc σ => g247_5 L xs (CL L xs (d - 1)) Q (nI a) (nI b) acc (nI k) σ) (fun σ' => σ' = σ) ?_ _ 0 0 σ (Nat.zero_add _) rfl ?_
  · rintro k acc σ' hk rfl ih
    refine w247_5 hC ?_
    rw [hX.2.1, hP.2, l8, nI_mul, nI_add, nI_add, nI_clamp (n := 8 * k + a) (by omega), nI_clamp (n := 8 * k + b) (by omega), ht k hk a ha, ht k hk b hb, nI_1, Int32.or_zero]
    refine if_lt hk (by omega) (ix_k (by omega) (by omega) (ix_k (by omega) (by omega) ?_))
    have ih := ih _ rfl
    unfold neA at ih
    refine if_c (fun z => ?_) (fun z => ?_)
    · rw [if_neg (by rw [decide_eq_true z]; decide)] at ih; exact ih
    · rw [if_pos (by rw [decide_eq_false z]; rfl)] at ih; exact ih
  · rintro σ' rfl
    refine w247_5 hC ?_
    rw [hX.2.1, hP.2]
    exact if_nlt (Nat.le_refl _) (by omega) q
theorem o248 (hd : 9 ≤ d) (hY : mY σ R C h) (q : ∀ σ', mG σ σ' (a_apart R C h).2 → Q (some (vi (a_apart R C h).1)) σ') : CL L xs d 248 [vr 13 0] σ Q := by
  refine cl_at p248 (by omega) (w248_0 hC ?_)
  refine c150 (by omega) (fun σ1 g1 => ⟨rfl, ?_⟩)
  have Y1 := mY_o hY g1.1
  unfold a_apart at q
  rw [Y1.2.1]
  refine if_b (fun z => ?_) (fun z => ?_)
  · rw [if_neg (by rw [z]; decide)] at q
    exact c151 (by omega) g1 q
  rw [if_pos z] at q
  have hP := hY.1.1.cP
  have hS := hY.1.1.cS
  have p16 := pow5 _ hP.1
  have p1 : 1 ≤ 2 ^ gN R 6 := Nat.one_le_two_pow
  refine c246 (by omega) Y1.1 (fun σ2 f2 t2 => ⟨rfl, ?_⟩)
  have G2 := g1.o g72_O rfl rfl f2
  have X2 := (mY_o hY G2.1).1
  rw [X2.2.1, hP.2, shl_P _ hP.1, nI_s1 p1]
  have q := q σ2 G2
  unfold k_apart at q
  have loop : ∀ m k b, k + m = 2 ^ gN R 6 → b < 2 ^ gN R 6 → Q (some (vi (nI (ff (mF (okS R C)) m k b)))) σ2 → g248_35 L xs (CL L xs (d - 1)) Q (nI b) (nI k) σ2 := by
    intro m
    induction m with
    | zero =>
      intro k b hk hb q
      refine w248_35 hC ?_
      rw [X2.2.1, hP.2, shl_P _ hP.1]
      exact if_nlt (by omega) (by omega) q
    | succ m ih =>
      intro k b hk hb q
      refine w248_35 hC ?_
      rw [X2.2.1, hP.2, shl_P _ hP.1]
      refine if_lt (by omega) (by omega) ?_
      refine c154 (by omega) (by omega) ⟨_, rfl, ?_⟩
      refine c154 (by omega) (by omega) ⟨_, rfl, ?_⟩
      have hpk := pop_4 k (by omega)
      have hpb := pop_4 b (by omega)
      have q : Q (some (vi (nI (ff (mF (okS R C)) m (k + 1) (mF (okS R C) k b))))) σ2 := q
      unfold mF at q
      -- out of the loop over the pairs
      have out : ∀ x3 : Int32, (x3 = 0 → (decide (pop k < pop b) && okS R C k) = false) → (x3 ≠ 0 → (decide (pop k < pop b) && okS R C k) = true) → (if x3 = 0 then g248_35 L xs (CL L xs (d - 1)) Q (nI b) (nI k + 1) σ2 else g248_35 L xs (CL L xs (d - 1)) Q (nI k) (nI k + 1) σ2) := by
        intro x3 h0 h1
        rw [nI_1]
        refine if_c (fun e => ?_) (fun e => ?_)
        · rw [if_neg (by rw [h0 e]; decide)] at q
          exact ih (k + 1) b (by omega) hb q
        · rw [if_pos (h1 e)] at q
          exact ih (k + 1) k (by omega) (by omega) q
      have bad : ∀ a, (decide (pop k < pop b) && okS R C k) = false → a < 100 → g248_68 L xs (CL L xs (d - 1)) Q (nI b) (nI k) 0 (nI a) σ2 := by
        intro a h0 ha
        refine w248_68 hC ?_
        rw [X2.2.1, hS.2]
        exact if_c (fun _ => out 0 (fun _ => h0) (fun e => absurd rfl e)) (fun _ => if_y rfl (out 0 (fun _ => h0) (fun e => absurd rfl e)))
      have pairs : pop k < pop b → g248_68 L xs (CL L xs (d - 1)) Q (nI b) (nI k) 1 (nI 0) σ2 := by
        intro hpop
        refine dm_for (n := gN R 7 + 1) (fun a σ => g248_68 L xs (CL L xs (d - 1)) Q (nI b) (nI k) 1 (nI a) σ) (fun a σ' => σ' = σ2 ∧ al (fun a => al (gdA R C k a) a) a = true) ?_ ?_ 0 σ2 (Nat.zero_le _) ⟨rfl, rfl⟩
        · rintro a σ3 ha ⟨rfl, h1⟩ ih2
          refine w248_68 hC ?_
          rw [X2.2.1, hS.2]
          refine if_nlt (by omega) (by omega) (if_n (by decide) ?_)
          have bad2 : ∀ m b', b' + m = a → okS R C k = false → g248_87 L xs (CL L xs (d - 1)) Q (nI b) (nI k) 0 (nI a) (nI b') σ3 := by
            intro m
            induction m with
            | zero =>
              intro b' hb' hk0
              refine w248_87 hC ?_
              rw [nI_1 a]
              exact if_nlt (by omega) (by omega) (bad (a + 1) (by rw [hk0, Bool.and_false]) (by omega))
            | succ m ihm =>
              intro b' hb' hk0
              refine w248_87 hC ?_
              rw [nI_1 b']
              exact if_lt (by omega) (by omega) (if_y rfl (ihm (b' + 1) (by omega) hk0))
          refine dm_for (n := a) (fun b' σ => g248_87 L xs (CL L xs (d - 1)) Q (nI b) (nI k) 1 (nI a) (nI b') σ) (fun b' σ' => σ' = σ3 ∧ al (gdA R C k a) b' = true) ?_ ?_ 0 σ3 (Nat.zero_le _) ⟨rfl, rfl⟩
          · rintro b' σ4 hb' ⟨rfl, h2⟩ ih3
            refine w248_87 hC ?_
            rw [nI_1 b']
            refine if_lt hb' (by omega) (if_n (by decide) ?_)
            refine c247 (by omega) X2 t2 (by omega) (by omega) ⟨_, rfl, ?_⟩
            rw [neA_sym]
            refine if_c (fun z1 => ?_) (fun z1 => ?_)
            · refine ih3 _ ⟨rfl, ?_⟩
              unfold al
              rw [h2]
              unfold gdA
              rw [(tA_0 hP.1).mp z1]; rfl
            refine c247 (by omega) X2 t2 (by omega) (by omega) ⟨_, rfl, ?_⟩
            rw [neA_sym]
            refine if_c (fun z2 => ?_) (fun z2 => ?_)
            · refine bad2 (a - (b' + 1)) (b' + 1) (by omega) ?_
              have e : gdA R C k a b' = false := by
                unfold gdA
                rw [(tA_and hP.1 (by omega)).mp z2]
                cases e0 : dff (neA R C b' a) (2 ^ gN R 6 - 1) (gN R 6)
                · exact absurd ((tA_0 hP.1).mpr e0) z1
                · rfl
              exact al_f (k := a) (by omega) (al_f hb' e)
            · refine ih3 _ ⟨rfl, ?_⟩
              unfold al
              rw [h2]
              unfold gdA
              cases e0 : dff (neA R C b' a) k (gN R 6)
              · exact absurd ((tA_and hP.1 (by omega)).mpr e0) z2
              · rw [Bool.or_true]; rfl
          · rintro σ4 ⟨rfl, h2⟩
            refine w248_87 hC ?_
            rw [nI_1 a]
            refine if_nlt (Nat.le_refl _) (by omega) (ih2 _ ⟨rfl, ?_⟩)
            unfold al
            rw [h1, h2]; rfl
        · rintro σ3 ⟨rfl, h1⟩
          refine w248_68 hC ?_
          rw [X2.2.1, hS.2]
          have e : okS R C k = true := h1
          exact if_lt (by omega) (by omega) (out 1 (fun e => absurd e (by decide)) (fun _ => by rw [decide_eq_true hpop, e]; rfl))
      refine if_c (fun z => ?_) (fun z => ?_)
      · exact pairs ((nI_ltI (by omega) (by omega)).mp z)
      · refine bad 0 ?_ (by omega)
        rw [decide_eq_false (fun w => z (nI_lt w (by omega)))]; rfl
  exact loop _ 0 _ (Nat.zero_add _) (by omega) q
theorem o249 (hd : 9 ≤ d) (hY : mY σ R C h) (q : ∀ σ', mG σ σ' (a_copies R C h).2 → Q (some (vi (a_copies R C h).1)) σ') : CL L xs d 249 [vr 13 0] σ Q := by
  refine cl_at p249 (by omega) (w249_0 hC ?_)
  refine c150 (by omega) (fun σ1 g1 => ⟨rfl, ?_⟩)
  have Y1 := mY_o hY g1.1
  unfold a_copies at q
  rw [Y1.2.1]
  refine if_b (fun z => ?_) (fun z => ?_)
  · rw [if_neg (by rw [z]; decide)] at q
    exact c151 (by omega) g1 q
  rw [if_pos z] at q
  have hP := hY.1.1.cP
  have hS := hY.1.1.cS
  refine c246 (by omega) Y1.1 (fun σ2 f2 t2 => ⟨rfl, ?_⟩)
  have G2 := g1.o g72_O rfl rfl f2
  have X2 := (mY_o hY G2.1).1
  have q := q σ2 G2
  refine dm_ff (n := gN R 7) (cpF R C) (fun s a σ => g249_25 L xs (CL L xs (d - 1)) Q a (nI s) σ) (fun σ' => σ' = σ2) ?_ _ 0 0 σ2 (Nat.zero_add _) rfl ?_
  · rintro s a σ3 hs rfl ih
    refine w249_25 hC ?_
    rw [X2.2.1, hS.2]
    refine if_lt hs (by omega) ?_
    unfold cpF at ih
    refine dm_ff (n := s) (fun o a => if dff (neA R C (o + 1) (s + 1)) (2 ^ gN R 6 - 1) (gN R 6) = false then a ||| bt s else a) (fun o a σ => g249_38 L xs (CL L xs (d - 1)) Q a (nI s) (nI o) σ) (fun σ' => σ' = σ3) ?_ s 0 a σ3 (Nat.zero_add _) rfl ?_
    · rintro o a σ4 ho rfl ih2
      refine w249_38 hC ?_
      rw [nI_1 s, nI_1 o, Int32.or_zero]
      refine if_lt ho (by omega) ?_
      refine c247 (by omega) X2 t2 (by omega) (by omega) ⟨_, rfl, ?_⟩
      rw [neA_sym]
      have ih2 := ih2 _ rfl
      refine if_c (fun z => ?_) (fun z => ?_)
      · rw [if_pos ((tA_0 hP.1).mp z)] at ih2; exact ih2
      · rw [if_neg (fun e => z ((tA_0 hP.1).mpr e))] at ih2; exact ih2
    · rintro σ4 rfl
      refine w249_38 hC ?_
      rw [nI_1 s]
      exact if_nlt (Nat.le_refl _) (by omega) (ih _ rfl)
  · rintro σ3 rfl
    refine w249_25 hC ?_
    rw [X2.2.1, hS.2]
    exact if_nlt (Nat.le_refl _) (by omega) q
end OP10
