/-! CALLS of the model: lending, weekOf -/
def gLd : Nat → Nat → Nat → Bool := fun t _ k => t == 73 || (t == 74 || (t == 13 && k == 35))
def gLn : Nat → Nat → Nat → Bool := fun t i k => gRn t i k || (t == 73 || (t == 74 || (t == 75 || (t == 13 && k == 35))))
theorem gLd_n : ∀ t i k, gLd t i k = true → gLn t i k = true := by
  intro t i k h
  unfold gLd at h
  unfold gLn
  simp only [Bool.or_eq_true, Bool.and_eq_true, beq_iff_eq] at *
  omega
theorem gRn_n : ∀ t i k, gRn t i k = true → gLn t i k = true := fun t i k h => by unfold gLn; rw [h]; rfl
theorem gLn_O : ∀ t i k, gLn t i k = true → gO t i k = true := by
  intro t i k h
  unfold gLn at h
  rcases Bool.or_eq_true_iff.mp h with h | h
  · exact gRn_O t i k h
  · unfold gO
    simp only [Bool.or_eq_true, Bool.and_eq_true, beq_iff_eq, decide_eq_true_eq] at *
    omega
def LM (R : Nat → Int32) (a : Nat) (tr : Nat → Int32) (st : Nat × (Nat → Int32)) (σ0 σ : M2) : Prop := fr gLd σ0 σ ∧ (∀ i, i < a → σ.1 73 0 i = tr i) ∧ σ.1 13 0 35 = nI st.1 - 1 ∧ (0 < st.1 → ∀ i, i < gN R 9 → σ.1 74 0 i = st.2 i)
theorem bI_and (b : Bool) : bI b &&& 1 = bI b := by cases b <;> decide
section OP13
variable {L : Nat} {xs : Nat → Int32} {R : Nat → Int32} {C : Nat → Bool} {h : Bool}
theorem c254 {d : Nat} {σ : M2} {Q : Option dm_V → M2 → Prop} (hd : 4 ≤ d) {a wk : Nat} {tr : Nat → Int32} (hX : mX σ R C) (ha : a < gN R 9) (h75 : σ.1 75 0 a = wth R C a) (h73 : ∀ i, i < a → σ.1 73 0 i = tr i) (q : Q (some (vi (bI (cbA R C a wk tr)))) σ) : CL L xs d 254 [vr 13 0, vi (nI a), vi (nI wk)] σ Q := by
  refine cl_at p254 (by omega) (w254_0 hC ?_)
  have hA := hX.1.cA.1
  rw [nI_clamp (by omega), h75]
  refine ix_k (by omega) (by omega) ?_
  have loop : okA R C a = true ∨ okA R C a = false → g254_20 L xs (CL L xs (d - 1)) Q (nI a) (nI wk) (bI (okA R C a)) (nI 0) σ := by
    intro _
    have z : g254_20 L xs (CL L xs (d - 1)) Q (nI a) (nI wk) (bI (okA R C a && al (cbF R a wk tr) 0)) (nI 0) σ := by
      refine dm_for (n := a) (fun k σ => g254_20 L xs (CL L xs (d - 1)) Q (nI a) (nI wk) (bI (okA R C a && al (cbF R a wk tr) k)) (nI k) σ) (fun _ σ' => σ' = σ) ?_ ?_ 0 _ (Nat.zero_le _) rfl
      · rintro k σ' hk rfl ih
        have ih := ih _ rfl
        refine w254_20 hC ?_
        have ek : 160 + 3 * nI k = nI (160 + 3 * k) := by rw [l160, l3, nI_mul, nI_add]
        have ea : 160 + 3 * nI a = nI (160 + 3 * a) := by rw [l160, l3, nI_mul, nI_add]
        rw [ek, ea, nI_1 (160 + 3 * k), nI_1 (160 + 3 * a), nI_1 k, nI_clamp (n := k) (by omega), nI_clamp (n := 160 + 3 * k) (by omega), nI_clamp (n := 160 + 3 * a) (by omega), nI_clamp (n := 160 + 3 * k + 1) (by omega), nI_clamp (n := 160 + 3 * a + 1) (by omega), hX.2.1, hX.2.1, hX.2.1, hX.2.1, h73 k hk]
        refine if_lt hk (by omega) ?_
        have ea2 : al (cbF R a wk tr) (k + 1) = (al (cbF R a wk tr) k && cbF R a wk tr k) := rfl
        rw [ea2] at ih
        refine if_b (fun z => ?_) (fun z => ?_)
        · have e : (okA R C a && (al (cbF R a wk tr) k && cbF R a wk tr k)) = false := by
            rw [← Bool.and_assoc, z]; rfl
          rw [e, show bI false = 0 from rfl] at ih; exact ih
        have e : (okA R C a && (al (cbF R a wk tr) k && cbF R a wk tr k)) = cbF R a wk tr k := by
          rw [← Bool.and_assoc, z]; rfl
        rw [e] at ih
        have fin : ∀ b : Bool, cbF R a wk tr k = b → g254_20 L xs (CL L xs (d - 1)) Q (nI a) (nI wk) (bI b) (nI (k + 1)) σ' := fun b e => by rw [← e]; exact ih
        have fT := fin true
        have fF := fin false
        unfold cbF at fT fF
        rw [show bI true = 1 from rfl] at fT
        rw [show bI false = 0 from rfl] at fF
        refine ix_k (by omega) (by omega) (if_c (fun z1 => ?_) (fun z1 => ?_))
        · rw [decide_eq_true z1] at fT fF
          refine ix_k (by omega) (by omega) (ix_k (by omega) (by omega) (if_c (fun z2 => ?_) (fun z2 => ?_)))
          · exact fF (by rw [decide_eq_true z2]; rfl)
          rw [decide_eq_false z2] at fT fF
          refine ix_k (by omega) (by omega) (ix_k (by omega) (by omega) (if_c (fun z3 => ?_) (fun z3 => ?_)))
          · exact fF (by rw [decide_eq_true z3]; rfl)
          · exact fT (by rw [decide_eq_false z3]; rfl)
        · exact fT (by rw [decide_eq_false z1]; rfl)
      · rintro σ' rfl
        refine w254_20 hC ?_
        rw [bI_and]
        exact if_nlt (Nat.le_refl _) (by omega) q
    have e : (okA R C a && al (cbF R a wk tr) 0) = okA R C a := by
      show (okA R C a && true) = _
      rw [Bool.and_true]
    rw [e] at z
    exact z
  have l := loop (by cases okA R C a <;> simp)
  unfold okA at l
  refine if_c (fun z => ?_) (fun z => ?_)
  · rw [decide_eq_true z] at l; exact l
  · rw [decide_eq_false z] at l; exact l
theorem c255 : ∀ (m a sum : Nat) (tr : Nat → Int32) (st : Nat × (Nat → Int32)) (d : Nat) (σ : M2) (Q : Option dm_V → M2 → Prop), 5 + m ≤ d → a + m = gN R 9 → mX σ R C → (∀ i, i < gN R 9 → σ.1 75 0 i = wth R C i) → sum ≤ 8000 * a → st.1 ≤ 56001 → LM R a tr st σ σ → (∀ σ', LM R a tr (mdl R C m a sum tr st) σ σ' → Q none σ') → CL L xs d 255 [vr 13 0, vi (nI a), vi (nI sum)] σ Q := by
  intro m
  induction m with
  | zero =>
    intro a sum tr st d σ Q hd ham hX hW hs hst hI q
    have hA := hX.1.cA
    obtain rfl : a = gN R 9 := ham
    refine cl_at p255 (by omega) (w255_0 hC ?_)
    obtain ⟨f0, h73, h35, h74⟩ := id hI
    rw [hX.2.1, h35]
    refine if_y hA.2.symm ?_
    unfold mdl at q
    refine if_c (fun z => ?_) (fun z => ?_)
    · have z : ¬ sum < st.1 := fun w => (s1_lt (by omega)).mp z (nI_lt w (by omega))
      rw [if_neg z] at q
      refine c155_73_74 (a := 0) (b := 0) (n := gN R 9) (by omega) rfl rfl rfl (by omega) (by omega) (fun σ1 f1 h1 => ⟨rfl, ?_⟩)
      refine q σ1 ⟨(fr.id.w rfl).trans (f1.weak (fCp_w (fun _ => rfl))), fun i hi => by rw [f1.1 _ _ _ (fCp_t (by decide)), wI_t (by decide)]; exact h73 i hi, ?_, fun _ i hi => ?_⟩
      · rw [f1.1 _ _ _ (fCp_t (by decide)), wI_same]
        show _ = nI (sum + 1) - 1
        rw [nI_s1 (by omega), Nat.add_sub_cancel]
      · have := h1 i hi
        rw [Nat.zero_add] at this
        rw [this, wI_t (by decide)]; exact h73 i hi
    · have z : sum < st.1 := by
        rcases Nat.lt_or_ge sum st.1 with w | w
        · exact w
        · exact absurd ((s1_lt (by omega)).mpr (nI_nlt w (by omega))) z
      rw [if_pos z] at q
      exact q σ hI
  | succ m ihm =>
    intro a sum tr st d σ Q hd ham hX hW hs hst hI q
    have hA := hX.1.cA
    have ha : a < gN R 9 := by omega
    have hw : ∀ a, a < gN R 9 → okA R C a = true → wN R C a ≤ 8000 := fun a h1 h2 => (okA_w hX.1 h1 h2).1
    obtain ⟨h3, e3⟩ := gn_in hX.1.2.1.1
    have K : ∀ {σ1 : M2}, fr gLd σ σ1 → mX σ1 R C := fun f => hX.fr (fun _ => ⟨rfl, rfl⟩) f
    refine cl_at p255 (by omega) (w255_0 hC ?_)
    rw [hX.2.1, hA.2]
    refine if_n (fun e => by have := (nI_eq (by omega) (by omega)).mp e; omega) ?_
    unfold mdl at q
    generalize hF : (fun (wk : Nat) (st : Nat × (Nat → Int32)) => if cbA R C a wk tr = true then mdl R C m (a + 1) (sum + wN R C a) (updT tr a (nI wk)) st else st) = F at q
    refine dm_fj (n := gN R 0) F (fun wk st σ => g255_42 L xs (CL L xs (d - 1)) Q (nI a) (nI sum) (nI wk) σ) (fun _ st σ' => st.1 ≤ 56001 ∧ LM R a tr st σ σ') ?_ _ 0 st σ (Nat.zero_add _) ⟨hst, hI⟩ ?_
    · rintro wk st1 σ1 hwk ⟨hs1, hL⟩ ih
      obtain ⟨l1, l2, l3, l4⟩ := id hL
      refine w255_42 hC ?_
      rw [(K l1).2.1, e3, nI_1 wk, nI_1 a, nI_clamp (n := a) (by omega)]
      refine if_lt hwk (by omega) ?_
      refine c254 (by omega) (K l1) ha (by rw [l1.1 _ _ _ rfl]; exact hW a ha) l2 ⟨_, rfl, ?_⟩
      refine if_b (fun z => ?_) (fun z => ?_)
      · have e : F wk st1 = st1 := by
          rw [← hF]
          exact if_neg (by rw [z]; decide)
        rw [e] at ih
        exact ih σ1 ⟨hs1, hL⟩
      · have eF : F wk st1 = mdl R C m (a + 1) (sum + wN R C a) (updT tr a (nI wk)) st1 := by
          rw [← hF]
          exact if_pos z
        rw [eF] at ih
        have hok : okA R C a = true := by
          unfold cbA at z
          simp only [Bool.and_eq_true] at z
          exact z.1
        obtain ⟨hw8, ew⟩ := okA_w hX.1 ha hok
        refine ix_k (by omega) (by omega) (ix_k (by omega) (by omega) ?_)
        have g5 : fr gLd σ (m2_wI σ1 73 0 a (nI wk)) := l1.w rfl
        have e75 : (m2_wI σ1 73 0 a (nI wk)).1 75 0 a = nI (wN R C a) := by rw [g5.1 _ _ _ rfl, hW a ha, ew]
        rw [e75, nI_add]
        refine ihm (a + 1) (sum + wN R C a) (updT tr a (nI wk)) st1 (d - 1) _ _ (by omega) (by omega) (K g5) (fun i hi => by rw [g5.1 _ _ _ rfl]; exact hW i hi) (by omega) hs1 ⟨fr.id, fun i hi => ?_, by rw [wI_t (by decide)]; exact l3, fun hp i hi => by rw [wI_t (by decide)]; exact l4 hp i hi⟩ (fun σ6 hL6 => ⟨rfl, ?_⟩)
        · unfold updT
          by_cases e : i = a
          · rw [if_pos e, e, wI_same]
          · rw [if_neg e, wI_k e]; exact l2 i (by omega)
        · obtain ⟨n1, n2, n3, n4⟩ := hL6
          refine ih σ6 ⟨mdl_b hw m (a + 1) _ _ _ (by omega) (by omega) (by omega) hs1, g5.trans n1, fun i hi => ?_, n3, n4⟩
          rw [n2 i (by omega)]
          unfold updT
          rw [if_neg (by omega)]
    · rintro σ1 ⟨hs1, hL⟩
      obtain ⟨l1, l2, l3, l4⟩ := id hL
      refine w255_42 hC ?_
      rw [(K l1).2.1, e3, nI_1 a, nI_clamp (n := a) (by omega)]
      refine if_nlt (Nat.le_refl _) (by omega) (ix_k (by omega) (by omega) ?_)
      have g9 : fr gLd σ (m2_wI σ1 73 0 a (-2)) := l1.w rfl
      refine ihm (a + 1) sum (updT tr a (-2)) _ (d - 1) (m2_wI σ1 73 0 a (-2)) _ (by omega) (by omega) (K g9) (fun i hi => by rw [g9.1 _ _ _ rfl]; exact hW i hi) (by omega) hs1 ⟨fr.id, fun i hi => ?_, by rw [wI_t (by decide)]; exact l3, fun hp i hi => by rw [wI_t (by decide)]; exact l4 hp i hi⟩ (fun σ2 hL2 => ⟨rfl, ?_⟩)
      · unfold updT
        by_cases e : i = a
        · rw [if_pos e, e, wI_same]
        · rw [if_neg e, wI_k e]; exact l2 i (by omega)
      · obtain ⟨n1, n2, n3, n4⟩ := hL2
        refine q σ2 ⟨g9.trans n1, fun i hi => ?_, n3, n4⟩
        rw [n2 i (by omega)]
        unfold updT
        rw [if_neg (by omega)]
theorem c256 {d : Nat} {σ : M2} {Q : Option dm_V → M2 → Prop} (hd : 14 ≤ d) (hX : mX σ R C) (q : ∀ σ', fr gLn σ σ' → σ'.1 13 0 35 = nI (k_lend R C).1 - 1 → (∀ i, i < gN R 9 → σ'.1 74 0 i = (k_lend R C).2 i) → Q none σ') : CL L xs d 256 [vr 13 0] σ Q := by
  refine cl_at p256 (by omega) (w256_0 hC ?_)
  have hA := hX.1.cA
  have K : ∀ {σ1 : M2}, fr gLn σ σ1 → mX σ1 R C := fun f => hX.fr (fun _ => ⟨rfl, rfl⟩) f
  refine dm_for (n := gN R 9) (fun k σ => g256_2 L xs (CL L xs (d - 1)) Q (nI k) σ) (fun k σ' => fr gLn σ σ' ∧ ∀ i, i < k → σ'.1 75 0 i = wth R C i) ?_ ?_ 0 _ (Nat.zero_le _) ⟨fr.id, fun i hi => absurd hi (Nat.not_lt_zero i)⟩
  · rintro k σ1 hk ⟨g1, h1⟩ ih
    refine w256_2 hC ?_
    rw [(K g1).2.1, hA.2, nI_clamp (n := k) (by omega), nI_1]
    refine if_lt hk (by omega) ?_
    refine c252 (by omega) (K g1) rfl hk (fun σ2 g2 => ⟨_, rfl, ix_k (by omega) (by omega) ?_⟩)
    refine ih _ ⟨(g1.trans (g2.weak gRn_n)).w rfl, fun i hi => ?_⟩
    by_cases e : i = k
    · rw [e, wI_same]
    · rw [wI_k e, g2.1 _ _ _ rfl]; exact h1 i (by omega)
  · rintro σ1 ⟨g1, h1⟩
    refine w256_2 hC ?_
    rw [(K g1).2.1, hA.2]
    refine if_nlt (Nat.le_refl _) (by omega) ?_
    have g2 : fr gLn σ (m2_wI σ1 13 0 35 (-1)) := g1.w rfl
    refine c255 (gN R 9) 0 0 (fun _ => 0) (0, fun _ => 0) (d - 1) _ _ (by omega) (Nat.zero_add _) (K g2) (fun i hi => by rw [wI_t (by decide)]; exact h1 i hi) (by omega) (by show 0 ≤ 56001; omega) ⟨fr.id, fun i hi => absurd hi (Nat.not_lt_zero i), by rw [wI_same]; decide, fun hp => absurd hp (by show ¬ 0 < 0; omega)⟩ (fun σ2 hL => ⟨rfl, ?_⟩)
    obtain ⟨n1, n2, n3, n4⟩ := hL
    exact q σ2 (g2.trans (n1.weak gLd_n)) n3 (n4 (mdl_1 _ _ _ _ _))
theorem o257 {d : Nat} {σ : M2} {Q : Option dm_V → M2 → Prop} (hd : 15 ≤ d) (hY : mY σ R C h) (q : ∀ σ', mG σ σ' (a_lend R C h).2 → Q (some (vi (a_lend R C h).1)) σ') : CL L xs d 257 [vr 13 0] σ Q := by
  refine cl_at p257 (by omega) (w257_0 hC ?_)
  refine c150 (by omega) (fun σ1 g1 => ⟨rfl, ?_⟩)
  have Y1 := mY_o hY g1.1
  unfold a_lend at q
  rw [Y1.2.1]
  refine if_b (fun z => ?_) (fun z => ?_)
  · rw [if_neg (by rw [z]; decide)] at q
    exact c151 (by omega) g1 q
  rw [if_pos z] at q
  refine c256 (by omega) Y1.1 (fun σ2 f2 e2 _ => ⟨rfl, ?_⟩)
  rw [e2]
  exact q σ2 (g1.o gLn_O rfl rfl f2)
theorem o258 {d : Nat} {σ : M2} {Q : Option dm_V → M2 → Prop} (hd : 15 ≤ d) {a : Int32} (hY : mY σ R C h) (q : ∀ σ', mG σ σ' (a_weekOf R C a).2 → Q (some (vi (a_weekOf R C a).1)) σ') : CL L xs d 258 [vr 13 0, vi a] σ Q := by
  refine cl_at p258 (by omega) (w258_0 hC ?_)
  refine c150 (by omega) (fun σ1 g1 => ⟨rfl, ?_⟩)
  have Y1 := mY_o hY g1.1
  unfold a_weekOf at q
  refine c195 (by omega) Y1 ⟨_, rfl, ?_⟩
  refine if_b (fun z => ?_) (fun z => ?_)
  · rw [if_neg (by rw [z]; decide)] at q
    exact c151 (by omega) g1 q
  rw [if_pos z] at q
  obtain ⟨ha, ea⟩ := inn_k hY.1.1.cA.2 (by have := hY.1.1.cA.1; omega) z
  have ha7 : a.toNatClampNeg < 7 := by have : a.toNatClampNeg < gN R 9 := ha; have := hY.1.1.cA.1; omega
  refine c256 (by omega) Y1.1 (fun σ2 f2 _ e2 => ⟨rfl, ix_x ha7 ea (by omega) ?_⟩)
  rw [e2 _ ha]
  exact q σ2 (g1.o gLn_O rfl rfl f2)
end OP13
