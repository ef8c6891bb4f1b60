/-! CALLS: lending, weekOf in the class -/
theorem al_and {f g : Nat → Bool} : ∀ n, al (fun k => f k && g k) n = (al f n && al g n)
  | 0 => rfl
  | n + 1 => by
    unfold al
    rw [al_and n]
    cases al f n <;> cases al g n <;> cases f n <;> cases g n <;> rfl
theorem al_congr {f g : Nat → Bool} : ∀ n, (∀ k, k < n → f k = g k) → al f n = al g n
  | 0, _ => rfl
  | n + 1, h => by
    unfold al
    rw [al_congr n (fun k hk => h k (by omega)), h n (by omega)]
def usF (f : Nat → Int32) (tr : Nat → Int32) (wk s k : Nat) : Bool := !(decide (tr k = nI wk)) || !(decide (f k = nI s))
def us (f : Nat → Int32) (tr : Nat → Int32) (wk s a : Nat) : Bool := !(al (usF f tr wk s) a)
def aMan (R : Nat → Int32) : Nat → Int32 := fun k => R (160 + 3 * k)
def aSlp (R : Nat → Int32) : Nat → Int32 := fun k => R (160 + 3 * k + 1)
theorem cbF_us {R : Nat → Int32} {a wk s m : Nat} {tr : Nat → Int32} (hs : aSlp R a = nI s) (hm : aMan R a = nI m) : al (cbF R a wk tr) a = (!(us (aSlp R) tr wk s a) && !(us (aMan R) tr wk m a)) := by
  unfold us
  rw [Bool.not_not, Bool.not_not, ← al_and]
  refine al_congr a (fun k _ => ?_)
  unfold cbF usF
  rw [← hs, ← hm]
  unfold aSlp aMan
  cases decide (tr k = nI wk) <;> cases decide (R (160 + 3 * k) = R (160 + 3 * a)) <;> cases decide (R (160 + 3 * k + 1) = R (160 + 3 * a + 1)) <;> rfl
theorem us_up {f : Nat → Int32} {tr : Nat → Int32} {wk s a : Nat} {x : Int32} : us f (updT tr a x) wk s (a + 1) = (us f tr wk s a || (decide (x = nI wk) && decide (f a = nI s))) := by
  unfold us
  show (!(al (usF f (updT tr a x) wk s) a && usF f (updT tr a x) wk s a)) = _
  have e : al (usF f (updT tr a x) wk s) a = al (usF f tr wk s) a := al_congr a (fun k hk => by
    unfold usF updT
    rw [if_neg (show ¬ k = a by omega)])
  have e2 : usF f (updT tr a x) wk s a = (!(decide (x = nI wk)) || !(decide (f a = nI s))) := by
    unfold usF updT
    rw [if_pos rfl]
  rw [e, e2]
  cases al (usF f tr wk s) a <;> cases decide (x = nI wk) <;> cases decide (f a = nI s) <;> rfl
theorem b_and : ∀ b, b < 128 → ∀ s, s < 7 → decide ((nI b &&& ((1 : Int32) <<< (nI s &&& 31))) = 0) = !(b.testBit s) := by decide +kernel
theorem b_or : ∀ b, b < 128 → ∀ s, s < 7 → nI b ||| ((1 : Int32) <<< (nI s &&& 31)) = nI (b ||| 2 ^ s) ∧ b ||| 2 ^ s < 128 := by decide +kernel
theorem b_orb : ∀ b, b < 128 → ∀ s, s < 7 → ∀ t, t < 7 → (b ||| 2 ^ s).testBit t = (b.testBit t || decide (s = t)) := by decide +kernel
theorem b_xor : ∀ b, b < 128 → ∀ s, s < 7 → b.testBit s = false → nI (b ||| 2 ^ s) ^^^ ((1 : Int32) <<< (nI s &&& 31)) = nI b := by decide +kernel
def Bz (g : Nat → Nat → Nat → Int32) (t : Nat) (f : Nat → Int32) (tr : Nat → Int32) (a : Nat) : Prop := ∀ wk, wk < 3 → ∃ b, b < 128 ∧ g t 0 wk = nI b ∧ ∀ s, s < 7 → b.testBit s = us f tr wk s a
theorem Bz.free {g : Nat → Nat → Nat → Int32} {t : Nat} {f : Nat → Int32} {tr : Nat → Int32} {a : Nat} (h : Bz g t f tr a) {wk s : Nat} (hw : wk < 3) (hs : s < 7) : (g t 0 wk &&& ((1 : Int32) <<< (nI s &&& 31))) = 0 ↔ us f tr wk s a = false := by
  obtain ⟨b, hb, e, hu⟩ := h wk hw
  rw [e]
  have h1 := b_and b hb s hs
  rw [hu s hs] at h1
  cases hus : us f tr wk s a
  · rw [hus] at h1; exact ⟨fun _ => rfl, fun _ => of_decide_eq_true h1⟩
  · rw [hus] at h1; exact ⟨fun z => absurd z (of_decide_eq_false h1), fun z => by cases z⟩
theorem Bz.put {σ : M2} {t : Nat} {f : Nat → Int32} {tr : Nat → Int32} {a : Nat} (h : Bz σ.1 t f tr a) {wk s : Nat} (hw : wk < 3) (hs : s < 7) (hf : f a = nI s) : Bz (m2_wI σ t 0 wk (σ.1 t 0 wk ||| ((1 : Int32) <<< (nI s &&& 31)))).1 t f (updT tr a (nI wk)) (a + 1) := by
  intro wk' hw'
  obtain ⟨b, hb, e, hu⟩ := h wk' hw'
  by_cases z : wk' = wk
  · subst z
    refine ⟨b ||| 2 ^ s, (b_or b hb s hs).2, by rw [wI_same, e, (b_or b hb s hs).1], fun s' hs' => ?_⟩
    rw [b_orb b hb s hs s' hs', us_up, hu s' hs', decide_eq_true rfl, Bool.true_and, hf]
    congr 1
    exact decide_eq_decide.mpr (nI_eq (by omega) (by omega)).symm
  · refine ⟨b, hb, by rw [wI_k z, e], fun s' hs' => ?_⟩
    rw [us_up, hu s' hs', decide_eq_false (fun e => z ((nI_eq (by omega) (by omega)).mp e).symm), Bool.false_and, Bool.or_false]
theorem Bz.none {g : Nat → Nat → Nat → Int32} {t : Nat} {f : Nat → Int32} {tr : Nat → Int32} {a : Nat} (h : Bz g t f tr a) : Bz g t f (updT tr a (-2)) (a + 1) := by
  intro wk hw
  obtain ⟨b, hb, e, hu⟩ := h wk hw
  refine ⟨b, hb, e, fun s hs => ?_⟩
  rw [us_up, hu s hs, decide_eq_false (fun e => nI_neg2 (by omega) e.symm), Bool.false_and, Bool.or_false]
theorem Bz.same {g g' : Nat → Nat → Nat → Int32} {t : Nat} {f : Nat → Int32} {tr : Nat → Int32} {a : Nat} (h : Bz g t f tr a) (e : ∀ k, g' t 0 k = g t 0 k) : Bz g' t f tr a := by
  intro wk hw
  obtain ⟨b, hb, e1, hu⟩ := h wk hw
  exact ⟨b, hb, by rw [e, e1], hu⟩
theorem Bz.back {g : Nat → Nat → Nat → Int32} {t : Nat} {f : Nat → Int32} {tr : Nat → Int32} {a : Nat} (h : Bz g t f tr a) {wk s : Nat} (hw : wk < 3) (hs : s < 7) (hu : us f tr wk s a = false) : (g t 0 wk ||| ((1 : Int32) <<< (nI s &&& 31))) ^^^ ((1 : Int32) <<< (nI s &&& 31)) = g t 0 wk := by
  obtain ⟨b, hb, e, hb2⟩ := h wk hw
  rw [e, (b_or b hb s hs).1, b_xor b hb s hs (by rw [hb2 s hs, hu])]
def fLd : Nat → Nat → Nat → Bool := fun t _ k => (t == 3 && k == 7) || (t == 28 || (t == 29 || (t == 30 || t == 31)))
theorem fLd_k : ∀ t i k, kpX t i = true → fLd t i k = false := by
  intro t i k h
  unfold kpX at h
  unfold fLd
  simp only [Bool.or_eq_true, Bool.and_eq_true, beq_iff_eq, decide_eq_true_eq] at h
  simp only [Bool.or_eq_false_iff, Bool.and_eq_false_iff, beq_eq_false_iff_ne, ne_eq]
  omega
def ldW (g : Nat → Nat → Nat → Int32) (R : Nat → Int32) (C : Nat → Bool) : Prop := (∀ i, i < gN R 9 → g 26 0 i = wth R C i) ∧ ∀ a, a ≤ gN R 9 → g 27 0 a = nI (stl R C (gN R 9 - a) a)
def LI (R : Nat → Int32) (a : Nat) (tr : Nat → Int32) (st : Nat × (Nat → Int32)) (σ0 σ : M2) : Prop := fr fLd σ0 σ ∧ (∀ k, σ.1 28 0 k = σ0.1 28 0 k) ∧ (∀ k, σ.1 29 0 k = σ0.1 29 0 k) ∧ (∀ i, i < a → σ.1 30 0 i = tr i) ∧ σ.1 3 0 7 = nI st.1 - 1 ∧ (0 < st.1 → ∀ i, i < gN R 9 → σ.1 31 0 i = st.2 i)
section OP12
variable {L : Nat} {xs : Nat → Int32} {μ : Nat} {R : Nat → Int32} {C : Nat → Bool} {h : Bool}
theorem c17 : ∀ (m a sum : Nat) (tr : Nat → Int32) (st : Nat × (Nat → Int32)) (d : Nat) (σ : M2) (Q : Option dm_V → M2 → Prop), 4 + m ≤ d → a + m = gN R 9 → cX σ μ R C → ldW σ.1 R C → Bz σ.1 28 (aSlp R) tr a → Bz σ.1 29 (aMan R) tr a → sum ≤ 8000 * a → st.1 ≤ 56001 → LI R a tr st σ σ → (∀ σ', LI R a tr (mdl R C m a sum tr st) σ σ' → Q none σ') → CL L xs d 17 [vr 3 0, vr 5 μ, vi (nI a), vi (nI sum)] σ Q := by
  intro m
  induction m with
  | zero =>
    intro a sum tr st d σ Q hd ham hX hW hB1 hB2 hs hst hI q
    have hA := hX.ok.cA
    obtain rfl : a = gN R 9 := ham
    refine cl_at p17 (by omega) (w17_0 hC ?_)
    have e27 := hW.2 (gN R 9) (Nat.le_refl _)
    rw [Nat.sub_self] at e27
    have e27 : σ.1 27 0 (gN R 9) = nI 0 := e27
    obtain ⟨f0, b1, b2, h30, h37, h31⟩ := id hI
    rw [nI_clamp (by omega), e27, h37, nI_add, Nat.add_zero, hX.cnt.2.2.2.2.2.2.1, hA.2]
    refine ix_k (by omega) (by omega) ?_
    unfold mdl at q
    refine if_c (fun z => ?_) (fun z => ?_)
    · have z : ¬ sum < st.1 := fun w => (s1_lt (by omega)).mp z (nI_lt w (by omega))
      rw [if_neg z] at q
      refine if_nlt (Nat.le_refl _) (by omega) ?_
      refine dm_for (n := gN R 9) (fun k σ => g17_35 L xs (CL L xs (d - 1)) Q (nI (gN R 9)) (nI k) σ) (fun k σ' => fr fLd σ σ' ∧ (∀ k, σ'.1 28 0 k = σ.1 28 0 k) ∧ (∀ k, σ'.1 29 0 k = σ.1 29 0 k) ∧ (∀ i, i < gN R 9 → σ'.1 30 0 i = tr i) ∧ σ'.1 3 0 7 = nI sum ∧ ∀ i, i < k → σ'.1 31 0 i = tr i) ?_ ?_ 0 _ (Nat.zero_le _) ⟨fr.id.w rfl, fun k => by rw [wI_t (by decide)], fun k => by rw [wI_t (by decide)], fun i hi => by rw [wI_t (by decide)]; exact h30 i hi, wI_same, fun i hi => absurd hi (Nat.not_lt_zero i)⟩
      · rintro k σ' hk ⟨j1, j2, j3, j4, j5, j6⟩ ih
        refine w17_35 hC ?_
        rw [nI_clamp (n := k) (by omega), nI_1]
        refine if_lt hk (by omega) (ix_k (by omega) (by omega) (ix_k (by omega) (by omega) ?_))
        refine ih _ ⟨j1.w rfl, fun k => by rw [wI_t (by decide)]; exact j2 k, fun k => by rw [wI_t (by decide)]; exact j3 k, fun i hi => by rw [wI_t (by decide)]; exact j4 i hi, by rw [wI_t (by decide)]; exact j5, fun i hi => ?_⟩
        by_cases e : i = k
        · rw [e, wI_same]; exact j4 k hk
        · rw [wI_k e]; exact j6 i (by omega)
      · rintro σ' ⟨j1, j2, j3, j4, j5, j6⟩
        refine w17_35 hC ?_
        refine if_nlt (Nat.le_refl _) (by omega) (q σ' ⟨j1, j2, j3, j4, ?_, fun _ => j6⟩)
        show _ = nI (sum + 1) - 1
        rw [nI_s1 (by omega), Nat.add_sub_cancel]; exact j5
    · have z : sum < st.1 := by
        rcases Nat.lt_or_ge sum st.1 with w | w
        · exact w
        · exact absurd ((s1_lt (by omega)).mpr (nI_nlt w (by omega))) z
      rw [if_pos z] at q
      exact q σ hI
  | succ m ihm =>
    intro a sum tr st d σ Q hd ham hX hW hB1 hB2 hs hst hI q
    have hA := hX.ok.cA
    have hS := hX.ok.cS
    have hM := hX.ok.cM
    have ha : a < gN R 9 := by omega
    obtain ⟨⟨hm, em⟩, ⟨hsl, es⟩, -⟩ := hX.ok.ask ha
    have hst9 := stl_b hX.ok (C := C) (m + 1) a (by omega)
    refine cl_at p17 (by omega) (w17_0 hC ?_)
    have e27 := hW.2 a (by omega)
    rw [show gN R 9 - a = m + 1 by omega] at e27
    rw [nI_clamp (by omega), e27, hI.2.2.2.2.1, nI_add, hX.cnt.2.2.2.2.2.2.1, hA.2, hW.1 a ha, hX.five.1, (hX.ask a ha).1, (hX.ask a ha).2.1]
    refine ix_k (by omega) (by omega) ?_
    refine if_c (fun z => ?_) (fun z => ?_)
    · refine if_lt ha (by omega) (ix_k (by omega) (by omega) (ix_k (by omega) (by omega) (ix_k (by omega) (by omega) ?_)))
      have hw : ∀ a, a < gN R 9 → okA R C a = true → wN R C a ≤ 8000 := fun a h1 h2 => (okA_w hX.ok h1 h2).1
      unfold mdl at q
      generalize hF : (fun (wk : Nat) (st : Nat × (Nat → Int32)) => if cbA R C a wk tr = true then mdl R C m (a + 1) (sum + wN R C a) (updT tr a (nI wk)) st else st) = F at q
      have hFb : ∀ k (s : Nat × (Nat → Int32)), s.1 ≤ 56001 → (F k s).1 ≤ 56001 := by
        intro k s p
        rw [← hF]
        show (if cbA R C a k tr = true then _ else s).1 ≤ 56001
        split
        · rename_i z
          unfold cbA at z
          simp only [Bool.and_eq_true] at z
          have := hw a ha z.1
          exact mdl_b hw m (a + 1) _ _ _ (by omega) (by omega) (by omega) p
        · exact p
      -- the way out: no week
      have out : ∀ W st1 σ1, W < 100 → st1.1 ≤ 56001 → LI R a tr st1 σ σ1 → (∀ σ', LI R a tr (mdl R C m (a + 1) sum (updT tr a (-2)) st1) σ σ' → Q none σ') → g17_104 L xs (CL L xs (d - 1)) Q μ (nI a) (nI sum) (1 <<< (R (160 + 3 * a + 1) &&& 31)) (1 <<< (R (160 + 3 * a) &&& 31)) (nI W) (nI W) σ1 := by
        intro W st1 σ1 hWW hs1 hL q
        obtain ⟨l1, l2, l3, l4, l5, l6⟩ := hL
        refine w17_104 hC ?_
        rw [nI_clamp (n := a) (by omega), nI_1 a]
        refine if_nlt (Nat.le_refl _) (by omega) (ix_k (by omega) (by omega) ?_)
        have g9 : fr fLd σ (m2_wI σ1 30 0 a (-2)) := l1.w rfl
        refine ihm (a + 1) sum (updT tr a (-2)) st1 (d - 1) (m2_wI σ1 30 0 a (-2)) _ (by omega) (by omega) (hX.fr fLd_k g9) ⟨fun i hi => by rw [g9.1 _ _ _ rfl]; exact hW.1 i hi, fun i hi => by rw [g9.1 _ _ _ rfl]; exact hW.2 i hi⟩ ((hB1.same (fun k => by rw [wI_t (by decide)]; exact l2 k)).none) ((hB2.same (fun k => by rw [wI_t (by decide)]; exact l3 k)).none) (by omega) hs1 ⟨fr.id, fun _ => rfl, fun _ => rfl, fun i hi => ?_, by rw [wI_t (by decide)]; exact l5, fun hp i hi => by rw [wI_t (by decide)]; exact l6 hp i hi⟩ (fun σ2 hL2 => ⟨rfl, ?_⟩)
        · unfold updT
          by_cases e : i = a
          · rw [if_pos e, e, wI_same]
          · rw [if_neg e, wI_k e]; exact l4 i (by omega)
        · obtain ⟨n1, n2, n3, n4, n5, n6⟩ := hL2
          refine q σ2 ⟨g9.trans n1, fun k => by rw [n2, wI_t (by decide)]; exact l2 k, fun k => by rw [n3, wI_t (by decide)]; exact l3 k, fun i hi => ?_, n5, n6⟩
          rw [n4 i (by omega)]
          unfold updT
          rw [if_neg (by omega)]
      have loop : okA R C a = true → g17_104 L xs (CL L xs (d - 1)) Q μ (nI a) (nI sum) (1 <<< (R (160 + 3 * a + 1) &&& 31)) (1 <<< (R (160 + 3 * a) &&& 31)) (nI (gN R 0)) (nI 0) σ := by
        intro hok
        obtain ⟨h3, e3⟩ := gn_in hX.ok.2.1.1
        obtain ⟨hw8, ew⟩ := okA_w hX.ok ha hok
        refine dm_fj (n := gN R 0) F (fun wk st σ => g17_104 L xs (CL L xs (d - 1)) Q μ (nI a) (nI sum) (1 <<< (R (160 + 3 * a + 1) &&& 31)) (1 <<< (R (160 + 3 * a) &&& 31)) (nI (gN R 0)) (nI wk) σ) (fun _ st σ' => st.1 ≤ 56001 ∧ LI R a tr st σ σ') ?_ _ 0 st σ (Nat.zero_add _) ⟨hst, hI⟩ ?_
        · rintro wk st1 σ1 hwk ⟨hs1, hL⟩ ih
          obtain ⟨l1, l2, l3, l4, l5, l6⟩ := id hL
          have B1 : Bz σ1.1 28 (aSlp R) tr a := hB1.same l2
          have B2 : Bz σ1.1 29 (aMan R) tr a := hB2.same l3
          have hsl7 : gN R (160 + 3 * a + 1) < 7 := by omega
          have hm7 : gN R (160 + 3 * a) < 7 := by omega
          have cb := cbF_us (R := R) (a := a) (wk := wk) (s := gN R (160 + 3 * a + 1)) (m := gN R (160 + 3 * a)) (tr := tr) es em
          have skip : al (cbF R a wk tr) a = false → g17_104 L xs (CL L xs (d - 1)) Q μ (nI a) (nI sum) (1 <<< (R (160 + 3 * a + 1) &&& 31)) (1 <<< (R (160 + 3 * a) &&& 31)) (nI (gN R 0)) (nI (wk + 1)) σ1 := by
            intro hcb
            have e : F wk st1 = st1 := by
              rw [← hF]
              show (if cbA R C a wk tr = true then _ else st1) = st1
              rw [if_neg]
              unfold cbA
              rw [hcb, Bool.and_false]; decide
            rw [e] at ih
            exact ih σ1 ⟨hs1, hL⟩
          refine w17_104 hC ?_
          rw [es, em, nI_clamp (n := wk) (by omega), nI_clamp (n := a) (by omega), nI_1 wk, nI_1 a]
          rw [es, em] at skip ih
          refine if_lt hwk (by omega) (ix_k (by omega) (by omega) ?_)
          refine if_c (fun z1 => ix_k (by omega) (by omega) ?_) (fun z1 => ?_)
          · have u1 := (B1.free (wk := wk) (by omega) hsl7).mp z1
            refine if_c (fun z2 => ?_) (fun z2 => ?_)
            · have u2 := (B2.free (wk := wk) (by omega) hm7).mp z2
              have hcb : cbA R C a wk tr = true := by
                unfold cbA
                rw [hok, cb, u1, u2]; rfl
              have eF : F wk st1 = mdl R C m (a + 1) (sum + wN R C a) (updT tr a (nI wk)) st1 := by
                rw [← hF]
                exact if_pos hcb
              rw [eF] at ih
              refine ix_k (by omega) (by omega) (ix_k (by omega) (by omega) (ix_k (by omega) (by omega) (ix_k (by omega) (by omega) (ix_k (by omega) (by omega) (ix_k (by omega) (by omega) ?_)))))
              have P1 := B1.put (wk := wk) (by omega) hsl7 es
              have bk1 := B1.back (wk := wk) (by omega) hsl7 u1
              have bk2 := B2.back (wk := wk) (by omega) hm7 u2
              generalize hb1 : ((1 : Int32) <<< (nI (gN R (160 + 3 * a + 1)) &&& 31)) = bs at *
              generalize hb2 : ((1 : Int32) <<< (nI (gN R (160 + 3 * a)) &&& 31)) = bm at *
              have e29 : (m2_wI σ1 28 0 wk (σ1.1 28 0 wk ||| bs)).1 29 0 wk = σ1.1 29 0 wk := wI_t (by decide)
              have B2' : Bz (m2_wI σ1 28 0 wk (σ1.1 28 0 wk ||| bs)).1 29 (aMan R) tr a := B2.same (fun k => wI_t (by decide))
              have P2 := B2'.put (wk := wk) (by omega) hm7 em
              rw [hb2] at P2
              have g5 : fr fLd σ (m2_wI (m2_wI (m2_wI σ1 28 0 wk (σ1.1 28 0 wk ||| bs)) 29 0 wk ((m2_wI σ1 28 0 wk (σ1.1 28 0 wk ||| bs)).1 29 0 wk ||| bm)) 30 0 a (nI wk)) := ((l1.w rfl).w rfl).w rfl
              have e26 : (m2_wI (m2_wI (m2_wI σ1 28 0 wk (σ1.1 28 0 wk ||| bs)) 29 0 wk ((m2_wI σ1 28 0 wk (σ1.1 28 0 wk ||| bs)).1 29 0 wk ||| bm)) 30 0 a (nI wk)).1 26 0 a = nI (wN R C a) := by rw [g5.1 _ _ _ rfl, hW.1 a ha, ew]
              rw [e26, nI_add]
              refine ihm (a + 1) (sum + wN R C a) (updT tr a (nI wk)) st1 (d - 1) _ _ (by omega) (by omega) (hX.fr fLd_k g5) ⟨fun i hi => by rw [g5.1 _ _ _ rfl]; exact hW.1 i hi, fun i hi => by rw [g5.1 _ _ _ rfl]; exact hW.2 i hi⟩ (P1.same (fun k => by rw [wI_t (by decide), wI_t (by decide)])) (P2.same (fun k => by rw [wI_t (by decide)])) (by omega) hs1 ⟨fr.id, fun _ => rfl, fun _ => rfl, fun i hi => ?_, by rw [wI_t (by decide), wI_t (by decide), wI_t (by decide)]; exact l5, fun hp i hi => by rw [wI_t (by decide), wI_t (by decide), wI_t (by decide)]; exact l6 hp i hi⟩ (fun σ6 hL6 => ⟨rfl, ?_⟩)
              · unfold updT
                by_cases e : i = a
                · rw [if_pos e, e, wI_same]
                · rw [if_neg e, wI_k e, wI_t (by decide), wI_t (by decide)]; exact l4 i (by omega)
              · obtain ⟨n1, n2, n3, n4, n5, n6⟩ := hL6
                refine ix_k (by omega) (by omega) (ix_k (by omega) (by omega) (ix_k (by omega) (by omega) (ix_k (by omega) (by omega) ?_)))
                refine ih _ ⟨?_, ((g5.trans n1).w rfl).w rfl, fun k => ?_, fun k => ?_, fun i hi => ?_, ?_, fun hp i hi => ?_⟩
                · exact mdl_b hw m (a + 1) _ _ _ (by omega) (by omega) (by omega) hs1
                · rw [wI_t (by decide)]
                  by_cases e : k = wk
                  · subst e
                    rw [wI_same, n2, wI_t (by decide), wI_t (by decide), wI_same, bk1]; exact l2 k
                  · rw [wI_k e, n2, wI_t (by decide), wI_t (by decide), wI_k e]; exact l2 k
                · by_cases e : k = wk
                  · subst e
                    rw [wI_same, wI_t (by decide), n3, wI_t (by decide), wI_same, e29, bk2]; exact l3 k
                  · rw [wI_k e, wI_t (by decide), n3, wI_t (by decide), wI_k e, wI_t (by decide)]; exact l3 k
                · rw [wI_t (by decide), wI_t (by decide), n4 i (by omega)]
                  unfold updT
                  rw [if_neg (by omega)]
                · rw [wI_t (by decide), wI_t (by decide)]; exact n5
                · rw [wI_t (by decide), wI_t (by decide)]; exact n6 hp i hi
            · refine skip ?_
              rw [cb]
              cases u : us (aMan R) tr wk (gN R (160 + 3 * a)) a
              · exact absurd ((B2.free (wk := wk) (by omega) hm7).mpr u) z2
              · simp
          · refine skip ?_
            rw [cb]
            cases u : us (aSlp R) tr wk (gN R (160 + 3 * a + 1)) a
            · exact absurd ((B1.free (wk := wk) (by omega) hsl7).mpr u) z1
            · simp
        · rintro σ1 ⟨hs1, hL⟩
          exact out (gN R 0) _ σ1 (by omega) hs1 hL q
      refine if_c (fun z9 => ?_) (fun z9 => ?_)
      · have hno : okA R C a = false := by
          cases e : okA R C a
          · rfl
          · rw [(okA_w hX.ok ha e).2] at z9
            exact absurd z9 (nI_pos (by have := (okA_w hX.ok ha e).1; omega))
        have e0 : ff F (gN R 0) 0 st = st := ff_fix (fun k => by
          rw [← hF]
          show (if cbA R C a k tr = true then _ else st) = st
          rw [if_neg]
          unfold cbA
          rw [hno, Bool.false_and]; decide) _ _
        rw [e0] at q
        exact out 0 st σ (by omega) hst hI q
      · have hok : okA R C a = true := by
          cases e : okA R C a
          · rw [okA_n e] at z9; exact absurd (by decide) z9
          · rfl
        have := loop hok
        rw [(gn_in hX.ok.2.1.1).2]
        exact this
    · have z : sum + stl R C (m + 1) a < st.1 := by
        rcases Nat.lt_or_ge (sum + stl R C (m + 1) a) st.1 with w | w
        · exact w
        · exact absurd ((s1_lt (by omega)).mpr (nI_nlt w (by omega))) z
      rw [mdl_cut _ _ _ _ _ z] at q
      exact q σ hI
/-- what the lender keeps -/
def ldH (σ : M2) (R : Nat → Int32) (C : Nat → Bool) : Prop := σ.1 3 0 7 = nI (k_lend R C).1 - 1 ∧ ∀ i, i < gN R 9 → σ.1 31 0 i = (k_lend R C).2 i
def fLn : Nat → Nat → Nat → Bool := fun t i k => fRn t i k || ((t == 3 && (k == 0 || k == 7)) || (decide (26 ≤ t) && decide (t ≤ 31)))
theorem fLd_n : ∀ t i k, fLd t i k = true → fLn t i k = true := by
  intro t i k h
  unfold fLd at h
  unfold fLn
  simp only [Bool.or_eq_true, Bool.and_eq_true, beq_iff_eq, decide_eq_true_eq] at *
  omega
theorem fRn_n : ∀ t i k, fRn t i k = true → fLn t i k = true := fun t i k h => by unfold fLn; rw [h]; rfl
theorem fLn_k : ∀ t i k, kpX t i = true → fLn t i k = false := by
  intro t i k h
  have h0 := fRn_k t i k h
  unfold kpX at h
  unfold fLn
  rw [h0]
  simp only [Bool.or_eq_true, Bool.and_eq_true, beq_iff_eq, decide_eq_true_eq] at h
  simp only [Bool.false_or, Bool.or_eq_false_iff, Bool.and_eq_false_iff, beq_eq_false_iff_ne, ne_eq, decide_eq_false_iff_not]
  omega
theorem c16 {d : Nat} {σ : M2} {Q : Option dm_V → M2 → Prop} (hd : 13 ≤ d) (hX : cX σ μ R C) (h0 : ∀ k, k < 3 → σ.1 28 0 k = 0 ∧ σ.1 29 0 k = 0) (hl : σ.1 3 0 0 = σ.1 1 0 2 → ldH σ R C) (q : ∀ σ', fr fLn σ σ' → σ'.1 3 0 0 = σ.1 1 0 2 → (∀ k, k < 3 → σ'.1 28 0 k = 0 ∧ σ'.1 29 0 k = 0) → ldH σ' R C → Q none σ') : CL L xs d 16 [vr 3 0, vr 8 0] σ Q := by
  refine cl_at p16 (by omega) (w16_0 hC ?_)
  have hA := hX.ok.cA
  refine if_c (fun z => q σ fr.id z h0 (hl z)) (fun z => ?_)
  have g1 : fr fLn σ (m2_wI σ 3 0 0 (σ.1 1 0 2)) := fr.id.w rfl
  have X1 := hX.fr fLn_k g1
  have ec : (m2_wI σ 3 0 0 (σ.1 1 0 2)).1 36 ((m2_wI σ 3 0 0 (σ.1 1 0 2)).2.2 8 0 0) 7 = nI (gN R 9) := by rw [X1.r8, X1.cnt.2.2.2.2.2.2.1, hA.2]
  dsimp only
  rw [ec, nI_clamp (by omega)]
  refine ix_k (by omega) (by omega) ?_
  have st0 : ∀ k, k < 3 → (m2_wI (m2_wI σ 3 0 0 (σ.1 1 0 2)) 27 0 (gN R 9) 0).1 28 0 k = 0 ∧ (m2_wI (m2_wI σ 3 0 0 (σ.1 1 0 2)) 27 0 (gN R 9) 0).1 29 0 k = 0 := fun k hk => ⟨by rw [wI_t (by decide), wI_t (by decide)]; exact (h0 k hk).1, by rw [wI_t (by decide), wI_t (by decide)]; exact (h0 k hk).2⟩
  have loop : ∀ k σ1, k ≤ gN R 9 → fr fLn σ σ1 → σ1.1 3 0 0 = σ.1 1 0 2 → (∀ k, k < 3 → σ1.1 28 0 k = 0 ∧ σ1.1 29 0 k = 0) → (∀ i, k ≤ i → i < gN R 9 → σ1.1 26 0 i = wth R C i) → (∀ i, k ≤ i → i ≤ gN R 9 → σ1.1 27 0 i = nI (stl R C (gN R 9 - i) i)) → g16_48 L xs (CL L xs (d - 1)) Q (nI k + (-1)) σ1 := by
    intro k
    induction k with
    | zero =>
      intro σ1 hk g1 e0 hz h26 h27
      have X1 := hX.fr fLn_k g1
      refine w16_48 hC ?_
      refine if_y (by decide) ?_
      have er : (m2_wI σ1 3 0 7 (-1)).2.2 8 0 0 = μ := X1.r8
      dsimp only
      rw [er]
      have g2 : fr fLn σ (m2_wI σ1 3 0 7 (-1)) := g1.w rfl
      have b0 : ∀ (t : Nat) (f : Nat → Int32), (∀ k, k < 3 → (m2_wI σ1 3 0 7 (-1)).1 t 0 k = 0) → Bz (m2_wI σ1 3 0 7 (-1)).1 t f (fun _ => 0) 0 := fun t f hz wk hw => ⟨0, by omega, hz wk hw, fun s _ => by rw [Nat.zero_testBit]; rfl⟩
      refine c17 (gN R 9) 0 0 (fun _ => 0) (0, fun _ => 0) (d - 1) _ _ (by omega) (Nat.zero_add _) (hX.fr fLn_k g2) ⟨fun i hi => by rw [wI_t (by decide)]; exact h26 i (Nat.zero_le _) hi, fun i hi => by rw [wI_t (by decide)]; exact h27 i (Nat.zero_le _) hi⟩ (b0 28 _ (fun k hk => by rw [wI_t (by decide)]; exact (hz k hk).1)) (b0 29 _ (fun k hk => by rw [wI_t (by decide)]; exact (hz k hk).2)) (by omega) (by show 0 ≤ 56001; omega) ⟨fr.id, fun _ => rfl, fun _ => rfl, fun i hi => absurd hi (Nat.not_lt_zero i), by rw [wI_same]; decide, fun hp => absurd hp (by show ¬ 0 < 0; omega)⟩ (fun σ2 hL => ⟨rfl, ?_⟩)
      obtain ⟨n1, n2, n3, n4, n5, n6⟩ := hL
      refine q σ2 (g2.trans (n1.weak fLd_n)) (by rw [n1.1 _ _ _ rfl, wI_k (by decide)]; exact e0) (fun k hk => ⟨by rw [n2, wI_t (by decide)]; exact (hz k hk).1, by rw [n3, wI_t (by decide)]; exact (hz k hk).2⟩) ⟨n5, n6 (mdl_1 _ _ _ _ _)⟩
    | succ k ih =>
      intro σ1 hk g1 e0 hz h26 h27
      have e : nI (k + 1) + (-1) = nI k := by rw [nI_dec (by omega), Nat.add_sub_cancel]
      have X1 := hX.fr fLn_k g1
      rw [e]
      refine w16_48 hC ?_
      refine if_n (nI_pos (by omega)) ?_
      refine c62 (by omega) X1 rfl (by omega) (fun σ2 g2 => ⟨_, rfl, ?_⟩)
      rw [nI_1, nI_clamp (n := k) (by omega), nI_clamp (n := k + 1) (by omega)]
      refine ix_k (by omega) (by omega) (ix_k (by omega) (by omega) (ix_k (by omega) (by omega) (ix_k (by omega) (by omega) ?_)))
      have v : (m2_wI σ2 26 0 k (wth R C k)).1 27 0 (k + 1) + (if 0 < (m2_wI σ2 26 0 k (wth R C k)).1 26 0 k then (m2_wI σ2 26 0 k (wth R C k)).1 26 0 k else 0) = nI (stl R C (gN R 9 - k) k) := by
        rw [wI_t (by decide), wI_same, g2.1 _ _ _ rfl, h27 (k + 1) (Nat.le_refl _) hk]
        rw [show gN R 9 - k = (gN R 9 - (k + 1)) + 1 by omega]
        show _ = nI (stl R C (gN R 9 - (k + 1)) (k + 1) + (if okA R C k = true then wN R C k else 0))
        cases ho : okA R C k
        · rw [okA_n ho, if_neg (by decide), if_neg (by decide), Int32.add_zero]; rfl
        · obtain ⟨w8, ew⟩ := okA_w hX.ok (by omega) ho
          rw [ew, if_pos rfl]
          by_cases e9 : 0 < wN R C k
          · rw [if_pos (show (0 : Int32) < nI (wN R C k) from nI_lt (a := 0) e9 (by omega)), nI_add]
          · have : wN R C k = 0 := by omega
            rw [this, if_neg (by decide), Int32.add_zero]; rfl
      rw [v]
      refine ih _ (by omega) (((g1.trans (g2.weak fRn_n)).w rfl).w rfl) (by rw [wI_t (by decide), wI_t (by decide), g2.1 _ _ _ rfl]; exact e0) (fun j hj => ⟨by rw [wI_t (by decide), wI_t (by decide), g2.1 _ _ _ rfl]; exact (hz j hj).1, by rw [wI_t (by decide), wI_t (by decide), g2.1 _ _ _ rfl]; exact (hz j hj).2⟩) (fun i h1 h2 => ?_) (fun i h1 h2 => ?_)
      · rw [wI_t (by decide)]
        by_cases e : i = k
        · rw [e, wI_same]
        · rw [wI_k e, g2.1 _ _ _ rfl]; exact h26 i (by omega) h2
      · by_cases e : i = k
        · rw [e, wI_same]
        · rw [wI_k e, wI_t (by decide), g2.1 _ _ _ rfl]; exact h27 i (by omega) h2
  have := loop (gN R 9) (m2_wI (m2_wI σ 3 0 0 (σ.1 1 0 2)) 27 0 (gN R 9) 0) (Nat.le_refl _) (g1.w rfl) (by rw [wI_t (by decide), wI_same]) st0 (fun i h1 h2 => by omega) (fun i h1 h2 => by
    obtain rfl : i = gN R 9 := by omega
    rw [wI_same, Nat.sub_self]; rfl)
  rw [Int32.sub_eq_add_neg]
  exact this
/-- frame of a call that may use the lender -/
def cGl (σ σ' : M2) (tr : Int32) : Prop := fr (fun t i k => fO t i k || fLn t i k) σ σ' ∧ σ'.1 12 0 13 = tr
theorem cG_l {σ σ' : M2} {tr : Int32} (h : cG σ σ' tr) : cGl σ σ' tr := ⟨h.1.weak (fun t i k z => by show (fO t i k || fLn t i k) = true; rw [z]; rfl), h.2⟩
theorem w_l {σ σ1 : M2} (h : fr fLn σ σ1) {w : Int32} : cGl σ (m2_wI σ1 12 0 13 w) w := ⟨(h.weak (fun t i k z => by show (fO t i k || fLn t i k) = true; rw [z, Bool.or_true])).w rfl, wI_same⟩
def ldK (σ σ' : M2) (R : Nat → Int32) (C : Nat → Bool) : Prop := (∀ k, k < 3 → σ'.1 28 0 k = 0 ∧ σ'.1 29 0 k = 0) ∧ ((σ'.1 3 0 0 = σ.1 1 0 2 ∧ ldH σ' R C) ∨ (σ'.1 3 0 0 = σ.1 3 0 0 ∧ σ'.1 3 0 7 = σ.1 3 0 7 ∧ ∀ i, σ'.1 31 0 i = σ.1 31 0 i))
theorem o125 {d : Nat} {σ : M2} {Q : Option dm_V → M2 → Prop} (hd : 14 ≤ d) (hX : cX σ μ R C) (ho : σ.1 12 0 5 = bI h) (h0 : ∀ k, k < 3 → σ.1 28 0 k = 0 ∧ σ.1 29 0 k = 0) (hl : σ.1 3 0 0 = σ.1 1 0 2 → ldH σ R C) (q : ∀ σ', cGl σ σ' (a_lend R C h).2 → ldK σ σ' R C → Q (some (vi (a_lend R C h).1)) σ') : CL L xs d 125 [vr 12 0] σ Q := by
  refine cl_at p125 (by omega) (w125_0 hC ?_)
  rw [ho]
  unfold a_lend at q
  refine if_b (fun z => ?_) (fun z => ?_)
  · rw [if_neg (by rw [z]; decide)] at q
    exact c81 (by omega) fr.id (fun σ' g => q σ' (cG_l g) ⟨fun k hk => ⟨by rw [g.1.1 _ _ _ rfl]; exact (h0 k hk).1, by rw [g.1.1 _ _ _ rfl]; exact (h0 k hk).2⟩, Or.inr ⟨g.1.1 _ _ _ rfl, g.1.1 _ _ _ rfl, fun i => g.1.1 _ _ _ rfl⟩⟩)
  rw [if_pos z] at q
  refine c16 (by omega) hX h0 hl (fun σ1 g1 e1 z1 l1 => ⟨rfl, ?_⟩)
  refine cl_at p83 (by omega) (w83_0 hC ⟨_, rfl, ?_⟩)
  rw [l1.1]
  exact q _ (w_l g1) ⟨fun k hk => ⟨by rw [wI_t (by decide)]; exact (z1 k hk).1, by rw [wI_t (by decide)]; exact (z1 k hk).2⟩, Or.inl ⟨by rw [wI_t (by decide)]; exact e1, by rw [wI_t (by decide)]; exact l1.1, fun i hi => by rw [wI_t (by decide)]; exact l1.2 i hi⟩⟩
theorem o126 {d : Nat} {σ : M2} {Q : Option dm_V → M2 → Prop} (hd : 14 ≤ d) {a : Int32} (hX : cX σ μ R C) (h0 : ∀ k, k < 3 → σ.1 28 0 k = 0 ∧ σ.1 29 0 k = 0) (hl : σ.1 3 0 0 = σ.1 1 0 2 → ldH σ R C) (q : ∀ σ', cGl σ σ' (a_weekOf R C a).2 → ldK σ σ' R C → Q (some (vi (a_weekOf R C a).1)) σ') : CL L xs d 126 [vr 12 0, vi a] σ Q := by
  refine cl_at p126 (by omega) (w126_0 hC ?_)
  refine c85 (s := 7) (by omega) rfl (by omega) hX hX.cnt.2.2.2.2.2.2.1 ⟨_, rfl, ?_⟩
  unfold a_weekOf at q
  refine if_b (fun z => ?_) (fun z => ?_)
  · rw [if_neg (by rw [z]; decide)] at q
    exact c81 (by omega) fr.id (fun σ' g => q σ' (cG_l g) ⟨fun k hk => ⟨by rw [g.1.1 _ _ _ rfl]; exact (h0 k hk).1, by rw [g.1.1 _ _ _ rfl]; exact (h0 k hk).2⟩, Or.inr ⟨g.1.1 _ _ _ rfl, g.1.1 _ _ _ rfl, fun i => g.1.1 _ _ _ rfl⟩⟩)
  rw [if_pos z] at q
  obtain ⟨ha, ea⟩ := inn_k hX.ok.cA.2 (by have := hX.ok.cA.1; omega) z
  have ha7 : a.toNatClampNeg < 7 := by have : a.toNatClampNeg < gN R 9 := ha; have := hX.ok.cA.1; omega
  refine c16 (by omega) hX h0 hl (fun σ1 g1 e1 z1 l1 => ⟨rfl, ix_x ha7 ea (by omega) ?_⟩)
  refine cl_at p83 (by omega) (w83_0 hC ⟨_, rfl, ?_⟩)
  rw [l1.2 _ ha]
  exact q _ (w_l g1) ⟨fun k hk => ⟨by rw [wI_t (by decide)]; exact (z1 k hk).1, by rw [wI_t (by decide)]; exact (z1 k hk).2⟩, Or.inl ⟨by rw [wI_t (by decide)]; exact e1, by rw [wI_t (by decide)]; exact l1.1, fun i hi => by rw [wI_t (by decide)]; exact l1.2 i hi⟩⟩
end OP12
