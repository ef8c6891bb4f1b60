/-! CALLS: rests, rest in the model; decade in both -/
def gRs : Nat → Nat → Nat → Bool := fun t i k => gRn t i k || (t == 13 && k == 36)
theorem gRn_s : ∀ t i k, gRn t i k = true → gRs t i k = true := fun t i k h => by unfold gRs; rw [h]; rfl
theorem gRs_O : ∀ t i k, gRs t i k = true → gO t i k = true := by
  intro t i k h
  unfold gRs gRn at h
  unfold gO
  simp only [Bool.or_eq_true, Bool.and_eq_true, beq_iff_eq, decide_eq_true_eq] at *
  omega
theorem sb_lt {a b c : Nat} (ha : a < 1000) (hb : b < 1000) (hc : c < 1000) : nI a - nI b < nI c - nI b ↔ a < c := by
  rw [Int32.lt_iff_toInt_lt, Int32.toInt_sub, Int32.toInt_sub, nI_toInt (by omega), nI_toInt (by omega), nI_toInt (by omega), Int.bmod_eq_of_le (by omega) (by omega), Int.bmod_eq_of_le (by omega) (by omega)]
  omega
theorem nI_div {a b : Nat} (h : a < 2 ^ 31) (hb : b < 2 ^ 31) : nI a / nI b = nI (a / b) := by
  have hq : a / b ≤ a := Nat.div_le_self a b
  have h2 : (a : Int).tdiv (b : Int) = ((a / b : Nat) : Int) := by
    rw [Int.tdiv_eq_ediv_of_nonneg (by omega)]; exact (Int.natCast_ediv a b).symm
  apply Int32.toInt_inj.mp
  rw [Int32.toInt_div, nI_toInt h, nI_toInt hb, nI_toInt (by omega), h2]
  generalize a / b = q at *
  rw [Int.bmod_eq_of_le (by omega) (by omega)]
theorem nI_mod {a b : Nat} (h : a < 2 ^ 31) (hb : b < 2 ^ 31) : nI a - nI a / nI b * nI b = nI (a % b) := by
  have e : a / b * b ≤ a := Nat.div_mul_le_self a b
  rw [nI_div h hb, nI_mul, nI_sub e]
  congr 1
  have := Nat.div_add_mod a b
  rw [Nat.mul_comm] at this
  omega
theorem if_m1 {c : Nat} {x : Int32} {A B : Prop} (hx : x = nI c + (-1)) (hc : c < 2 ^ 31) (a : c = 0 → A) (b : c ≠ 0 → B) : if x < 0 then A else B := by
  by_cases z : c = 0
  · exact if_y (by rw [hx, z]; exact m1_n) (a z)
  · exact if_n (by rw [hx, nI_dec (Nat.pos_of_ne_zero z)]; exact nI_pos (by omega)) (b z)
theorem nx_eq {a : Nat} (h : a < 65537) : ((75 * nI a) + 74) - ((75 * nI a) + 74) / 65537 * 65537 = nI ((75 * a + 74) % 65537) := by
  have e : (75 : Int32) * nI a + 74 = nI (75 * a + 74) := by
    show nI 75 * nI a + nI 74 = _
    rw [nI_mul, nI_add]
  rw [e]
  exact nI_mod (b := 65537) (by omega) (by omega)
theorem is_nz {n : Nat} {K : Prop} (h0 : n ≠ 0) (hn : n < 2 ^ 31) (q : K) : dm_is (!(nI n == 0)) K := by
  have : (nI n == 0) = false := by
    rw [beq_eq_false_iff_ne]
    intro e
    exact h0 ((nI_eq (b := 0) hn (by omega)).mp e)
  rw [this]
  exact q
def dcS (R : Nat → Int32) (C : Nat → Bool) : Nat → Nat × Int32 → Nat × Int32 := fun _ st => ((75 * ((75 * st.1 + 74) % 65537) + 74) % 65537, st.2 + hm2 R C (mPl R ((75 * st.1 + 74) % 65537 % gN R 8)) (nI ((75 * ((75 * st.1 + 74) % 65537) + 74) % 65537 % gN R 7)) (-2))
def a_dec (R : Nat → Int32) (C : Nat → Bool) (h : Bool) (s n : Int32) : Int32 × Int32 := if h = true then (if gN R 8 = 0 then (-1, 6) else if gN R 7 = 0 then (-1, 6) else if inn s 65537 = true then (if inn n 501 = true then ((ff (dcS R C) n.toNatClampNeg 0 (s.toNatClampNeg, 0)).2, 0) else (-1, 2)) else (-1, 2)) else no1
section OP15
variable {L : Nat} {xs : Nat → Int32} {d : Nat} {Q : Option dm_V → M2 → Prop} {σ : M2} {μ : Nat} {R : Nat → Int32} {C : Nat → Bool} {h : Bool}
theorem c259 (hd : 8 ≤ d) {p r c o : Nat} {x1 x2 x3 x4 : Int32} (h3 : x3 = nI c + (-1)) (h4 : x4 = nI o + (-1)) (hX : mX σ R C) (h1 : x1 = nI p) (hp : p < gN R 8) (h2 : x2 = nI r) (hr : r < gN R 8) (hc : c ≤ gN R 7) (ho : o ≤ gN R 7) (q : ∀ σ', fr gRn σ σ' → Q (some (vi (nI (Hc R C r c) - nI (Hc R C p o)))) σ') : CL L xs d 259 [vr 13 0, vi x1, vi x2, vi x3, vi x4] σ Q := by
  refine cl_at p259 (by omega) (w259_0 hC ?_)
  have hS := hX.1.cS.1
  obtain ⟨hp', ep⟩ := hX.1.man hp
  obtain ⟨hr', er⟩ := hX.1.man hr
  refine c250 (by omega) hX h2 hr ⟨_, rfl, ?_⟩
  have fin : ∀ y0, isC R y0 → hm2 R C (mPl R r) y0 (-2) = nI (Hc R C r c) → g259_16 L xs (CL L xs (d - 1)) Q x1 x4 y0 (R (152 + 2 * r + 1)) σ := by
    intro y0 hy e0
    refine w259_16 hC ?_
    refine c209 (by omega) hX er hr' hy isC_2 (fun σ1 f1 => ⟨_, rfl, ?_⟩)
    have X1 := hX.fr (fun _ => ⟨rfl, rfl⟩) f1
    refine c250 (by omega) X1 h1 hp ⟨_, rfl, ?_⟩
    rw [show hm2 R C (plR R (gN R (152 + 2 * r + 1))) y0 (-2) = _ from e0]
    have e := (Hc_eq hX.1 (C := C) (m := p) (c := o)).2
    unfold cI at e
    refine if_m1 h4 (by omega) (fun z => ?_) (fun z => ?_)
    · rw [if_pos z] at e
      refine c209 (by omega) X1 ep hp' isC_2 isC_2 (fun σ2 f2 => ⟨_, rfl, ?_⟩)
      rw [show hm2 R C (plR R (gN R (152 + 2 * p + 1))) (-2) (-2) = _ from e]
      exact q σ2 (f1.trans f2)
    · rw [if_neg z] at e
      rw [h4, nI_dec (Nat.pos_of_ne_zero z)]
      refine c209 (by omega) X1 ep hp' (isC_s (by omega)) isC_2 (fun σ2 f2 => ⟨_, rfl, ?_⟩)
      rw [show hm2 R C (plR R (gN R (152 + 2 * p + 1))) (nI (o - 1)) (-2) = _ from e]
      exact q σ2 (f1.trans f2)
  have e := (Hc_eq hX.1 (C := C) (m := r) (c := c)).2
  unfold cI at e
  refine if_m1 h3 (by omega) (fun z => ?_) (fun z => ?_)
  · rw [if_pos z] at e
    exact fin _ isC_2 e
  · rw [if_neg z] at e
    rw [h3, nI_dec (Nat.pos_of_ne_zero z)]
    exact fin _ (isC_s (by omega)) e
theorem c260 (hd : 9 ≤ d) {p r s o : Nat} {x1 x2 : Int32} (hX : mX σ R C) (h1 : x1 = nI p) (hp : p < gN R 8) (h2 : x2 = nI r) (hr : r < gN R 8) (hs : s ≤ gN R 7) (ho : o ≤ gN R 7) (q : ∀ σ', fr gRn σ σ' → Q (some (vi (bI (isM (Hc R C r) (gN R 7 + 1) s && isM (Hc R C p) (gN R 7 + 1) o)))) σ') : CL L xs d 260 [vr 13 0, vi x1, vi x2, vi (nI s + (-1)), vi (nI o + (-1))] σ Q := by
  refine cl_at p260 (by omega) (w260_0 hC ?_)
  have hS := hX.1.cS
  refine dm_for (n := gN R 7 + 1) (fun k σ => g260_6 L xs (CL L xs (d - 1)) Q x1 x2 (nI s + (-1)) (nI o + (-1)) (bI (al (fun k => decide (Hc R C r k ≤ Hc R C r s) && decide (Hc R C p k ≤ Hc R C p o)) k)) (nI k + (-1)) σ) (fun _ σ' => fr gRn σ σ') ?_ ?_ 0 σ (Nat.zero_le _) fr.id
  · intro k σ2 hk f2 ih
    have X2 := hX.fr (fun _ => ⟨rfl, rfl⟩) f2
    refine w260_6 hC ?_
    rw [X2.2.1, hS.2, m1_add]
    have ec : nI (k + 1) + (-1) = nI k := by rw [nI_dec (by omega), Nat.add_sub_cancel]
    have ih : ∀ σ', fr gRn σ σ' → g260_6 L xs (CL L xs (d - 1)) Q x1 x2 (nI s + (-1)) (nI o + (-1)) (bI (al (fun k => decide (Hc R C r k ≤ Hc R C r s) && decide (Hc R C p k ≤ Hc R C p o)) k && (decide (Hc R C r k ≤ Hc R C r s) && decide (Hc R C p k ≤ Hc R C p o)))) (nI k) σ' := fun σ' f => by
      have := ih σ' f
      rw [ec] at this
      exact this
    have b1 := (Hc_eq hX.1 (C := C) (m := r) (c := k)).1
    have b2 := (Hc_eq hX.1 (C := C) (m := r) (c := s)).1
    have b3 := (Hc_eq hX.1 (C := C) (m := p) (c := k)).1
    have b4 := (Hc_eq hX.1 (C := C) (m := p) (c := o)).1
    refine if_y (m1_lt (by omega) (by omega)) ?_
    refine if_b (fun z => ?_) (fun z => ?_)
    · rw [z] at ih; exact ih σ2 f2
    rw [z] at ih
    refine c259 (by omega) rfl rfl X2 h1 hp h2 hr (by omega) ho (fun σ3 f3 => ⟨_, rfl, ?_⟩)
    have X3 := X2.fr (fun _ => ⟨rfl, rfl⟩) f3
    refine c259 (by omega) rfl rfl X3 h1 hp h2 hr hs ho (fun σ4 f4 => ⟨_, rfl, ?_⟩)
    have X4 := X3.fr (fun _ => ⟨rfl, rfl⟩) f4
    refine if_c (fun z1 => ?_) (fun z1 => ?_)
    · have z1 := (sb_lt (by omega) (by omega) (by omega)).mp z1
      rw [decide_eq_false (show ¬ Hc R C r k ≤ Hc R C r s by omega)] at ih
      exact ih σ4 (f2.trans (f3.trans f4))
    have z1 : Hc R C r k ≤ Hc R C r s := Nat.le_of_not_lt (fun w => z1 ((sb_lt (by omega) (by omega) (by omega)).mpr w))
    rw [decide_eq_true z1] at ih
    refine c259 (by omega) rfl rfl X4 h2 hr h1 hp (by omega) hs (fun σ5 f5 => ⟨_, rfl, ?_⟩)
    have X5 := X4.fr (fun _ => ⟨rfl, rfl⟩) f5
    refine c259 (by omega) rfl rfl X5 h2 hr h1 hp ho hs (fun σ6 f6 => ⟨_, rfl, ?_⟩)
    have f6 := f2.trans (f3.trans (f4.trans (f5.trans f6)))
    refine if_c (fun z2 => ?_) (fun z2 => ?_)
    · have z2 := (sb_lt (by omega) (by omega) (by omega)).mp z2
      rw [decide_eq_false (show ¬ Hc R C p k ≤ Hc R C p o by omega)] at ih
      exact ih σ6 f6
    · have z2 : Hc R C p k ≤ Hc R C p o := Nat.le_of_not_lt (fun w => z2 ((sb_lt (by omega) (by omega) (by omega)).mpr w))
      rw [decide_eq_true z2] at ih
      exact ih σ6 f6
  · intro σ2 f2
    have X2 := hX.fr (fun _ => ⟨rfl, rfl⟩) f2
    refine w260_6 hC ?_
    rw [X2.2.1, hS.2]
    refine if_n ?_ ?_
    · rw [nI_dec (by omega), Nat.add_sub_cancel]
      exact nI_nlt (Nat.le_refl _) (by omega)
    · rw [bI_and, al_and]
      exact q σ2 f2
theorem e10 (s o : Nat) : 10 * (nI s + (-1) + 1) + (nI o + (-1)) + 1 = nI (10 * s + o) := by
  rw [m1_add, Int32.add_assoc, m1_add, l10, nI_mul, nI_add]
theorem c261 (hd : 10 ≤ d) {p r : Nat} {x1 x2 : Int32} (hX : mX σ R C) (h1 : x1 = nI p) (hp : p < gN R 8) (h2 : x2 = nI r) (hr : r < gN R 8) (q : ∀ σ', fr gRs σ σ' → σ'.1 13 0 36 = nI (10 * fW (Hc R C r) (gN R 7 + 1) + fW (Hc R C p) (gN R 7 + 1)) → Q (some (vi (nI (ct (isM (Hc R C r) (gN R 7 + 1)) (gN R 7 + 1) 0 * ct (isM (Hc R C p) (gN R 7 + 1)) (gN R 7 + 1) 0)))) σ') : CL L xs d 261 [vr 13 0, vi x1, vi x2] σ Q := by
  refine cl_at p261 (by omega) (w261_0 hC ?_)
  have hS := hX.1.cS
  have hA : fi (isM (Hc R C r) (gN R 7 + 1)) (gN R 7 + 1) 0 = some (fW (Hc R C r) (gN R 7 + 1)) := fW_fi (by omega)
  have hB : fi (isM (Hc R C p) (gN R 7 + 1)) (gN R 7 + 1) 0 = some (fW (Hc R C p) (gN R 7 + 1)) := fW_fi (by omega)
  have all := rs_all (A := isM (Hc R C r) (gN R 7 + 1)) hB (gN R 7 + 1) 0 (0, -2)
  rw [hA, if_pos rfl, Nat.zero_add] at all
  generalize hA' : isM (Hc R C r) (gN R 7 + 1) = A at *
  generalize hB' : isM (Hc R C p) (gN R 7 + 1) = B at *
  refine dm_fj (n := gN R 7 + 1) (rsO A B (gN R 7 + 1)) (fun s st σ => g261_11 L xs (CL L xs (d - 1)) Q x1 x2 (nI st.1) (nI s + (-1)) σ) (fun s st σ' => fr gRs σ σ' ∧ σ'.1 13 0 36 = st.2 ∧ st.1 ≤ 8 * s) ?_ (gN R 7 + 1) 0 (0, -2) _ (Nat.zero_add _) ⟨fr.id.w rfl, wI_same, Nat.le_refl _⟩ ?_
  · intro s st σ2 hs ⟨f2, e2, b2⟩ ih
    have X2 := hX.fr (fun _ => ⟨rfl, rfl⟩) f2
    refine w261_11 hC ?_
    rw [X2.2.1, hS.2]
    refine if_y (m1_lt (by omega) (by omega)) ?_
    have ec : nI (s + 1) + (-1) = nI s := by rw [nI_dec (by omega), Nat.add_sub_cancel]
    refine dm_fj (n := gN R 7 + 1) (rsI A B s) (fun o st σ => g261_26 L xs (CL L xs (d - 1)) Q x1 x2 (nI st.1) (nI s + (-1)) (nI o + (-1)) σ) (fun o st σ' => fr gRs σ σ' ∧ σ'.1 13 0 36 = st.2 ∧ st.1 ≤ 8 * s + o) ?_ (gN R 7 + 1) 0 st σ2 (Nat.zero_add _) ⟨f2, e2, b2⟩ ?_
    · intro o st σ3 ho ⟨f3, e3, b3⟩ ih
      have X3 := hX.fr (fun _ => ⟨rfl, rfl⟩) f3
      refine w261_26 hC ?_
      have ec : nI (o + 1) + (-1) = nI o := by rw [nI_dec (by omega), Nat.add_sub_cancel]
      rw [X3.2.1, hS.2, e10, m1_add o]
      refine if_y (m1_lt (by omega) (by omega)) ?_
      refine c260 (by omega) X3 h1 hp h2 hr (by omega) (by omega) (fun σ4 f4 => ⟨_, rfl, ?_⟩)
      have f4' : fr gRs σ σ4 := f3.trans (f4.weak gRn_s)
      have e4 : σ4.1 13 0 36 = st.2 := (f4.1 _ _ _ rfl).trans e3
      rw [hA', hB']
      rw [ec] at ih
      unfold rsI at ih
      refine if_b (fun z => ?_) (fun z => ?_)
      · rw [if_neg (by rw [z]; decide)] at ih
        exact ih σ4 ⟨f4', e4, by omega⟩
      rw [if_pos z] at ih
      rw [nI_1 st.1]
      refine if_c (fun z1 => ?_) (fun z1 => ?_)
      · have z1 := (nI_eq (b := 0) (by omega) (by omega)).mp z1
        rw [if_pos z1] at ih
        exact ih _ ⟨f4'.w rfl, wI_same, by show st.1 + 1 ≤ _; omega⟩
      · rw [if_neg (fun w => z1 (by rw [w]; rfl))] at ih
        exact ih σ4 ⟨f4', e4, by show st.1 + 1 ≤ _; omega⟩
    · intro σ3 ⟨f3, e3, b3⟩
      have X3 := hX.fr (fun _ => ⟨rfl, rfl⟩) f3
      refine w261_26 hC ?_
      rw [X3.2.1, hS.2]
      refine if_n ?_ ?_
      · rw [nI_dec (by omega), Nat.add_sub_cancel]
        exact nI_nlt (Nat.le_refl _) (by omega)
      · rw [m1_add s]
        rw [ec] at ih
        exact ih σ3 ⟨f3, e3, by show (rsO A B (gN R 7 + 1) s st).1 ≤ _; have : (rsO A B (gN R 7 + 1) s st).1 ≤ 8 * s + (gN R 7 + 1) := b3
                                omega⟩
  · intro σ2 ⟨f2, e2, b2⟩
    have X2 := hX.fr (fun _ => ⟨rfl, rfl⟩) f2
    refine w261_11 hC ?_
    rw [X2.2.1, hS.2, all]
    rw [all] at e2
    refine if_n ?_ (q σ2 f2 e2)
    rw [nI_dec (by omega), Nat.add_sub_cancel]
    exact nI_nlt (Nat.le_refl _) (by omega)
theorem mchk {x y : Int32} {K : Prop} {Q' : Option dm_V → M2 → Prop} (hd : 7 ≤ d) (hY : mY σ R C h) (no : arP R x y = false → CL L xs d 151 [vr 13 0, vi 1] σ Q') (P : M2 → Prop) (yes : arP R x y = true → P σ) :
    CL L xs d 193 [vr 13 0, vi x] σ (fun r σ2 => ∃ v3 : Int32, r = some (vi v3) ∧ (if v3 = 0 then CL L xs d 151 [vr 13 0, vi 1] σ2 Q' else CL L xs d 193 [vr 13 0, vi y] σ2 (fun r σ6 => ∃ v7 : Int32, r = some (vi v7) ∧ (if v7 = 0 then CL L xs d 151 [vr 13 0, vi 1] σ6 Q' else (if x = y then CL L xs d 151 [vr 13 0, vi 1] σ6 Q' else P σ6))))) := by
  refine c193 (by omega) hY ⟨_, rfl, ?_⟩
  refine if_b (fun z => ?_) (fun z => ?_)
  · exact no (by unfold arP; rw [z]; rfl)
  refine c193 (by omega) hY ⟨_, rfl, ?_⟩
  refine if_b (fun z1 => ?_) (fun z1 => ?_)
  · exact no (by unfold arP; rw [z, z1]; rfl)
  refine if_c (fun z2 => ?_) (fun z2 => ?_)
  · exact no (by unfold arP; rw [z, z1, decide_eq_true z2]; rfl)
  · exact yes (by unfold arP; rw [z, z1, decide_eq_false z2]; rfl)
theorem o262 (hd : 12 ≤ d) {p r : Int32} (hY : mY σ R C h) (q : ∀ σ', mG σ σ' (a_rests R C p r).2 → Q (some (vi (a_rests R C p r).1)) σ') : CL L xs d 262 [vr 13 0, vi p, vi r] σ Q := by
  refine cl_at p262 (by omega) (w262_0 hC ?_)
  refine c150 (by omega) (fun σ1 g1 => ⟨rfl, ?_⟩)
  have Y1 := mY_o hY g1.1
  unfold a_rests at q
  refine mchk (K := True) (by omega) Y1 (fun z => ?_) (fun σ6 => CL L xs (d - 1) 261 [vr 13 0, vi p, vi r] σ6 _) (fun z => ?_)
  · rw [if_neg (by rw [z]; decide)] at q
    exact c151 (by omega) g1 q
  rw [if_pos z] at q
  obtain ⟨⟨hp, ep⟩, ⟨hr, er⟩⟩ := arP_t hY.1.1 z
  exact c261 (by omega) Y1.1 ep hp er hr (fun σ2 f2 _ => ⟨_, rfl, q σ2 (g1.o gRs_O rfl rfl f2)⟩)
theorem o263 (hd : 12 ≤ d) {p r : Int32} (hY : mY σ R C h) (q : ∀ σ', mG σ σ' (a_rest R C p r).2 → Q (some (vi (a_rest R C p r).1)) σ') : CL L xs d 263 [vr 13 0, vi p, vi r] σ Q := by
  refine cl_at p263 (by omega) (w263_0 hC ?_)
  refine c150 (by omega) (fun σ1 g1 => ⟨rfl, ?_⟩)
  have Y1 := mY_o hY g1.1
  unfold a_rest at q
  refine mchk (K := True) (by omega) Y1 (fun z => ?_) (fun σ6 => CL L xs (d - 1) 261 [vr 13 0, vi p, vi r] σ6 _) (fun z => ?_)
  · rw [if_neg (by rw [z]; decide)] at q
    exact c151 (by omega) g1 q
  rw [if_pos z] at q
  obtain ⟨⟨hp, ep⟩, ⟨hr, er⟩⟩ := arP_t hY.1.1 z
  exact c261 (by omega) Y1.1 ep hp er hr (fun σ2 f2 e2 => ⟨_, rfl, by rw [e2]; exact q σ2 (g1.o gRs_O rfl rfl f2)⟩)
theorem c135 (hd : 4 ≤ d) {a : Nat} (ha : a < 65537) (q : Q (some (vi (nI ((75 * a + 74) % 65537)))) σ) : CL L xs d 135 [vi (nI a)] σ Q := by
  refine cl_at p135 hd (w135_0 hC ?_)
  rw [nx_eq ha]
  exact q
theorem o134 (hd : 10 ≤ d) {s n : Int32} (hX : cX σ μ R C) (ho : σ.1 12 0 5 = bI h) (q : ∀ σ', cG σ σ' (a_dec R C h s n).2 → Q (some (vi (a_dec R C h s n).1)) σ') : CL L xs d 134 [vr 12 0, vi s, vi n] σ Q := by
  refine cl_at p134 (by omega) (w134_0 hC ?_)
  unfold a_dec at q
  have hS := hX.ok.cS
  have hM := hX.ok.cM
  have hmu := hX.mu
  rw [ho, hX.r12, hX.cnt.2.2.2.2.1, hX.cnt.2.2.2.2.2.1]
  refine if_b (fun z => ?_) (fun z => ?_)
  · rw [if_neg (by rw [z]; decide)] at q; exact c81 (by omega) fr.id q
  rw [if_pos z] at q
  rw [hS.2, hM.2]
  by_cases zm : gN R 8 = 0
  · rw [if_pos zm] at q
    refine if_n ?_ (c81 (by omega) fr.id q)
    rw [zm]; decide
  rw [if_neg zm] at q
  refine if_y (nI_lt (a := 0) (by omega) (by omega)) ?_
  by_cases zs : gN R 7 = 0
  · rw [if_pos zs] at q
    refine if_n ?_ (c81 (by omega) fr.id q)
    rw [zs]; decide
  rw [if_neg zs] at q
  refine if_y (nI_lt (a := 0) (by omega) (by omega)) ?_
  refine if_c (fun z1 => ?_) (fun z1 => ?_)
  · rw [if_neg (by unfold inn; simp [z1])] at q; exact c81 (by omega) fr.id q
  refine if_c (fun z2 => ?_) (fun z2 => ?_)
  rotate_left
  · rw [if_neg (by unfold inn; simp [z2])] at q; exact c81 (by omega) fr.id q
  have zi : inn s 65537 = true := by unfold inn; rw [decide_eq_true z1, decide_eq_true z2]; rfl
  rw [if_pos zi] at q
  have e5 : inc n 0 500 = inn n 501 := inc_s1 (n := 501) (by omega)
  refine if_c (fun z3 => ?_) (fun z3 => ?_)
  · rw [if_neg (by unfold inn; simp [z3])] at q; exact c81 (by omega) fr.id q
  refine if_c (fun z4 => ?_) (fun z4 => ?_)
  · rw [if_neg (by rw [← e5]; unfold inc; simp [z4])] at q; exact c81 (by omega) fr.id q
  have zn : inn n 501 = true := by rw [← e5]; unfold inc; rw [decide_eq_true z3, decide_eq_true z4]; rfl
  rw [if_pos zn] at q
  obtain ⟨hs, es⟩ := inn_n (n := 65537) (by omega) zi
  obtain ⟨hn, en⟩ := inn_n (n := 501) (by omega) zn
  clear zi zn e5 z1 z2 z3 z4
  generalize s.toNatClampNeg = a at *
  generalize n.toNatClampNeg = N at *
  subst es en
  refine dm_fj (n := N) (dcS R C) (fun k st σ => g134_88 L xs (CL L xs (d - 1)) Q (nI N) (nI (gN R 8)) (nI (gN R 7)) (nI st.1) st.2 (nI k) σ) (fun _ st σ' => fr fRn σ σ' ∧ st.1 < 65537) ?_ N 0 (a, 0) σ (Nat.zero_add _) ⟨fr.id, hs⟩ ?_
  · intro k st σ2 hk ⟨f2, hb⟩ ih
    have X2 := hX.fr fRn_k f2
    have l1 : (75 * st.1 + 74) % 65537 < 65537 := Nat.mod_lt _ (by omega)
    have l2 : (75 * ((75 * st.1 + 74) % 65537) + 74) % 65537 < 65537 := Nat.mod_lt _ (by omega)
    have m1 : (75 * st.1 + 74) % 65537 % gN R 8 < gN R 8 := Nat.mod_lt _ (by omega)
    have m2 : (75 * ((75 * st.1 + 74) % 65537) + 74) % 65537 % gN R 7 < gN R 7 := Nat.mod_lt _ (by omega)
    obtain ⟨hp, ep⟩ := hX.ok.man m1
    refine w134_88 hC ?_
    refine if_y (nI_lt hk (by omega)) ?_
    refine c135 (by omega) hb ⟨_, rfl, ?_⟩
    refine is_nz zm (by omega) ?_
    rw [nI_mod (by omega) (by omega)]
    refine c130 (by omega) rfl X2 m1 ⟨_, rfl, ?_⟩
    refine c135 (by omega) l1 ⟨_, rfl, ?_⟩
    refine is_nz zs (by omega) ?_
    rw [nI_mod (by omega) (by omega)]
    have hP := hX.ok.cP.1
    refine c59 (by omega) X2 (X2.pln _ hp) (by omega) ((hX.ok.pl hp).up (by omega)) (isC_s m2) isC_2 (fun σ3 f3 => ⟨_, rfl, ?_⟩)
    rw [nI_1 k]
    exact ih σ3 ⟨f2.trans f3, l2⟩
  · intro σ2 ⟨f2, _⟩
    refine w134_88 hC ?_
    refine if_n (nI_nlt (Nat.le_refl _) (by omega)) ?_
    exact c83 (by omega) (f2.weak fRn_O) q
theorem o264 (hd : 10 ≤ d) {s n : Int32} (hY : mY σ R C h) (q : ∀ σ', mG σ σ' (a_dec R C h s n).2 → Q (some (vi (a_dec R C h s n).1)) σ') : CL L xs d 264 [vr 13 0, vi s, vi n] σ Q := by
  refine cl_at p264 (by omega) (w264_0 hC ?_)
  refine c150 (by omega) (fun σ1 g1 => ⟨rfl, ?_⟩)
  have Y1 := mY_o hY g1.1
  unfold a_dec at q
  have hS := hY.1.1.cS
  have hM := hY.1.1.cM
  rw [Y1.2.1, Y1.1.2.1, Y1.1.2.1, hS.2, hM.2]
  refine if_b (fun z => ?_) (fun z => ?_)
  · rw [if_neg (by rw [z]; decide)] at q; exact c151 (by omega) g1 q
  rw [if_pos z] at q
  refine if_c (fun zm => ?_) (fun zm => ?_)
  · rw [if_pos ((nI_eq (b := 0) (by omega) (by omega)).mp zm)] at q; exact c151 (by omega) g1 q
  have zm : gN R 8 ≠ 0 := fun w => zm (by rw [w]; rfl)
  rw [if_neg zm] at q
  refine if_c (fun zs => ?_) (fun zs => ?_)
  · rw [if_pos ((nI_eq (b := 0) (by omega) (by omega)).mp zs)] at q; exact c151 (by omega) g1 q
  have zs : gN R 7 ≠ 0 := fun w => zs (by rw [w]; rfl)
  rw [if_neg zs] at q
  refine c153 (by omega) ⟨_, rfl, ?_⟩
  rw [show inc s 0 65536 = inn s 65537 from inc_s1 (n := 65537) (by omega)]
  refine if_b (fun zi => ?_) (fun zi => ?_)
  · rw [if_neg (by rw [zi]; decide)] at q; exact c151 (by omega) g1 q
  rw [if_pos zi] at q
  refine c153 (by omega) ⟨_, rfl, ?_⟩
  rw [show inc n 0 500 = inn n 501 from inc_s1 (n := 501) (by omega)]
  refine if_b (fun zn => ?_) (fun zn => ?_)
  · rw [if_neg (by rw [zn]; decide)] at q; exact c151 (by omega) g1 q
  rw [if_pos zn] at q
  obtain ⟨hs, es⟩ := inn_n (n := 65537) (by omega) zi
  obtain ⟨hn, en⟩ := inn_n (n := 501) (by omega) zn
  clear zi zn
  generalize s.toNatClampNeg = a at *
  generalize n.toNatClampNeg = N at *
  subst es en
  refine dm_fj (n := N) (dcS R C) (fun k st σ => g264_80 L xs (CL L xs (d - 1)) Q (nI N) (nI st.1) st.2 (nI k) σ) (fun _ st σ' => fr gRn σ1 σ' ∧ st.1 < 65537) ?_ N 0 (a, 0) σ1 (Nat.zero_add _) ⟨fr.id, hs⟩ ?_
  · intro k st σ2 hk ⟨f2, hb⟩ ih
    have X2 := Y1.1.fr (fun _ => ⟨rfl, rfl⟩) f2
    have l1 : (75 * st.1 + 74) % 65537 < 65537 := Nat.mod_lt _ (by omega)
    have l2 : (75 * ((75 * st.1 + 74) % 65537) + 74) % 65537 < 65537 := Nat.mod_lt _ (by omega)
    have m1 : (75 * st.1 + 74) % 65537 % gN R 8 < gN R 8 := Nat.mod_lt _ (by omega)
    have m2 : (75 * ((75 * st.1 + 74) % 65537) + 74) % 65537 % gN R 7 < gN R 7 := Nat.mod_lt _ (by omega)
    obtain ⟨hp, ep⟩ := hY.1.1.man m1
    refine w264_80 hC ?_
    refine if_y (nI_lt hk (by omega)) ?_
    rw [nx_eq hb, nx_eq l1, X2.2.1, hM.2, nI_mod (by omega) (by omega)]
    refine is_nz zm (by omega) ?_
    refine c250 (by omega) X2 rfl m1 ⟨_, rfl, ?_⟩
    rw [X2.2.1, hS.2, nI_mod (by omega) (by omega)]
    refine is_nz zs (by omega) ?_
    refine c209 (by omega) X2 ep hp (isC_s m2) isC_2 (fun σ3 f3 => ⟨_, rfl, ?_⟩)
    rw [nI_1 k]
    exact ih σ3 ⟨f2.trans f3, l2⟩
  · intro σ2 ⟨f2, _⟩
    refine w264_80 hC ?_
    refine if_n (nI_nlt (Nat.le_refl _) (by omega)) ?_
    exact q σ2 (g1.rn f2)
end OP15
