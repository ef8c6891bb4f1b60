/-! CALLS: rests, rest: the mathematics and the class -/
def cI (c : Nat) : Int32 := if c = 0 then -2 else nI (c - 1)
def Hc (R : Nat → Int32) (C : Nat → Bool) (m c : Nat) : Nat := (hm2 R C (mPl R m) (cI c) (-2)).toNatClampNeg
theorem Hc_eq {R : Nat → Int32} (hR : okR R) {C : Nat → Bool} {m c : Nat} : Hc R C m c < 800 ∧ hm2 R C (mPl R m) (cI c) (-2) = nI (Hc R C m c) := by
  obtain ⟨j, hj, e⟩ := hm2_b hR C (mPl R m) (cI c) (-2)
  unfold Hc
  rw [e, nI_clamp (by omega)]
  exact ⟨hj, rfl⟩
theorem cI_C {R : Nat → Int32} {c : Nat} (h : c ≤ gN R 7) : isC R (cI c) := by
  unfold cI
  split
  · exact isC_2
  · exact isC_s (by omega)
def isM (f : Nat → Nat) (n c : Nat) : Bool := al (fun s => decide (f s ≤ f c)) n
theorem al_t {f : Nat → Bool} : ∀ {n : Nat}, al f n = true → ∀ k, k < n → f k = true
  | 0, _, _, h => absurd h (Nat.not_lt_zero _)
  | n + 1, h, k, hk => by
    unfold al at h
    simp only [Bool.and_eq_true] at h
    rcases Nat.lt_or_ge k n with z | z
    · exact al_t h.1 k z
    · obtain rfl : k = n := by omega
      exact h.2
theorem al_of {f : Nat → Bool} : ∀ {n : Nat}, (∀ k, k < n → f k = true) → al f n = true
  | 0, _ => rfl
  | n + 1, h => by
    unfold al
    rw [al_of (fun k hk => h k (by omega)), h n (by omega)]; rfl
theorem isM_t {f : Nat → Nat} {n c : Nat} : isM f n c = true ↔ ∀ s, s < n → f s ≤ f c :=
  ⟨fun h s hs => of_decide_eq_true (al_t h s hs), fun h => al_of (fun s hs => decide_eq_true (h s hs))⟩
theorem fi_eq {p : Nat → Bool} {b : Nat} : ∀ m k, k ≤ b → b < k + m → p b = true → (∀ i, k ≤ i → i < b → p i = false) → fi p m k = some b
  | 0, k, h1, h2, _, _ => by omega
  | m + 1, k, h1, h2, h3, h4 => by
    unfold fi
    rcases Nat.eq_or_lt_of_le h1 with e | e
    · subst e; rw [if_pos h3]
    · rw [if_neg (by rw [h4 k (Nat.le_refl _) e]; decide)]
      exact fi_eq m (k + 1) (by omega) (by omega) h3 (fun i h5 h6 => h4 i (by omega) h6)
def fwS (f : Nat → Nat) : Nat → Nat → Nat := fun c b => if f b < f c then c else b
def fW (f : Nat → Nat) (n : Nat) : Nat := ff (fwS f) (n - 1) 1 0
theorem fW_in {f : Nat → Nat} {n : Nat} : ∀ m k b, k + m = n → b < k → (∀ i, i < k → f i ≤ f b) → (∀ i, i < b → f i < f b) → ff (fwS f) m k b < n ∧ (∀ i, i < n → f i ≤ f (ff (fwS f) m k b)) ∧ ∀ i, i < ff (fwS f) m k b → f i < f (ff (fwS f) m k b)
  | 0, k, b, h, h1, h2, h3 => by have : k = n := h; subst this; exact ⟨h1, h2, h3⟩
  | m + 1, k, b, h, h1, h2, h3 => by
    unfold ff
    by_cases z : f b < f k
    · have e : fwS f k b = k := if_pos z
      rw [e]
      refine fW_in m (k + 1) k (by omega) (by omega) (fun i hi => ?_) (fun i hi => ?_)
      · rcases Nat.lt_or_ge i k with w | w
        · have := h2 i w; omega
        · obtain rfl : i = k := by omega
          exact Nat.le_refl _
      · have := h2 i hi; omega
    · have e : fwS f k b = b := if_neg z
      rw [e]
      refine fW_in m (k + 1) b (by omega) (by omega) (fun i hi => ?_) h3
      rcases Nat.lt_or_ge i k with w | w
      · exact h2 i w
      · obtain rfl : i = k := by omega
        omega
theorem fW_ok {f : Nat → Nat} {n : Nat} (hn : 1 ≤ n) : fW f n < n ∧ (∀ i, i < n → f i ≤ f (fW f n)) ∧ ∀ i, i < fW f n → f i < f (fW f n) :=
  fW_in (n - 1) 1 0 (by omega) (by omega) (fun i hi => by obtain rfl : i = 0 := by omega
                                                          exact Nat.le_refl _) (fun i hi => absurd hi (Nat.not_lt_zero i))
theorem fW_fi {f : Nat → Nat} {n : Nat} (hn : 1 ≤ n) : fi (isM f n) n 0 = some (fW f n) := by
  obtain ⟨h1, h2, h3⟩ := fW_ok (f := f) hn
  refine fi_eq n 0 (Nat.zero_le _) (by omega) (isM_t.mpr h2) (fun i _ hi => ?_)
  cases e : isM f n i
  · rfl
  · have := isM_t.mp e (fW f n) h1
    have := h3 i hi
    omega
def ct (p : Nat → Bool) : Nat → Nat → Nat
  | 0, _ => 0
  | m + 1, k => (if p k = true then 1 else 0) + ct p m (k + 1)
theorem ct_s {p : Nat → Bool} {m k : Nat} : ct p (m + 1) k = (if p k = true then 1 else 0) + ct p m (k + 1) := rfl
theorem fi_s {p : Nat → Bool} {m k : Nat} : fi p (m + 1) k = if p k = true then some k else fi p m (k + 1) := rfl
theorem ct_le {p : Nat → Bool} : ∀ m k, ct p m k ≤ m
  | 0, _ => Nat.le_refl _
  | m + 1, k => by
    unfold ct
    have := ct_le (p := p) m (k + 1)
    split <;> omega
theorem ct_congr {p q : Nat → Bool} : ∀ m k, (∀ i, k ≤ i → i < k + m → p i = q i) → ct p m k = ct q m k
  | 0, _, _ => rfl
  | m + 1, k, h => by
    unfold ct
    rw [h k (Nat.le_refl _) (by omega), ct_congr m (k + 1) (fun i h1 h2 => h i (by omega) (by omega))]
theorem ct_fi {p : Nat → Bool} : ∀ m k b, fi p m k = some b → 1 ≤ ct p m k
  | 0, _, _, h => by cases h
  | m + 1, k, b, h => by
    unfold fi at h
    unfold ct
    split at h
    · rename_i z; rw [if_pos z]; omega
    · have := ct_fi m (k + 1) b h; omega
/-- the pairs: how many, the first -/
def rsI (A B : Nat → Bool) (s : Nat) : Nat → Nat × Int32 → Nat × Int32 := fun o st => if (A s && B o) = true then (st.1 + 1, if st.1 = 0 then nI (10 * s + o) else st.2) else st
def rsO (A B : Nat → Bool) (n : Nat) : Nat → Nat × Int32 → Nat × Int32 := fun s st => ff (rsI A B s) n 0 st
theorem rsI_t {A B : Nat → Bool} {s : Nat} (hA : A s = true) : ∀ m k st, ff (rsI A B s) m k st = (st.1 + ct B m k, if st.1 = 0 then (match fi B m k with
    | some o => nI (10 * s + o)
    | none => st.2) else st.2)
  | 0, k, st => by
    show st = (st.1 + 0, _)
    cases st with | mk a b =>
    show (a, b) = (a + 0, if a = 0 then b else b)
    rw [ite_self]; rfl
  | m + 1, k, st => by
    show ff (rsI A B s) m (k + 1) (rsI A B s k st) = _
    rw [rsI_t hA m (k + 1), ct_s, fi_s]
    by_cases z : B k = true
    · have e : rsI A B s k st = (st.1 + 1, if st.1 = 0 then nI (10 * s + k) else st.2) := by unfold rsI; rw [hA, z]; rfl
      rw [e, if_pos z, if_pos z]
      show (st.1 + 1 + ct B m (k + 1), if st.1 + 1 = 0 then _ else (if st.1 = 0 then nI (10 * s + k) else st.2)) = (st.1 + (1 + ct B m (k + 1)), if st.1 = 0 then nI (10 * s + k) else st.2)
      rw [if_neg (by omega), Nat.add_assoc]
    · have e : rsI A B s k st = st := by unfold rsI; rw [if_neg (by rw [hA, Bool.true_and]; exact z)]
      rw [e, if_neg z, if_neg z, Nat.zero_add]
theorem rsO_f {A B : Nat → Bool} {s n : Nat} {st : Nat × Int32} (hA : A s = false) : rsO A B n s st = st := ff_fix (fun k => by
  unfold rsI
  rw [hA]; rfl) _ _
theorem rs_all {A B : Nat → Bool} {n fb : Nat} (hB : fi B n 0 = some fb) : ∀ m k st, ff (rsO A B n) m k st = (st.1 + ct A m k * ct B n 0, if st.1 = 0 then (match fi A m k with
    | some s => nI (10 * s + fb)
    | none => st.2) else st.2)
  | 0, k, st => by
    cases st with | mk a b =>
    show (a, b) = (a + 0 * _, if a = 0 then b else b)
    rw [ite_self, Nat.zero_mul]; rfl
  | m + 1, k, st => by
    show ff (rsO A B n) m (k + 1) (rsO A B n k st) = _
    have h1 := ct_fi n 0 fb hB
    rw [rs_all hB m (k + 1), ct_s (p := A), fi_s (p := A)]
    cases z : A k
    · rw [rsO_f z, if_neg (c := (false = true)) Bool.false_ne_true, if_neg (c := (false = true)) Bool.false_ne_true, Nat.zero_add]
    · have e : rsO A B n k st = _ := rsI_t z n 0 st
      rw [hB] at e
      rw [e, if_pos (c := (true = true)) rfl, if_pos (c := (true = true)) rfl]
      show (st.1 + ct B n 0 + ct A m (k + 1) * ct B n 0, if st.1 + ct B n 0 = 0 then _ else (if st.1 = 0 then nI (10 * k + fb) else st.2)) = (st.1 + (1 + ct A m (k + 1)) * ct B n 0, if st.1 = 0 then nI (10 * k + fb) else st.2)
      rw [if_neg (by omega), Nat.add_mul, Nat.one_mul, Nat.add_assoc]
theorem m1_n : nI 0 + (-1) < 0 := by decide
def arP (R : Nat → Int32) (p q : Int32) : Bool := inn p (R 8) && (inn q (R 8) && !(decide (p = q)))
def a_rests (R : Nat → Int32) (C : Nat → Bool) (p q : Int32) : Int32 × Int32 := if arP R p q = true then (nI (ct (isM (Hc R C q.toNatClampNeg) (gN R 7 + 1)) (gN R 7 + 1) 0 * ct (isM (Hc R C p.toNatClampNeg) (gN R 7 + 1)) (gN R 7 + 1) 0), 0) else no1
def a_rest (R : Nat → Int32) (C : Nat → Bool) (p q : Int32) : Int32 × Int32 := if arP R p q = true then (nI (10 * fW (Hc R C q.toNatClampNeg) (gN R 7 + 1) + fW (Hc R C p.toNatClampNeg) (gN R 7 + 1)), 0) else no1
theorem m1_add (a : Nat) : nI a + (-1) + 1 = nI a := by rw [Int32.add_assoc]; exact Int32.add_zero _
theorem m1_lt {a n : Nat} (ha : a ≤ n) (hn : n < 2 ^ 31) : nI a + (-1) < nI n := by
  rcases Nat.eq_zero_or_pos a with e | e
  · subst e
    exact Int32.lt_iff_toInt_lt.mpr (by rw [nI_toInt hn]; show (-1 : Int) < _; omega)
  · rw [nI_dec e]; exact nI_lt (by omega) hn
section OP14
variable {L : Nat} {xs : Nat → Int32} {d : Nat} {Q : Option dm_V → M2 → Prop} {σ : M2} {μ : Nat} {R : Nat → Int32} {C : Nat → Bool} {h : Bool}
theorem c129 (hd : 5 ≤ d) {p r : Int32} (hX : cX σ μ R C) (q : Q (some (vi (bI (arP R p r)))) σ) : CL L xs d 129 [vr 12 0, vi p, vi r] σ Q := by
  refine cl_at p129 (by omega) (w129_0 hC ?_)
  unfold arP at q
  refine c85 (s := 6) (by omega) rfl (by omega) hX hX.cnt.2.2.2.2.2.1 ⟨_, rfl, ?_⟩
  refine if_b (fun z => ?_) (fun z => ?_)
  · rw [z] at q; exact q
  rw [z, Bool.true_and] at q
  refine c85 (s := 6) (by omega) rfl (by omega) hX hX.cnt.2.2.2.2.2.1 ⟨_, rfl, ?_⟩
  refine if_b (fun z => ?_) (fun z => ?_)
  · rw [z] at q; exact q
  rw [z, Bool.true_and] at q
  refine if_c (fun z => ?_) (fun z => ?_)
  · rw [decide_eq_true z] at q; exact q
  · rw [decide_eq_false z] at q; exact q
theorem arP_t (hR : okR R) {p r : Int32} (h : arP R p r = true) : (p.toNatClampNeg < gN R 8 ∧ p = nI p.toNatClampNeg) ∧ (r.toNatClampNeg < gN R 8 ∧ r = nI r.toNatClampNeg) := by
  unfold arP at h
  simp only [Bool.and_eq_true] at h
  have hM := hR.cM
  exact ⟨inn_k hM.2 (by omega) h.1, inn_k hM.2 (by omega) h.2.1⟩
theorem c130 (hd : 4 ≤ d) {m : Nat} {x1 : Int32} (h1 : x1 = nI m) (hX : cX σ μ R C) (hm : m < gN R 8) (q : Q (some (vr 10 (4 * μ + gN R (152 + 2 * m + 1)))) σ) : CL L xs d 130 [vr 12 0, vi x1] σ Q := by
  subst h1
  have hM := hX.ok.cM.1
  have hP := hX.ok.cP.1
  obtain ⟨hp, ep⟩ := hX.ok.man hm
  refine cl_at p130 (by omega) (w130_0 hC ?_)
  rw [nI_clamp (by omega), hX.r12, (hX.man m hm).2, ep, nI_clamp (by omega)]
  exact ix_k (by omega) (by omega) (ix_k (by omega) (by omega) q)
theorem c131 (hd : 9 ≤ d) {m c : Nat} (hX : cX σ μ R C) (hm : m < gN R 8) (hc : c ≤ gN R 7) (q : ∀ σ', fr fRn σ σ' → Q (some (vi (nI (Hc R C m c)))) σ') : CL L xs d 131 [vr 12 0, vr 10 (4 * μ + gN R (152 + 2 * m + 1)), vi (nI c + (-1))] σ Q := by
  have hP := hX.ok.cP.1
  have hS := hX.ok.cS.1
  have hmu := hX.mu
  obtain ⟨hp, ep⟩ := hX.ok.man hm
  have e := (Hc_eq hX.ok (C := C) (m := m) (c := c)).2
  unfold cI at e
  by_cases z : c = 0
  · subst z
    rw [if_pos rfl] at e
    refine cl_at p131 (by omega) (w131_0 hC ?_)
    refine if_y m1_n (c59 (by omega) hX (hX.pln _ hp) (by omega) ((hX.ok.pl hp).up (by omega)) isC_2 isC_2 (fun σ1 f1 => ⟨_, rfl, ?_⟩))
    rw [show hm2 R C (plR R (gN R (152 + 2 * m + 1))) (-2) (-2) = _ from e]
    exact q σ1 f1
  · rw [if_neg z] at e
    rw [nI_dec (Nat.pos_of_ne_zero z)]
    refine cl_at p131 (by omega) (w131_0 hC ?_)
    refine if_n (nI_pos (by omega)) (c59 (by omega) hX (hX.pln _ hp) (by omega) ((hX.ok.pl hp).up (by omega)) (isC_s (by omega)) isC_2 (fun σ1 f1 => ⟨_, rfl, ?_⟩))
    rw [show hm2 R C (plR R (gN R (152 + 2 * m + 1))) (nI (c - 1)) (-2) = _ from e]
    exact q σ1 f1
theorem c132 (hd : 10 ≤ d) {m : Nat} (hX : cX σ μ R C) (hm : m < gN R 8) (q : ∀ σ', fr fRn σ σ' → Q (some (vi (nI (fW (Hc R C m) (gN R 7 + 1)) + (-1)))) σ') : CL L xs d 132 [vr 12 0, vr 10 (4 * μ + gN R (152 + 2 * m + 1))] σ Q := by
  refine cl_at p132 (by omega) (w132_0 hC ?_)
  have hS := hX.ok.cS
  refine c131 (c := 0) (by omega) hX hm (Nat.zero_le _) (fun σ1 f1 => ⟨_, rfl, ?_⟩)
  refine dm_fj (n := gN R 7 + 1) (fwS (Hc R C m)) (fun c b σ => g132_12 L xs (CL L xs (d - 1)) Q (4 * μ + gN R (152 + 2 * m + 1)) (nI b + (-1)) (nI (Hc R C m b)) (nI c + (-1)) σ) (fun _ _ σ' => fr fRn σ σ') ?_ (gN R 7) 1 0 σ1 (by omega) f1 ?_
  · intro c b σ2 hc f2 ih
    have X2 := hX.fr fRn_k f2
    refine w132_12 hC ?_
    rw [X2.r12, X2.cnt.2.2.2.2.1, hS.2, m1_add]
    refine if_y (m1_lt (by omega) (by omega)) ?_
    refine c131 (by omega) X2 hm (by omega) (fun σ3 f3 => ⟨_, rfl, ?_⟩)
    have ih := ih σ3 (f2.trans f3)
    have hb := (Hc_eq hX.ok (C := C) (m := m) (c := b)).1
    have hc' := (Hc_eq hX.ok (C := C) (m := m) (c := c)).1
    have ec : nI (c + 1) + (-1) = nI c := by rw [nI_dec (by omega), Nat.add_sub_cancel]
    have ih : g132_12 L xs (CL L xs (d - 1)) Q (4 * μ + gN R (152 + 2 * m + 1)) (nI (fwS (Hc R C m) c b) + (-1)) (nI (Hc R C m (fwS (Hc R C m) c b))) (nI c) σ3 := by rw [← ec]; exact ih
    unfold fwS at ih
    refine if_c (fun z => ?_) (fun z => ?_)
    · rw [if_pos ((nI_ltI (by omega) (by omega)).mp z)] at ih; exact ih
    · rw [if_neg (fun w => z (nI_lt w (by omega)))] at ih; exact ih
  · intro σ2 f2
    have X2 := hX.fr fRn_k f2
    refine w132_12 hC ?_
    rw [X2.r12, X2.cnt.2.2.2.2.1, hS.2]
    refine if_n ?_ (q σ2 f2)
    rw [nI_dec (by omega), Nat.add_sub_cancel]
    exact nI_nlt (Nat.le_refl _) (by omega)
theorem c133 (hd : 11 ≤ d) {m : Nat} (hX : cX σ μ R C) (hm : m < gN R 8) (q : ∀ σ', fr fRn σ σ' → Q (some (vi (nI (ct (isM (Hc R C m) (gN R 7 + 1)) (gN R 7 + 1) 0)))) σ') : CL L xs d 133 [vr 12 0, vr 10 (4 * μ + gN R (152 + 2 * m + 1))] σ Q := by
  refine cl_at p133 (by omega) (w133_0 hC ?_)
  have hS := hX.ok.cS
  obtain ⟨w1, w2, w3⟩ := fW_ok (f := Hc R C m) (n := gN R 7 + 1) (by omega)
  refine c132 (by omega) hX hm (fun σ1 f1 => ⟨_, rfl, ?_⟩)
  refine c131 (by omega) (hX.fr fRn_k f1) hm (by omega) (fun σ2 f2 => ⟨_, rfl, ?_⟩)
  have f2 := f1.trans f2
  have loop : ∀ n c a σ3, c + n = gN R 7 + 1 → a ≤ c → fr fRn σ σ3 → (∀ σ', fr fRn σ σ' → Q (some (vi (nI (a + ct (isM (Hc R C m) (gN R 7 + 1)) n c)))) σ') → g133_16 L xs (CL L xs (d - 1)) Q (4 * μ + gN R (152 + 2 * m + 1)) (nI (Hc R C m (fW (Hc R C m) (gN R 7 + 1)))) (nI a) (nI c + (-1)) σ3 := by
    intro n
    induction n with
    | zero =>
      intro c a σ3 hc ha f3 q
      have X3 := hX.fr fRn_k f3
      refine w133_16 hC ?_
      rw [X3.r12, X3.cnt.2.2.2.2.1, hS.2]
      refine if_n ?_ (q σ3 f3)
      rw [nI_dec (by omega)]
      exact nI_nlt (by omega) (by omega)
    | succ n ih =>
      intro c a σ3 hc ha f3 q
      have X3 := hX.fr fRn_k f3
      refine w133_16 hC ?_
      rw [X3.r12, X3.cnt.2.2.2.2.1, hS.2, m1_add, nI_1 a]
      refine if_y (m1_lt (by omega) (by omega)) ?_
      refine c131 (by omega) X3 hm (by omega) (fun σ4 f4 => ⟨_, rfl, ?_⟩)
      have hc1 := (Hc_eq hX.ok (C := C) (m := m) (c := c)).1
      have hc2 := (Hc_eq hX.ok (C := C) (m := m) (c := fW (Hc R C m) (gN R 7 + 1))).1
      have ec : nI (c + 1) + (-1) = nI c := by rw [nI_dec (by omega), Nat.add_sub_cancel]
      have e : isM (Hc R C m) (gN R 7 + 1) c = true ↔ Hc R C m c = Hc R C m (fW (Hc R C m) (gN R 7 + 1)) := by
        rw [isM_t]
        refine ⟨fun w => ?_, fun w s hs => ?_⟩
        · have := w _ w1
          have := w2 c (by omega)
          omega
        · rw [w]; exact w2 s hs
      unfold ct at q
      have ih1 := ih (c + 1) (a + 1) σ4 (by omega) (by omega) (f3.trans f4)
      have ih0 := ih (c + 1) a σ4 (by omega) (by omega) (f3.trans f4)
      rw [ec] at ih1 ih0
      refine if_c (fun z => ?_) (fun z => ?_)
      · rw [if_pos (e.mpr ((nI_eq (by omega) (by omega)).mp z))] at q
        refine ih1 ?_
        rw [Nat.add_assoc]; exact q
      · rw [if_neg (fun w => z (by rw [e.mp w])), Nat.zero_add] at q
        exact ih0 q
  exact loop (gN R 7 + 1) 0 0 σ2 (by omega) (Nat.le_refl _) f2 (by rw [Nat.zero_add]; exact q)
theorem o127 (hd : 12 ≤ d) {p r : Int32} (hX : cX σ μ R C) (q : ∀ σ', cG σ σ' (a_rests R C p r).2 → Q (some (vi (a_rests R C p r).1)) σ') : CL L xs d 127 [vr 12 0, vi p, vi r] σ Q := by
  refine cl_at p127 (by omega) (w127_0 hC ?_)
  refine c129 (by omega) hX ⟨_, rfl, ?_⟩
  unfold a_rests at q
  refine if_b (fun z => ?_) (fun z => ?_)
  · rw [if_neg (by rw [z]; decide)] at q
    exact c81 (by omega) fr.id q
  rw [if_pos z] at q
  obtain ⟨⟨hp, ep⟩, ⟨hr, er⟩⟩ := arP_t hX.ok z
  refine c130 (by omega) er hX hr ⟨_, rfl, ?_⟩
  refine c133 (by omega) hX hr (fun σ1 f1 => ⟨_, rfl, ?_⟩)
  have X1 := hX.fr fRn_k f1
  refine c130 (by omega) ep X1 hp ⟨_, rfl, ?_⟩
  refine c133 (by omega) X1 hp (fun σ2 f2 => ⟨_, rfl, ?_⟩)
  rw [nI_mul]
  exact c83 (by omega) ((f1.trans f2).weak fRn_O) q
theorem o128 (hd : 12 ≤ d) {p r : Int32} (hX : cX σ μ R C) (q : ∀ σ', cG σ σ' (a_rest R C p r).2 → Q (some (vi (a_rest R C p r).1)) σ') : CL L xs d 128 [vr 12 0, vi p, vi r] σ Q := by
  refine cl_at p128 (by omega) (w128_0 hC ?_)
  refine c129 (by omega) hX ⟨_, rfl, ?_⟩
  unfold a_rest at q
  refine if_b (fun z => ?_) (fun z => ?_)
  · rw [if_neg (by rw [z]; decide)] at q
    exact c81 (by omega) fr.id q
  rw [if_pos z] at q
  obtain ⟨⟨hp, ep⟩, ⟨hr, er⟩⟩ := arP_t hX.ok z
  refine c130 (by omega) er hX hr ⟨_, rfl, ?_⟩
  refine c132 (by omega) hX hr (fun σ1 f1 => ⟨_, rfl, ?_⟩)
  have X1 := hX.fr fRn_k f1
  refine c130 (by omega) ep X1 hp ⟨_, rfl, ?_⟩
  refine c132 (by omega) X1 hp (fun σ2 f2 => ⟨_, rfl, ?_⟩)
  have e : 10 * (nI (fW (Hc R C r.toNatClampNeg) (gN R 7 + 1)) + (-1) + 1) + (nI (fW (Hc R C p.toNatClampNeg) (gN R 7 + 1)) + (-1)) + 1 = nI (10 * fW (Hc R C r.toNatClampNeg) (gN R 7 + 1) + fW (Hc R C p.toNatClampNeg) (gN R 7 + 1)) := by
    rw [m1_add, Int32.add_assoc, m1_add, l10, nI_mul, nI_add]
  rw [e]
  exact c83 (by omega) ((f1.trans f2).weak fRn_O) q
end OP14
