/-! CALLS: feed, led, fault, where, size, trouble -/
def sb (b : Nat) : Int32 := (nI b).toInt8.toInt32
def byt (y : Int32) : Nat := y.toBitVec.toNat % 256
theorem byt_m (y : Int32) : y &&& 255 = nI (byt y) := by
  apply Int32.toBitVec_inj.mp
  apply BitVec.eq_of_toNat_eq
  have e : (nI (byt y)).toBitVec.toNat = byt y := by
    show (BitVec.ofNat 32 (byt y)).toNat = byt y
    rw [BitVec.toNat_ofNat]
    unfold byt
    omega
  rw [e, Int32.toBitVec_and, BitVec.toNat_and]
  show y.toBitVec.toNat &&& (2 ^ 8 - 1) = byt y
  rw [Nat.and_two_pow_sub_one_eq_mod]
  rfl
theorem byt_c (y : Int32) : y.toInt8.toInt32.toInt8.toInt32 = sb (byt y) := by
  unfold sb
  rw [← byt_m, Int32.toInt8_and, Int8.toInt8_toInt32]
  have : (255 : Int32).toInt8 = -1 := by decide
  rw [this, Int8.and_neg_one]
theorem byt_lt (y : Int32) : byt y < 256 := Nat.mod_lt _ (by omega)
def fb (w : Int32) (j : Nat) : Nat := byt (w >>> (nI (24 - 8 * j) &&& 31))
def fdB (a b c e f : Int32) (k : Nat) : Nat := fb (if k < 4 then a else if k < 8 then b else if k < 12 then c else if k < 16 then e else f) (k % 4)
def shf (j : Nat) : Int32 := 24 - 8 * nI j
theorem sh_p : ∀ j, j < 4 → ¬ shf j < 0 ∧ shf j + (-8) = shf (j + 1) ∧ shf j = nI (24 - 8 * j) := by decide
theorem sh_4 : shf 4 < 0 := by decide
def fFd : Nat → Nat → Nat → Bool := fun t i k => (t == 54 && i == 0) || (t == 12 && k == 1)
def gFd : Nat → Nat → Nat → Bool := fun t i k => (t == 60 && i == 0) || (t == 13 && (k == 2 || k == 0))
section OP19
variable {L : Nat} {xs : Nat → Int32} {d : Nat} {Q : Option dm_V → M2 → Prop} {σ σ0 : M2} {R : Nat → Int32} {C : Nat → Bool} {h : Bool} {r : Nat → Int32} {n m μ : Nat} {H I : Nat → Nat → Int32}
theorem c77 (hd : 4 ≤ d) {f : Nat} {w : Int32} (hf : f + 4 ≤ 1000) (e : σ.1 12 0 1 = nI f) (q : ∀ σ', fr fFd σ σ' → σ'.1 12 0 1 = nI (f + 4) → (∀ j, j < 4 → σ'.1 54 0 (f + j) = sb (fb w j)) → (∀ i, i < f → σ'.1 54 0 i = σ.1 54 0 i) → Q none σ') : CL L xs d 77 [vr 12 0, vi w] σ Q := by
  refine cl_at p77 hd (w77_0 hC ?_)
  refine dm_for (n := 4) (fun k σ => g77_3 L xs (CL L xs (d - 1)) Q w (shf k) σ) (fun k σ' => fr fFd σ σ' ∧ σ'.1 12 0 1 = nI (f + k) ∧ (∀ j, j < k → σ'.1 54 0 (f + j) = sb (fb w j)) ∧ ∀ i, i < f → σ'.1 54 0 i = σ.1 54 0 i) ?_ ?_ 0 σ (Nat.zero_le _) ⟨fr.id, e, fun j hj => absurd hj (Nat.not_lt_zero j), fun _ _ => rfl⟩
  · rintro k σ2 hk ⟨f2, e2, h2, h3⟩ ih
    have s := sh_p k hk
    refine w77_3 hC ?_
    refine if_n s.1 ?_
    rw [e2, s.2.1]
    refine if_y (nI_lt (b := 1000) (by omega) (by omega)) (ix_k (by omega) (by omega) ?_)
    rw [nI_clamp (by omega)]
    refine ih _ ⟨(f2.w rfl).w rfl, ?_, fun j hj => ?_, fun i hi => ?_⟩
    · rw [wI_same, wI_t (by decide), e2, nI_1]; rfl
    · rw [wI_t (by decide)]
      by_cases z : j = k
      · subst z
        rw [wI_same, byt_c, s.2.2]; rfl
      · rw [wI_k (by omega)]; exact h2 j (by omega)
    · rw [wI_t (by decide), wI_k (by omega)]; exact h3 i hi
  · rintro σ2 ⟨f2, e2, h2, h3⟩
    refine w77_3 hC ?_
    exact if_y sh_4 (q σ2 f2 e2 h2 h3)
theorem o76 (hd : 5 ≤ d) {f : Nat} {a b c e g : Int32} (hf : f ≤ 1000) (ef : σ.1 12 0 1 = nI f) (q0 : 1000 < f + 20 → Q (some (vi (-1))) σ)
    (q1 : f + 20 ≤ 1000 → ∀ σ', fr fFd σ σ' → σ'.1 12 0 1 = nI (f + 20) → (∀ j, j < 20 → σ'.1 54 0 (f + j) = sb (fdB a b c e g j)) → (∀ i, i < f → σ'.1 54 0 i = σ.1 54 0 i) → Q (some (vi (nI (f + 20)))) σ') : CL L xs d 76 [vr 12 0, vi a, vi b, vi c, vi e, vi g] σ Q := by
  refine cl_at p76 (by omega) (w76_0 hC ?_)
  have e20 : nI f + 20 = nI (f + 20) := nI_add f 20
  rw [ef, e20]
  by_cases z : 1000 < f + 20
  · exact if_y (nI_lt (a := 1000) z (by omega)) (q0 z)
  refine if_n (nI_nlt (a := 1000) (by omega) (by omega)) ?_
  refine c77 (f := f) (by omega) (by omega) ef (fun σ1 f1 e1 h1 k1 => ⟨rfl, ?_⟩)
  refine c77 (f := f + 4) (by omega) (by omega) e1 (fun σ2 f2 e2 h2 k2 => ⟨rfl, ?_⟩)
  refine c77 (f := f + 4 + 4) (by omega) (by omega) e2 (fun σ3 f3 e3 h3 k3 => ⟨rfl, ?_⟩)
  refine c77 (f := f + 4 + 4 + 4) (by omega) (by omega) e3 (fun σ4 f4 e4 h4 k4 => ⟨rfl, ?_⟩)
  refine c77 (f := f + 4 + 4 + 4 + 4) (by omega) (by omega) e4 (fun σ5 f5 e5 h5 k5 => ⟨rfl, ?_⟩)
  have e5' : σ5.1 12 0 1 = nI (f + 20) := e5.trans (by congr 1)
  rw [e5']
  refine q1 (by omega) σ5 (f1.trans (f2.trans (f3.trans (f4.trans f5)))) e5' (fun j hj => ?_) (fun i hi => by rw [k5 i (by omega), k4 i (by omega), k3 i (by omega), k2 i (by omega), k1 i hi])
  unfold fdB
  by_cases z1 : j < 4
  · rw [if_pos z1, k5 _ (by omega), k4 _ (by omega), k3 _ (by omega), k2 _ (by omega), h1 j z1, Nat.mod_eq_of_lt z1]
  rw [if_neg z1]
  by_cases z2 : j < 8
  · rw [if_pos z2, k5 _ (by omega), k4 _ (by omega), k3 _ (by omega), show f + j = f + 4 + (j - 4) by omega, h2 (j - 4) (by omega), show j % 4 = j - 4 by omega]
  rw [if_neg z2]
  by_cases z3 : j < 12
  · rw [if_pos z3, k5 _ (by omega), k4 _ (by omega), show f + j = f + 4 + 4 + (j - 8) by omega, h3 (j - 8) (by omega), show j % 4 = j - 8 by omega]
  rw [if_neg z3]
  by_cases z4 : j < 16
  · rw [if_pos z4, k5 _ (by omega), show f + j = f + 4 + 4 + 4 + (j - 12) by omega, h4 (j - 12) (by omega), show j % 4 = j - 12 by omega]
  · rw [if_neg z4, show f + j = f + 4 + 4 + 4 + 4 + (j - 16) by omega, h5 (j - 16) (by omega), show j % 4 = j - 16 by omega]
theorem shm : ∀ k, k < 20 → 24 - 8 * (nI k - nI k / 4 * 4) = nI (24 - 8 * (k % 4)) := by decide
theorem o156 (hd : 5 ≤ d) {f : Nat} {a b c e g : Int32} (hf : f ≤ 1000) (ef : σ.1 13 0 2 = nI f) (q0 : 1000 < f + 20 → ∀ σ', fr gFd σ σ' → σ'.1 13 0 2 = nI f → (∀ i, σ'.1 60 0 i = σ.1 60 0 i) → σ'.1 13 0 0 = 0 → Q (some (vi (-1))) σ')
    (q1 : f + 20 ≤ 1000 → ∀ σ', fr gFd σ σ' → σ'.1 13 0 2 = nI (f + 20) → (∀ j, j < 20 → σ'.1 60 0 (f + j) = nI (fdB a b c e g j)) → (∀ i, i < f → σ'.1 60 0 i = σ.1 60 0 i) → σ'.1 13 0 0 = 0 → Q (some (vi (nI (f + 20)))) σ') : CL L xs d 156 [vr 13 0, vi a, vi b, vi c, vi e, vi g] σ Q := by
  refine cl_at p156 (by omega) (w156_0 hC ?_)
  have e20 : nI f + 20 = nI (f + 20) := nI_add f 20
  show (if 1000 < (m2_wI σ 13 0 0 0).1 13 0 2 + 20 then _ else _)
  have e0 : (m2_wI σ 13 0 0 0).1 13 0 2 = nI f := by rw [wI_k (by decide)]; exact ef
  rw [e0, e20]
  by_cases z : 1000 < f + 20
  · exact if_y (nI_lt (a := 1000) z (by omega)) (q0 z _ (fr.id.w rfl) e0 (fun i => wI_t (by decide)) wI_same)
  refine if_n (nI_nlt (a := 1000) (by omega) (by omega)) ?_
  refine dm_for (n := 20) (fun k σ => g156_23 L xs (CL L xs (d - 1)) Q a b c e g (nI k) σ) (fun k σ' => fr gFd σ σ' ∧ σ'.1 13 0 2 = nI (f + k) ∧ (∀ j, j < k → σ'.1 60 0 (f + j) = nI (fdB a b c e g j)) ∧ (∀ i, i < f → σ'.1 60 0 i = σ.1 60 0 i) ∧ σ'.1 13 0 0 = 0) ?_ ?_ 0 _ (Nat.zero_le _) ⟨fr.id.w rfl, e0, fun j hj => absurd hj (Nat.not_lt_zero j), fun i _ => wI_t (by decide), wI_same⟩
  · rintro k σ2 hk ⟨f2, e2, h2, h3, h4⟩ ih
    have fin : ∀ y, y = (if k < 4 then a else if k < 8 then b else if k < 12 then c else if k < 16 then e else g) → g156_76 L xs (CL L xs (d - 1)) Q a b c e g (nI k) y σ2 := by
      intro y ey
      refine w156_76 hC ?_
      rw [e2, shm k hk, nI_1 k, nI_clamp (by omega)]
      refine ix_k (by omega) (by omega) ?_
      refine ih _ ⟨(f2.w rfl).w rfl, ?_, fun j hj => ?_, fun i hi => ?_, ?_⟩
      · rw [wI_same, wI_t (by decide), e2, nI_1]; rfl
      · rw [wI_t (by decide)]
        by_cases z : j = k
        · subst z
          rw [wI_same, byt_m, ey]; rfl
        · rw [wI_k (by omega)]; exact h2 j (by omega)
      · rw [wI_t (by decide), wI_k (by omega)]; exact h3 i hi
      · rw [wI_k (by decide), wI_t (by decide)]; exact h4
    refine w156_23 hC ?_
    refine if_y (nI_lt (b := 20) hk (by omega)) ?_
    by_cases z1 : k < 4
    · exact if_y (nI_lt (b := 4) z1 (by omega)) (fin _ (by rw [if_pos z1]))
    refine if_n (nI_nlt (b := 4) (by omega) (by omega)) ?_
    by_cases z2 : k < 8
    · exact if_y (nI_lt (b := 8) z2 (by omega)) (fin _ (by rw [if_neg z1, if_pos z2]))
    refine if_n (nI_nlt (b := 8) (by omega) (by omega)) ?_
    by_cases z3 : k < 12
    · exact if_y (nI_lt (b := 12) z3 (by omega)) (fin _ (by rw [if_neg z1, if_neg z2, if_pos z3]))
    refine if_n (nI_nlt (b := 12) (by omega) (by omega)) ?_
    by_cases z4 : k < 16
    · exact if_y (nI_lt (b := 16) z4 (by omega)) (fin _ (by rw [if_neg z1, if_neg z2, if_neg z3, if_pos z4]))
    · exact if_n (nI_nlt (b := 16) (by omega) (by omega)) (fin _ (by rw [if_neg z1, if_neg z2, if_neg z3, if_neg z4]))
  · rintro σ2 ⟨f2, e2, h2, h3, h4⟩
    refine w156_23 hC ?_
    rw [e2]
    exact if_n (nI_nlt (b := 20) (Nat.le_refl _) (by omega)) (q1 (by omega) σ2 f2 e2 h2 h3 h4)
/-- which slip is the i-th that is out -/
def ledF (r : Nat → Int32) (i : Int32) : Nat → Nat → Nat ⊕ Nat := fun s c => if out r s = true then (if nI c = i then .inr s else .inl (c + 1)) else .inl c
def k_led (R r : Nat → Int32) (i : Int32) : Nat ⊕ Nat := fx (ledF r i) (gN R 7) 0 0
theorem k_led_lt {r : Nat → Int32} {i : Int32} {s : Nat} : ∀ m k c, fx (ledF r i) m k c = .inr s → s < k + m
  | 0, k, c, h => by cases h
  | m + 1, k, c, h => by
    unfold fx ledF at h
    by_cases z : out r k = true
    · rw [if_pos z] at h
      by_cases z' : nI c = i
      · rw [if_pos z'] at h; cases h; omega
      · rw [if_neg z'] at h
        have := k_led_lt m (k + 1) (c + 1) h
        omega
    · rw [if_neg z] at h
      have := k_led_lt m (k + 1) c h
      omega
theorem o145 (hd : 6 ≤ d) {i : Int32} {s : Nat} (hX : cX σ μ R C) (hk : gN R 7 ≠ 0 → dkS σ.1 0 r ∧ okD R r) (hs : k_led R r i = .inr s) (q : Q (some (vi (nI s))) σ) : CL L xs d 145 [vr 12 0, vi i] σ Q := by
  refine cl_at p145 (by omega) (w145_0 hC ?_)
  have hS := hX.ok.cS
  have loop : ∀ m k c, k + m = gN R 7 → c ≤ k → fx (ledF r i) m k c = .inr s → g145_4 L xs (CL L xs (d - 1)) Q i (nI c) (nI k) σ := by
    intro m
    induction m with
    | zero => intro k c _ _ h; cases h
    | succ m ih =>
      intro k c hkm hc h
      obtain ⟨k1, k2⟩ := hk (by omega)
      refine w145_4 hC ?_
      rw [hX.r12, hX.cnt.2.2.2.2.1, hS.2, nI_1, nI_1]
      refine if_y (nI_lt (by omega) (by omega)) ?_
      refine c6 (by omega) hX.ok k2 rfl k1 (by omega) ⟨_, rfl, ?_⟩
      unfold fx ledF at h
      refine if_b (fun z => ?_) (fun z => ?_)
      · rw [if_neg (by rw [z]; decide)] at h
        exact ih (k + 1) c (by omega) (by omega) h
      rw [if_pos z] at h
      refine if_c (fun z' => ?_) (fun z' => ?_)
      · rw [if_pos z'] at h
        cases h
        exact q
      · rw [if_neg z'] at h
        exact ih (k + 1) (c + 1) (by omega) (by omega) h
  exact loop (gN R 7) 0 0 (Nat.zero_add _) (Nat.le_refl _) hs
def gTh : Nat → Nat → Nat → Bool := fun t _ k => t == 13 && k == 0
theorem o276 (hd : 6 ≤ d) {i : Int32} (hY : mY σ R C h) (hm : mRow σ r) (hk : gN R 7 ≠ 0 → okD R r)
    (q0 : ∀ c, k_led R r i = .inl c → ∀ σ', fr gTh σ σ' → σ'.1 13 0 0 = 1 → Q (some (vi 0)) σ') (q1 : ∀ s, k_led R r i = .inr s → ∀ σ', fr gTh σ σ' → σ'.1 13 0 0 = 0 → Q (some (vi (nI s))) σ') : CL L xs d 276 [vr 13 0, vi i] σ Q := by
  refine cl_at p276 (by omega) (w276_0 hC ?_)
  have hS := hY.1.1.cS
  cases hh : h
  · refine w276_4 hC ?_
    rw [hY.2.1, hh]
    have e : gN R 7 = 0 := by have := (hY.2.2 hh).1 7 (by omega) (by omega); show (R 7).toNatClampNeg = 0; rw [this]; rfl
    exact if_y rfl (q0 0 (by unfold k_led; rw [e]; rfl) _ (fr.id.w rfl) wI_same)
  unfold k_led at q0 q1
  have loop : ∀ m k c, k + m = gN R 7 → c ≤ k → (∀ c', fx (ledF r i) m k c = .inl c' → ∀ σ', fr gTh σ σ' → σ'.1 13 0 0 = 1 → Q (some (vi 0)) σ') → (∀ s, fx (ledF r i) m k c = .inr s → ∀ σ', fr gTh σ σ' → σ'.1 13 0 0 = 0 → Q (some (vi (nI s))) σ') → g276_4 L xs (CL L xs (d - 1)) Q i (nI c) (nI k) σ := by
    intro m
    induction m with
    | zero =>
      intro k c hkm hc q0 q1
      refine w276_4 hC ?_
      rw [hY.2.1, hh, hY.1.2.1, hS.2]
      exact if_n (by decide) (if_n (nI_nlt (by omega) (by omega)) (q0 c rfl _ (fr.id.w rfl) wI_same))
    | succ m ih =>
      intro k c hkm hc q0 q1
      have k2 := hk (by omega)
      refine w276_4 hC ?_
      rw [hY.2.1, hh, hY.1.2.1, hS.2, nI_1, nI_1]
      refine if_n (by decide) (if_y (nI_lt (by omega) (by omega)) ?_)
      refine c266 (by omega) hY.1.1 k2 hm rfl (by omega) ⟨_, rfl, ?_⟩
      unfold fx at q0 q1
      have eL : ledF r i k c = if out r k = true then (if nI c = i then .inr k else .inl (c + 1)) else .inl c := rfl
      rw [eL] at q0 q1
      refine if_b (fun z => ?_) (fun z => ?_)
      · rw [if_neg (by rw [z]; decide)] at q0 q1
        exact ih (k + 1) c (by omega) (by omega) q0 q1
      rw [if_pos z] at q0 q1
      refine if_c (fun z' => ?_) (fun z' => ?_)
      · rw [if_pos z'] at q0 q1
        exact q1 k rfl _ (fr.id.w rfl) wI_same
      · rw [if_neg z'] at q0 q1
        exact ih (k + 1) (c + 1) (by omega) (by omega) q0 q1
  exact loop (gN R 7) 0 0 (Nat.zero_add _) (Nat.le_refl _) q0 q1
end OP19
