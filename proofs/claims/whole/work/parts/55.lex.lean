/-! THE TEXT as tokens: T tells the bytes, n how many; the token that is read from c on -/
def reF (T : Nat → Nat) (P : Nat → Bool) : Nat → Nat → Nat
  | 0, k => k
  | m + 1, k => if P (T k) = true then reF T P m (k + 1) else k
def re (T : Nat → Nat) (n : Nat) (P : Nat → Bool) (k : Nat) : Nat := reF T P (n - k) k
def isSp (b : Nat) : Bool := b == 32
def isLo (b : Nat) : Bool := decide (97 ≤ b) && decide (b ≤ 122)
def isDi (b : Nat) : Bool := decide (48 ≤ b) && decide (b ≤ 57)
theorem reF_b {T : Nat → Nat} {P : Nat → Bool} : ∀ m k, k ≤ reF T P m k ∧ reF T P m k ≤ k + m
  | 0, k => ⟨Nat.le_refl _, Nat.le_refl _⟩
  | m + 1, k => by
    unfold reF
    split
    · have := reF_b (T := T) (P := P) m (k + 1); omega
    · omega
theorem re_b {T : Nat → Nat} {n : Nat} {P : Nat → Bool} {k : Nat} (h : k ≤ n) : k ≤ re T n P k ∧ re T n P k ≤ n := by
  have := reF_b (T := T) (P := P) (n - k) k
  unfold re; omega
theorem re_n {T : Nat → Nat} {n : Nat} {P : Nat → Bool} : re T n P n = n := by unfold re; rw [Nat.sub_self]; rfl
theorem re_t {T : Nat → Nat} {n : Nat} {P : Nat → Bool} {k : Nat} (h : k < n) (hp : P (T k) = true) : re T n P k = re T n P (k + 1) := by
  unfold re
  obtain ⟨m, hm⟩ : ∃ m, n - k = m + 1 := ⟨n - k - 1, by omega⟩
  rw [hm, show n - (k + 1) = m by omega]
  show (if P (T k) = true then reF T P m (k + 1) else k) = _
  rw [if_pos hp]
theorem re_f {T : Nat → Nat} {n : Nat} {P : Nat → Bool} {k : Nat} (h : k < n) (hp : P (T k) = false) : re T n P k = k := by
  unfold re
  obtain ⟨m, hm⟩ : ∃ m, n - k = m + 1 := ⟨n - k - 1, by omega⟩
  rw [hm]
  show (if P (T k) = true then reF T P m (k + 1) else k) = _
  rw [if_neg (by rw [hp]; decide)]
def tA (T : Nat → Nat) (n c : Nat) : Nat := re T n isSp c
def kd (T : Nat → Nat) (n c : Nat) : Nat := if n ≤ tA T n c then 0 else if isLo (T (tA T n c)) = true then (if re T n isLo (tA T n c) - tA T n c ≤ 8 then 1 else 5) else if isDi (T (tA T n c)) = true then (if re T n isDi (tA T n c) - tA T n c ≤ 2 then 2 else 5) else if T (tA T n c) = 59 then 3 else if T (tA T n c) = 44 then 4 else 5
def nx (T : Nat → Nat) (n c : Nat) : Nat := if n ≤ tA T n c then tA T n c else if isLo (T (tA T n c)) = true then re T n isLo (tA T n c) else if isDi (T (tA T n c)) = true then re T n isDi (tA T n c) else tA T n c + 1
def pkF (b : Nat) (f : Nat → Nat) : Nat → Nat
  | 0 => 0
  | m + 1 => b * pkF b f m + f m
def tV (T : Nat → Nat) (n c : Nat) : Nat := pkF 10 (fun i => T (tA T n c + i) - 48) (re T n isDi (tA T n c) - tA T n c)
def wl (T : Nat → Nat) (n c : Nat) : Nat := re T n isLo (tA T n c) - tA T n c
def cd (T : Nat → Nat) (n c : Nat) : Nat := if kd T n c = 1 then pkF 32 (fun i => T (tA T n c + i) - 96) (wl T n c) else 0
theorem tA_b {T : Nat → Nat} {n c : Nat} (h : c ≤ n) : c ≤ tA T n c ∧ tA T n c ≤ n := re_b h
theorem nx_b {T : Nat → Nat} {n c : Nat} (h : c ≤ n) : tA T n c ≤ nx T n c ∧ nx T n c ≤ n ∧ (kd T n c ≠ 0 → c < nx T n c) := by
  have ha := tA_b (T := T) h
  unfold nx kd
  by_cases z : n ≤ tA T n c
  · rw [if_pos z, if_pos z]; exact ⟨Nat.le_refl _, ha.2, fun w => absurd rfl w⟩
  rw [if_neg z, if_neg z]
  by_cases z1 : isLo (T (tA T n c)) = true
  · rw [if_pos z1]
    have := re_b (T := T) (n := n) (P := isLo) (k := tA T n c + 1) (by omega)
    rw [re_t (by omega) z1]
    exact ⟨by omega, by omega, fun _ => by omega⟩
  rw [if_neg z1]
  by_cases z2 : isDi (T (tA T n c)) = true
  · rw [if_pos z2]
    have := re_b (T := T) (n := n) (P := isDi) (k := tA T n c + 1) (by omega)
    rw [re_t (by omega) z2]
    exact ⟨by omega, by omega, fun _ => by omega⟩
  · rw [if_neg z2]
    exact ⟨by omega, by omega, fun _ => by omega⟩
theorem kd_0 {T : Nat → Nat} {n c : Nat} (z : n ≤ tA T n c) : kd T n c = 0 ∧ nx T n c = tA T n c := by
  unfold kd nx; rw [if_pos z, if_pos z]; exact ⟨rfl, rfl⟩
theorem kd_l {T : Nat → Nat} {n c : Nat} (z : ¬ n ≤ tA T n c) (h : isLo (T (tA T n c)) = true) : kd T n c = (if re T n isLo (tA T n c) - tA T n c ≤ 8 then 1 else 5) ∧ nx T n c = re T n isLo (tA T n c) := by
  unfold kd nx; rw [if_neg z, if_neg z, if_pos h, if_pos h]; exact ⟨rfl, rfl⟩
theorem kd_d {T : Nat → Nat} {n c : Nat} (z : ¬ n ≤ tA T n c) (h1 : isLo (T (tA T n c)) = false) (h : isDi (T (tA T n c)) = true) : kd T n c = (if re T n isDi (tA T n c) - tA T n c ≤ 2 then 2 else 5) ∧ nx T n c = re T n isDi (tA T n c) := by
  have h1 : ¬ isLo (T (tA T n c)) = true := by rw [h1]; decide
  unfold kd nx; rw [if_neg z, if_neg z, if_neg h1, if_neg h1, if_pos h, if_pos h]; exact ⟨rfl, rfl⟩
theorem kd_o {T : Nat → Nat} {n c : Nat} (z : ¬ n ≤ tA T n c) (h1 : isLo (T (tA T n c)) = false) (h : isDi (T (tA T n c)) = false) : kd T n c = (if T (tA T n c) = 59 then 3 else if T (tA T n c) = 44 then 4 else 5) ∧ nx T n c = tA T n c + 1 := by
  have h1 : ¬ isLo (T (tA T n c)) = true := by rw [h1]; decide
  have h : ¬ isDi (T (tA T n c)) = true := by rw [h]; decide
  unfold kd nx; rw [if_neg z, if_neg z, if_neg h1, if_neg h1, if_neg h, if_neg h]; exact ⟨rfl, rfl⟩
/-- bytes as the class has them -/
theorem sb_32 : ∀ b, b < 256 → (sb b = 32 ↔ b = 32) := by decide +kernel
theorem sb_59 : ∀ b, b < 256 → (sb b = 59 ↔ b = 59) := by decide +kernel
theorem sb_44 : ∀ b, b < 256 → (sb b = 44 ↔ b = 44) := by decide +kernel
theorem sb_lo : ∀ b, b < 256 → isLo b = (!(decide (sb b < 97)) && !(decide (122 < sb b))) := by decide +kernel
theorem sb_di : ∀ b, b < 256 → isDi b = (!(decide (sb b < 48)) && !(decide (57 < sb b))) := by decide +kernel
theorem sb_l : ∀ b, b < 256 → isLo b = true → ((sb b - 97) + 1).toInt64 = Int64.ofNat (b - 96) := by decide +kernel
theorem sb_d : ∀ b, b < 256 → isDi b = true → sb b - 48 = nI (b - 48) := by decide +kernel
theorem sb_id : ∀ b, b < 128 → sb b = nI b := by decide +kernel
theorem lo_di {b : Nat} (h : isLo b = true) : isDi b = false := by
  unfold isLo at h
  unfold isDi
  simp only [Bool.and_eq_true, decide_eq_true_eq] at h
  simp only [Bool.and_eq_false_iff, decide_eq_false_iff_not]
  omega
theorem isLo_b {b : Nat} : isLo b = true ↔ 97 ≤ b ∧ b ≤ 122 := by unfold isLo; simp
theorem isDi_b {b : Nat} : isDi b = true ↔ 48 ≤ b ∧ b ≤ 57 := by unfold isDi; simp
theorem if_lo {b : Nat} {A B : Prop} (hb : b < 256) (h1 : isLo b = true → A) (h0 : isLo b = false → B) : if sb b < 97 then B else if 122 < sb b then B else A := by
  have e := sb_lo b hb
  refine if_c (fun z => h0 ?_) (fun z => if_c (fun z' => h0 ?_) (fun z' => h1 ?_))
  · rw [e, decide_eq_true z]; rfl
  · rw [e, decide_eq_true z', Bool.and_comm]; rfl
  · rw [e, decide_eq_false z, decide_eq_false z']; rfl
theorem if_di {b : Nat} {A B : Prop} (hb : b < 256) (h1 : isDi b = true → A) (h0 : isDi b = false → B) : if sb b < 48 then B else if 57 < sb b then B else A := by
  have e := sb_di b hb
  refine if_c (fun z => h0 ?_) (fun z => if_c (fun z' => h0 ?_) (fun z' => h1 ?_))
  · rw [e, decide_eq_true z]; rfl
  · rw [e, decide_eq_true z', Bool.and_comm]; rfl
  · rw [e, decide_eq_false z, decide_eq_false z']; rfl
/-- frames with longs: names stand -/
def fj (A : Nat → Nat → Nat → Bool) (σ σ' : M2) : Prop := (∀ t i k, A t i k = false → σ'.1 t i k = σ.1 t i k) ∧ σ'.2.2 = σ.2.2 ∧ ∀ k, σ'.2.1 48 0 k = σ.2.1 48 0 k
theorem fj.id {A : Nat → Nat → Nat → Bool} {σ : M2} : fj A σ σ := ⟨fun _ _ _ _ => rfl, rfl, fun _ => rfl⟩
theorem fj.trans {A : Nat → Nat → Nat → Bool} {σ σ1 σ2 : M2} (h : fj A σ σ1) (h' : fj A σ1 σ2) : fj A σ σ2 := ⟨fun t i k q => (h'.1 t i k q).trans (h.1 t i k q), h'.2.1.trans h.2.1, fun k => (h'.2.2 k).trans (h.2.2 k)⟩
theorem fj.weak {A B : Nat → Nat → Nat → Bool} (hAB : ∀ t i k, A t i k = true → B t i k = true) {σ σ1 : M2} (h : fj A σ σ1) : fj B σ σ1 := ⟨fun t i k q => h.1 t i k (by
  cases hA : A t i k
  · rfl
  · rw [hAB t i k hA] at q; cases q), h.2⟩
theorem fj.w {A : Nat → Nat → Nat → Bool} {σ σ1 : M2} (h : fj A σ σ1) {t i k : Nat} (hA : A t i k = true) {z : Int32} : fj A σ (m2_wI σ1 t i k z) := by
  refine ⟨fun t' i' k' q => ?_, h.2⟩
  rw [← h.1 t' i' k' q]
  show (if t' = t ∧ i' = i ∧ k' = k then z else σ1.1 t' i' k') = _
  rw [if_neg]
  rintro ⟨rfl, rfl, rfl⟩
  rw [hA] at q; cases q
theorem fj.wJ {A : Nat → Nat → Nat → Bool} {σ σ1 : M2} (h : fj A σ σ1) {z : Int64} : fj A σ (m2_wJ σ1 11 0 6 z) := ⟨h.1, h.2.1, fun k => h.2.2 k⟩
theorem fr.j {A : Nat → Nat → Nat → Bool} {σ σ1 : M2} (h : fr A σ σ1) : fj A σ σ1 := ⟨h.1, by rw [h.2], fun k => by rw [h.2]⟩
theorem wJ_same {σ : M2} {t i k : Nat} {z : Int64} : (m2_wJ σ t i k z).2.1 t i k = z := if_pos ⟨rfl, rfl, rfl⟩
def fTo : Nat → Nat → Nat → Bool := fun t _ k => t == 11 && (k == 2 || (k == 3 || (k == 4 || k == 5)))
/-- the text in the class; the token there -/
def TX (σ : M2) (T : Nat → Nat) (n : Nat) : Prop := σ.2.2 11 0 0 = 0 ∧ n ≤ 1000 ∧ σ.1 11 0 1 = nI n ∧ ∀ i, i < n → T i < 256 ∧ σ.1 54 0 i = sb (T i)
def TC (σ : M2) (T : Nat → Nat) (n c : Nat) : Prop := σ.1 11 0 2 = nI (kd T n c) ∧ σ.1 11 0 3 = nI (tA T n c) ∧ σ.1 11 0 4 = nI (nx T n c) ∧ (kd T n c = 2 → σ.1 11 0 5 = nI (tV T n c)) ∧ (kd T n c = 1 → σ.2.1 11 0 6 = Int64.ofNat (cd T n c))
theorem TX.fj {A : Nat → Nat → Nat → Bool} (h1 : A 11 0 1 = false) (h2 : ∀ k, A 54 0 k = false) {σ σ' : M2} {T : Nat → Nat} {n : Nat} (h : TX σ T n) (hf : fj A σ σ') : TX σ' T n :=
  ⟨by rw [hf.2.1]; exact h.1, h.2.1, by rw [hf.1 _ _ _ h1]; exact h.2.2.1, fun i hi => ⟨(h.2.2.2 i hi).1, by rw [hf.1 _ _ _ (h2 i)]; exact (h.2.2.2 i hi).2⟩⟩
theorem i64_mul (a b : Nat) : Int64.ofNat (a * b) = Int64.ofNat a * Int64.ofNat b := Int64.ofNat_mul a b
theorem i64_add (a b : Nat) : Int64.ofNat (a + b) = Int64.ofNat a + Int64.ofNat b := Int64.ofNat_add a b
section LEX
variable {L : Nat} {xs : Nat → Int32} {d : Nat} {Q : Option dm_V → M2 → Prop} {σ σ0 : M2} {T : Nat → Nat} {n : Nat}
theorem ix_t {k : Nat} {K : Prop} (h : TX σ T n) (hk : k < n) (q : K) : dm_ix (nI k) (cond (Nat.beq (σ.2.2 11 0 0) 0) 1000 0) K := by
  rw [h.1]
  exact ix_k (n := 1000) (by have := h.2.1; omega) (by omega) q
theorem c72 (hd : 4 ≤ d) {k : Nat} (hX : TX σ T n) (hk : k ≤ n) (e3 : σ.1 11 0 3 = nI k) (e4 : σ.1 11 0 4 = nI k) (q : ∀ σ', fj fTo σ σ' → σ'.1 11 0 3 = nI k → σ'.1 11 0 4 = nI (re T n isLo k) → σ'.1 11 0 2 = (if re T n isLo k - k ≤ 8 then 1 else 5) → σ'.2.1 11 0 6 = Int64.ofNat (pkF 32 (fun i => T (k + i) - 96) (re T n isLo k - k)) → Q none σ') : CL L xs d 72 [vr 11 0] σ Q := by
  have hn := hX.2.1
  refine cl_at p72 hd (w72_0 hC ?_)
  have fin : ∀ j σ', fj fTo σ σ' → re T n isLo k = k + j → σ'.1 11 0 3 = nI k → σ'.1 11 0 4 = nI (k + j) → σ'.2.1 11 0 6 = Int64.ofNat (pkF 32 (fun i => T (k + i) - 96) j) → g72_85 L xs (CL L xs (d - 1)) Q σ' := by
    intro j σ' f' er e3' e4' e6'
    have hb := re_b (T := T) (P := isLo) hk
    refine w72_85 hC ?_
    rw [e3', e4', nI_sub (by omega), show k + j - k = j by omega]
    rw [er, show k + j - k = j by omega] at q
    refine if_c (fun z => ?_) (fun z => ?_)
    · have z := (nI_ltI (a := 8) (by omega) (by omega)).mp z
      exact q _ (f'.w rfl) (by rw [wI_k (by decide)]; exact e3') (by rw [wI_k (by decide)]; exact e4') (by rw [wI_same, if_neg (by omega)]) e6'
    · have z : ¬ 8 < j := fun w => z ((nI_ltI (a := 8) (by omega) (by omega)).mpr w)
      exact q _ (f'.w rfl) (by rw [wI_k (by decide)]; exact e3') (by rw [wI_k (by decide)]; exact e4') (by rw [wI_same, if_pos (by omega)]) e6'
  have loop : ∀ m j σ', k + j + m = n → fj fTo σ σ' → re T n isLo k = re T n isLo (k + j) → σ'.1 11 0 3 = nI k → σ'.1 11 0 4 = nI (k + j) → σ'.2.1 11 0 6 = Int64.ofNat (pkF 32 (fun i => T (k + i) - 96) j) → g72_5 L xs (CL L xs (d - 1)) Q σ' := by
    intro m
    induction m with
    | zero =>
      intro j σ' hm f' er e3' e4' e6'
      have X' := hX.fj rfl (fun _ => rfl) f'
      refine w72_5 hC ?_
      rw [e4', X'.2.2.1]
      refine if_n (nI_nlt (by omega) (by omega)) ?_
      exact fin j σ' f' (by rw [er, show k + j = n by omega, re_n]) e3' e4' e6'
    | succ m ih =>
      intro j σ' hm f' er e3' e4' e6'
      have X' := hX.fj rfl (fun _ => rfl) f'
      have ht := X'.2.2.2 (k + j) (by omega)
      have r0 := X'.1
      refine w72_5 hC ?_
      rw [e4', X'.2.2.1]
      refine if_y (nI_lt (by omega) (by omega)) (ix_t X' (by omega) ?_)
      rw [r0, nI_clamp (by omega), ht.2]
      have key := if_lo (A := g72_5 L xs (CL L xs (d - 1)) Q (m2_wI (m2_wJ σ' 11 0 6 (σ'.2.1 11 0 6 * 32 + ((sb (T (k + j)) - 97) + 1).toInt64)) 11 0 4 (nI (k + j + 1)))) (B := g72_85 L xs (CL L xs (d - 1)) Q σ') ht.1 (fun z => by
        refine ih (j + 1) _ (by omega) ((f'.wJ).w rfl) (er.trans (re_t (by omega) z)) (by rw [wI_k (by decide)]; exact e3') (by rw [wI_same]; rfl) ?_
        show (m2_wJ σ' 11 0 6 (σ'.2.1 11 0 6 * 32 + ((sb (T (k + j)) - 97) + 1).toInt64)).2.1 11 0 6 = _
        rw [wJ_same, e6', sb_l _ ht.1 z]
        show _ = Int64.ofNat (32 * pkF 32 (fun i => T (k + i) - 96) j + (T (k + j) - 96))
        rw [i64_add, Nat.mul_comm, i64_mul]; rfl) (fun z => fin j σ' f' (er.trans (re_f (by omega) z)) e3' e4' e6')
      refine if_c (fun z => ?_) (fun z => ?_)
      · rw [if_pos z] at key; exact key
      rw [if_neg z] at key
      have ix : ∀ {K : Prop}, K → dm_ix (nI (k + j)) (cond (Nat.beq 0 0) 1000 0) K := fun w => ix_k (n := 1000) (by omega) (by omega) w
      refine ix ?_
      refine if_c (fun z' => ?_) (fun z' => ?_)
      · rw [if_pos z'] at key; exact key
      rw [if_neg z'] at key
      refine ix ?_
      show g72_5 L xs (CL L xs (d - 1)) Q (m2_wI (m2_wJ σ' 11 0 6 (σ'.2.1 11 0 6 * 32 + ((sb (T (k + j)) - 97) + 1).toInt64)) 11 0 4 (σ'.1 11 0 4 + 1))
      rw [e4', nI_1]
      exact key
  refine loop (n - k) 0 _ (by omega) fj.id.wJ rfl e3 e4 ?_
  exact wJ_same
theorem c73 (hd : 4 ≤ d) {k : Nat} (hX : TX σ T n) (hk : k ≤ n) (e3 : σ.1 11 0 3 = nI k) (e4 : σ.1 11 0 4 = nI k) (q : ∀ σ', fj fTo σ σ' → σ'.1 11 0 3 = nI k → σ'.1 11 0 4 = nI (re T n isDi k) → σ'.1 11 0 2 = (if re T n isDi k - k ≤ 2 then 2 else 5) → σ'.1 11 0 5 = nI (pkF 10 (fun i => T (k + i) - 48) (re T n isDi k - k)) → Q none σ') : CL L xs d 73 [vr 11 0] σ Q := by
  have hn := hX.2.1
  refine cl_at p73 hd (w73_0 hC ?_)
  have fin : ∀ j σ', fj fTo σ σ' → re T n isDi k = k + j → σ'.1 11 0 3 = nI k → σ'.1 11 0 4 = nI (k + j) → σ'.1 11 0 5 = nI (pkF 10 (fun i => T (k + i) - 48) j) → g73_81 L xs (CL L xs (d - 1)) Q σ' := by
    intro j σ' f' er e3' e4' e6'
    have hb := re_b (T := T) (P := isDi) hk
    refine w73_81 hC ?_
    rw [e3', e4', nI_sub (by omega), show k + j - k = j by omega]
    rw [er, show k + j - k = j by omega] at q
    refine if_c (fun z => ?_) (fun z => ?_)
    · have z := (nI_ltI (a := 2) (by omega) (by omega)).mp z
      exact q _ (f'.w rfl) (by rw [wI_k (by decide)]; exact e3') (by rw [wI_k (by decide)]; exact e4') (by rw [wI_same, if_neg (by omega)]) (by rw [wI_k (by decide)]; exact e6')
    · have z : ¬ 2 < j := fun w => z ((nI_ltI (a := 2) (by omega) (by omega)).mpr w)
      exact q _ (f'.w rfl) (by rw [wI_k (by decide)]; exact e3') (by rw [wI_k (by decide)]; exact e4') (by rw [wI_same, if_pos (by omega)]) (by rw [wI_k (by decide)]; exact e6')
  have loop : ∀ m j σ', k + j + m = n → fj fTo σ σ' → re T n isDi k = re T n isDi (k + j) → σ'.1 11 0 3 = nI k → σ'.1 11 0 4 = nI (k + j) → σ'.1 11 0 5 = nI (pkF 10 (fun i => T (k + i) - 48) j) → g73_5 L xs (CL L xs (d - 1)) Q σ' := by
    intro m
    induction m with
    | zero =>
      intro j σ' hm f' er e3' e4' e6'
      have X' := hX.fj rfl (fun _ => rfl) f'
      refine w73_5 hC ?_
      rw [e4', X'.2.2.1]
      refine if_n (nI_nlt (by omega) (by omega)) ?_
      exact fin j σ' f' (by rw [er, show k + j = n by omega, re_n]) e3' e4' e6'
    | succ m ih =>
      intro j σ' hm f' er e3' e4' e6'
      have X' := hX.fj rfl (fun _ => rfl) f'
      have ht := X'.2.2.2 (k + j) (by omega)
      have r0 := X'.1
      refine w73_5 hC ?_
      rw [e4', X'.2.2.1]
      refine if_y (nI_lt (by omega) (by omega)) (ix_t X' (by omega) ?_)
      rw [r0, nI_clamp (by omega), ht.2]
      have key := if_di (A := g73_5 L xs (CL L xs (d - 1)) Q (m2_wI (m2_wI σ' 11 0 5 (σ'.1 11 0 5 * 10 + (sb (T (k + j)) - 48))) 11 0 4 (nI (k + j + 1)))) (B := g73_81 L xs (CL L xs (d - 1)) Q σ') ht.1 (fun z => by
        refine ih (j + 1) _ (by omega) ((f'.w rfl).w rfl) (er.trans (re_t (by omega) z)) (by rw [wI_k (by decide), wI_k (by decide)]; exact e3') (by rw [wI_same]; rfl) ?_
        rw [wI_k (by decide), wI_same, e6', sb_d _ ht.1 z, l10, nI_mul, nI_add, Nat.mul_comm]; rfl) (fun z => fin j σ' f' (er.trans (re_f (by omega) z)) e3' e4' e6')
      refine if_c (fun z => ?_) (fun z => ?_)
      · rw [if_pos z] at key; exact key
      rw [if_neg z] at key
      have ix : ∀ {K : Prop}, K → dm_ix (nI (k + j)) (cond (Nat.beq 0 0) 1000 0) K := fun w => ix_k (n := 1000) (by omega) (by omega) w
      refine ix ?_
      refine if_c (fun z' => ?_) (fun z' => ?_)
      · rw [if_pos z'] at key; exact key
      rw [if_neg z'] at key
      refine ix ?_
      show g73_5 L xs (CL L xs (d - 1)) Q (m2_wI (m2_wI σ' 11 0 5 (σ'.1 11 0 5 * 10 + (sb (T (k + j)) - 48))) 11 0 4 ((m2_wI σ' 11 0 5 (σ'.1 11 0 5 * 10 + (sb (T (k + j)) - 48))).1 11 0 4 + 1))
      rw [wI_k (by decide), e4', nI_1]
      exact key
  refine loop (n - k) 0 _ (by omega) (fj.id.w rfl) rfl (by rw [wI_k (by decide)]; exact e3) (by rw [wI_k (by decide)]; exact e4) ?_
  exact wI_same
theorem c71 (hd : 5 ≤ d) {c : Nat} (hX : TX σ T n) (hc : c ≤ n) (e4 : σ.1 11 0 4 = nI c) (q : ∀ σ', fj fTo σ σ' → TC σ' T n c → Q none σ') : CL L xs d 71 [vr 11 0] σ Q := by
  have hn := hX.2.1
  refine cl_at p71 (by omega) (w71_0 hC ?_)
  have ha := tA_b (T := T) hc
  have fin : ∀ σ', fj fTo σ σ' → σ'.1 11 0 3 = nI (tA T n c) → g71_46 L xs (CL L xs (d - 1)) Q σ' := by
    intro σ' f' e3
    have X' := hX.fj rfl (fun _ => rfl) f'
    refine w71_46 hC ?_
    have X1 := X'.fj (A := fTo) (σ' := m2_wI σ' 11 0 4 (σ'.1 11 0 3)) rfl (fun _ => rfl) (fj.id.w rfl)
    have g3 : (m2_wI σ' 11 0 4 (σ'.1 11 0 3)).1 11 0 3 = nI (tA T n c) := by rw [wI_k (by decide)]; exact e3
    have g4 : (m2_wI σ' 11 0 4 (σ'.1 11 0 3)).1 11 0 4 = nI (tA T n c) := by rw [wI_same]; exact e3
    have f1 : fj fTo σ (m2_wI σ' 11 0 4 (σ'.1 11 0 3)) := f'.w rfl
    generalize m2_wI σ' 11 0 4 (σ'.1 11 0 3) = σ1 at *
    have r0 := X1.1
    show (if σ1.1 11 0 3 < σ1.1 11 0 1 then _ else _)
    rw [g3, X1.2.2.1]
    by_cases z : n ≤ tA T n c
    · refine if_n (nI_nlt z (by omega)) ?_
      have kk := kd_0 z
      exact q _ (f1.w rfl) ⟨by rw [wI_same, kk.1]; rfl, by rw [wI_k (by decide)]; exact g3, by rw [wI_k (by decide), kk.2]; exact g4, fun w => by omega, fun w => by omega⟩
    refine if_y (nI_lt (by omega) (by omega)) (ix_t X1 (by omega) ?_)
    have ht := X1.2.2.2 (tA T n c) (by omega)
    rw [r0, nI_clamp (by omega), ht.2]
    have other : isLo (T (tA T n c)) = false → isDi (T (tA T n c)) = false → g71_119 L xs (CL L xs (d - 1)) Q (sb (T (tA T n c))) σ1 := by
      intro h1 h2
      have kk := kd_o z h1 h2
      refine w71_119 hC ?_
      show (if sb (T (tA T n c)) = 59 then _ else _)
      rw [g4, nI_1]
      have tc : ∀ v : Nat, kd T n c = v → v = 3 ∨ v = 4 ∨ v = 5 → TC (m2_wI (m2_wI σ1 11 0 4 (nI (tA T n c + 1))) 11 0 2 (nI v)) T n c := by
        intro v ev hv
        refine ⟨by rw [wI_same, ev], by rw [wI_k (by decide), wI_k (by decide)]; exact g3, by rw [wI_k (by decide), wI_same, kk.2], fun w => by omega, fun w => by omega⟩
      refine if_c (fun z => ?_) (fun z => ?_)
      · have z := (sb_59 _ ht.1).mp z
        exact q _ ((f1.w rfl).w rfl) (tc 3 (by rw [kk.1, if_pos z]) (by omega))
      have z : ¬ T (tA T n c) = 59 := fun w => z ((sb_59 _ ht.1).mpr w)
      refine if_c (fun z1 => ?_) (fun z1 => ?_)
      · have z1 := (sb_44 _ ht.1).mp z1
        exact q _ ((f1.w rfl).w rfl) (tc 4 (by rw [kk.1, if_neg z, if_pos z1]) (by omega))
      · have z1 : ¬ T (tA T n c) = 44 := fun w => z1 ((sb_44 _ ht.1).mpr w)
        exact q _ ((f1.w rfl).w rfl) (tc 5 (by rw [kk.1, if_neg z, if_neg z1]) (by omega))
    have digit : isLo (T (tA T n c)) = false → isDi (T (tA T n c)) = true → CL L xs (d - 1) 73 [vr 11 0] σ1 (fun r σ2 => r = none ∧ Q none σ2) := by
      intro h1 h2
      have kk := kd_d z h1 h2
      refine c73 (by omega) X1 (by omega) g3 g4 (fun σ2 f2 a3 a4 a2 a5 => ⟨rfl, ?_⟩)
      refine q σ2 (f1.trans f2) ⟨?_, a3, by rw [kk.2]; exact a4, fun _ => a5, fun w => ?_⟩
      · rw [a2, kk.1]; split <;> rfl
      · rw [kk.1] at w; split at w <;> cases w
    have letter : isLo (T (tA T n c)) = true → CL L xs (d - 1) 72 [vr 11 0] σ1 (fun r σ2 => r = none ∧ Q none σ2) := by
      intro h1
      have kk := kd_l z h1
      refine c72 (by omega) X1 (by omega) g3 g4 (fun σ2 f2 a3 a4 a2 a6 => ⟨rfl, ?_⟩)
      refine q σ2 (f1.trans f2) ⟨?_, a3, by rw [kk.2]; exact a4, fun w => ?_, fun w => ?_⟩
      · rw [a2, kk.1]; split <;> rfl
      · rw [kk.1] at w; split at w <;> cases w
      · unfold cd; rw [if_pos w]; exact a6
    have key : if sb (T (tA T n c)) < 97 then (if sb (T (tA T n c)) < 48 then g71_119 L xs (CL L xs (d - 1)) Q (sb (T (tA T n c))) σ1 else (if 57 < sb (T (tA T n c)) then g71_119 L xs (CL L xs (d - 1)) Q (sb (T (tA T n c))) σ1 else CL L xs (d - 1) 73 [vr 11 0] σ1 (fun r σ2 => r = none ∧ Q none σ2))) else (if 122 < sb (T (tA T n c)) then (if sb (T (tA T n c)) < 48 then g71_119 L xs (CL L xs (d - 1)) Q (sb (T (tA T n c))) σ1 else (if 57 < sb (T (tA T n c)) then g71_119 L xs (CL L xs (d - 1)) Q (sb (T (tA T n c))) σ1 else CL L xs (d - 1) 73 [vr 11 0] σ1 (fun r σ2 => r = none ∧ Q none σ2))) else CL L xs (d - 1) 72 [vr 11 0] σ1 (fun r σ2 => r = none ∧ Q none σ2)) :=
      if_lo ht.1 letter (fun h1 => if_di ht.1 (digit h1) (other h1))
    exact key
  have loop : ∀ m j σ', j + m = n → c ≤ j → fj fTo σ σ' → re T n isSp c = re T n isSp j → σ'.1 11 0 3 = nI j → g71_8 L xs (CL L xs (d - 1)) Q σ' := by
    intro m
    induction m with
    | zero =>
      intro j σ' hm hj f' er e3'
      have X' := hX.fj rfl (fun _ => rfl) f'
      refine w71_8 hC ?_
      rw [e3', X'.2.2.1]
      refine if_n (nI_nlt (by omega) (by omega)) ?_
      exact fin σ' f' (by rw [e3']; unfold tA; rw [er, show j = n by omega, re_n])
    | succ m ih =>
      intro j σ' hm hj f' er e3'
      have X' := hX.fj rfl (fun _ => rfl) f'
      have ht := X'.2.2.2 j (by omega)
      refine w71_8 hC ?_
      rw [e3', X'.2.2.1]
      refine if_y (nI_lt (by omega) (by omega)) (ix_t X' (by omega) ?_)
      rw [X'.1, nI_clamp (by omega), ht.2, nI_1]
      refine if_c (fun z => ?_) (fun z => ?_)
      · have z := (sb_32 _ ht.1).mp z
        exact ih (j + 1) _ (by omega) (by omega) (f'.w rfl) (er.trans (re_t (by omega) (by unfold isSp; rw [z]; rfl))) wI_same
      · have z : T j ≠ 32 := fun w => z ((sb_32 _ ht.1).mpr w)
        exact fin σ' f' (by rw [e3']; unfold tA; rw [er, re_f (by omega) (by unfold isSp; exact beq_eq_false_iff_ne.mpr z)])
  exact loop (n - c) c _ (by omega) (Nat.le_refl _) (fj.id.w rfl) rfl (by rw [wI_same]; exact e4)
end LEX
