/-! TOKENS in the model; words -/
def loV (v : Int32) : Bool := !(decide (v < 97)) && !(decide (122 < v))
def diV (v : Int32) : Bool := !(decide (v < 48)) && !(decide (57 < v))
theorem loV_b : ∀ b, b < 256 → loV (nI b) = isLo b := by decide +kernel
theorem diV_b : ∀ b, b < 256 → diV (nI b) = isDi b := by decide +kernel
theorem loV_n : loV (-1) = false := by decide
theorem diV_n : diV (-1) = false := by decide
def lk (T : Nat → Nat) (n k : Nat) : Int32 := if k < n then nI (T k) else -1
def mk (k : Nat) : Int32 := match k with
  | 0 => 0
  | 1 => 2
  | 2 => 3
  | 3 => 59
  | 4 => 44
  | _ => 1
def gNx : Nat → Nat → Nat → Bool := fun t i k => (t == 61 && i == 0) || (t == 13 && (k == 4 || (k == 5 || (k == 6 || (k == 7 || k == 8)))))
def MX (σ : M2) (T : Nat → Nat) (n : Nat) : Prop := n ≤ 1000 ∧ σ.1 13 0 3 = nI n ∧ ∀ i, i < n → T i < 256 ∧ σ.1 60 0 i = nI (T i)
def MC (σ : M2) (T : Nat → Nat) (n c : Nat) : Prop := σ.1 13 0 6 = mk (kd T n c) ∧ σ.1 13 0 4 = nI (tA T n c) ∧ σ.1 13 0 5 = nI (nx T n c) ∧ (kd T n c = 2 → σ.1 13 0 7 = nI (tV T n c)) ∧ (kd T n c = 1 → σ.1 13 0 8 = nI (wl T n c) ∧ ∀ i, i < wl T n c → σ.1 61 0 i = nI (T (tA T n c + i)))
theorem MX.fr {A : Nat → Nat → Nat → Bool} (h1 : A 13 0 3 = false) (h2 : ∀ k, A 60 0 k = false) {σ σ' : M2} {T : Nat → Nat} {n : Nat} (h : MX σ T n) (hf : fr A σ σ') : MX σ' T n :=
  ⟨h.1, by rw [hf.1 _ _ _ h1]; exact h.2.1, fun i hi => ⟨(h.2.2 i hi).1, by rw [hf.1 _ _ _ (h2 i)]; exact (h.2.2 i hi).2⟩⟩
theorem re_in {T : Nat → Nat} {n : Nat} {P : Nat → Bool} {k : Nat} (hk : k ≤ n) : ∀ i, i < re T n P k - k → P (T (k + i)) = true := by
  have key : ∀ m k i, i < reF T P m k - k → P (T (k + i)) = true := by
    intro m
    induction m with
    | zero => intro k i h; unfold reF at h; omega
    | succ m ih =>
      intro k i h
      unfold reF at h
      split at h
      · rename_i z
        match i with
        | 0 => exact z
        | i + 1 =>
          have := reF_b (T := T) (P := P) m (k + 1)
          have := ih (k + 1) i (by omega)
          rw [show k + (i + 1) = k + 1 + i by omega]
          exact this
      · omega
  exact fun i h => key (n - k) k i h
theorem pkf_inj {f g : Nat → Nat} : ∀ {m m' : Nat}, (∀ i, i < m → 1 ≤ f i ∧ f i < 32) → (∀ i, i < m' → 1 ≤ g i ∧ g i < 32) → pkF 32 f m = pkF 32 g m' → m = m' ∧ ∀ i, i < m → f i = g i
  | 0, 0, _, _, _ => ⟨rfl, fun i hi => absurd hi (Nat.not_lt_zero i)⟩
  | 0, m' + 1, _, hg, h => by
    have := hg m' (by omega)
    unfold pkF at h
    omega
  | m + 1, 0, hf, _, h => by
    have := hf m (by omega)
    unfold pkF at h
    omega
  | m + 1, m' + 1, hf, hg, h => by
    have h1 := hf m (by omega)
    have h2 := hg m' (by omega)
    have h : 32 * pkF 32 f m + f m = 32 * pkF 32 g m' + g m' := h
    obtain ⟨e, k⟩ := pkf_inj (m := m) (m' := m') (fun i hi => hf i (by omega)) (fun i hi => hg i (by omega)) (by omega)
    refine ⟨by omega, fun i hi => ?_⟩
    by_cases z : i = m
    · subst z; subst e; omega
    · exact k i (by omega)
theorem pkf_eq {b : Nat} {f g : Nat → Nat} : ∀ {m : Nat}, (∀ i, i < m → f i = g i) → pkF b f m = pkF b g m
  | 0, _ => rfl
  | m + 1, h => by
    show b * pkF b f m + f m = b * pkF b g m + g m
    rw [pkf_eq (fun i hi => h i (by omega)), h m (by omega)]
theorem pkf_lt {f : Nat → Nat} : ∀ {m : Nat}, (∀ i, i < m → f i < 32) → pkF 32 f m < 32 ^ m
  | 0, _ => Nat.one_pos
  | m + 1, h => by
    show 32 * pkF 32 f m + f m < 32 ^ m * 32
    have := pkf_lt (m := m) (fun i hi => h i (by omega))
    have := h m (by omega)
    omega
abbrev sL (o : Nat) : Nat := dmE.2.2.2.2.2.1 o
def cN (o i : Nat) : Nat := (dmE.2.2.2.2.2.2 o i).toNatClampNeg
def kw (o : Nat) : Nat := pkF 32 (fun i => cN o i - 96) (sL o)
theorem str_ok : ∀ o, o < 28 → 1 ≤ sL o ∧ sL o ≤ 8 ∧ ∀ i, i < sL o → (97 ≤ cN o i ∧ cN o i ≤ 122) ∧ dmE.2.2.2.2.2.2 o i = nI (cN o i) := by decide +kernel
theorem kd1 {T : Nat → Nat} {n c : Nat} (hc : c ≤ n) (h : kd T n c = 1) : tA T n c < n ∧ 1 ≤ wl T n c ∧ wl T n c ≤ 8 ∧ tA T n c + wl T n c ≤ n ∧ nx T n c = tA T n c + wl T n c ∧ ∀ i, i < wl T n c → 97 ≤ T (tA T n c + i) ∧ T (tA T n c + i) ≤ 122 := by
  have ha := tA_b (T := T) hc
  by_cases z : n ≤ tA T n c
  · rw [(kd_0 z).1] at h; cases h
  cases h1 : isLo (T (tA T n c))
  · cases h2 : isDi (T (tA T n c))
    · rw [(kd_o z h1 h2).1] at h
      split at h
      · cases h
      split at h <;> cases h
    · rw [(kd_d z h1 h2).1] at h
      split at h <;> cases h
  · have kk := kd_l z h1
    rw [kk.1] at h
    have hb := re_b (T := T) (n := n) (P := isLo) (k := tA T n c + 1) (by omega)
    rw [← re_t (by omega) h1] at hb
    unfold wl
    split at h
    · refine ⟨by omega, by omega, by omega, by omega, by rw [kk.2]; omega, fun i hi => isLo_b.mp (re_in ha.2 i hi)⟩
    · cases h
theorem kw_pos {o : Nat} (ho : o < 28) : 1 ≤ kw o := by
  have h := str_ok o ho
  unfold kw
  obtain ⟨m, hm⟩ : ∃ m, sL o = m + 1 := ⟨sL o - 1, by omega⟩
  rw [hm]
  show 1 ≤ 32 * _ + (cN o m - 96)
  have := (h.2.2 m (by omega)).1
  omega
theorem weq {T : Nat → Nat} {n c o : Nat} (hc : c ≤ n) (ho : o < 28) (h : kd T n c = 1) : cd T n c = kw o ↔ wl T n c = sL o ∧ ∀ i, i < wl T n c → T (tA T n c + i) = cN o i := by
  have k1 := kd1 hc h
  have s := str_ok o ho
  unfold cd kw
  rw [if_pos h]
  refine ⟨fun e => ?_, fun e => ?_⟩
  · obtain ⟨e1, e2⟩ := pkf_inj (fun i hi => by have := k1.2.2.2.2.2 i hi; omega) (fun i hi => by have := (s.2.2 i hi).1; omega) e
    refine ⟨e1, fun i hi => ?_⟩
    have := e2 i hi
    have := k1.2.2.2.2.2 i hi
    have := (s.2.2 i (by omega)).1
    omega
  · rw [← e.1]
    exact pkf_eq (fun i hi => by rw [e.2 i hi])
theorem cd_n1 {T : Nat → Nat} {n c o : Nat} (ho : o < 28) (h : kd T n c ≠ 1) : cd T n c ≠ kw o := by
  unfold cd
  rw [if_neg h]
  have := kw_pos ho
  omega
section MLEX
variable {L : Nat} {xs : Nat → Int32} {d : Nat} {Q : Option dm_V → M2 → Prop} {σ σ0 : M2} {T : Nat → Nat} {n : Nat}
theorem c74 (hd : 4 ≤ d) {c o : Nat} (hX : TX σ T n) (hc : c ≤ n) (hT : TC σ T n c) (ho : o < 28) (q : Q (some (vi (bI (decide (cd T n c = kw o))))) σ) : CL L xs d 74 [vr 11 0, vr 90 o] σ Q := by
  refine cl_at p74 hd (w74_0 hC ?_)
  have hn := hX.2.1
  have s := str_ok o ho
  have s8 : sL o < 2 ^ 31 := by omega
  rw [hT.1]
  by_cases z : kd T n c = 1
  · have k1 := kd1 hc z
    refine if_y (by rw [z]; rfl) ?_
    rw [hT.2.1, hT.2.2.1, k1.2.2.2.2.1, nI_sub (by omega), show tA T n c + wl T n c - tA T n c = wl T n c by omega]
    by_cases z1 : wl T n c = sL o
    · refine if_y (by rw [z1]) ?_
      refine dm_for (n := sL o) (fun j σ' => g74_28 L xs (CL L xs (d - 1)) Q o (nI j) σ') (fun j σ' => σ' = σ ∧ ∀ i, i < j → T (tA T n c + i) = cN o i) ?_ ?_ 0 σ (Nat.zero_le _) ⟨rfl, fun i hi => absurd hi (Nat.not_lt_zero i)⟩
      · rintro j σ2 hj ⟨rfl, h2⟩ ih
        refine w74_28 hC ?_
        rw [hT.2.1, nI_add, nI_1, hX.1, nI_clamp (n := tA T n c + j) (by omega), nI_clamp (n := j) (by omega)]
        refine if_y (nI_lt hj s8) ?_
        refine ix_k (n := 1000) (by omega) (by omega) (ix_k hj s8 ?_)
        rw [(hX.2.2.2 _ (by omega)).2, (s.2.2 j hj).2]
        have lt := k1.2.2.2.2.2 j (by omega)
        have ls := (s.2.2 j hj).1
        rw [sb_id _ (by omega)]
        refine if_c (fun w => ?_) (fun w => ?_)
        · have w := (nI_eq (by omega) (by omega)).mp w
          refine ih σ2 ⟨rfl, fun i hi => ?_⟩
          by_cases e : i = j
          · rw [e]; exact w
          · exact h2 i (by omega)
        · rw [decide_eq_false (fun e => w (by rw [((weq hc ho z).mp e).2 j (by omega)]))] at q
          exact q
      · rintro σ2 ⟨rfl, h2⟩
        refine w74_28 hC ?_
        refine if_n (nI_nlt (Nat.le_refl _) (by omega)) ?_
        rw [decide_eq_true ((weq hc ho z).mpr ⟨z1, fun i hi => h2 i (by omega)⟩)] at q
        exact q
    · refine if_n (fun w => z1 ((nI_eq (by omega) (by omega)).mp w)) ?_
      rw [decide_eq_false (fun e => z1 ((weq hc ho z).mp e).1)] at q
      exact q
  · have : kd T n c ≤ 5 := by unfold kd; split; omega; split; split <;> omega; split; split <;> omega; split; omega; split <;> omega
    refine if_n (fun w => z ((nI_eq (b := 1) (by omega) (by omega)).mp w)) ?_
    rw [decide_eq_false (cd_n1 ho z)] at q
    exact q
theorem c157 (hd : 4 ≤ d) {k : Nat} (hX : MX σ T n) (hk : k < 2 ^ 31) (q : Q (some (vi (lk T n k))) σ) : CL L xs d 157 [vr 13 0, vi (nI k)] σ Q := by
  refine cl_at p157 hd (w157_0 hC ?_)
  unfold lk at q
  have hn := hX.1
  rw [hX.2.1, nI_clamp hk]
  by_cases z : k < n
  · rw [if_pos z] at q
    rw [(hX.2.2 k z).2]
    exact if_y (nI_lt z (by omega)) (ix_k (by omega) (by omega) q)
  · rw [if_neg z] at q
    exact if_n (nI_nlt (by omega) (by omega)) q
theorem c158 (hd : 4 ≤ d) {v : Int32} (q : Q (some (vi (bI (loV v)))) σ) : CL L xs d 158 [vi v] σ Q := by
  refine cl_at p158 hd (w158_0 hC ?_)
  unfold loV at q
  refine if_c (fun z => ?_) (fun z => if_c (fun z' => ?_) (fun z' => ?_))
  · rw [decide_eq_true z] at q; exact q
  · rw [decide_eq_true z', Bool.and_comm] at q; exact q
  · rw [decide_eq_false z, decide_eq_false z'] at q; exact q
theorem c159 (hd : 4 ≤ d) {v : Int32} (q : Q (some (vi (bI (diV v)))) σ) : CL L xs d 159 [vi v] σ Q := by
  refine cl_at p159 hd (w159_0 hC ?_)
  unfold diV at q
  refine if_c (fun z => ?_) (fun z => if_c (fun z' => ?_) (fun z' => ?_))
  · rw [decide_eq_true z] at q; exact q
  · rw [decide_eq_true z', Bool.and_comm] at q; exact q
  · rw [decide_eq_false z, decide_eq_false z'] at q; exact q
theorem lk_lo (hX : MX σ T n) {k : Nat} : loV (lk T n k) = (decide (k < n) && isLo (T k)) := by
  unfold lk
  by_cases z : k < n
  · rw [if_pos z, loV_b _ (hX.2.2 k z).1, decide_eq_true z]; rfl
  · rw [if_neg z, loV_n, decide_eq_false z]; rfl
theorem lk_di (hX : MX σ T n) {k : Nat} : diV (lk T n k) = (decide (k < n) && isDi (T k)) := by
  unfold lk
  by_cases z : k < n
  · rw [if_pos z, diV_b _ (hX.2.2 k z).1, decide_eq_true z]; rfl
  · rw [if_neg z, diV_n, decide_eq_false z]; rfl
/-- the end of a run, seen from a place within -/
theorem re_s {P : Nat → Bool} {k : Nat} (hk : k ≤ n) (h : (decide (k < n) && P (T k)) = false) : re T n P k = k := by
  by_cases z : k < n
  · rw [decide_eq_true z, Bool.true_and] at h
    exact re_f z h
  · rw [show k = n by omega, re_n]
theorem c160w (hd : 5 ≤ d) {k : Nat} (hk : k ≤ n) (hX : MX σ T n) (e8 : σ.1 13 0 8 = 0) (q : ∀ σ', fr gNx σ σ' → σ'.1 13 0 4 = σ.1 13 0 4 → σ'.1 13 0 5 = nI (re T n isLo k) → σ'.1 13 0 6 = (if re T n isLo k - k ≤ 8 then 2 else 1) → σ'.1 13 0 8 = nI (re T n isLo k - k) → (∀ i, i < re T n isLo k - k → i < 8 → σ'.1 61 0 i = nI (T (k + i))) → Q none σ') : g160_67 L xs (CL L xs d) Q (nI k) σ := by
  have hn := hX.1
  have loop : ∀ m j σ', k + j + m = n → fr gNx σ σ' → re T n isLo k = re T n isLo (k + j) → σ'.1 13 0 4 = σ.1 13 0 4 → σ'.1 13 0 8 = nI j → (∀ i, i < j → i < 8 → σ'.1 61 0 i = nI (T (k + i))) → g160_67 L xs (CL L xs d) Q (nI (k + j)) σ' := by
    intro m
    induction m with
    | zero =>
      intro j σ' hm f' er e4 e8' hl
      have X' := hX.fr rfl (fun _ => rfl) f'
      refine w160_67 hC ?_
      refine c157 (by omega) X' (by omega) ⟨_, rfl, ?_⟩
      refine c158 (by omega) ⟨_, rfl, ?_⟩
      rw [lk_lo X', decide_eq_false (show ¬ k + j < n by omega)]
      refine if_y rfl ?_
      have ee : re T n isLo k = k + j := by rw [er, show k + j = n by omega, re_n]
      rw [ee, show k + j - k = j by omega] at q
      show (if 8 < (m2_wI σ' 13 0 5 (nI (k + j))).1 13 0 8 then _ else _)
      rw [wI_k (by decide), e8']
      refine if_c (fun z => ?_) (fun z => ?_)
      · have z := (nI_ltI (a := 8) (by omega) (by omega)).mp z
        exact q _ ((f'.w rfl).w rfl) (by rw [wI_k (by decide), wI_k (by decide)]; exact e4) (by rw [wI_k (by decide), wI_same]) (by rw [wI_same, if_neg (by omega)]) (by rw [wI_k (by decide), wI_k (by decide)]; exact e8') (fun i h1 h2 => by rw [wI_t (by decide), wI_t (by decide)]; exact hl i h1 h2)
      · have z : ¬ 8 < j := fun w => z ((nI_ltI (a := 8) (by omega) (by omega)).mpr w)
        exact q _ ((f'.w rfl).w rfl) (by rw [wI_k (by decide), wI_k (by decide)]; exact e4) (by rw [wI_k (by decide), wI_same]) (by rw [wI_same, if_pos (by omega)]) (by rw [wI_k (by decide), wI_k (by decide)]; exact e8') (fun i h1 h2 => by rw [wI_t (by decide), wI_t (by decide)]; exact hl i h1 h2)
    | succ m ih =>
      intro j σ' hm f' er e4 e8' hl
      have X' := hX.fr rfl (fun _ => rfl) f'
      refine w160_67 hC ?_
      refine c157 (by omega) X' (by omega) ⟨_, rfl, ?_⟩
      refine c158 (by omega) ⟨_, rfl, ?_⟩
      rw [lk_lo X', decide_eq_true (show k + j < n by omega), Bool.true_and]
      refine if_b (fun z => ?_) (fun z => ?_)
      · have ee : re T n isLo k = k + j := er.trans (re_f (by omega) z)
        rw [ee, show k + j - k = j by omega] at q
        show (if 8 < (m2_wI σ' 13 0 5 (nI (k + j))).1 13 0 8 then _ else _)
        rw [wI_k (by decide), e8']
        refine if_c (fun z => ?_) (fun z => ?_)
        · have z := (nI_ltI (a := 8) (by omega) (by omega)).mp z
          exact q _ ((f'.w rfl).w rfl) (by rw [wI_k (by decide), wI_k (by decide)]; exact e4) (by rw [wI_k (by decide), wI_same]) (by rw [wI_same, if_neg (by omega)]) (by rw [wI_k (by decide), wI_k (by decide)]; exact e8') (fun i h1 h2 => by rw [wI_t (by decide), wI_t (by decide)]; exact hl i h1 h2)
        · have z : ¬ 8 < j := fun w => z ((nI_ltI (a := 8) (by omega) (by omega)).mpr w)
          exact q _ ((f'.w rfl).w rfl) (by rw [wI_k (by decide), wI_k (by decide)]; exact e4) (by rw [wI_k (by decide), wI_same]) (by rw [wI_same, if_pos (by omega)]) (by rw [wI_k (by decide), wI_k (by decide)]; exact e8') (fun i h1 h2 => by rw [wI_t (by decide), wI_t (by decide)]; exact hl i h1 h2)
      · have er' := er.trans (re_t (by omega) z)
        rw [e8']
        by_cases z8 : j < 8
        · refine if_y (nI_lt (b := 8) z8 (by omega)) ?_
          refine c157 (by omega) X' (by omega) ⟨_, rfl, ?_⟩
          refine ix_k z8 (by omega) ?_
          rw [nI_clamp (by omega), nI_1 (k + j)]
          refine ih (j + 1) _ (by omega) ((f'.w rfl).w rfl) er' (by rw [wI_k (by decide), wI_t (by decide)]; exact e4) (by rw [wI_same, wI_t (by decide), e8', nI_1]) (fun i h1 h2 => ?_)
          rw [wI_t (by decide)]
          by_cases e : i = j
          · subst e
            rw [wI_same]
            unfold lk
            rw [if_pos (by omega)]
          · rw [wI_k e]; exact hl i (by omega) h2
        · refine if_n (nI_nlt (b := 8) (by omega) (by omega)) ?_
          rw [nI_1 (k + j)]
          refine ih (j + 1) _ (by omega) (f'.w rfl) er' (by rw [wI_k (by decide)]; exact e4) (by rw [wI_same, nI_1]) (fun i h1 h2 => ?_)
          rw [wI_t (by decide)]; exact hl i (by omega) h2
  exact loop (n - k) 0 σ (by omega) fr.id rfl rfl e8 (fun i hi => absurd hi (Nat.not_lt_zero i))
theorem c160d (hd : 5 ≤ d) {k : Nat} (hk : k ≤ n) (hX : MX σ T n) (e7 : σ.1 13 0 7 = 0) (q : ∀ σ', fr gNx σ σ' → σ'.1 13 0 4 = σ.1 13 0 4 → σ'.1 13 0 5 = nI (re T n isDi k) → σ'.1 13 0 6 = (if re T n isDi k - k ≤ 2 then 3 else 1) → (re T n isDi k - k ≤ 2 → σ'.1 13 0 7 = nI (pkF 10 (fun i => T (k + i) - 48) (re T n isDi k - k))) → Q none σ') : g160_152 L xs (CL L xs d) Q (nI k) 0 σ := by
  have hn := hX.1
  have fin : ∀ j σ', fr gNx σ σ' → k + j ≤ n → re T n isDi k = k + j → σ'.1 13 0 4 = σ.1 13 0 4 → (j ≤ 2 → σ'.1 13 0 7 = nI (pkF 10 (fun i => T (k + i) - 48) j)) → (if 2 < nI j then Q none (m2_wI (m2_wI σ' 13 0 5 (nI (k + j))) 13 0 6 1) else Q none (m2_wI (m2_wI σ' 13 0 5 (nI (k + j))) 13 0 6 3)) := by
    intro j σ' f' hj ee e4 e7'
    rw [ee, show k + j - k = j by omega] at q
    refine if_c (fun z => ?_) (fun z => ?_)
    · have z := (nI_ltI (a := 2) (by omega) (by omega)).mp z
      exact q _ ((f'.w rfl).w rfl) (by rw [wI_k (by decide), wI_k (by decide)]; exact e4) (by rw [wI_k (by decide), wI_same]) (by rw [wI_same, if_neg (by omega)]) (fun w => by omega)
    · have z : ¬ 2 < j := fun w => z ((nI_ltI (a := 2) (by omega) (by omega)).mpr w)
      exact q _ ((f'.w rfl).w rfl) (by rw [wI_k (by decide), wI_k (by decide)]; exact e4) (by rw [wI_k (by decide), wI_same]) (by rw [wI_same, if_pos (by omega)]) (fun w => by rw [wI_k (by decide), wI_k (by decide)]; exact e7' w)
  have loop : ∀ m j σ', k + j + m = n → fr gNx σ σ' → re T n isDi k = re T n isDi (k + j) → σ'.1 13 0 4 = σ.1 13 0 4 → (j ≤ 2 → σ'.1 13 0 7 = nI (pkF 10 (fun i => T (k + i) - 48) j)) → g160_152 L xs (CL L xs d) Q (nI (k + j)) (nI j) σ' := by
    intro m
    induction m with
    | zero =>
      intro j σ' hm f' er e4 e7'
      have X' := hX.fr rfl (fun _ => rfl) f'
      refine w160_152 hC ?_
      refine c157 (by omega) X' (by omega) ⟨_, rfl, ?_⟩
      refine c159 (by omega) ⟨_, rfl, ?_⟩
      rw [lk_di X', decide_eq_false (show ¬ k + j < n by omega)]
      refine if_y rfl ?_
      exact fin j σ' f' (by omega) (by rw [er, show k + j = n by omega, re_n]) e4 e7'
    | succ m ih =>
      intro j σ' hm f' er e4 e7'
      have X' := hX.fr rfl (fun _ => rfl) f'
      refine w160_152 hC ?_
      refine c157 (by omega) X' (by omega) ⟨_, rfl, ?_⟩
      refine c159 (by omega) ⟨_, rfl, ?_⟩
      rw [lk_di X', decide_eq_true (show k + j < n by omega), Bool.true_and]
      refine if_b (fun z => ?_) (fun z => ?_)
      · exact fin j σ' f' (by omega) (er.trans (re_f (by omega) z)) e4 e7'
      · have er' := er.trans (re_t (by omega) z)
        by_cases z2 : j < 2
        · refine if_y (nI_lt (b := 2) z2 (by omega)) ?_
          refine c157 (by omega) X' (by omega) ⟨_, rfl, ?_⟩
          rw [nI_1 (k + j), nI_1 j]
          refine ih (j + 1) _ (by omega) (f'.w rfl) er' (by rw [wI_k (by decide)]; exact e4) (fun w => ?_)
          have hd' := isDi_b.mp z
          rw [wI_same, e7' (by omega)]
          unfold lk
          rw [if_pos (by omega), l10, nI_mul, nI_add]
          show nI (10 * pkF 10 (fun i => T (k + i) - 48) j + T (k + j)) - nI 48 = nI (10 * pkF 10 (fun i => T (k + i) - 48) j + (T (k + j) - 48))
          rw [nI_sub (by omega)]
          congr 1
          omega
        · refine if_n (nI_nlt (b := 2) (by omega) (by omega)) ?_
          rw [nI_1 (k + j), nI_1 j]
          exact ih (j + 1) _ (by omega) f' er' e4 (fun w => by omega)
  exact loop (n - k) 0 σ (by omega) fr.id rfl rfl (fun _ => e7)
theorem c160 (hd : 6 ≤ d) {c : Nat} (hX : MX σ T n) (hc : c ≤ n) (e5 : σ.1 13 0 5 = nI c) (q : ∀ σ', fr gNx σ σ' → MC σ' T n c → Q none σ') : CL L xs d 160 [vr 13 0] σ Q := by
  have hn := hX.1
  refine cl_at p160 (by omega) (w160_0 hC ?_)
  rw [e5]
  have ha := tA_b (T := T) hc
  have lk32 : ∀ j, j ≤ n → (lk T n j = 32 ↔ j < n ∧ T j = 32) := by
    intro j hj
    unfold lk
    by_cases z : j < n
    · rw [if_pos z]
      refine ⟨fun w => ⟨z, (nI_eq (b := 32) (by have := (hX.2.2 j z).1; omega) (by omega)).mp w⟩, fun w => by rw [w.2]; rfl⟩
    · rw [if_neg z]
      exact ⟨fun w => absurd w (by decide), fun w => absurd w.1 z⟩
  have loop : ∀ m j, j + m = n → c ≤ j → re T n isSp c = re T n isSp j → g160_5 L xs (CL L xs (d - 1)) Q (nI j) σ := by
    intro m
    induction m with
    | zero =>
      intro j hm hj er
      refine w160_5 hC ?_
      refine c157 (by omega) hX (by omega) ⟨_, rfl, ?_⟩
      refine if_n (fun w => by have := ((lk32 j (by omega)).mp w).1; omega) ?_
      have ee : tA T n c = j := by unfold tA; rw [er, show j = n by omega, re_n]
      have kk := kd_0 (T := T) (n := n) (c := c) (by omega)
      refine c157 (by omega) (hX.fr (A := gNx) rfl (fun _ => rfl) (fr.id.w rfl)) (by omega) ⟨_, rfl, ?_⟩
      refine if_y (by unfold lk; rw [if_neg (by omega)]) ?_
      refine q _ (((((fr.id.w rfl).w rfl).w rfl).w rfl).w rfl) ⟨?_, ?_, ?_, fun w => by omega, fun w => by omega⟩
      · rw [wI_k (by decide), wI_same, kk.1]; rfl
      · rw [wI_k (by decide), wI_k (by decide), wI_k (by decide), wI_k (by decide), wI_same, ee]
      · rw [wI_same, kk.2, ee]
    | succ m ih =>
      intro j hm hj er
      refine w160_5 hC ?_
      refine c157 (by omega) hX (by omega) ⟨_, rfl, ?_⟩
      refine if_c (fun w => ?_) (fun w => ?_)
      · have w := (lk32 j (by omega)).mp w
        rw [nI_1]
        exact ih (j + 1) (by omega) (by omega) (er.trans (re_t (by omega) (by unfold isSp; rw [w.2]; rfl)))
      have w : T j ≠ 32 := fun e => w ((lk32 j (by omega)).mpr ⟨by omega, e⟩)
      have ee : tA T n c = j := by unfold tA; rw [er, re_f (by omega) (by unfold isSp; exact beq_eq_false_iff_ne.mpr w)]
      have z : ¬ n ≤ tA T n c := by omega
      have ht := (hX.2.2 j (by omega)).1
      have X3 : MX (m2_wI σ 13 0 4 (nI j)) T n := hX.fr (A := gNx) rfl (fun _ => rfl) (fr.id.w rfl)
      refine c157 (by omega) X3 (by omega) ⟨_, rfl, ?_⟩
      have ev : lk T n j = nI (T j) := by unfold lk; rw [if_pos (by omega)]
      rw [ev]
      refine if_n (fun w => by
        have := congrArg Int32.toInt w
        rw [nI_toInt (by omega)] at this
        have h2 : (-1 : Int32).toInt = -1 := rfl
        rw [h2] at this
        omega) ?_
      have X7 : MX (m2_wI (m2_wI (m2_wI σ 13 0 4 (nI j)) 13 0 8 0) 13 0 7 0) T n := X3.fr (A := gNx) rfl (fun _ => rfl) ((fr.id.w rfl).w rfl)
      have f7 : fr gNx σ (m2_wI (m2_wI (m2_wI σ 13 0 4 (nI j)) 13 0 8 0) 13 0 7 0) := ((fr.id.w rfl).w rfl).w rfl
      have e4' : (m2_wI (m2_wI (m2_wI σ 13 0 4 (nI j)) 13 0 8 0) 13 0 7 0).1 13 0 4 = nI j := by rw [wI_k (by decide), wI_k (by decide), wI_same]
      have e8' : (m2_wI (m2_wI (m2_wI σ 13 0 4 (nI j)) 13 0 8 0) 13 0 7 0).1 13 0 8 = 0 := by rw [wI_k (by decide), wI_same]
      have e7' : (m2_wI (m2_wI (m2_wI σ 13 0 4 (nI j)) 13 0 8 0) 13 0 7 0).1 13 0 7 = 0 := wI_same
      refine c158 (by omega) ⟨_, rfl, ?_⟩
      show (if bI (loV (nI (T j))) = 0 then _ else g160_67 L xs (CL L xs (d - 1)) Q (nI j) (m2_wI (m2_wI (m2_wI σ 13 0 4 (nI j)) 13 0 8 0) 13 0 7 0))
      generalize m2_wI (m2_wI (m2_wI σ 13 0 4 (nI j)) 13 0 8 0) 13 0 7 0 = σ7 at *
      rw [loV_b _ ht]
      refine if_b (fun h1 => ?_) (fun h1 => ?_)
      rotate_left
      · have kk := kd_l z (by rw [ee]; exact h1)
        rw [ee] at kk
        refine c160w (by omega) (by omega) X7 e8' (fun σ' f' a4 a5 a6 a8 al => ?_)
        refine q σ' (f7.trans f') ⟨?_, ?_, ?_, fun w => ?_, fun w => ?_⟩
        · rw [a6, kk.1]; split <;> rfl
        · rw [a4, e4', ee]
        · rw [a5, kk.2]
        · rw [kk.1] at w; split at w <;> cases w
        · unfold wl
          rw [ee]
          refine ⟨a8, fun i hi => al i hi ?_⟩
          rw [kk.1] at w
          split at w
          · omega
          · cases w
      have h1' : isLo (T (tA T n c)) = false := by rw [ee]; exact h1
      refine c159 (by omega) ⟨_, rfl, ?_⟩
      rw [diV_b _ ht]
      refine if_b (fun h2 => ?_) (fun h2 => ?_)
      rotate_left
      · have kk := kd_d z h1' (by rw [ee]; exact h2)
        rw [ee] at kk
        refine c160d (by omega) (by omega) X7 e7' (fun σ' f' a4 a5 a6 a7 => ?_)
        refine q σ' (f7.trans f') ⟨?_, ?_, ?_, fun w => ?_, fun w => ?_⟩
        · rw [a6, kk.1]; split <;> rfl
        · rw [a4, e4', ee]
        · rw [a5, kk.2]
        · unfold tV
          rw [ee]
          rw [kk.1] at w
          split at w
          · exact a7 ‹_›
          · cases w
        · rw [kk.1] at w; split at w <;> cases w
      have kk := kd_o z h1' (by rw [ee]; exact h2)
      rw [ee] at kk
      rw [nI_1]
      have tc : ∀ (v : Nat) (x : Int32), kd T n c = v → mk v = x → v = 3 ∨ v = 4 ∨ v = 5 → Q none (m2_wI (m2_wI σ7 13 0 5 (nI (j + 1))) 13 0 6 x) := by
        intro v x e1 e2 hv
        refine q _ ((f7.w rfl).w rfl) ⟨?_, ?_, ?_, fun w => by omega, fun w => by omega⟩
        · rw [wI_same, e1, e2]
        · rw [wI_k (by decide), wI_k (by decide), e4', ee]
        · rw [wI_k (by decide), wI_same, kk.2]
      refine if_c (fun z1 => ?_) (fun z1 => ?_)
      · have z1' := (nI_eq (b := 59) (by omega) (by omega)).mp z1
        exact tc 3 _ (by rw [kk.1, if_pos z1']) (by rw [z1']; rfl) (by omega)
      have z1' : T j ≠ 59 := fun e => z1 (by rw [e]; rfl)
      refine if_c (fun z2 => ?_) (fun z2 => ?_)
      · have z2' := (nI_eq (b := 44) (by omega) (by omega)).mp z2
        exact tc 4 _ (by rw [kk.1, if_neg z1', if_pos z2']) (by rw [z2']; rfl) (by omega)
      · have z2' : T j ≠ 44 := fun e => z2 (by rw [e]; rfl)
        exact tc 5 _ (by rw [kk.1, if_neg z1', if_neg z2']) rfl (by omega)
  exact loop (n - c) c (by omega) (Nat.le_refl _) rfl
theorem kd_5 {c : Nat} : kd T n c ≤ 5 := by unfold kd; split; omega; split; split <;> omega; split; split <;> omega; split; omega; split <;> omega
theorem mk_eq : ∀ k, k ≤ 5 → (mk k = 2 ↔ k = 1) ∧ (mk k = 3 ↔ k = 2) ∧ (mk k = 59 ↔ k = 3) ∧ (mk k = 44 ↔ k = 4) ∧ (mk k = 0 ↔ k = 0) := by decide
theorem c162 (hd : 4 ≤ d) {c o : Nat} (hc : c ≤ n) (hn : n ≤ 1000) (hf : σ.1 13 0 13 = 0) (hT : MC σ T n c) (ho : o < 28) (q : Q (some (vi (bI (decide (cd T n c = kw o))))) σ) : CL L xs d 162 [vr 13 0, vr 90 o] σ Q := by
  refine cl_at p162 hd (w162_0 hC ?_)
  have s := str_ok o ho
  have s8 : sL o < 2 ^ 31 := by omega
  rw [hf]
  refine if_y rfl ?_
  rw [hT.1]
  by_cases z : kd T n c = 1
  · have k1 := kd1 hc z
    have hl := hT.2.2.2.2 z
    refine if_y (by rw [z]; rfl) ?_
    rw [hl.1]
    by_cases z1 : wl T n c = sL o
    · refine if_y (by rw [z1]) ?_
      refine dm_for (n := wl T n c) (fun j σ' => g162_32 L xs (CL L xs (d - 1)) Q o (bI (al (fun i => decide (T (tA T n c + i) = cN o i)) j)) (nI j) σ') (fun _ σ' => σ' = σ) ?_ ?_ 0 σ (Nat.zero_le _) rfl
      · rintro j σ2 hj rfl ih
        have ih : g162_32 L xs (CL L xs (d - 1)) Q o (bI (al (fun i => decide (T (tA T n c + i) = cN o i)) j && decide (T (tA T n c + j) = cN o j))) (nI (j + 1)) σ2 := ih σ2 rfl
        refine w162_32 hC ?_
        rw [hl.1, nI_1]
        refine if_y (nI_lt hj (by omega)) ?_
        refine if_b (fun w => ?_) (fun w => ?_)
        · rw [w] at ih; exact ih
        rw [w, Bool.true_and] at ih
        have hjs : j < sL o := by omega
        refine ix_k (by omega) (by omega) (ix_k hjs s8 ?_)
        have lt := k1.2.2.2.2.2 j hj
        have ls := (s.2.2 j (by omega)).1
        rw [nI_clamp (by omega), hl.2 j hj, (s.2.2 j (by omega)).2]
        refine if_c (fun w => ?_) (fun w => ?_)
        · rw [decide_eq_true ((nI_eq (by omega) (by omega)).mp w)] at ih; exact ih
        · rw [decide_eq_false (fun e => w (by rw [e]))] at ih; exact ih
      · rintro σ2 rfl
        refine w162_32 hC ?_
        rw [hl.1]
        refine if_n (nI_nlt (Nat.le_refl _) (by omega)) ?_
        rw [bI_and]
        have : al (fun i => decide (T (tA T n c + i) = cN o i)) (wl T n c) = decide (cd T n c = kw o) := by
          cases e : al (fun i => decide (T (tA T n c + i) = cN o i)) (wl T n c)
          · rw [decide_eq_false]
            intro w
            have := al_of (f := fun i => decide (T (tA T n c + i) = cN o i)) (n := wl T n c) (fun i hi => decide_eq_true (((weq hc ho z).mp w).2 i hi))
            rw [this] at e; cases e
          · rw [decide_eq_true]
            exact (weq hc ho z).mpr ⟨z1, fun i hi => of_decide_eq_true (al_t e i hi)⟩
        rw [this]
        exact q
    · refine if_n (fun w => z1 ((nI_eq (by omega) (by omega)).mp w)) ?_
      rw [decide_eq_false (fun e => z1 ((weq hc ho z).mp e).1)] at q
      exact q
  · refine if_n (fun w => z ((mk_eq _ kd_5).1.mp w)) ?_
    rw [decide_eq_false (cd_n1 ho z)] at q
    exact q
end MLEX
