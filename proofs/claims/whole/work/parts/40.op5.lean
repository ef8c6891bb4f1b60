/-! TOOLS: folds with a picture of the memory, searches, greatest numbers; CALLS: look, lookMost -/
theorem dm_fj {α : Type} {n : Nat} (f : Nat → α → α) (G : Nat → α → M2 → Prop) (I : Nat → α → M2 → Prop) (hs : ∀ k a σ, k < n → I k a σ → (∀ σ', I (k + 1) (f k a) σ' → G (k + 1) (f k a) σ') → G k a σ) : ∀ m k a σ, k + m = n → I k a σ → (∀ σ', I n (ff f m k a) σ' → G n (ff f m k a) σ') → G k a σ := by
  intro m
  induction m with
  | zero => intro k a σ h hi he; have : k = n := h; subst this; exact he σ hi
  | succ m ih => intro k a σ h hi he; exact hs k a σ (by omega) hi (fun σ' h' => ih (k + 1) _ σ' (by omega) h' he)
def fs {α : Type} (f : Nat → Option α) : Nat → Nat → Option α
  | 0, _ => none
  | m + 1, k => match f k with
    | some v => some v
    | none => fs f m (k + 1)
theorem dm_fs {α : Type} {n : Nat} (f : Nat → Option α) (G : Nat → M2 → Prop) (Z : α → M2 → Prop) (I : M2 → Prop)
    (hs : ∀ k σ, k < n → I σ → (f k = none → ∀ σ', I σ' → G (k + 1) σ') → (∀ v, f k = some v → ∀ σ', I σ' → Z v σ') → G k σ) : ∀ m k σ, k + m = n → I σ → (fs f m k = none → ∀ σ', I σ' → G n σ') → (∀ v, fs f m k = some v → ∀ σ', I σ' → Z v σ') → G k σ := by
  intro m
  induction m with
  | zero => intro k σ h hi he hz; have : k = n := h; subst this; exact he rfl σ hi
  | succ m ih =>
    intro k σ h hi he hz
    refine hs k σ (by omega) hi (fun e σ' h' => ?_) (fun v e σ' h' => ?_)
    · refine ih (k + 1) σ' (by omega) h' (fun e2 => he (by unfold fs; rw [e]; exact e2)) (fun v e2 => hz v (by unfold fs; rw [e]; exact e2))
    · exact hz v (by unfold fs; rw [e]) σ' h'
theorem fs_some {α : Type} {f : Nat → Option α} : ∀ {m k : Nat} {v : α}, fs f m k = some v → ∃ j, k ≤ j ∧ j < k + m ∧ f j = some v
  | 0, _, _, h => by cases h
  | m + 1, k, v, h => by
    unfold fs at h
    cases e : f k with
    | some w => rw [e] at h; cases h; exact ⟨k, Nat.le_refl _, by omega, e⟩
    | none =>
      rw [e] at h
      obtain ⟨j, h1, h2, h3⟩ := fs_some h
      exact ⟨j, by omega, by omega, h3⟩
def mx (f : Nat → Nat) : Nat → Nat
  | 0 => 0
  | n + 1 => if mx f n < f n then f n else mx f n
theorem mx_le {f : Nat → Nat} {b : Nat} : ∀ {n : Nat}, (∀ i, i < n → f i ≤ b) → mx f n ≤ b
  | 0, _ => Nat.zero_le _
  | n + 1, h => by
    unfold mx
    have := mx_le (f := f) (b := b) (n := n) (fun i hi => h i (by omega))
    have := h n (by omega)
    split <;> omega
theorem le_mx {f : Nat → Nat} : ∀ {n i : Nat}, i < n → f i ≤ mx f n
  | 0, _, h => absurd h (Nat.not_lt_zero _)
  | n + 1, i, h => by
    unfold mx
    rcases Nat.lt_or_ge i n with h1 | h1
    · have := le_mx (f := f) h1
      split <;> omega
    · obtain rfl : i = n := by omega
      split <;> omega
/-- a choice's level, the choices in their order, how many are left at most -/
def lvl (R : Nat → Int32) (C : Nat → Bool) (P : Pl) (k t : Nat) (c : Int32) : Int32 := (run R (mkc R C P c) k).1 t
def chs (R : Nat → Int32) (C : Nat → Bool) (P : Pl) : Nat → List Int32
  | 0 => [-2]
  | s + 1 => if fit R C P s = true then chs R C P s ++ [nI s] else chs R C P s
def cnl (R : Nat → Int32) (C : Nat → Bool) (P : Pl) (k t s v : Nat) : Nat := (chs R C P s).countP (fun c => lvl R C P k t c == nI v)
def lft (R : Nat → Int32) (C : Nat → Bool) (P : Pl) (k t : Nat) : Nat := mx (cnl R C P k t (gN R 7)) 10
theorem chs_len {R : Nat → Int32} {C : Nat → Bool} {P : Pl} : ∀ s, (chs R C P s).length ≤ s + 1
  | 0 => Nat.le_refl _
  | s + 1 => by
    have := chs_len (R := R) (C := C) (P := P) s
    unfold chs
    split
    · rw [List.length_append]; show _ + 1 ≤ _; omega
    · omega
theorem chs_mem {R : Nat → Int32} {C : Nat → Bool} {P : Pl} : ∀ s, s ≤ gN R 7 → ∀ c ∈ chs R C P s, isC R c
  | 0, _, c, h => by
    rcases List.mem_cons.mp h with h | h
    · exact Or.inl h
    · cases h
  | s + 1, hs, c, h => by
    unfold chs at h
    split at h
    · rcases List.mem_append.mp h with h | h
      · exact chs_mem s (by omega) c h
      · rcases List.mem_cons.mp h with h | h
        · exact Or.inr ⟨s, by omega, h⟩
        · cases h
    · exact chs_mem s (by omega) c h
theorem cl9_b (v : Int32) : ∃ j, j < 10 ∧ cl9 v = nI j := by
  unfold cl9
  by_cases h : v < 0
  · rw [if_pos h]; exact ⟨0, by omega, rfl⟩
  · rw [if_neg h]
    obtain ⟨j, hj, rfl⟩ := nI_of h
    by_cases h9 : 9 < nI j
    · rw [if_pos h9]; exact ⟨9, by omega, rfl⟩
    · rw [if_neg h9]
      refine ⟨j, ?_, rfl⟩
      rcases Nat.lt_or_ge 9 j with z | z
      · exact absurd (nI_lt z hj) h9
      · omega
theorem efE_b {R : Nat → Int32} {d b e n : Nat} {lv : Nat → Int32} (h : ∀ t, t < n → ∃ j, j < 10 ∧ lv t = nI j) : ∀ t, t < n → ∃ j, j < 10 ∧ efE R d b e lv t = nI j := by
  intro t ht
  unfold efE
  split
  · exact h t ht
  · show ∃ j, j < 10 ∧ (if t = _ then cl9 _ else lv t) = nI j
    split
    · exact cl9_b _
    · exact h t ht
theorem rn_b {R : Nat → Int32} {f : Nat → Nat} {n : Nat} : ∀ (m k : Nat) (lv : Nat → Int32), (∀ t, t < n → ∃ j, j < 10 ∧ lv t = nI j) → ∀ t, t < n → ∃ j, j < 10 ∧ (rn R f m k lv).1 t = nI j
  | 0, _, _, h => h
  | m + 1, k, lv, h => by
    unfold rn
    split
    · exact h
    · exact rn_b m (k + 1) _ (efE_b (efE_b h))
theorem run_b {R : Nat → Int32} (hR : okR R) (p : Pl) (k : Nat) : ∀ t, t < gN R 4 → ∃ j, j < 10 ∧ (run R p k).1 t = nI j :=
  rn_b _ _ _ (fun t ht => ⟨_, gn_in (hR.2.2.1 t ht)⟩)
theorem lvl_b {R : Nat → Int32} (hR : okR R) (C : Nat → Bool) (P : Pl) (k : Nat) {t : Nat} (ht : t < gN R 4) (c : Int32) : ∃ j, j < 10 ∧ lvl R C P k t c = nI j := run_b hR _ _ t ht
theorem cnl_le {R : Nat → Int32} {C : Nat → Bool} {P : Pl} {k t s v : Nat} : cnl R C P k t s v ≤ s + 1 := Nat.le_trans List.countP_le_length (chs_len s)
theorem lft_le {R : Nat → Int32} {C : Nat → Bool} {P : Pl} {k t : Nat} : lft R C P k t ≤ gN R 7 + 1 := mx_le (fun _ _ => cnl_le)
def lkI (R : Nat → Int32) (C : Nat → Bool) (P : Pl) (k : Nat) : Nat → Int32 × Int32 → Int32 × Int32 := fun t a => if nI (lft R C P k t) < a.2 then (10 * nI k + nI t, nI (lft R C P k t)) else a
def lkO (R : Nat → Int32) (C : Nat → Bool) (P : Pl) : Nat → Int32 × Int32 → Int32 × Int32 := fun k a => ff (lkI R C P k) (gN R 4) 0 a
def k_look (R : Nat → Int32) (C : Nat → Bool) (P : Pl) (a : Int32 × Int32) : Int32 × Int32 := ff (lkO R C P) (P.1 + 1) 0 a
theorem k_look_eq {R : Nat → Int32} {C : Nat → Bool} {P : Pl} (hT : 1 ≤ gN R 4) {a b : Int32 × Int32} (ha : nI (lft R C P 0 0) < a.2) (hb : nI (lft R C P 0 0) < b.2) : k_look R C P a = k_look R C P b := by
  have e : ∀ c : Int32 × Int32, nI (lft R C P 0 0) < c.2 → lkO R C P 0 c = ff (lkI R C P 0) (gN R 4 - 1) 1 (10 * nI 0 + nI 0, nI (lft R C P 0 0)) := by
    intro c hc
    unfold lkO
    obtain ⟨n, hn⟩ : ∃ n, gN R 4 = n + 1 := ⟨gN R 4 - 1, by omega⟩
    rw [hn]
    show ff (lkI R C P 0) n 1 (lkI R C P 0 0 c) = _
    have : lkI R C P 0 0 c = (10 * nI 0 + nI 0, nI (lft R C P 0 0)) := if_pos hc
    rw [this]; rfl
  unfold k_look
  show ff (lkO R C P) P.1 1 (lkO R C P 0 a) = ff (lkO R C P) P.1 1 (lkO R C P 0 b)
  rw [e a ha, e b hb]
def a_look (R : Nat → Int32) (C : Nat → Bool) (p : Int32) : Int32 × Int32 := if inn p (R 6) = true then ((k_look R C (plR R p.toNatClampNeg) (-1, 1000000)).1, 0) else no1
def a_lookM (R : Nat → Int32) (C : Nat → Bool) (p : Int32) : Int32 × Int32 := if inn p (R 6) = true then ((k_look R C (plR R p.toNatClampNeg) (-1, 1000000)).2, 0) else no1
def f56 : Nat → Nat → Nat → Bool := fun t i k => fRn t i k || t == 56
theorem f56_O : ∀ t i k, f56 t i k = true → fO t i k = true := by
  intro t i k h
  unfold f56 at h
  rcases Bool.or_eq_true_iff.mp h with h | h
  · exact fRn_O t i k h
  · unfold fO; simp only [beq_iff_eq] at h; simp [h]
theorem fRn_56 : ∀ t i k, fRn t i k = true → f56 t i k = true := fun t i k h => by unfold f56; rw [h]; rfl
section OP5
variable {L : Nat} {xs : Nat → Int32} {d : Nat} {Q : Option dm_V → M2 → Prop} {σ : M2} {μ : Nat} {R : Nat → Int32} {C : Nat → Bool} {h : Bool}
theorem c114 (hd : 8 ≤ d) {o k s : Nat} {P : Pl} {c : Int32} (hX : cX σ μ R C) (ho : o < 8) (hv : vS σ.1 o P) (hp : okP R 8 P) (hc : isC R c) (hk : k < 100) {f : Nat → Nat → Nat} (hs : s < 100) (hf0 : ∀ t v, t < gN R 4 → v < 10 → f t v ≤ s) (hf : ∀ t v, t < gN R 4 → v < 10 → σ.1 56 0 (10 * t + v) = nI (f t v))
    (q : ∀ σ', fr f56 σ σ' → (∀ t v, t < gN R 4 → v < 10 → σ'.1 56 0 (10 * t + v) = nI (if lvl R C P k t c = nI v then f t v + 1 else f t v)) → Q none σ') : CL L xs d 114 [vr 12 0, vr 10 o, vi c, vi (nI k)] σ Q := by
  refine cl_at p114 (by omega) (w114_0 hC ?_)
  have hT := hX.ok.cT
  refine c56 (most := k) (by omega) hX hv (by omega) hp hc isC_2 rfl (by omega) (fun σ1 f1 l1 _ _ => ⟨rfl, ?_⟩)
  have X1 := hX.fr fRn_k f1
  have e2 : mkc R C (mkc R C P c) (-2) = mkc R C P c := if_pos rfl
  rw [e2] at l1
  refine dm_for (n := gN R 4) (fun j σ => g114_15 L xs (CL L xs (d - 1)) Q (nI j) σ) (fun j σ' => fr (fun t _ _ => t == 56) σ1 σ' ∧ (∀ t v, t < gN R 4 → v < 10 → σ'.1 56 0 (10 * t + v) = nI (if t < j ∧ lvl R C P k t c = nI v then f t v + 1 else f t v))) ?_ ?_ 0 _ (Nat.zero_le _) ⟨fr.id, fun t v ht hv => ?_⟩
  · rintro j σ' hj ⟨hf2, h2⟩ ih
    have X2 : cX σ' μ R C := X1.fr (fun t i k h => by
      unfold kpX at h
      simp only [Bool.or_eq_true, Bool.and_eq_true, beq_iff_eq, decide_eq_true_eq] at h
      simp only [beq_eq_false_iff_ne, ne_eq]
      omega) hf2
    refine w114_15 hC ?_
    obtain ⟨w, hw, ew⟩ := lvl_b hX.ok C P k hj c
    have el : σ'.1 51 0 j = nI w := by rw [hf2.1 _ _ _ rfl, l1 j hj]; exact ew
    rw [X2.r12, X2.cnt.1, hT.2, nI_clamp (n := j) (by omega), nI_1, el]
    have ei : nI j * 10 + nI w = nI (10 * j + w) := by rw [l10, nI_mul, nI_add, Nat.mul_comm]
    rw [ei, nI_clamp (n := 10 * j + w) (by omega)]
    refine if_lt hj (by omega) (ix_k (by omega) (by omega) (ix_k (by omega) (by omega) (ix_k (by omega) (by omega) ?_)))
    refine ih _ ⟨hf2.w rfl, fun t v ht hv => ?_⟩
    by_cases e : 10 * t + v = 10 * j + w
    · obtain ⟨rfl, rfl⟩ : t = j ∧ v = w := by omega
      rw [wI_same, h2 _ _ ht hv, if_neg (by omega), if_pos ⟨by omega, ew⟩, nI_1]
    · rw [wI_k e, h2 _ _ ht hv]
      congr 1
      by_cases e1 : t = j
      · subst e1
        rw [if_neg (by omega), if_neg]
        rintro ⟨-, z⟩
        rw [ew] at z
        have := (nI_eq (by omega) (by omega)).mp z
        omega
      · by_cases e3 : t < j ∧ lvl R C P k t c = nI v
        · rw [if_pos e3, if_pos ⟨by omega, e3.2⟩]
        · rw [if_neg e3, if_neg]
          rintro ⟨z1, z2⟩
          exact e3 ⟨by omega, z2⟩
  · rintro σ' ⟨hf2, h2⟩
    have X2 : cX σ' μ R C := X1.fr (fun t i k h => by
      unfold kpX at h
      simp only [Bool.or_eq_true, Bool.and_eq_true, beq_iff_eq, decide_eq_true_eq] at h
      simp only [beq_eq_false_iff_ne, ne_eq]
      omega) hf2
    refine w114_15 hC ?_
    rw [X2.r12, X2.cnt.1, hT.2]
    refine if_nlt (Nat.le_refl _) (by omega) (q σ' ((f1.weak fRn_56).trans (hf2.weak (fun t i k h => by unfold f56; rw [h, Bool.or_true]))) (fun t v ht hv => ?_))
    rw [h2 t v ht hv]
    congr 1
    by_cases e : lvl R C P k t c = nI v
    · rw [if_pos ⟨ht, e⟩, if_pos e]
    · rw [if_neg (fun z => e z.2), if_neg e]
  · rw [if_neg (by omega), f1.1 _ _ _ rfl]; exact hf t v ht hv
theorem c113 (hd : 9 ≤ d) {o k : Nat} {P : Pl} (hX : cX σ μ R C) (ho : o < 8) (hv : vS σ.1 o P) (hp : okP R 8 P) (hk : k < 100) (q : ∀ σ', fr f56 σ σ' → (∀ t v, t < gN R 4 → v < 10 → σ'.1 56 0 (10 * t + v) = nI (cnl R C P k t (gN R 7) v)) → Q none σ') : CL L xs d 113 [vr 12 0, vr 10 o, vi (nI k)] σ Q := by
  refine cl_at p113 (by omega) (w113_0 hC ?_)
  have hT := hX.ok.cT
  have hS := hX.ok.cS
  have kp : ∀ t i k, kpX t i = true → f56 t i k = false := fun t i k h => by
    cases e : f56 t i k
    · rfl
    · have := fO_k t i k h
      rw [f56_O t i k e] at this; cases this
  have v56 : ∀ {σ'}, fr f56 σ σ' → vS σ'.1 o P := fun hf => vS_O ho (hf.weak f56_O) hv
  refine dm_for (n := 50) (fun j σ => g113_2 L xs (CL L xs (d - 1)) Q o (nI k) (nI j) σ) (fun j σ' => fr f56 σ σ' ∧ ∀ i, i < j → σ'.1 56 0 i = 0) ?_ ?_ 0 _ (Nat.zero_le _) ⟨fr.id, fun i hi => absurd hi (Nat.not_lt_zero i)⟩
  · rintro j σ' hj ⟨hf, h0⟩ ih
    refine w113_2 hC ?_
    rw [nI_clamp (n := j) (by omega), nI_1]
    refine if_y (nI_lt (b := 50) hj (by omega)) (ix_k (by omega) (by omega) ?_)
    refine ih _ ⟨hf.w rfl, fun i hi => ?_⟩
    by_cases e : i = j
    · rw [e, wI_same]
    · rw [wI_k e]; exact h0 i (by omega)
  · rintro σ' ⟨hf, h0⟩
    refine w113_2 hC ?_
    refine if_n (by decide) ?_
    refine c114 (s := 0) (f := fun _ _ => 0) (by omega) (hX.fr kp hf) ho (v56 hf) hp isC_2 hk (by omega) (fun _ _ _ _ => Nat.le_refl _) (fun t v ht hv => h0 _ (by omega)) (fun σ2 f2 h2 => ⟨rfl, ?_⟩)
    refine dm_for (n := gN R 7) (fun j σ => g113_34 L xs (CL L xs (d - 1)) Q o (nI k) (nI j) σ) (fun j σ' => fr f56 σ σ' ∧ ∀ t v, t < gN R 4 → v < 10 → σ'.1 56 0 (10 * t + v) = nI (cnl R C P k t j v)) ?_ ?_ 0 _ (Nat.zero_le _) ⟨hf.trans f2, fun t v ht hv => ?_⟩
    · rintro j σ' hj ⟨hf, h0⟩ ih
      have X' := hX.fr kp hf
      refine w113_34 hC ?_
      rw [X'.r12, X'.cnt.2.2.2.2.1, hS.2, nI_1]
      refine if_lt hj (by omega) ?_
      refine c53 (by omega) rfl X' (v56 hf) (hp.up (by omega)) hj ⟨_, rfl, ?_⟩
      refine if_b (fun z => ?_) (fun z => ?_)
      · refine ih σ' ⟨hf, fun t v ht hv => ?_⟩
        rw [h0 t v ht hv]
        unfold cnl
        conv => rhs; unfold chs
        rw [if_neg (by unfold fit; rw [z]; decide)]
      · refine c114 (s := 9) (f := fun t v => cnl R C P k t j v) (by omega) X' ho (v56 hf) hp (isC_s hj) hk (by omega) (fun t v _ _ => Nat.le_trans cnl_le (by omega)) h0 (fun σ3 f3 h3 => ⟨rfl, ih σ3 ⟨hf.trans f3, fun t v ht hv => ?_⟩⟩)
        rw [h3 t v ht hv]
        have e : cnl R C P k t (j + 1) v = cnl R C P k t j v + (if lvl R C P k t (nI j) = nI v then 1 else 0) := by
          unfold cnl
          conv => lhs; unfold chs
          rw [if_pos (by unfold fit; exact z), List.countP_append, List.countP_cons, List.countP_nil]
          congr 1
          by_cases e : lvl R C P k t (nI j) = nI v
          · simp [e]
          · simp [e]
        rw [e]
        congr 1
        split <;> rfl
    · rintro σ' ⟨hf, h0⟩
      have X' := hX.fr kp hf
      refine w113_34 hC ?_
      rw [X'.r12, X'.cnt.2.2.2.2.1, hS.2]
      exact if_nlt (Nat.le_refl _) (by omega) (q σ' hf h0)
    · rw [h2 t v ht hv]
      unfold cnl chs
      rw [List.countP_cons, List.countP_nil]
      by_cases e : lvl R C P k t (-2) = nI v
      · simp [e]
      · simp [e]
theorem c115 (hd : 4 ≤ d) {t : Nat} {f : Nat → Nat} (ht : t < 5) (hb : ∀ v, v < 10 → f v < 100) (hf : ∀ v, v < 10 → σ.1 56 0 (10 * t + v) = nI (f v)) (q : Q (some (vi (nI (mx f 10)))) σ) : CL L xs d 115 [vr 12 0, vi (nI t)] σ Q := by
  refine cl_at p115 (by omega) (w115_0 hC ?_)
  refine dm_for (n := 10) (fun j σ => g115_4 L xs (CL L xs (d - 1)) Q (nI t) (nI (mx f j)) (nI j) σ) (fun _ σ' => σ' = σ) ?_ ?_ 0 _ (Nat.zero_le _) rfl
  · rintro j σ' hj rfl ih
    refine w115_4 hC ?_
    have ei : nI t * 10 + nI j = nI (10 * t + j) := by rw [l10, nI_mul, nI_add, Nat.mul_comm]
    have hm : mx f j < 100 := by
      have := mx_le (f := f) (b := 99) (n := j) (fun i hi => by have := hb i (by omega); omega)
      omega
    rw [ei, nI_clamp (n := 10 * t + j) (by omega), hf j hj, nI_1]
    refine if_n (nI_nlt (b := j) (a := 9) (by omega) (by omega)) (ix_k (by omega) (by omega) ?_)
    have ih := ih _ rfl
    unfold mx at ih
    have := hb j hj
    by_cases e : mx f j < f j
    · rw [if_pos e] at ih
      rw [if_pos (nI_lt e (by omega))]; exact ih
    · rw [if_neg e] at ih
      rw [if_neg (nI_nlt (by omega) (by omega))]; exact ih
  · rintro σ' rfl
    refine w115_4 hC ?_
    exact if_y (by decide) q
theorem c112 (hd : 10 ≤ d) {o : Nat} {P : Pl} (hX : cX σ μ R C) (ho : o < 8) (hv : vS σ.1 o P) (hp : okP R 8 P) (hT1 : 1 ≤ gN R 4) (q : ∀ σ', fr fO σ σ' → σ'.1 12 0 12 = (k_look R C P (-1, 1000000)).2 → Q (some (vi (k_look R C P (-1, 1000000)).1)) σ') : CL L xs d 112 [vr 12 0, vr 10 o] σ Q := by
  refine cl_at p112 (by omega) (w112_0 hC ?_)
  have hT := hX.ok.cT
  have hS := hX.ok.cS
  have hl := lft_le (R := R) (C := C) (P := P) (k := 0) (t := 0)
  have h8 := hp.1
  have ek : k_look R C P (0, nI (gN R 7) + 2) = k_look R C P (-1, 1000000) := k_look_eq hT1 (by
    show nI _ < nI (gN R 7) + 2
    rw [l2, nI_add]; exact nI_lt (by omega) (by omega)) (nI_lt (b := 1000000) (by omega) (by omega))
  rw [← ek] at q
  rw [hX.r12, hX.cnt.2.2.2.2.1, hS.2]
  refine dm_fj (n := P.1 + 1) (lkO R C P) (fun k a σ => g112_19 L xs (CL L xs (d - 1)) Q o a.1 (nI k) σ) (fun _ a σ' => fr fO σ σ' ∧ σ'.1 12 0 12 = a.2) ?_ _ 0 (0, nI (gN R 7) + 2) _ (Nat.zero_add _) ⟨fr.id.w rfl, wI_same⟩ ?_
  · rintro k a σ' hk ⟨hf, ha⟩ ih
    have X' := hX.fr fO_k hf
    have v' := vS_O ho hf hv
    refine w112_19 hC ?_
    rw [v'.1]
    refine if_nlt (by omega) (by omega) ?_
    refine c113 (by omega) X' ho v' hp (by omega) (fun σ2 f2 h2 => ⟨rfl, ?_⟩)
    have hf2 := hf.trans (f2.weak f56_O)
    refine dm_fj (n := gN R 4) (lkI R C P k) (fun t a σ => g112_36 L xs (CL L xs (d - 1)) Q o a.1 (nI k) (nI t) σ) (fun _ a σ' => fr fO σ σ' ∧ σ'.1 12 0 12 = a.2 ∧ ∀ t v, t < gN R 4 → v < 10 → σ'.1 56 0 (10 * t + v) = nI (cnl R C P k t (gN R 7) v)) ?_ _ 0 a σ2 (Nat.zero_add _) ⟨hf2, by rw [f2.1 _ _ _ rfl]; exact ha, h2⟩ ?_
    · rintro t a σ' ht ⟨hf, ha, ht56⟩ ih2
      have X' := hX.fr fO_k hf
      refine w112_36 hC ?_
      rw [X'.r12, X'.cnt.1, hT.2, nI_1]
      refine if_lt ht (by omega) ?_
      refine c115 (f := cnl R C P k t (gN R 7)) (by omega) (by omega) (fun v hv => Nat.lt_of_le_of_lt cnl_le (by omega)) (ht56 t · ht) ⟨_, rfl, ?_⟩
      rw [ha]
      unfold lkI at ih2
      refine if_c (fun z => ?_) (fun z => ?_)
      · rw [if_pos (show nI (lft R C P k t) < a.2 from z)] at ih2
        refine ih2 _ ⟨hf.w rfl, wI_same, fun t v ht hv => ?_⟩
        rw [wI_t (by decide)]; exact ht56 t v ht hv
      · rw [if_neg (show ¬ nI (lft R C P k t) < a.2 from z)] at ih2
        exact ih2 _ ⟨hf, ha, ht56⟩
    · rintro σ' ⟨hf, ha, -⟩
      have X' := hX.fr fO_k hf
      refine w112_36 hC ?_
      rw [X'.r12, X'.cnt.1, hT.2, nI_1 k]
      exact if_nlt (Nat.le_refl _) (by omega) (ih σ' ⟨hf, ha⟩)
  · rintro σ' ⟨hf, ha⟩
    have v' := vS_O ho hf hv
    refine w112_19 hC ?_
    rw [v'.1]
    exact if_lt (by omega) (by omega) (q σ' hf ha)
theorem o110 (hd : 11 ≤ d) {p : Int32} (hX : cX σ μ R C) (hT1 : inn p (R 6) = true → 1 ≤ gN R 4) (q : ∀ σ', cG σ σ' (a_look R C p).2 → Q (some (vi (a_look R C p).1)) σ') : CL L xs d 110 [vr 12 0, vi p] σ Q := by
  refine cl_at p110 (by omega) (w110_0 hC ?_)
  refine c85 (s := 4) (by omega) rfl (by omega) hX hX.cnt.2.2.2.1 ⟨_, rfl, ?_⟩
  unfold a_look at q
  refine if_b (fun z => ?_) (fun z => ?_)
  · rw [if_neg (by rw [z]; decide)] at q
    exact c81 (by omega) fr.id q
  rw [if_pos z] at q
  obtain ⟨hp, ep, hp4, ho, hv, hk⟩ := pl_in hX z
  refine ix_x hp4 ep (by omega) ?_
  rw [hX.r12]
  exact c112 (by omega) hX ho hv hk (hT1 z) (fun σ1 f1 _ => ⟨_, rfl, c83 (by omega) f1 q⟩)
theorem o111 (hd : 11 ≤ d) {p : Int32} (hX : cX σ μ R C) (hT1 : inn p (R 6) = true → 1 ≤ gN R 4) (q : ∀ σ', cG σ σ' (a_lookM R C p).2 → Q (some (vi (a_lookM R C p).1)) σ') : CL L xs d 111 [vr 12 0, vi p] σ Q := by
  refine cl_at p111 (by omega) (w111_0 hC ?_)
  refine c85 (s := 4) (by omega) rfl (by omega) hX hX.cnt.2.2.2.1 ⟨_, rfl, ?_⟩
  unfold a_lookM at q
  refine if_b (fun z => ?_) (fun z => ?_)
  · rw [if_neg (by rw [z]; decide)] at q
    exact c81 (by omega) fr.id q
  rw [if_pos z] at q
  obtain ⟨hp, ep, hp4, ho, hv, hk⟩ := pl_in hX z
  refine ix_x hp4 ep (by omega) ?_
  rw [hX.r12]
  refine c112 (by omega) hX ho hv hk (hT1 z) (fun σ1 f1 e1 => ⟨_, rfl, ?_⟩)
  rw [e1]
  exact c83 (by omega) f1 q
end OP5
