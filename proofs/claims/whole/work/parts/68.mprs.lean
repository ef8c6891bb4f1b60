/-! THE READER of the model: first methods -/
def gRd : Nat → Nat → Nat → Bool := fun t i k => (t == 61 && i == 0) || (t == 63 || (t == 13 && (k == 4 || (k == 5 || (k == 6 || (k == 7 || (k == 8 || (k == 9 || (k == 10 || k == 13)))))))))
theorem gNx_R : ∀ t i k, gNx t i k = true → gRd t i k = true := by
  intro t i k h
  unfold gNx at h
  unfold gRd
  simp only [Bool.or_eq_true, Bool.and_eq_true, beq_iff_eq] at *
  omega
def nmR (σ : M2) (s x : Nat) : Prop := (x = 0 → σ.1 63 0 (187 + s) = 0) ∧ (x ≠ 0 → ∃ (l : Nat) (f : Nat → Nat), 1 ≤ l ∧ l ≤ 8 ∧ σ.1 63 0 (187 + s) = nI l ∧ (∀ i, i < l → σ.1 63 0 (215 + 8 * s + i) = nI (f i) ∧ 97 ≤ f i ∧ f i ≤ 122) ∧ x = pkF 32 (fun i => f i - 96) l)
def MR (σ : M2) (T : Nat → Nat) (n c : Nat) (F : Nat → Int32) (N : Nat → Nat) : Prop := MX σ T n ∧ c ≤ n ∧ MC σ T n c ∧ ((∀ k, k < 187 → σ.1 63 0 k = F k) ∧ σ.1 13 0 9 = 0) ∧ (∀ s, s < 28 → nmR σ s (N s)) ∧ dN N ∧ σ.1 13 0 13 = 0
def FM (σ : M2) (f p : Nat) : Prop := σ.1 13 0 13 = 1 ∧ σ.1 13 0 9 = nI f ∧ σ.1 13 0 10 = nI p
theorem FM.w {σ : M2} {f p k : Nat} {v : Int32} (h : FM σ f p) : FM (m2_wI σ 63 0 k v) f p := ⟨by rw [wI_t (by decide)]; exact h.1, by rw [wI_t (by decide)]; exact h.2.1, by rw [wI_t (by decide)]; exact h.2.2⟩
theorem MC.fr {A : Nat → Nat → Nat → Bool} {σ σ' : M2} {T : Nat → Nat} {n c : Nat} (hA : A 13 0 4 = false ∧ A 13 0 5 = false ∧ A 13 0 6 = false ∧ A 13 0 7 = false ∧ A 13 0 8 = false) (h61 : ∀ k, A 61 0 k = false) (h : MC σ T n c) (f : fr A σ σ') : MC σ' T n c :=
  ⟨by rw [f.1 _ _ _ hA.2.2.1]; exact h.1, by rw [f.1 _ _ _ hA.1]; exact h.2.1, by rw [f.1 _ _ _ hA.2.1]; exact h.2.2.1, fun w => by rw [f.1 _ _ _ hA.2.2.2.1]; exact h.2.2.2.1 w, fun w => ⟨by rw [f.1 _ _ _ hA.2.2.2.2]; exact (h.2.2.2.2 w).1, fun i hi => by rw [f.1 _ _ _ (h61 i)]; exact (h.2.2.2.2 w).2 i hi⟩⟩
theorem nmR.cg {σ σ' : M2} {s x : Nat} (h : nmR σ s x) (e : ∀ k, 187 ≤ k → σ'.1 63 0 k = σ.1 63 0 k) : nmR σ' s x := by
  refine ⟨fun w => by rw [e _ (by omega)]; exact h.1 w, fun w => ?_⟩
  obtain ⟨l, f, h1, h2, h3, h4, h5⟩ := h.2 w
  exact ⟨l, f, h1, h2, by rw [e _ (by omega)]; exact h3, fun i hi => ⟨by rw [e _ (by omega)]; exact (h4 i hi).1, (h4 i hi).2⟩, h5⟩
theorem MR.w {σ : M2} {T : Nat → Nat} {n c : Nat} {F : Nat → Int32} {N : Nat → Nat} {k : Nat} {v : Int32} (hk : k < 187) (h : MR σ T n c F N) : MR (m2_wI σ 63 0 k v) T n c (updR F k v) N := by
  obtain ⟨a1, a2, a3, a4, a5, a6, a7⟩ := h
  have f : fr (fun t _ _ => t == 63) σ (m2_wI σ 63 0 k v) := fr.id.w rfl
  refine ⟨a1.fr rfl (fun _ => rfl) f, a2, a3.fr ⟨rfl, rfl, rfl, rfl, rfl⟩ (fun _ => rfl) f, ⟨fun j hj => ?_, by rw [wI_t (by decide)]; exact a4.2⟩, fun s hs => (a5 s hs).cg (fun j hj => wI_k (by omega)), a6, by rw [wI_t (by decide)]; exact a7⟩
  by_cases e : j = k
  · subst e; rw [wI_same, updR_eq]
  · rw [wI_k e, updR_ne e]; exact a4.1 j hj
section MPRS
variable {L : Nat} {xs : Nat → Int32} {d : Nat} {Q : Option dm_V → M2 → Prop} {σ σ0 : M2} {T : Nat → Nat} {n c : Nat} {N : Nat → Nat} {F : Nat → Int32} {ff pp : Nat}
theorem c161 (hd : 4 ≤ d) {f : Nat} {w p : Int32} (h : MR σ T n c F N) (hw : w = nI f) (hp : p = nI (tA T n c)) (q : ∀ σ', fr gRd σ σ' → FM σ' f (tA T n c) → Q none σ') : CL L xs d 161 [vr 13 0, vi w, vi p] σ Q := by
  refine cl_at p161 hd (w161_0 hC ?_)
  rw [h.2.2.2.2.2.2]
  refine if_y rfl ?_
  exact q _ (((fr.id.w rfl).w rfl).w rfl) ⟨by rw [wI_k (by decide), wI_k (by decide), wI_same], by rw [wI_k (by decide), wI_same]; exact hw, by rw [wI_same]; exact hp⟩
theorem c161f (hd : 4 ≤ d) {w p : Int32} (h : FM σ ff pp) (q : Q none σ) : CL L xs d 161 [vr 13 0, vi w, vi p] σ Q := by
  refine cl_at p161 hd (w161_0 hC ?_)
  rw [h.1]
  exact if_n (by decide) q
theorem MR.at (h : MR σ T n c F N) : σ.1 13 0 4 = nI (tA T n c) := h.2.2.1.2.1
theorem MR.nx (hd : 6 ≤ d) (h : MR σ T n c F N) (q : ∀ σ', fr gRd σ σ' → MR σ' T n (nx T n c) F N → Q none σ') : CL L xs d 160 [vr 13 0] σ Q := by
  obtain ⟨a1, a2, a3, a4, a5, a6, a7⟩ := h
  have hb := nx_b (T := T) a2
  refine c160 hd a1 hb.2.1 a3.2.2.1 (fun σ' f' m' => ?_)
  exact q σ' (f'.weak gNx_R) ⟨a1.fr rfl (fun _ => rfl) f', hb.2.1, m', ⟨fun k hk => by rw [f'.1 _ _ _ rfl]; exact a4.1 k hk, by rw [f'.1 _ _ _ rfl]; exact a4.2⟩, fun s hs => (a5 s hs).cg (fun k _ => f'.1 _ _ _ rfl), a6, by rw [f'.1 _ _ _ rfl]; exact a7⟩
theorem MR.wd (hd : 4 ≤ d) {o : Nat} (h : MR σ T n c F N) (ho : o < 28) (q : Q (some (vi (bI (decide (cd T n c = kw o))))) σ) : CL L xs d 162 [vr 13 0, vr 90 o] σ Q :=
  c162 hd h.2.1 h.1.1 h.2.2.2.2.2.2 h.2.2.1 ho q
theorem c162f (hd : 4 ≤ d) {o : Nat} (h : FM σ ff pp) (q : Q (some (vi 0)) σ) : CL L xs d 162 [vr 13 0, vr 90 o] σ Q := by
  refine cl_at p162 hd (w162_0 hC ?_)
  rw [h.1]
  exact if_n (by decide) q
theorem c163 (hd : 7 ≤ d) {o : Nat} (h : MR σ T n c F N) (ho : o < 28) (q0 : cd T n c ≠ kw o → Q (some (vi 0)) σ) (q1 : cd T n c = kw o → ∀ σ', fr gRd σ σ' → MR σ' T n (nx T n c) F N → Q (some (vi 1)) σ') : CL L xs d 163 [vr 13 0, vr 90 o] σ Q := by
  refine cl_at p163 (by omega) (w163_0 hC ?_)
  refine h.wd (by omega) ho ⟨_, rfl, ?_⟩
  refine if_b (fun z => q0 (of_decide_eq_false z)) (fun z => ?_)
  exact h.nx (by omega) (fun σ' f' m' => ⟨rfl, q1 (of_decide_eq_true z) σ' f' m'⟩)
theorem c163f (hd : 5 ≤ d) {o : Nat} (h : FM σ ff pp) (q : Q (some (vi 0)) σ) : CL L xs d 163 [vr 13 0, vr 90 o] σ Q := by
  refine cl_at p163 (by omega) (w163_0 hC ?_)
  exact c162f (by omega) h ⟨_, rfl, if_y rfl q⟩
theorem c164 (hd : 8 ≤ d) {o : Nat} (h : MR σ T n c F N) (ho : o < 28) (qf : cd T n c ≠ kw o → ∀ σ', fr gRd σ σ' → FM σ' 1 (tA T n c) → Q none σ') (qt : cd T n c = kw o → ∀ σ', fr gRd σ σ' → MR σ' T n (nx T n c) F N → Q none σ') : CL L xs d 164 [vr 13 0, vr 90 o] σ Q := by
  refine cl_at p164 (by omega) (w164_0 hC ?_)
  rw [h.2.2.2.2.2.2]
  refine if_y rfl ?_
  refine c163 (by omega) h ho (fun z => ⟨_, rfl, if_y rfl ?_⟩) (fun z σ' f' m' => ⟨_, rfl, if_n (by decide) (qt z σ' f' m')⟩)
  exact c161 (by omega) h rfl h.at (fun σ' f' m' => ⟨rfl, qf z σ' f' m'⟩)
theorem c164f (hd : 4 ≤ d) {o : Nat} (h : FM σ ff pp) (q : Q none σ) : CL L xs d 164 [vr 13 0, vr 90 o] σ Q := by
  refine cl_at p164 (by omega) (w164_0 hC ?_)
  rw [h.1]
  exact if_n (by decide) q
theorem mk2 {k : Nat} (hk : k ≤ 5) : mk k = 2 ↔ k = 1 := (mk_eq k hk).1
theorem c165 (hd : 6 ≤ d) (h : MR σ T n c F N) (qf : ¬ isNm T n c = true → ∀ σ', fr gRd σ σ' → FM σ' 1 (tA T n c) → Q none σ') (qt : isNm T n c = true → Q none σ) : CL L xs d 165 [vr 13 0] σ Q := by
  refine cl_at p165 (by omega) (w165_0 hC ?_)
  have k5 := kd_5 (T := T) (n := n) (c := c)
  have bar : (∃ o, o < 10 ∧ cd T n c = kw o) → g165_90 L xs (CL L xs (d - 1)) Q σ := by
    intro ⟨o, ho, e⟩
    have nn := isNm_r (T := T) (n := n) (c := c) (resv_t.mpr ⟨o, ho, e⟩)
    have go : CL L xs (d - 1) 161 [vr 13 0, vi 1, vi (σ.1 13 0 4)] σ (fun r σ1 => r = none ∧ Q none σ1) := c161 (by omega) h (f := 1) rfl h.at (fun σ' f' m' => ⟨rfl, qf nn σ' f' m'⟩)
    refine w165_90 hC (w165_95 hC ?_)
    exact if_c (fun _ => if_n (by decide) go) (fun _ => go)
  have clr : (∀ o, o < 10 → cd T n c ≠ kw o) → g165_95 L xs (CL L xs (d - 1)) Q 0 σ := by
    intro hno
    have rv : resv (cd T n c) = false := by
      cases hv : resv (cd T n c)
      · rfl
      · obtain ⟨o, ho, e⟩ := resv_t.mp hv
        exact absurd e (hno o ho)
    refine w165_95 hC ?_
    rw [h.2.2.1.1]
    refine if_c (fun z => if_y rfl (qt (isNm_t ((mk2 k5).mp z) rv))) (fun z => ?_)
    exact c161 (by omega) h (f := 1) rfl h.at (fun σ' f' m' => ⟨rfl, qf (isNm_k (fun w => z ((mk2 k5).mpr w))) σ' f' m'⟩)
  refine h.wd (by omega) (o := 0) (by omega) ⟨_, rfl, ?_⟩
  refine if_b (fun z0 => ?_) (fun z => bar ⟨0, by omega, of_decide_eq_true z⟩)
  refine h.wd (by omega) (o := 1) (by omega) ⟨_, rfl, ?_⟩
  refine if_b (fun z1 => ?_) (fun z => bar ⟨1, by omega, of_decide_eq_true z⟩)
  refine h.wd (by omega) (o := 2) (by omega) ⟨_, rfl, ?_⟩
  refine if_b (fun z2 => ?_) (fun z => bar ⟨2, by omega, of_decide_eq_true z⟩)
  refine h.wd (by omega) (o := 3) (by omega) ⟨_, rfl, ?_⟩
  refine if_b (fun z3 => ?_) (fun z => bar ⟨3, by omega, of_decide_eq_true z⟩)
  refine h.wd (by omega) (o := 4) (by omega) ⟨_, rfl, ?_⟩
  refine if_b (fun z4 => ?_) (fun z => bar ⟨4, by omega, of_decide_eq_true z⟩)
  refine h.wd (by omega) (o := 5) (by omega) ⟨_, rfl, ?_⟩
  refine if_b (fun z5 => ?_) (fun z => bar ⟨5, by omega, of_decide_eq_true z⟩)
  refine h.wd (by omega) (o := 6) (by omega) ⟨_, rfl, ?_⟩
  refine if_b (fun z6 => ?_) (fun z => bar ⟨6, by omega, of_decide_eq_true z⟩)
  refine h.wd (by omega) (o := 7) (by omega) ⟨_, rfl, ?_⟩
  refine if_b (fun z7 => ?_) (fun z => bar ⟨7, by omega, of_decide_eq_true z⟩)
  refine h.wd (by omega) (o := 8) (by omega) ⟨_, rfl, ?_⟩
  refine if_b (fun z8 => ?_) (fun z => bar ⟨8, by omega, of_decide_eq_true z⟩)
  refine h.wd (by omega) (o := 9) (by omega) ⟨_, rfl, ?_⟩
  refine if_b (fun z9 => ?_) (fun z => bar ⟨9, by omega, of_decide_eq_true z⟩)
  refine clr (fun o ho => ?_)
  match o, ho with
  | 0, _ => exact of_decide_eq_false z0
  | 1, _ => exact of_decide_eq_false z1
  | 2, _ => exact of_decide_eq_false z2
  | 3, _ => exact of_decide_eq_false z3
  | 4, _ => exact of_decide_eq_false z4
  | 5, _ => exact of_decide_eq_false z5
  | 6, _ => exact of_decide_eq_false z6
  | 7, _ => exact of_decide_eq_false z7
  | 8, _ => exact of_decide_eq_false z8
  | 9, _ => exact of_decide_eq_false z9
theorem c166 (hd : 4 ≤ d) (h : MR σ T n c F N) (hk : kd T n c = 1) (q : Q (some (vi (oI (lkN N (cd T n c)) (-1)))) σ) : CL L xs d 166 [vr 13 0] σ Q := by
  refine cl_at p166 hd (w166_0 hC ?_)
  have hn := h.1.1
  have k1 := kd1 h.2.1 hk
  obtain ⟨w8, w61⟩ := h.2.2.1.2.2.2.2 hk
  have ecd : cd T n c = pkF 32 (fun i => T (tA T n c + i) - 96) (wl T n c) := if_pos hk
  have loop : ∀ m s, s + m = 28 → Q (some (vi (oI (fi (fun s => decide (N s = cd T n c)) m s) (-1)))) σ → g166_2 L xs (CL L xs (d - 1)) Q (nI s) σ := by
    intro m
    induction m with
    | zero =>
      intro s hs q
      refine w166_2 hC ?_
      exact if_n (nI_nlt (b := 28) (by omega) (by omega)) q
    | succ m ih =>
      intro s hs q
      rw [fi_s] at q
      have nxt : N s ≠ cd T n c → g166_2 L xs (CL L xs (d - 1)) Q (nI (s + 1)) σ := fun ne => ih (s + 1) (by omega) (by rw [if_neg (by rw [decide_eq_false ne]; decide)] at q; exact q)
      have zero : N s ≠ cd T n c → ∀ j, g166_46 L xs (CL L xs (d - 1)) Q (nI s) 0 (nI j) σ := by
        intro ne j
        refine w166_46 hC ?_
        rw [nI_1]
        exact if_c (fun _ => if_y rfl (if_y rfl (nxt ne))) (fun _ => if_y rfl (nxt ne))
      have nm := h.2.2.2.2.1 s (by omega)
      refine w166_2 hC ?_
      have e187 : 187 + nI s = nI (187 + s) := by rw [l187, nI_add]
      rw [e187, nI_clamp (by omega), w8]
      refine if_y (nI_lt (b := 28) (by omega) (by omega)) (ix_k (by omega) (by omega) ?_)
      by_cases z : N s = 0
      · have ne : N s ≠ cd T n c := by rw [z]; exact (cd_pos h.2.1 hk).symm
        rw [nm.1 z]
        exact if_n (by decide) (zero ne 0)
      · obtain ⟨l, f, h1, h2, h3, h4, h5⟩ := nm.2 z
        rw [h3]
        refine if_y (nI_lt (a := 0) (by omega) (by omega)) (ix_k (by omega) (by omega) ?_)
        have inj : N s = cd T n c → l = wl T n c ∧ ∀ i, i < l → f i = T (tA T n c + i) := by
          intro e
          rw [h5, ecd] at e
          obtain ⟨a, b⟩ := pkf_inj (fun i hi => by have := (h4 i hi).2; omega) (fun i hi => by have := k1.2.2.2.2.2 i hi; omega) e
          refine ⟨a, fun i hi => ?_⟩
          have := b i hi
          have := (h4 i hi).2
          have := k1.2.2.2.2.2 i (by omega)
          omega
        refine if_c (fun zl => ?_) (fun zl => ?_)
        · have zl := (nI_eq (by omega) (by omega)).mp zl
          have inner : ∀ m2 j, j + m2 = wl T n c → (∀ i, i < j → f i = T (tA T n c + i)) → g166_46 L xs (CL L xs (d - 1)) Q (nI s) 1 (nI j) σ := by
            intro m2
            induction m2 with
            | zero =>
              intro j hj he
              refine w166_46 hC ?_
              rw [w8]
              refine if_n (nI_nlt (by omega) (by omega)) (if_n (by decide) ?_)
              have e : N s = cd T n c := by
                rw [h5, ecd, zl]
                exact pkf_eq (fun i hi => by rw [he i (by omega)])
              rw [if_pos (decide_eq_true e)] at q
              exact q
            | succ m2 ih2 =>
              intro j hj he
              refine w166_46 hC ?_
              have e215 : (215 + (8 * nI s)) + nI j = nI (215 + 8 * s + j) := by rw [l215, l8, nI_mul, nI_add, nI_add]
              rw [w8, e215, nI_1 j, nI_clamp (n := 215 + 8 * s + j) (by omega), nI_clamp (n := j) (by omega), (h4 j (by omega)).1, w61 j (by omega)]
              refine if_y (nI_lt (by omega) (by omega)) (if_n (by decide) (ix_k (by omega) (by omega) (ix_k (by omega) (by omega) ?_)))
              have l1 := (h4 j (by omega)).2
              have l2 := k1.2.2.2.2.2 j (by omega)
              refine if_c (fun w => ?_) (fun w => ?_)
              · have w := (nI_eq (by omega) (by omega)).mp w
                refine ih2 (j + 1) (by omega) (fun i hi => ?_)
                by_cases e : i = j
                · rw [e]; exact w
                · exact he i (by omega)
              · exact zero (fun e => w (by rw [(inj e).2 j (by omega)])) (j + 1)
          exact inner (wl T n c) 0 (by omega) (fun i hi => absurd hi (Nat.not_lt_zero i))
        · exact zero (fun e => zl (by rw [(inj e).1])) 0
  exact loop 28 0 rfl q
theorem c168 (hd : 7 ≤ d) {lo hi : Nat} {x1 x2 : Int32} (h1 : x1 = nI lo) (h2 : x2 = nI hi) (hh : hi < 28) (hlo : lo < 28) (h : MR σ T n c F N) (qf : ∀ f, f ≠ 0 → (∀ K, pUse T n N lo hi c K = .inl (f, tA T n c)) → ∀ σ', fr gRd σ σ' → FM σ' f (tA T n c) → Q (some (vi 0)) σ') (qt : ∀ v, lo + v ≤ hi → N (lo + v) ≠ 0 → (∀ K, pUse T n N lo hi c K = K v (nx T n c)) → Q (some (vi (nI v))) σ) : CL L xs d 168 [vr 13 0, vi x1, vi x2] σ Q := by
  subst h1; subst h2
  refine cl_at p168 (by omega) (w168_0 hC ?_)
  rw [h.2.2.2.2.2.2]
  refine if_y rfl ?_
  refine c165 (by omega) h (fun z σ' f' m' => ⟨rfl, ?_⟩) (fun z => ⟨rfl, ?_⟩)
  · rw [m'.1]
    exact if_n (by decide) (qf 1 (by omega) (fun K => if_neg z) σ' f' m')
  rw [h.2.2.2.2.2.2]
  refine if_y rfl ?_
  have hk := isNm_i z
  have bad : (∀ K, pUse T n N lo hi c K = .inl (2, tA T n c)) → ∀ v3 : Int32, CL L xs (d - 1) 161 [vr 13 0, vi 2, vi (σ.1 13 0 4)] σ (fun r σ6 => r = none ∧ (if σ6.1 13 0 13 = 0 then Q (some (vi (v3 - nI lo))) σ6 else Q (some (vi 0)) σ6)) := fun hK v3 => c161 (by omega) h (f := 2) rfl h.at (fun σ' f' m' => ⟨rfl, by rw [m'.1]; exact if_n (by decide) (qf 2 (by omega) hK σ' f' m')⟩)
  refine c166 (by omega) h hk ⟨_, rfl, ?_⟩
  refine c153 (by omega) ⟨_, rfl, ?_⟩
  cases hl : lkN N (cd T n c) with
  | none =>
    have : inc (oI none (-1)) (nI lo) (nI hi) = false := by
      unfold inc
      rw [decide_eq_false (p := ¬ oI none (-1) < nI lo) (fun w => w (Int32.lt_iff_toInt_lt.mpr (by rw [nI_toInt (by omega)]; show (-1 : Int) < _; omega)))]; rfl
    rw [this]
    exact if_y rfl (bad (fun K => by unfold pUse; rw [if_pos z, hl]) _)
  | some s =>
    have ls := lkN_s hl
    have hK : ∀ K, pUse T n N lo hi c K = (if lo ≤ s ∧ s ≤ hi then K (s - lo) (nx T n c) else .inl (2, tA T n c)) := fun K => by unfold pUse; rw [if_pos z, hl]
    have ei : inc (oI (some s) (-1)) (nI lo) (nI hi) = decide (lo ≤ s ∧ s ≤ hi) := by
      unfold inc
      show (decide (¬ nI s < nI lo) && decide (¬ nI hi < nI s)) = _
      by_cases g : lo ≤ s ∧ s ≤ hi
      · rw [decide_eq_true (p := ¬ nI s < nI lo) (nI_nlt g.1 (by omega)), decide_eq_true (p := ¬ nI hi < nI s) (nI_nlt g.2 (by omega)), decide_eq_true g]; rfl
      · rw [decide_eq_false g]
        by_cases g1 : lo ≤ s
        · rw [decide_eq_false (p := ¬ nI hi < nI s) (fun w => w (nI_lt (by omega) (by omega))), Bool.and_false]
        · rw [decide_eq_false (p := ¬ nI s < nI lo) (fun w => w (nI_lt (by omega) (by omega))), Bool.false_and]
    rw [ei]
    by_cases g : lo ≤ s ∧ s ≤ hi
    · rw [decide_eq_true g]
      refine if_n (by decide) ?_
      rw [h.2.2.2.2.2.2]
      refine if_y rfl ?_
      show Q (some (vi (nI s - nI lo))) σ
      rw [nI_sub g.1]
      refine qt (s - lo) (by omega) ?_ (fun K => by rw [hK, if_pos g])
      rw [show lo + (s - lo) = s by omega, ls.2]
      exact cd_pos h.2.1 hk
    · rw [decide_eq_false g]
      exact if_y rfl (bad (fun K => by rw [hK, if_neg g]) _)
theorem c168f (hd : 4 ≤ d) {x1 x2 : Int32} (h : FM σ ff pp) (q : Q (some (vi 0)) σ) : CL L xs d 168 [vr 13 0, vi x1, vi x2] σ Q := by
  refine cl_at p168 (by omega) (w168_0 hC ?_)
  rw [h.1]
  exact if_n (by decide) q
theorem c169 (hd : 8 ≤ d) {lo hi : Nat} {x1 x2 : Int32} (h1 : x1 = nI lo) (h2 : x2 = nI hi) (hh : hi < 28) (hlo : lo < 28) (h : MR σ T n c F N) (qf : ∀ f, f ≠ 0 → (∀ K, pUse T n N lo hi c K = .inl (f, tA T n c)) → ∀ σ', fr gRd σ σ' → FM σ' f (tA T n c) → Q (some (vi 0)) σ') (qt : ∀ v, lo + v ≤ hi → N (lo + v) ≠ 0 → (∀ K, pUse T n N lo hi c K = K v (nx T n c)) → ∀ σ', fr gRd σ σ' → MR σ' T n (nx T n c) F N → Q (some (vi (nI v))) σ') : CL L xs d 169 [vr 13 0, vi x1, vi x2] σ Q := by
  refine cl_at p169 (by omega) (w169_0 hC ?_)
  refine c168 (by omega) h1 h2 hh hlo h (fun f hf hK σ' f' m' => ⟨_, rfl, ?_⟩) (fun v hv hN hK => ⟨_, rfl, ?_⟩)
  · rw [m'.1]; exact if_n (by decide) (qf f hf hK σ' f' m')
  · rw [h.2.2.2.2.2.2]
    exact if_y rfl (h.nx (by omega) (fun σ' f' m' => ⟨rfl, qt v hv hN hK σ' f' m'⟩))
theorem c169f (hd : 5 ≤ d) {x1 x2 : Int32} (h : FM σ ff pp) (q : Q (some (vi 0)) σ) : CL L xs d 169 [vr 13 0, vi x1, vi x2] σ Q := by
  refine cl_at p169 (by omega) (w169_0 hC ?_)
  refine c168f (by omega) h ⟨_, rfl, ?_⟩
  rw [h.1]
  exact if_n (by decide) q
theorem c167 (hd : 8 ≤ d) {slot : Nat} {x1 : Int32} (h1 : x1 = nI slot) (hs : slot < 28) (h : MR σ T n c F N) (qf : ∀ f, f ≠ 0 → (∀ K, pNew T n N slot c K = .inl (f, tA T n c)) → ∀ σ', fr gRd σ σ' → FM σ' f (tA T n c) → Q none σ') (qt : (∀ K, pNew T n N slot c K = K (upN N slot (cd T n c)) (nx T n c)) → ∀ σ', fr gRd σ σ' → MR σ' T n (nx T n c) F (upN N slot (cd T n c)) → Q none σ') : CL L xs d 167 [vr 13 0, vi x1] σ Q := by
  subst h1
  refine cl_at p167 (by omega) (w167_0 hC ?_)
  have h13 := h.2.2.2.2.2.2
  rw [h13]
  refine if_y rfl ?_
  refine c165 (by omega) h (fun z σ' f' m' => ⟨rfl, ?_⟩) (fun z => ⟨rfl, ?_⟩)
  · rw [m'.1]
    exact if_n (by decide) (if_n (by decide) (qf 1 (by omega) (fun K => if_neg z) σ' f' m'))
  rw [h13]
  refine if_y rfl ?_
  have hk := isNm_i z
  have k1 := kd1 h.2.1 hk
  have hn := h.1.1
  refine c166 (by omega) h hk ⟨_, rfl, ?_⟩
  cases hl : lkN N (cd T n c) with
  | some s =>
    have ls := lkN_s hl
    refine if_n (nI_pos (by omega)) ?_
    refine c161 (by omega) h (f := 3) rfl h.at (fun σ' f' m' => ⟨rfl, ?_⟩)
    rw [m'.1]
    exact if_n (by decide) (qf 3 (by omega) (fun K => by unfold pNew; rw [if_pos z, hl]) σ' f' m')
  | none =>
    refine if_y (by decide) ?_
    rw [h13]
    refine if_y rfl ?_
    obtain ⟨a1, a2, a3, a4, a5, a6, a7⟩ := h
    obtain ⟨w8, w61⟩ := a3.2.2.2.2 hk
    have f63 : ∀ t i k, (t == 63) = true → gRd t i k = true := fun t i k h => by unfold gRd; rw [h, Bool.true_or, Bool.or_true]
    refine dm_for (n := wl T n c) (fun j σ' => g167_45 L xs (CL L xs (d - 1)) Q (nI slot) (nI j) σ') (fun j σ' => fr (fun t _ _ => t == 63) σ σ' ∧ (∀ i, i < j → σ'.1 63 0 (215 + 8 * slot + i) = nI (T (tA T n c + i))) ∧ ∀ k, (k < 215 + 8 * slot ∨ 215 + 8 * slot + 8 ≤ k) → σ'.1 63 0 k = σ.1 63 0 k) ?_ ?_ 0 σ (Nat.zero_le _) ⟨fr.id, fun i hi => absurd hi (Nat.not_lt_zero i), fun _ _ => rfl⟩
    · rintro j σ2 hj ⟨f2, g1, g2⟩ ih
      refine w167_45 hC ?_
      have e215 : (215 + (8 * nI slot)) + nI j = nI (215 + 8 * slot + j) := by rw [l215, l8, nI_mul, nI_add, nI_add]
      rw [f2.1 13 0 8 rfl, w8, e215, nI_1, nI_clamp (n := 215 + 8 * slot + j) (by omega), nI_clamp (n := j) (by omega), f2.1 61 0 j rfl, w61 j hj]
      refine if_y (nI_lt hj (by omega)) (ix_k (by omega) (by omega) (ix_k (by omega) (by omega) ?_))
      refine ih _ ⟨f2.w rfl, fun i hi => ?_, fun k hk => ?_⟩
      · by_cases e : i = j
        · rw [e, wI_same]
        · rw [wI_k (by omega)]; exact g1 i (by omega)
      · rw [wI_k (by omega)]; exact g2 k hk
    · rintro σ2 ⟨f2, g1, g2⟩
      refine w167_45 hC ?_
      have e187 : 187 + nI slot = nI (187 + slot) := by rw [l187, nI_add]
      rw [f2.1 13 0 8 rfl, w8, e187, nI_clamp (n := 187 + slot) (by omega)]
      refine if_n (nI_nlt (Nat.le_refl _) (by omega)) (ix_k (by omega) (by omega) ?_)
      have f3 : fr (fun t _ _ => t == 63) σ (m2_wI σ2 63 0 (187 + slot) (nI (wl T n c))) := f2.w rfl
      have g1' : ∀ i, i < wl T n c → (m2_wI σ2 63 0 (187 + slot) (nI (wl T n c))).1 63 0 (215 + 8 * slot + i) = nI (T (tA T n c + i)) := fun i hi => by rw [wI_k (by omega)]; exact g1 i hi
      have g3 : (m2_wI σ2 63 0 (187 + slot) (nI (wl T n c))).1 63 0 (187 + slot) = nI (wl T n c) := wI_same
      have g2' : ∀ k, (k < 215 + 8 * slot ∨ 215 + 8 * slot + 8 ≤ k) → k ≠ 187 + slot → (m2_wI σ2 63 0 (187 + slot) (nI (wl T n c))).1 63 0 k = σ.1 63 0 k := fun k hk hne => by rw [wI_k hne]; exact g2 k hk
      generalize m2_wI σ2 63 0 (187 + slot) (nI (wl T n c)) = σ3 at *
      have M3 : MR σ3 T n c F (upN N slot (cd T n c)) := by
        refine ⟨a1.fr rfl (fun _ => rfl) f3, a2, a3.fr ⟨rfl, rfl, rfl, rfl, rfl⟩ (fun _ => rfl) f3, ⟨fun k hk => by rw [g2' k (by omega) (by omega)]; exact a4.1 k hk, by rw [f3.1 _ _ _ rfl]; exact a4.2⟩, fun s hs' => ?_, a6.up a2 hk hl, by rw [f3.1 _ _ _ rfl]; exact a7⟩
        unfold upN
        by_cases es : s = slot
        · rw [if_pos es, es]
          refine ⟨fun w => absurd w (cd_pos a2 hk), fun _ => ⟨wl T n c, fun i => T (tA T n c + i), k1.2.1, k1.2.2.1, g3, fun i hi => ⟨g1' i hi, k1.2.2.2.2.2 i hi⟩, if_pos hk⟩⟩
        · rw [if_neg es]
          refine ⟨fun w => by rw [g2' _ (by omega) (by omega)]; exact (a5 s hs').1 w, fun w => ?_⟩
          obtain ⟨l, f, q1, q2, q3, q4, q5⟩ := (a5 s hs').2 w
          exact ⟨l, f, q1, q2, by rw [g2' _ (by omega) (by omega)]; exact q3, fun i hi => ⟨by rw [g2' _ (by omega) (by omega)]; exact (q4 i hi).1, (q4 i hi).2⟩, q5⟩
      exact M3.nx (by omega) (fun σ' f' m' => ⟨rfl, qt (fun K => by unfold pNew; rw [if_pos z, hl]) σ' ((f3.weak f63).trans f') m'⟩)
theorem c167f (hd : 4 ≤ d) {x1 : Int32} (h : FM σ ff pp) (q : Q none σ) : CL L xs d 167 [vr 13 0, vi x1] σ Q := by
  refine cl_at p167 (by omega) (w167_0 hC ?_)
  rw [h.1]
  exact if_n (by decide) q
theorem c172 (hd : 7 ≤ d) {lo hi : Nat} {x1 x2 : Int32} (h1 : x1 = nI lo) (h2 : x2 = nI hi) (hh : hi < 1000) (hl : lo < 1000) (h : MR σ T n c F N) (qf : ∀ f, f ≠ 0 → (∀ K, pN T n lo hi c K = .inl (f, tA T n c)) → ∀ σ', fr gRd σ σ' → FM σ' f (tA T n c) → Q (some (vi (nI lo))) σ') (qt : ∀ v, lo ≤ v → v ≤ hi → (∀ K, pN T n lo hi c K = K v (nx T n c)) → ∀ σ', fr gRd σ σ' → MR σ' T n (nx T n c) F N → Q (some (vi (nI v))) σ') : CL L xs d 172 [vr 13 0, vi x1, vi x2] σ Q := by
  subst h1; subst h2
  refine cl_at p172 (by omega) (w172_0 hC ?_)
  have h13 := h.2.2.2.2.2.2
  have k5 := kd_5 (T := T) (n := n) (c := c)
  have hT := h.2.2.1
  rw [h13, hT.1]
  refine if_y rfl ?_
  have bad : ∀ f w, w = nI f → f ≠ 0 → (∀ K, pN T n lo hi c K = .inl (f, tA T n c)) → CL L xs (d - 1) 161 [vr 13 0, vi w, vi (σ.1 13 0 4)] σ (fun r σ4 => r = none ∧ g172_50 L xs (CL L xs (d - 1)) Q (nI lo) σ4) := by
    intro f w ew hf hK
    refine c161 (by omega) h ew h.at (fun σ' f' m' => ⟨rfl, ?_⟩)
    refine w172_50 hC ?_
    rw [m'.1]
    exact if_n (by decide) (qf f hf hK σ' f' m')
  refine if_c (fun z => ?_) (fun z => ?_)
  · have z := (mk_eq _ k5).2.1.mp z
    rw [hT.2.2.2.1 z]
    have hv : tV T n c < 2 ^ 31 := by
      have ha := tA_b (T := T) h.2.1
      unfold tV
      have l2 : re T n isDi (tA T n c) - tA T n c ≤ 2 := by
        by_cases z0 : n ≤ tA T n c
        · rw [(kd_0 z0).1] at z; cases z
        cases z1 : isLo (T (tA T n c))
        · cases z2 : isDi (T (tA T n c))
          · rw [(kd_o z0 z1 z2).1] at z
            split at z
            · cases z
            split at z <;> cases z
          · rw [(kd_d z0 z1 z2).1] at z
            split at z
            · assumption
            · cases z
        · rw [(kd_l z0 z1).1] at z
          split at z <;> cases z
      have din : ∀ i, i < re T n isDi (tA T n c) - tA T n c → T (tA T n c + i) - 48 ≤ 9 := fun i hi => by
        have := isDi_b.mp (re_in ha.2 i hi); omega
      generalize re T n isDi (tA T n c) - tA T n c = l at *
      match l, l2, din with
      | 0, _, _ => exact Nat.zero_lt_succ _
      | 1, _, din => have := din 0 (by omega); show 10 * 0 + (T (tA T n c + 0) - 48) < _; omega
      | 2, _, din => have := din 0 (by omega); have := din 1 (by omega); show 10 * (10 * 0 + (T (tA T n c + 0) - 48)) + (T (tA T n c + 1) - 48) < _; omega
    refine c153 (by omega) ⟨_, rfl, ?_⟩
    have ei : inc (nI (tV T n c)) (nI lo) (nI hi) = decide (lo ≤ tV T n c ∧ tV T n c ≤ hi) := by
      unfold inc
      by_cases g : lo ≤ tV T n c ∧ tV T n c ≤ hi
      · rw [decide_eq_true (p := ¬ nI (tV T n c) < nI lo) (nI_nlt g.1 hv), decide_eq_true (p := ¬ nI hi < nI (tV T n c)) (nI_nlt g.2 (by omega)), decide_eq_true g]; rfl
      · rw [decide_eq_false g]
        by_cases g1 : lo ≤ tV T n c
        · rw [decide_eq_false (p := ¬ nI hi < nI (tV T n c)) (fun w => w (nI_lt (by omega) hv)), Bool.and_false]
        · rw [decide_eq_false (p := ¬ nI (tV T n c) < nI lo) (fun w => w (nI_lt (by omega) (by omega))), Bool.false_and]
    rw [ei]
    by_cases g : lo ≤ tV T n c ∧ tV T n c ≤ hi
    · rw [decide_eq_true g]
      refine if_n (by decide) ?_
      refine w172_50 hC ?_
      rw [h13, hT.2.2.2.1 z]
      exact if_y rfl (h.nx (by omega) (fun σ' f' m' => ⟨rfl, qt _ g.1 g.2 (pN_t z g) σ' f' m'⟩))
    · rw [decide_eq_false g]
      exact if_y rfl (bad 4 4 rfl (by omega) (fun K => pN_f (by rw [if_pos z, if_neg g]) (by omega) K))
  · have z : kd T n c ≠ 2 := fun w => z ((mk_eq _ k5).2.1.mpr w)
    exact bad 1 1 rfl (by omega) (fun K => pN_f (by rw [if_neg z]) (by omega) K)
theorem c172f (hd : 4 ≤ d) {x1 x2 : Int32} (h : FM σ ff pp) (q : Q (some (vi x1)) σ) : CL L xs d 172 [vr 13 0, vi x1, vi x2] σ Q := by
  refine cl_at p172 (by omega) (w172_0 hC ?_)
  rw [h.1]
  exact if_n (by decide) q
theorem c173 (hd : 9 ≤ d) {o lo hi : Nat} {x1 x2 : Int32} (ho : o < 28) (h1 : x1 = nI lo) (h2 : x2 = nI hi) (hh : hi < 1000) (hl : lo < 1000) (h : MR σ T n c F N) (qf : ∀ f p, f ≠ 0 → (∀ K, pW T n o c (fun c => pN T n lo hi c K) = .inl (f, p)) → ∀ σ', fr gRd σ σ' → FM σ' f p → Q (some (vi (nI lo))) σ') (qt : ∀ v c', lo ≤ v → v ≤ hi → (∀ K, pW T n o c (fun c => pN T n lo hi c K) = K v c') → ∀ σ', fr gRd σ σ' → MR σ' T n c' F N → Q (some (vi (nI v))) σ') : CL L xs d 173 [vr 13 0, vr 90 o, vi x1, vi x2] σ Q := by
  refine cl_at p173 (by omega) (w173_0 hC ?_)
  refine c164 (by omega) h ho (fun z σ1 f1 m1 => ⟨rfl, ?_⟩) (fun z σ1 f1 m1 => ⟨rfl, ?_⟩)
  · refine cl_at p172 (by omega) (w172_0 hC ?_)
    rw [m1.1, h1]
    exact if_n (by decide) ⟨_, rfl, qf 1 _ (by omega) (fun K => pW_f z _) σ1 f1 m1⟩
  · refine c172 (by omega) h1 h2 hh hl m1 (fun f hf hK σ2 f2 m2 => ⟨_, rfl, qf f _ hf (fun K => (pW_t z _).trans (hK K)) σ2 (f1.trans f2) m2⟩) (fun v v1 v2 hK σ2 f2 m2 => ⟨_, rfl, qt v _ v1 v2 (fun K => (pW_t z _).trans (hK K)) σ2 (f1.trans f2) m2⟩)
theorem c173f (hd : 5 ≤ d) {o : Nat} {x1 x2 : Int32} (h : FM σ ff pp) (q : Q (some (vi x1)) σ) : CL L xs d 173 [vr 13 0, vr 90 o, vi x1, vi x2] σ Q := by
  refine cl_at p173 (by omega) (w173_0 hC ?_)
  refine c164f (by omega) h ⟨rfl, ?_⟩
  exact c172f (by omega) h ⟨_, rfl, q⟩
theorem c174 (hd : 7 ≤ d) (h : MR σ T n c F N) (q0 : kd T n c ≠ 4 → Q (some (vi 0)) σ) (q1 : kd T n c = 4 → ∀ σ', fr gRd σ σ' → MR σ' T n (nx T n c) F N → Q (some (vi 1)) σ') : CL L xs d 174 [vr 13 0] σ Q := by
  refine cl_at p174 (by omega) (w174_0 hC ?_)
  have k5 := kd_5 (T := T) (n := n) (c := c)
  rw [h.2.2.2.2.2.2, h.2.2.1.1]
  refine if_y rfl ?_
  refine if_c (fun z => ?_) (fun z => q0 (fun w => z ((mk_eq _ k5).2.2.2.1.mpr w)))
  exact h.nx (by omega) (fun σ' f' m' => ⟨rfl, q1 ((mk_eq _ k5).2.2.2.1.mp z) σ' f' m'⟩)
theorem c174f (hd : 4 ≤ d) (h : FM σ ff pp) (q : Q (some (vi 0)) σ) : CL L xs d 174 [vr 13 0] σ Q := by
  refine cl_at p174 (by omega) (w174_0 hC ?_)
  rw [h.1]
  exact if_n (by decide) q
theorem c180 (hd : 9 ≤ d) (h : MR σ T n c F N) (qf : ∀ f p, f ≠ 0 → (∀ K, pHow T n c K = .inl (f, p)) → ∀ σ', fr gRd σ σ' → FM σ' f p → ∀ v, Q (some (vi v)) σ') (qt : ∀ u, (u = 0 ∨ u = 1) → (∀ K, pHow T n c K = K u (nx T n c)) → ∀ σ', fr gRd σ σ' → MR σ' T n (nx T n c) F N → Q (some (vi u)) σ') : CL L xs d 180 [vr 13 0] σ Q := by
  refine cl_at p180 (by omega) (w180_0 hC ?_)
  refine c163 (by omega) h (o := 15) (by omega) (fun z => ⟨_, rfl, if_y rfl ?_⟩) (fun z σ1 f1 m1 => ⟨_, rfl, if_n (by decide) (qt 1 (Or.inr rfl) (fun K => by unfold pHow; rw [if_pos z]) σ1 f1 m1)⟩)
  refine c164 (by omega) h (o := 14) (by omega) (fun z1 σ1 f1 m1 => ⟨rfl, ?_⟩) (fun z1 σ1 f1 m1 => ⟨rfl, ?_⟩)
  · exact qf 1 _ (by omega) (fun K => by unfold pHow; rw [if_neg z, if_neg z1]) σ1 f1 m1 0
  · exact qt 0 (Or.inl rfl) (fun K => by unfold pHow; rw [if_neg z, if_pos z1]) σ1 f1 m1
theorem c180f (hd : 6 ≤ d) (h : FM σ ff pp) (q : Q (some (vi 0)) σ) : CL L xs d 180 [vr 13 0] σ Q := by
  refine cl_at p180 (by omega) (w180_0 hC ?_)
  refine c163f (by omega) h ⟨_, rfl, if_y rfl ?_⟩
  exact c164f (by omega) h ⟨rfl, q⟩
end MPRS
