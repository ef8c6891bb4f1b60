/-! CALLS of the model: look, lookMost; copies of rows -/
def cj (g : Nat → Int32) (x : Int32) : Nat → Nat
  | 0 => 0
  | j + 1 => if g j = x then cj g x j + 1 else cj g x j
theorem cj_s {g : Nat → Int32} {x : Int32} {j : Nat} : cj g x (j + 1) = if g j = x then cj g x j + 1 else cj g x j := rfl
theorem cj_le {g : Nat → Int32} {x : Int32} : ∀ n, cj g x n ≤ n
  | 0 => Nat.le_refl _
  | n + 1 => by
    have := cj_le (g := g) (x := x) n
    unfold cj
    split <;> omega
theorem cj_eq {g : Nat → Int32} {x : Int32} {F : Int32 → Int32} {l : List Int32} (h : ∀ i c, l[i]? = some c → g i = F c) : ∀ n, n ≤ l.length → cj g x n = (l.take n).countP (fun c => F c == x)
  | 0, _ => rfl
  | n + 1, hn => by
    have e : l[n]? = some (l[n]'(by omega)) := List.getElem?_eq_getElem _
    unfold cj
    rw [cj_eq h n (by omega), List.take_succ, e, List.countP_append, h n _ e]
    show _ = _ + List.countP _ [l[n]'(by omega)]
    rw [List.countP_cons, List.countP_nil]
    by_cases z : F (l[n]'(by omega)) = x
    · simp [z]
    · simp [z]
theorem mx_eq {F f : Nat → Nat} {n m : Nat} (h1 : ∀ i, i < n → ∃ v, v < m ∧ F i = f v) (h2 : ∀ v, v < m → f v = 0 ∨ ∃ i, i < n ∧ F i = f v) : mx F n = mx f m := by
  apply Nat.le_antisymm
  · refine mx_le (fun i hi => ?_)
    obtain ⟨v, hv, e⟩ := h1 i hi
    rw [e]; exact le_mx hv
  · refine mx_le (fun v hv => ?_)
    rcases h2 v hv with e | ⟨i, hi, e⟩
    · omega
    · rw [← e]; exact le_mx hi
theorem left_eq {R : Nat → Int32} {C : Nat → Bool} {P : Pl} {k t : Nat} (hR : okR R) (ht : t < gN R 4) {g : Nat → Int32} (h : ∀ i c, (chs R C P (gN R 7))[i]? = some c → g i = lvl R C P k t c) : mx (fun i => cj g (g i) (chs R C P (gN R 7)).length) (chs R C P (gN R 7)).length = lft R C P k t := by
  have e : ∀ v, cj g (nI v) (chs R C P (gN R 7)).length = cnl R C P k t (gN R 7) v := fun v => by
    rw [cj_eq h _ (Nat.le_refl _), List.take_length]; rfl
  refine mx_eq (fun i hi => ?_) (fun v hv => ?_)
  · have e1 : (chs R C P (gN R 7))[i]? = some ((chs R C P (gN R 7))[i]'hi) := List.getElem?_eq_getElem _
    obtain ⟨v, hv, ev⟩ := lvl_b hR C P k ht ((chs R C P (gN R 7))[i]'hi)
    refine ⟨v, hv, ?_⟩
    show cj g (g i) _ = _
    rw [h i _ e1, ev, e v]
  · rcases Nat.eq_zero_or_pos (cnl R C P k t (gN R 7) v) with z | z
    · exact Or.inl z
    · obtain ⟨c, hc, hcv⟩ := List.countP_pos_iff.mp z
      obtain ⟨i, hi, ei⟩ := List.getElem_of_mem hc
      refine Or.inr ⟨i, hi, ?_⟩
      show cj g (g i) _ = _
      have e1 : (chs R C P (gN R 7))[i]? = some c := by rw [List.getElem?_eq_getElem hi, ei]
      rw [h i c e1, eq_of_beq hcv, e v]
def gLk : Nat → Nat → Nat → Bool := fun t i k => gRn t i k || (t == 69 || (t == 13 && k == 27))
theorem gLk_O : ∀ t i k, gLk t i k = true → gO t i k = true := by
  intro t i k h
  unfold gLk at h
  rcases Bool.or_eq_true_iff.mp h with h | h
  · exact gRn_O t i k h
  · unfold gO
    simp only [Bool.or_eq_true, Bool.and_eq_true, beq_iff_eq, decide_eq_true_eq] at *
    omega
theorem gRn_Lk : ∀ t i k, gRn t i k = true → gLk t i k = true := fun t i k h => by unfold gLk; rw [h]; rfl
def fCp (B b n : Nat) : Nat → Nat → Nat → Bool := fun t i k => t == B && (i == 0 && (decide (b ≤ k) && decide (k < b + n)))
theorem fCp_in {B b n k : Nat} (h1 : b ≤ k) (h2 : k < b + n) : fCp B b n B 0 k = true := by unfold fCp; simp [h1, h2]
theorem fCp_t {B b n t i k : Nat} (h : t ≠ B) : fCp B b n t i k = false := by unfold fCp; simp [h]
theorem fCp_k {B b n t i k : Nat} (h : ¬ (b ≤ k ∧ k < b + n)) : fCp B b n t i k = false := by
  cases e : fCp B b n t i k
  · rfl
  · unfold fCp at e
    simp only [Bool.and_eq_true, beq_iff_eq, decide_eq_true_eq] at e
    exact absurd e.2.2 h
section OP6
variable {L : Nat} {xs : Nat → Int32} {d : Nat} {Q : Option dm_V → M2 → Prop} {σ : M2} {μ : Nat} {R : Nat → Int32} {C : Nat → Bool} {h : Bool}
theorem c233 (hd : 7 ≤ d) {p k t : Nat} {x1 : Int32} (hX : mX σ R C) (h1 : x1 = nI p) (hp : p < gN R 6) (hk : k < 100) (ht : t < gN R 4) (q : ∀ σ', fr gLk σ σ' → σ'.1 13 0 27 = σ.1 13 0 27 → Q (some (vi (nI (lft R C (plR R p) k t)))) σ') : CL L xs d 233 [vr 13 0, vi x1, vi (nI k), vi (nI t)] σ Q := by
  refine cl_at p233 (by omega) (w233_0 hC ?_)
  have hT := hX.1.cT
  have hS := hX.1.cS
  have kk := hX.1.pl hp
  have K : ∀ {σ1 : M2}, fr gLk σ σ1 → mX σ1 R C := fun f => hX.fr (fun _ => ⟨rfl, rfl⟩) f
  have s50 : ∀ (l : List Int32) (c x5 : Int32) (σ1 : M2), l.length < 8 → isC R c → fr gLk σ σ1 → σ1.1 13 0 27 = σ.1 13 0 27 → (∀ i c, l[i]? = some c → σ1.1 69 0 i = lvl R C (plR R p) k t c) →
      (∀ σ2, fr gLk σ σ2 → σ2.1 13 0 27 = σ.1 13 0 27 → (∀ i c', (l ++ [c])[i]? = some c' → σ2.1 69 0 i = lvl R C (plR R p) k t c') → g233_6 L xs (CL L xs (d - 1)) Q x1 (nI k) (nI t) (nI (l ++ [c]).length) (x5 + 1) σ2) → g233_50 L xs (CL L xs (d - 1)) Q x1 (nI k) (nI t) (nI l.length) x5 c σ1 := by
    intro l c x5 σ1 hl hc f1 e27 hsn nx
    refine w233_50 hC ?_
    refine c202 (by omega) h1 (K f1) hp (fun σ2 f2 v2 => ⟨rfl, ?_⟩)
    have X2 := (K f1).fr (fun _ => ⟨rfl, rfl⟩) f2
    refine c205 (by omega) hc X2 v2 (kk.up (by omega)) (fun σ3 f3 v3 => ⟨rfl, ?_⟩)
    have X3 := X2.fr (fun _ => ⟨rfl, rfl⟩) f3
    refine c206 (most := k) (by omega) rfl (by omega) X3 v3 ((okP_mkc hX.1 kk hc).up (by omega)) (fun σ4 f4 l4 _ => ⟨rfl, ?_⟩)
    have f4' : fr gRn σ1 σ4 := ((f2.trans f3).weak gSt_Rn).trans (f4.weak gLv_Rn)
    rw [nI_clamp (n := t) (by omega), nI_clamp (n := l.length) (by omega), l4 t ht, nI_1]
    refine ix_k (by omega) (by omega) (ix_k (by omega) (by omega) ?_)
    have nx := nx (m2_wI σ4 69 0 l.length (lvl R C (plR R p) k t c)) ((f1.trans (f4'.weak gRn_Lk)).w rfl) (by rw [wI_t (by decide), f4'.1 _ _ _ rfl]; exact e27) (fun i c' e => by
      rcases Nat.lt_or_ge i l.length with z | z
      · rw [List.getElem?_append_left z] at e
        rw [wI_k (by omega), f4'.1 _ _ _ rfl]; exact hsn i c' e
      · rw [List.getElem?_append_right z] at e
        have z2 : i = l.length := by
          rcases Nat.eq_or_lt_of_le z with z | z
          · exact z.symm
          · have : i - l.length = (i - l.length - 1) + 1 := by omega
            rw [this] at e; cases e
        subst z2
        rw [Nat.sub_self] at e
        cases e
        rw [wI_same])
    rw [List.length_append] at nx
    exact nx
  have l6 : ∀ m s σ1, s + m = gN R 7 → fr gLk σ σ1 → σ1.1 13 0 27 = σ.1 13 0 27 → (∀ i c, (chs R C (plR R p) s)[i]? = some c → σ1.1 69 0 i = lvl R C (plR R p) k t c) → g233_6 L xs (CL L xs (d - 1)) Q x1 (nI k) (nI t) (nI (chs R C (plR R p) s).length) (nI s) σ1 := by
    intro m
    induction m with
    | zero =>
      intro s σ1 hs f1 e27 hsn
      obtain rfl : s = gN R 7 := hs
      have hln := chs_len (R := R) (C := C) (P := plR R p) (gN R 7)
      refine w233_6 hC ?_
      rw [(K f1).2.1, hS.2]
      refine if_nlt (Nat.le_refl _) (by omega) ?_
      have fin := q σ1 f1 e27
      rw [← left_eq (g := fun i => σ1.1 69 0 i) hX.1 ht hsn] at fin
      generalize hn : (chs R C (plR R p) (gN R 7)).length = n at *
      refine dm_for (n := n) (fun i σ => g233_94 L xs (CL L xs (d - 1)) Q (nI n) (nI (mx (fun i => cj (fun i => σ1.1 69 0 i) (σ1.1 69 0 i) n) i)) (nI i) σ) (fun _ σ' => σ' = σ1) ?_ ?_ 0 _ (Nat.zero_le _) rfl
      · rintro i σ' hi rfl ih
        refine w233_94 hC ?_
        refine if_lt hi (by omega) ?_
        have hb := mx_le (f := fun i => cj (fun i => σ'.1 69 0 i) (σ'.1 69 0 i) n) (b := n) (n := i) (fun _ _ => cj_le n)
        refine dm_for (n := n) (fun j σ => g233_107 L xs (CL L xs (d - 1)) Q (nI n) (nI (mx (fun i => cj (fun i => σ'.1 69 0 i) (σ'.1 69 0 i) n) i)) (nI i) (nI (cj (fun i => σ'.1 69 0 i) (σ'.1 69 0 i) j)) (nI j) σ) (fun _ σ2 => σ2 = σ') ?_ ?_ 0 _ (Nat.zero_le _) rfl
        · rintro j σ2 hj rfl ih2
          refine w233_107 hC ?_
          rw [nI_clamp (n := j) (by omega), nI_clamp (n := i) (by omega), nI_1 j, nI_1, Int32.add_zero]
          refine if_lt hj (by omega) (ix_k (by omega) (by omega) (ix_k (by omega) (by omega) ?_))
          have ih2 := ih2 _ rfl
          rw [cj_s] at ih2
          refine if_c (fun z => ?_) (fun z => ?_)
          · rw [if_pos z] at ih2; exact ih2
          · rw [if_neg z] at ih2; exact ih2
        · rintro σ2 rfl
          refine w233_107 hC ?_
          rw [nI_1 i]
          refine if_nlt (Nat.le_refl _) (by omega) ?_
          have ih := ih _ rfl
          have hc := cj_le (g := fun i => σ2.1 69 0 i) (x := σ2.1 69 0 i) n
          have ih : g233_94 L xs (CL L xs (d - 1)) Q (nI n) (nI (if mx (fun i => cj (fun i => σ2.1 69 0 i) (σ2.1 69 0 i) n) i < cj (fun i => σ2.1 69 0 i) (σ2.1 69 0 i) n then cj (fun i => σ2.1 69 0 i) (σ2.1 69 0 i) n else mx (fun i => cj (fun i => σ2.1 69 0 i) (σ2.1 69 0 i) n) i)) (nI (i + 1)) σ2 := ih
          refine if_c (fun z => ?_) (fun z => ?_)
          · rw [if_pos ((nI_ltI (by omega) (by omega)).mp z)] at ih; exact ih
          · rw [if_neg (fun z' => z (nI_lt z' (by omega)))] at ih; exact ih
      · rintro σ' rfl
        refine w233_94 hC ?_
        exact if_nlt (Nat.le_refl _) (by omega) fin
    | succ m ih =>
      intro s σ1 hs f1 e27 hsn
      have hln := chs_len (R := R) (C := C) (P := plR R p) s
      refine w233_6 hC ?_
      rw [(K f1).2.1, hS.2]
      have hn0 : ¬ nI s < 0 := nI_pos (by omega)
      refine if_lt (by omega) (by omega) (if_n hn0 (if_n hn0 ?_))
      refine c212 (by omega) (K f1) h1 hp rfl (by omega) (fun σ2 f2 => ⟨_, rfl, ?_⟩)
      have f2' := f1.trans (f2.weak gRn_Lk)
      have e2 : σ2.1 13 0 27 = σ.1 13 0 27 := by rw [f2.1 _ _ _ rfl]; exact e27
      have s2 : ∀ i c, (chs R C (plR R p) s)[i]? = some c → σ2.1 69 0 i = lvl R C (plR R p) k t c := fun i c e => by rw [f2.1 _ _ _ rfl]; exact hsn i c e
      have ih := ih (s + 1)
      unfold chs at ih
      refine if_b (fun z => ?_) (fun z => ?_)
      · rw [if_neg (by unfold fit; rw [z]; decide)] at ih
        rw [nI_1]
        exact ih σ2 (by omega) f2' e2 s2
      · rw [if_pos (by unfold fit; exact z)] at ih
        refine s50 _ _ _ σ2 (by omega) (isC_s (by omega)) f2' e2 s2 (fun σ3 f3 e3 s3 => ?_)
        rw [nI_1]
        exact ih σ3 (by omega) f3 e3 s3
  refine w233_6 hC ?_
  rw [hX.2.1, hS.2]
  refine if_y ?_ (if_y (by decide) (if_y (by decide) ?_))
  · rcases Int32.lt_iff_toInt_lt.mpr (show (-1 : Int32).toInt < (nI (gN R 7)).toInt from by rw [nI_toInt (by omega)]; show (-1 : Int) < _; omega) with z
    exact z
  · refine s50 [] (-2) (-1) σ (by decide) isC_2 fr.id rfl (fun i c e => by cases e) (fun σ2 f2 e2 s2 => ?_)
    exact l6 (gN R 7) 0 σ2 (Nat.zero_add _) f2 e2 s2
theorem c232 (hd : 8 ≤ d) {p : Nat} {x1 : Int32} (hX : mX σ R C) (h1 : x1 = nI p) (hp : p < gN R 6) (q : ∀ σ', fr gLk σ σ' → σ'.1 13 0 27 = (k_look R C (plR R p) (-1, 1000000)).2 → Q (some (vi (k_look R C (plR R p) (-1, 1000000)).1)) σ') : CL L xs d 232 [vr 13 0, vi x1] σ Q := by
  refine cl_at p232 (by omega) (w232_0 hC ?_)
  have hT := hX.1.cT
  have h6 := (hX.1.pl hp).1
  have K : ∀ {σ1 : M2}, fr gLk σ σ1 → mX σ1 R C := fun f => hX.fr (fun _ => ⟨rfl, rfl⟩) f
  refine dm_fj (n := (plR R p).1 + 1) (lkO R C (plR R p)) (fun k a σ => g232_11 L xs (CL L xs (d - 1)) Q x1 a.1 (nI k) σ) (fun _ a σ' => fr gLk σ σ' ∧ σ'.1 13 0 27 = a.2) ?_ _ 0 (-1, 1000000) _ (Nat.zero_add _) ⟨fr.id.w rfl, wI_same⟩ ?_
  · rintro k a σ' hk ⟨hf, ha⟩ ih
    refine w232_11 hC ?_
    refine c198 (by omega) h1 (K hf) hp ⟨_, rfl, ?_⟩
    refine if_nlt (by show k ≤ (plR R p).1; omega) (by show (plR R p).1 < _; omega) ?_
    refine dm_fj (n := gN R 4) (lkI R C (plR R p) k) (fun t a σ => g232_23 L xs (CL L xs (d - 1)) Q x1 a.1 (nI k) (nI t) σ) (fun _ a σ' => fr gLk σ σ' ∧ σ'.1 13 0 27 = a.2) ?_ _ 0 a σ' (Nat.zero_add _) ⟨hf, ha⟩ ?_
    · rintro t a σ' ht ⟨hf, ha⟩ ih2
      refine w232_23 hC ?_
      rw [(K hf).2.1, hT.2, nI_1]
      refine if_lt ht (by omega) ?_
      refine c233 (by omega) (K hf) h1 hp (by omega) ht (fun σ2 f2 e2 => ⟨_, rfl, ?_⟩)
      rw [e2, ha]
      unfold lkI at ih2
      refine if_c (fun z => ?_) (fun z => ?_)
      · rw [if_pos z] at ih2
        exact ih2 _ ⟨(hf.trans f2).w rfl, wI_same⟩
      · rw [if_neg z] at ih2
        exact ih2 _ ⟨hf.trans f2, by rw [e2]; exact ha⟩
    · rintro σ' ⟨hf, ha⟩
      refine w232_23 hC ?_
      rw [(K hf).2.1, hT.2, nI_1 k]
      exact if_nlt (Nat.le_refl _) (by omega) (ih σ' ⟨hf, ha⟩)
  · rintro σ' ⟨hf, ha⟩
    refine w232_11 hC ?_
    refine c198 (by omega) h1 (K hf) hp ⟨_, rfl, ?_⟩
    exact if_lt (by show (plR R p).1 < _; omega) (by omega) (q σ' hf ha)
theorem o234 (hd : 9 ≤ d) {p : Int32} (hY : mY σ R C h) (q : ∀ σ', mG σ σ' (a_look R C p).2 → Q (some (vi (a_look R C p).1)) σ') : CL L xs d 234 [vr 13 0, vi p] σ Q := by
  refine cl_at p234 (by omega) (w234_0 hC ?_)
  refine c150 (by omega) (fun σ1 g1 => ⟨rfl, ?_⟩)
  have Y1 := mY_o hY g1.1
  unfold a_look at q
  refine c190 (by omega) Y1 ⟨_, rfl, ?_⟩
  refine if_b (fun z => ?_) (fun z => ?_)
  · rw [if_neg (by rw [z]; decide)] at q
    exact c151 (by omega) g1 q
  rw [if_pos z] at q
  obtain ⟨hp, ep, hp4⟩ := pl_im hY.1.1 z
  exact c232 (by omega) Y1.1 ep hp (fun σ2 f2 _ => ⟨_, rfl, q σ2 (g1.o gLk_O rfl rfl f2)⟩)
theorem o235 (hd : 9 ≤ d) {p : Int32} (hY : mY σ R C h) (q : ∀ σ', mG σ σ' (a_lookM R C p).2 → Q (some (vi (a_lookM R C p).1)) σ') : CL L xs d 235 [vr 13 0, vi p] σ Q := by
  refine cl_at p235 (by omega) (w235_0 hC ?_)
  refine c150 (by omega) (fun σ1 g1 => ⟨rfl, ?_⟩)
  have Y1 := mY_o hY g1.1
  unfold a_lookM at q
  refine c190 (by omega) Y1 ⟨_, rfl, ?_⟩
  refine if_b (fun z => ?_) (fun z => ?_)
  · rw [if_neg (by rw [z]; decide)] at q
    exact c151 (by omega) g1 q
  rw [if_pos z] at q
  obtain ⟨hp, ep, hp4⟩ := pl_im hY.1.1 z
  refine c232 (by omega) Y1.1 ep hp (fun σ2 f2 e2 => ⟨_, rfl, ?_⟩)
  rw [e2]
  exact q σ2 (g1.o gLk_O rfl rfl f2)
theorem c155_63_62 (hd : 4 ≤ d) {a b n : Nat} {x1 x3 x4 : Int32} (h1 : x1 = nI a) (h3 : x3 = nI b) (h4 : x4 = nI n) (ha : a + n ≤ 439) (hb : b + n ≤ 439) (q : ∀ σ', fr (fCp 62 b n) σ σ' → (∀ k, k < n → σ'.1 62 0 (b + k) = σ.1 63 0 (a + k)) → Q none σ') : CL L xs d 155 [vr 63 0, vi x1, vr 62 0, vi x3, vi x4] σ Q := by
  subst h1; subst h3; subst h4
  refine cl_at p155 hd (w155_63_62_0 hC ?_)
  refine dm_for (n := n) (fun k σ => g155_63_62_3 L xs (CL L xs (d - 1)) Q (nI a) (nI b) (nI n) (nI k) σ) (fun k σ' => fr (fCp 62 b n) σ σ' ∧ ∀ i, i < k → σ'.1 62 0 (b + i) = σ.1 63 0 (a + i)) ?_ ?_ 0 _ (Nat.zero_le _) ⟨fr.id, fun i hi => absurd hi (Nat.not_lt_zero i)⟩
  · rintro k σ' hk ⟨hf, h0⟩ ih
    refine w155_63_62_3 hC ?_
    rw [nI_add, nI_add, nI_clamp (n := a + k) (by omega), nI_clamp (n := b + k) (by omega), nI_1]
    refine if_lt hk (by omega) (ix_k (by omega) (by omega) (ix_k (by omega) (by omega) ?_))
    refine ih _ ⟨hf.w (fCp_in (by omega) (by omega)), fun i hi => ?_⟩
    by_cases e : i = k
    · rw [e, wI_same, hf.1 _ _ _ (fCp_t (by decide))]
    · rw [wI_k (by omega)]; exact h0 i (by omega)
  · rintro σ' ⟨hf, h0⟩
    refine w155_63_62_3 hC ?_
    exact if_nlt (Nat.le_refl _) (by omega) (q σ' hf h0)
theorem c155_67_70 (hd : 4 ≤ d) {a b n : Nat} {x1 x3 x4 : Int32} (h1 : x1 = nI a) (h3 : x3 = nI b) (h4 : x4 = nI n) (ha : a + n ≤ 12) (hb : b + n ≤ 12) (q : ∀ σ', fr (fCp 70 b n) σ σ' → (∀ k, k < n → σ'.1 70 0 (b + k) = σ.1 67 0 (a + k)) → Q none σ') : CL L xs d 155 [vr 67 0, vi x1, vr 70 0, vi x3, vi x4] σ Q := by
  subst h1; subst h3; subst h4
  refine cl_at p155 hd (w155_67_70_0 hC ?_)
  refine dm_for (n := n) (fun k σ => g155_67_70_3 L xs (CL L xs (d - 1)) Q (nI a) (nI b) (nI n) (nI k) σ) (fun k σ' => fr (fCp 70 b n) σ σ' ∧ ∀ i, i < k → σ'.1 70 0 (b + i) = σ.1 67 0 (a + i)) ?_ ?_ 0 _ (Nat.zero_le _) ⟨fr.id, fun i hi => absurd hi (Nat.not_lt_zero i)⟩
  · rintro k σ' hk ⟨hf, h0⟩ ih
    refine w155_67_70_3 hC ?_
    rw [nI_add, nI_add, nI_clamp (n := a + k) (by omega), nI_clamp (n := b + k) (by omega), nI_1]
    refine if_lt hk (by omega) (ix_k (by omega) (by omega) (ix_k (by omega) (by omega) ?_))
    refine ih _ ⟨hf.w (fCp_in (by omega) (by omega)), fun i hi => ?_⟩
    by_cases e : i = k
    · rw [e, wI_same, hf.1 _ _ _ (fCp_t (by decide))]
    · rw [wI_k (by omega)]; exact h0 i (by omega)
  · rintro σ' ⟨hf, h0⟩
    refine w155_67_70_3 hC ?_
    exact if_nlt (Nat.le_refl _) (by omega) (q σ' hf h0)
theorem c155_70_67 (hd : 4 ≤ d) {a b n : Nat} {x1 x3 x4 : Int32} (h1 : x1 = nI a) (h3 : x3 = nI b) (h4 : x4 = nI n) (ha : a + n ≤ 12) (hb : b + n ≤ 12) (q : ∀ σ', fr (fCp 67 b n) σ σ' → (∀ k, k < n → σ'.1 67 0 (b + k) = σ.1 70 0 (a + k)) → Q none σ') : CL L xs d 155 [vr 70 0, vi x1, vr 67 0, vi x3, vi x4] σ Q := by
  subst h1; subst h3; subst h4
  refine cl_at p155 hd (w155_70_67_0 hC ?_)
  refine dm_for (n := n) (fun k σ => g155_70_67_3 L xs (CL L xs (d - 1)) Q (nI a) (nI b) (nI n) (nI k) σ) (fun k σ' => fr (fCp 67 b n) σ σ' ∧ ∀ i, i < k → σ'.1 67 0 (b + i) = σ.1 70 0 (a + i)) ?_ ?_ 0 _ (Nat.zero_le _) ⟨fr.id, fun i hi => absurd hi (Nat.not_lt_zero i)⟩
  · rintro k σ' hk ⟨hf, h0⟩ ih
    refine w155_70_67_3 hC ?_
    rw [nI_add, nI_add, nI_clamp (n := a + k) (by omega), nI_clamp (n := b + k) (by omega), nI_1]
    refine if_lt hk (by omega) (ix_k (by omega) (by omega) (ix_k (by omega) (by omega) ?_))
    refine ih _ ⟨hf.w (fCp_in (by omega) (by omega)), fun i hi => ?_⟩
    by_cases e : i = k
    · rw [e, wI_same, hf.1 _ _ _ (fCp_t (by decide))]
    · rw [wI_k (by omega)]; exact h0 i (by omega)
  · rintro σ' ⟨hf, h0⟩
    refine w155_70_67_3 hC ?_
    exact if_nlt (Nat.le_refl _) (by omega) (q σ' hf h0)
theorem c155_73_74 (hd : 4 ≤ d) {a b n : Nat} {x1 x3 x4 : Int32} (h1 : x1 = nI a) (h3 : x3 = nI b) (h4 : x4 = nI n) (ha : a + n ≤ 7) (hb : b + n ≤ 7) (q : ∀ σ', fr (fCp 74 b n) σ σ' → (∀ k, k < n → σ'.1 74 0 (b + k) = σ.1 73 0 (a + k)) → Q none σ') : CL L xs d 155 [vr 73 0, vi x1, vr 74 0, vi x3, vi x4] σ Q := by
  subst h1; subst h3; subst h4
  refine cl_at p155 hd (w155_73_74_0 hC ?_)
  refine dm_for (n := n) (fun k σ => g155_73_74_3 L xs (CL L xs (d - 1)) Q (nI a) (nI b) (nI n) (nI k) σ) (fun k σ' => fr (fCp 74 b n) σ σ' ∧ ∀ i, i < k → σ'.1 74 0 (b + i) = σ.1 73 0 (a + i)) ?_ ?_ 0 _ (Nat.zero_le _) ⟨fr.id, fun i hi => absurd hi (Nat.not_lt_zero i)⟩
  · rintro k σ' hk ⟨hf, h0⟩ ih
    refine w155_73_74_3 hC ?_
    rw [nI_add, nI_add, nI_clamp (n := a + k) (by omega), nI_clamp (n := b + k) (by omega), nI_1]
    refine if_lt hk (by omega) (ix_k (by omega) (by omega) (ix_k (by omega) (by omega) ?_))
    refine ih _ ⟨hf.w (fCp_in (by omega) (by omega)), fun i hi => ?_⟩
    by_cases e : i = k
    · rw [e, wI_same, hf.1 _ _ _ (fCp_t (by decide))]
    · rw [wI_k (by omega)]; exact h0 i (by omega)
  · rintro σ' ⟨hf, h0⟩
    refine w155_73_74_3 hC ?_
    exact if_nlt (Nat.le_refl _) (by omega) (q σ' hf h0)
theorem c155_64_65 (hd : 4 ≤ d) {a b n : Nat} {x1 x3 x4 : Int32} (h1 : x1 = nI a) (h3 : x3 = nI b) (h4 : x4 = nI n) (ha : a + n ≤ 23) (hb : b + n ≤ 276) (q : ∀ σ', fr (fCp 65 b n) σ σ' → (∀ k, k < n → σ'.1 65 0 (b + k) = σ.1 64 0 (a + k)) → Q none σ') : CL L xs d 155 [vr 64 0, vi x1, vr 65 0, vi x3, vi x4] σ Q := by
  subst h1; subst h3; subst h4
  refine cl_at p155 hd (w155_64_65_0 hC ?_)
  refine dm_for (n := n) (fun k σ => g155_64_65_3 L xs (CL L xs (d - 1)) Q (nI a) (nI b) (nI n) (nI k) σ) (fun k σ' => fr (fCp 65 b n) σ σ' ∧ ∀ i, i < k → σ'.1 65 0 (b + i) = σ.1 64 0 (a + i)) ?_ ?_ 0 _ (Nat.zero_le _) ⟨fr.id, fun i hi => absurd hi (Nat.not_lt_zero i)⟩
  · rintro k σ' hk ⟨hf, h0⟩ ih
    refine w155_64_65_3 hC ?_
    rw [nI_add, nI_add, nI_clamp (n := a + k) (by omega), nI_clamp (n := b + k) (by omega), nI_1]
    refine if_lt hk (by omega) (ix_k (by omega) (by omega) (ix_k (by omega) (by omega) ?_))
    refine ih _ ⟨hf.w (fCp_in (by omega) (by omega)), fun i hi => ?_⟩
    by_cases e : i = k
    · rw [e, wI_same, hf.1 _ _ _ (fCp_t (by decide))]
    · rw [wI_k (by omega)]; exact h0 i (by omega)
  · rintro σ' ⟨hf, h0⟩
    refine w155_64_65_3 hC ?_
    exact if_nlt (Nat.le_refl _) (by omega) (q σ' hf h0)
theorem c155_65_64 (hd : 4 ≤ d) {a b n : Nat} {x1 x3 x4 : Int32} (h1 : x1 = nI a) (h3 : x3 = nI b) (h4 : x4 = nI n) (ha : a + n ≤ 276) (hb : b + n ≤ 23) (q : ∀ σ', fr (fCp 64 b n) σ σ' → (∀ k, k < n → σ'.1 64 0 (b + k) = σ.1 65 0 (a + k)) → Q none σ') : CL L xs d 155 [vr 65 0, vi x1, vr 64 0, vi x3, vi x4] σ Q := by
  subst h1; subst h3; subst h4
  refine cl_at p155 hd (w155_65_64_0 hC ?_)
  refine dm_for (n := n) (fun k σ => g155_65_64_3 L xs (CL L xs (d - 1)) Q (nI a) (nI b) (nI n) (nI k) σ) (fun k σ' => fr (fCp 64 b n) σ σ' ∧ ∀ i, i < k → σ'.1 64 0 (b + i) = σ.1 65 0 (a + i)) ?_ ?_ 0 _ (Nat.zero_le _) ⟨fr.id, fun i hi => absurd hi (Nat.not_lt_zero i)⟩
  · rintro k σ' hk ⟨hf, h0⟩ ih
    refine w155_65_64_3 hC ?_
    rw [nI_add, nI_add, nI_clamp (n := a + k) (by omega), nI_clamp (n := b + k) (by omega), nI_1]
    refine if_lt hk (by omega) (ix_k (by omega) (by omega) (ix_k (by omega) (by omega) ?_))
    refine ih _ ⟨hf.w (fCp_in (by omega) (by omega)), fun i hi => ?_⟩
    by_cases e : i = k
    · rw [e, wI_same, hf.1 _ _ _ (fCp_t (by decide))]
    · rw [wI_k (by omega)]; exact h0 i (by omega)
  · rintro σ' ⟨hf, h0⟩
    refine w155_65_64_3 hC ?_
    exact if_nlt (Nat.le_refl _) (by omega) (q σ' hf h0)
theorem c155_64_66 (hd : 4 ≤ d) {a b n : Nat} {x1 x3 x4 : Int32} (h1 : x1 = nI a) (h3 : x3 = nI b) (h4 : x4 = nI n) (ha : a + n ≤ 23) (hb : b + n ≤ 69) (q : ∀ σ', fr (fCp 66 b n) σ σ' → (∀ k, k < n → σ'.1 66 0 (b + k) = σ.1 64 0 (a + k)) → Q none σ') : CL L xs d 155 [vr 64 0, vi x1, vr 66 0, vi x3, vi x4] σ Q := by
  subst h1; subst h3; subst h4
  refine cl_at p155 hd (w155_64_66_0 hC ?_)
  refine dm_for (n := n) (fun k σ => g155_64_66_3 L xs (CL L xs (d - 1)) Q (nI a) (nI b) (nI n) (nI k) σ) (fun k σ' => fr (fCp 66 b n) σ σ' ∧ ∀ i, i < k → σ'.1 66 0 (b + i) = σ.1 64 0 (a + i)) ?_ ?_ 0 _ (Nat.zero_le _) ⟨fr.id, fun i hi => absurd hi (Nat.not_lt_zero i)⟩
  · rintro k σ' hk ⟨hf, h0⟩ ih
    refine w155_64_66_3 hC ?_
    rw [nI_add, nI_add, nI_clamp (n := a + k) (by omega), nI_clamp (n := b + k) (by omega), nI_1]
    refine if_lt hk (by omega) (ix_k (by omega) (by omega) (ix_k (by omega) (by omega) ?_))
    refine ih _ ⟨hf.w (fCp_in (by omega) (by omega)), fun i hi => ?_⟩
    by_cases e : i = k
    · rw [e, wI_same, hf.1 _ _ _ (fCp_t (by decide))]
    · rw [wI_k (by omega)]; exact h0 i (by omega)
  · rintro σ' ⟨hf, h0⟩
    refine w155_64_66_3 hC ?_
    exact if_nlt (Nat.le_refl _) (by omega) (q σ' hf h0)
theorem c155_66_64 (hd : 4 ≤ d) {a b n : Nat} {x1 x3 x4 : Int32} (h1 : x1 = nI a) (h3 : x3 = nI b) (h4 : x4 = nI n) (ha : a + n ≤ 69) (hb : b + n ≤ 23) (q : ∀ σ', fr (fCp 64 b n) σ σ' → (∀ k, k < n → σ'.1 64 0 (b + k) = σ.1 66 0 (a + k)) → Q none σ') : CL L xs d 155 [vr 66 0, vi x1, vr 64 0, vi x3, vi x4] σ Q := by
  subst h1; subst h3; subst h4
  refine cl_at p155 hd (w155_66_64_0 hC ?_)
  refine dm_for (n := n) (fun k σ => g155_66_64_3 L xs (CL L xs (d - 1)) Q (nI a) (nI b) (nI n) (nI k) σ) (fun k σ' => fr (fCp 64 b n) σ σ' ∧ ∀ i, i < k → σ'.1 64 0 (b + i) = σ.1 66 0 (a + i)) ?_ ?_ 0 _ (Nat.zero_le _) ⟨fr.id, fun i hi => absurd hi (Nat.not_lt_zero i)⟩
  · rintro k σ' hk ⟨hf, h0⟩ ih
    refine w155_66_64_3 hC ?_
    rw [nI_add, nI_add, nI_clamp (n := a + k) (by omega), nI_clamp (n := b + k) (by omega), nI_1]
    refine if_lt hk (by omega) (ix_k (by omega) (by omega) (ix_k (by omega) (by omega) ?_))
    refine ih _ ⟨hf.w (fCp_in (by omega) (by omega)), fun i hi => ?_⟩
    by_cases e : i = k
    · rw [e, wI_same, hf.1 _ _ _ (fCp_t (by decide))]
    · rw [wI_k (by omega)]; exact h0 i (by omega)
  · rintro σ' ⟨hf, h0⟩
    refine w155_66_64_3 hC ?_
    exact if_nlt (Nat.le_refl _) (by omega) (q σ' hf h0)
end OP6
