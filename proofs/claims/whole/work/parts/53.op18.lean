/-! CALLS of the desk in the model -/
def mRow (σ : M2) (r : Nat → Int32) : Prop := ∀ k, k < 23 → σ.1 64 0 k = r k
def hM (σ : M2) (n : Nat) (H : Nat → Nat → Int32) : Prop := n ≤ 12 ∧ σ.1 13 0 20 = nI n ∧ ∀ j, j < n → ∀ k, k < 23 → σ.1 65 0 (23 * (n - 1 - j) + k) = H j k
def iM (σ : M2) (m : Nat) (I : Nat → Nat → Int32) : Prop := m ≤ 3 ∧ σ.1 13 0 21 = nI m ∧ ∀ j, j < m → ∀ k, k < 23 → σ.1 66 0 (23 * j + k) = I j k
theorem mRow.fr {A : Nat → Nat → Nat → Bool} (hA : ∀ k, A 64 0 k = false) {σ σ' : M2} {r : Nat → Int32} (h : mRow σ r) (hf : fr A σ σ') : mRow σ' r := fun k hk => by rw [hf.1 _ _ _ (hA k)]; exact h k hk
theorem mRow.w {σ : M2} {r : Nat → Int32} (h : mRow σ r) {j : Nat} {v : Int32} : mRow (m2_wI σ 64 0 j v) (updR r j v) := fun k hk => by
  by_cases e : k = j
  · subst e; rw [wI_same, updR_eq]
  · rw [wI_k e, updR_ne e]; exact h k hk
theorem hM.fr {A : Nat → Nat → Nat → Bool} (hA : ∀ k, A 65 0 k = false) (h1 : A 13 0 20 = false) {σ σ' : M2} {n : Nat} {H : Nat → Nat → Int32} (h : hM σ n H) (hf : fr A σ σ') : hM σ' n H :=
  ⟨h.1, by rw [hf.1 _ _ _ h1]; exact h.2.1, fun j hj k hk => by rw [hf.1 _ _ _ (hA _)]; exact h.2.2 j hj k hk⟩
theorem iM.fr {A : Nat → Nat → Nat → Bool} (hA : ∀ k, A 66 0 k = false) (h1 : A 13 0 21 = false) {σ σ' : M2} {n : Nat} {H : Nat → Nat → Int32} (h : iM σ n H) (hf : fr A σ σ') : iM σ' n H :=
  ⟨h.1, by rw [hf.1 _ _ _ h1]; exact h.2.1, fun j hj k hk => by rw [hf.1 _ _ _ (hA _)]; exact h.2.2 j hj k hk⟩
def gNt : Nat → Nat → Nat → Bool := fun t _ k => t == 65 || (t == 13 && k == 20)
def gAc : Nat → Nat → Nat → Bool := fun t i k => gO t i k || (t == 64 || (t == 65 || (t == 13 && k == 20)))
def mA (σ σ' : M2) : Prop := fr gAc σ σ' ∧ σ'.1 13 0 11 = 0 ∧ σ'.1 13 0 0 = 0
theorem gNt_A : ∀ t i k, gNt t i k = true → gAc t i k = true := by
  intro t i k h
  unfold gNt at h
  unfold gAc
  simp only [Bool.or_eq_true, Bool.and_eq_true, beq_iff_eq, decide_eq_true_eq] at *
  omega
theorem gO_A : ∀ t i k, gO t i k = true → gAc t i k = true := fun t i k h => by unfold gAc; rw [h]; rfl
theorem fCp_o {B b n k : Nat} (h : k < b ∨ b + n ≤ k) : fCp B b n B 0 k = false := by
  unfold fCp
  simp only [beq_self_eq_true, Bool.true_and, Bool.and_eq_false_iff, decide_eq_false_iff_not]
  omega
theorem mG.A {σ σ' : M2} (h : mG σ σ' 0) : mA σ σ' := ⟨h.1.weak gO_A, h.2.1, h.2.2⟩
theorem mA.fr {A : Nat → Nat → Nat → Bool} (hA : ∀ t i k, A t i k = true → gAc t i k = true) (h0 : A 13 0 0 = false) (h1 : A 13 0 11 = false) {σ σ1 σ2 : M2} (h : mA σ σ1) (hf : fr A σ1 σ2) : mA σ σ2 :=
  ⟨h.1.trans (hf.weak hA), by rw [hf.1 _ _ _ h1]; exact h.2.1, by rw [hf.1 _ _ _ h0]; exact h.2.2⟩
theorem mA.w {σ σ1 : M2} (h : mA σ σ1) {k : Nat} {v : Int32} : mA σ (m2_wI σ1 64 0 k v) := ⟨h.1.w rfl, by rw [wI_t (by decide)]; exact h.2.1, by rw [wI_t (by decide)]; exact h.2.2⟩
section OP18
variable {L : Nat} {xs : Nat → Int32} {d : Nat} {Q : Option dm_V → M2 → Prop} {σ σ0 : M2} {R : Nat → Int32} {C : Nat → Bool} {h : Bool} {r : Nat → Int32} {n m : Nat} {H I : Nat → Nat → Int32}
theorem c268 (hd : 5 ≤ d) (hr : mRow σ r) (hh : hM σ n H) (q : ∀ σ', fr gNt σ σ' → hM σ' (pn n) (psh r H) → Q none σ') : CL L xs d 268 [vr 13 0] σ Q := by
  obtain ⟨hn, en, hj⟩ := hh
  refine cl_at p268 (by omega) (w268_0 hC ?_)
  have fin : ∀ n0 σ1, n0 ≤ 11 → pn n = n0 + 1 → σ1.1 13 0 20 = nI n0 → (∀ j, j < n0 → ∀ k, k < 23 → σ1.1 65 0 (23 * (n0 - 1 - j) + k) = H j k) → fr gNt σ σ1 → g268_49 L xs (CL L xs (d - 1)) Q σ1 := by
    intro n0 σ1 hn0 ep e1 h1 f1
    refine w268_49 hC ?_
    rw [e1, l23, nI_mul]
    refine c155_64_65 (a := 0) (b := 23 * n0) (n := 23) (by omega) rfl rfl rfl (by omega) (by omega) (fun σ2 f2 e2 => ⟨rfl, ?_⟩)
    have n2 : σ2.1 13 0 20 = nI n0 := by rw [f2.1 _ _ _ (fCp_t (by decide))]; exact e1
    have f2' : fr gNt σ σ2 := f1.trans (f2.weak (fun t i k z => by
      unfold fCp at z
      unfold gNt
      simp only [Bool.or_eq_true, Bool.and_eq_true, beq_iff_eq, decide_eq_true_eq] at *
      omega))
    refine q _ (f2'.w rfl) ?_
    rw [ep]
    refine ⟨by omega, by rw [wI_same, n2, nI_1], fun j hjn k hk => ?_⟩
    rw [wI_t (by decide)]
    match j, hjn with
    | 0, _ =>
      have := e2 k hk
      rw [Nat.zero_add] at this
      rw [show 23 * (n0 + 1 - 1 - 0) + k = 23 * n0 + k by omega, this, f1.1 _ _ _ rfl]
      exact hr k hk
    | j + 1, hjn =>
      rw [show 23 * (n0 + 1 - 1 - (j + 1)) + k = 23 * (n0 - 1 - j) + k by omega, f2.1 _ _ _ (fCp_o (by omega))]
      exact h1 j (by omega) k hk
  rw [en]
  by_cases z : n = 12
  · refine if_y (by rw [z]; rfl) ?_
    subst z
    refine dm_for (n := 253) (fun k σ => g268_11 L xs (CL L xs (d - 1)) Q (nI k) σ) (fun k σ' => fr gNt σ σ' ∧ σ'.1 13 0 20 = nI 12 ∧ (∀ i, i < k → σ'.1 65 0 i = σ.1 65 0 (i + 23)) ∧ ∀ i, k ≤ i → σ'.1 65 0 i = σ.1 65 0 i) ?_ ?_ 0 σ (Nat.zero_le _) ⟨fr.id, en, fun i hi => absurd hi (Nat.not_lt_zero i), fun i _ => rfl⟩
    · rintro k σ2 hk ⟨f2, e2, h2, h3⟩ ih
      refine w268_11 hC ?_
      rw [l23, nI_add, nI_clamp (by omega), nI_clamp (by omega), nI_1]
      refine if_y (nI_lt (b := 253) hk (by omega)) (ix_k (by omega) (by omega) (ix_k (by omega) (by omega) ?_))
      refine ih _ ⟨f2.w rfl, by rw [wI_t (by decide)]; exact e2, fun i hi => ?_, fun i hi => ?_⟩
      · by_cases e : i = k
        · rw [e, wI_same]; exact h3 _ (by omega)
        · rw [wI_k e]; exact h2 i (by omega)
      · rw [wI_k (by omega)]; exact h3 i (by omega)
    · rintro σ2 ⟨f2, e2, h2, h3⟩
      refine w268_11 hC ?_
      rw [e2]
      refine if_n (nI_nlt (b := 253) (Nat.le_refl _) (by omega)) ?_
      refine fin 11 _ (Nat.le_refl _) rfl ?_ (fun j hj' k hk => ?_) (f2.w rfl)
      · rw [wI_same]; exact nI_sub (a := 12) (b := 1) (by omega)
      · rw [wI_t (by decide), h2 _ (by omega)]
        have := hj j (by omega) k hk
        rw [show 23 * (11 - 1 - j) + k + 23 = 23 * (12 - 1 - j) + k by omega]
        exact this
  · refine if_n (fun e => z ((nI_eq (b := 12) (by omega) (by omega)).mp e)) ?_
    exact fin n σ (by omega) (by unfold pn; omega) en hj fr.id
theorem e23 (s w : Nat) : 2 + 3 * nI s = nI (2 + 3 * s) := by rw [l2, l3, nI_mul, nI_add]
theorem c266 (hd : 4 ≤ d) (hR : okR R) (hr : okD R r) (hm : mRow σ r) {s : Nat} {x : Int32} (hx : x = nI s) (hs : s < 7) (q : Q (some (vi (bI (out r s)))) σ) : CL L xs d 266 [vr 13 0, vi x] σ Q := by
  subst hx
  refine cl_at p266 (by omega) (w266_0 hC ?_)
  rw [e23 s 0, nI_clamp (by omega), hm _ (by omega)]
  refine ix_k (by omega) (by omega) ?_
  have hM := hR.cM.1
  cases ho : out r s
  · rw [ho] at q
    rw [out_f ho]
    exact if_n (by decide) q
  · rw [ho] at q
    obtain ⟨j, hj, e⟩ := out_j hR hr hs ho
    rw [e]
    exact if_y (nI_lt (a := 0) (by omega) (by omega)) q
theorem o265 (hd : 6 ≤ d) {s : Int32} (hY : mY σ R C h) (hm : mRow σ r) (q : ∀ σ', mG σ σ' (a_who R r s).2 → Q (some (vi (a_who R r s).1)) σ') : CL L xs d 265 [vr 13 0, vi s] σ Q := by
  refine cl_at p265 (by omega) (w265_0 hC ?_)
  refine c150 (by omega) (fun σ1 g1 => ⟨rfl, ?_⟩)
  have Y1 := mY_o hY g1.1
  have m1 := hm.fr (fun _ => rfl) g1.1
  have hS := hY.1.1.cS
  unfold a_who at q
  refine c191 (by omega) Y1 ⟨_, rfl, ?_⟩
  refine if_b (fun z => ?_) (fun z => ?_)
  · rw [if_neg (by rw [z]; decide)] at q
    exact c151 (by omega) g1 q
  rw [if_pos z] at q
  obtain ⟨hs, es⟩ := inn_k hS.2 (by omega) z
  replace hs : s.toNatClampNeg < gN R 7 := hs
  clear z
  generalize s.toNatClampNeg = s' at *
  subst es
  rw [e23 s' 0, nI_clamp (by omega), m1 _ (by omega)]
  refine ix_k (by omega) (by omega) ?_
  refine if_c (fun z => ?_) (fun z => ?_)
  · rw [if_pos z] at q; exact q σ1 g1
  · rw [if_neg z] at q; exact ix_k (by omega) (by omega) (q σ1 g1)
theorem o267 (hd : 6 ≤ d) (hY : mY σ R C h) (hm : mRow σ r) (hr : h = true → okD R r) (q : ∀ σ', mG σ σ' (a_over R r h).2 → Q (some (vi (a_over R r h).1)) σ') : CL L xs d 267 [vr 13 0] σ Q := by
  refine cl_at p267 (by omega) (w267_0 hC ?_)
  refine c150 (by omega) (fun σ1 g1 => ⟨rfl, ?_⟩)
  have Y1 := mY_o hY g1.1
  have m1 := hm.fr (fun _ => rfl) g1.1
  have hS := hY.1.1.cS
  unfold a_over at q
  rw [Y1.2.1]
  refine if_b (fun z => ?_) (fun z => ?_)
  · rw [if_neg (by rw [z]; decide)] at q; exact c151 (by omega) g1 q
  rw [if_pos z] at q
  have kr := hr z
  refine dm_ff (n := gN R 7) (ovF R r) (fun s a σ => g267_21 L xs (CL L xs (d - 1)) Q a (nI s) σ) (fun σ' => σ' = σ1) ?_ _ 0 0 σ1 (Nat.zero_add _) rfl ?_
  · rintro s a σ2 hs rfl ih
    replace ih := ih σ2 rfl
    refine w267_21 hC ?_
    rw [Y1.1.2.1, hS.2, nI_1, Int32.or_zero]
    refine if_y (nI_lt hs (by omega)) ?_
    refine c266 (by omega) hY.1.1 kr m1 rfl (by omega) ⟨_, rfl, ?_⟩
    unfold ovF at ih
    refine if_b (fun z => ?_) (fun z => ?_)
    · rw [if_neg (by rw [z]; decide)] at ih; exact ih
    rw [if_pos z] at ih
    rw [Y1.1.2.1, e23 s 0, nI_1 (2 + 3 * s), nI_clamp (by omega), m1 _ (by omega), m1 _ (by omega)]
    refine ix_k (by omega) (by omega) ?_
    refine if_c (fun z' => ?_) (fun z' => ?_)
    · rw [if_pos z'] at ih; exact ih
    · rw [if_neg z'] at ih; exact ih
  · rintro σ2 rfl
    refine w267_21 hC ?_
    rw [Y1.1.2.1, hS.2]
    exact if_n (nI_nlt (Nat.le_refl _) (by omega)) (q _ g1)
theorem c152r (hd : 4 ≤ d) {w t : Int32} (hf : mG σ0 σ t) (q : ∀ σ', mG σ0 σ' w → Q (some (vi 0)) σ') : CL L xs d 152 [vr 13 0, vi w] σ Q := cl_at p152 hd (w152_0 hC (q _ ⟨hf.1.w rfl, wI_same, by rw [wI_k (by decide)]; exact hf.2.2⟩))
theorem o269 (hd : 11 ≤ d) {s p : Int32} (hY : mY σ R C h) (hm : mRow σ r) (hk : inn s (R 7) = true → okD R r ∧ hM σ n H)
    (q1 : (inn s (R 7) && inn p (R 8)) = false → ∀ σ', mG σ σ' 1 → Q (some (vi 0)) σ')
    (q5 : (inn s (R 7) && inn p (R 8)) = true → canL R C r s.toNatClampNeg p.toNatClampNeg = false → ∀ σ', mG σ σ' 5 → Q (some (vi 0)) σ')
    (qs : (inn s (R 7) && inn p (R 8)) = true → canL R C r s.toNatClampNeg p.toNatClampNeg = true → ∀ σ', mA σ σ' → mRow σ' (rLend r s.toNatClampNeg p.toNatClampNeg) → hM σ' (pn n) (psh r H) → Q (some (vi 1)) σ') : CL L xs d 269 [vr 13 0, vi s, vi p] σ Q := by
  refine cl_at p269 (by omega) (w269_0 hC ?_)
  refine c150 (by omega) (fun σ1 g1 => ⟨rfl, ?_⟩)
  have Y1 := mY_o hY g1.1
  have hS := hY.1.1.cS
  have hM' := hY.1.1.cM
  refine c191 (by omega) Y1 ⟨_, rfl, ?_⟩
  refine if_b (fun z => ?_) (fun z => ?_)
  · exact c152r (by omega) g1 (fun σ' g => ⟨_, rfl, q1 (by rw [z]; rfl) σ' g⟩)
  refine c193 (by omega) Y1 ⟨_, rfl, ?_⟩
  refine if_b (fun z1 => ?_) (fun z1 => ?_)
  · exact c152r (by omega) g1 (fun σ' g => ⟨_, rfl, q1 (by rw [z, z1]; rfl) σ' g⟩)
  have zz : (inn s (R 7) && inn p (R 8)) = true := by rw [z, z1]; rfl
  obtain ⟨kr, kh⟩ := hk z
  obtain ⟨hs, es⟩ := inn_k hS.2 (by omega) z
  obtain ⟨hp, ep⟩ := inn_k hM'.2 (by omega) z1
  replace hs : s.toNatClampNeg < gN R 7 := hs
  replace hp : p.toNatClampNeg < gN R 8 := hp
  replace q5 := q5 zz
  replace qs := qs zz
  clear q1 zz z z1 hk
  generalize s.toNatClampNeg = s' at *
  generalize p.toNatClampNeg = p' at *
  subst es ep
  have fin : ∀ c0 σ2, (canL R C r s' p' = (c0 && nh r p' (gN R 7))) → mG σ σ2 0 → g269_60 L xs (CL L xs (d - 1)) Q (nI s') (nI p') (bI c0) 0 σ2 := by
    intro c0 σ2 ec g2
    have Y2 := mY_o hY g2.1
    have m2 : mRow σ2 r := hm.fr (fun _ => rfl) g2.1
    have h2 : hM σ2 n H := kh.fr (fun _ => rfl) rfl g2.1
    refine dm_for (n := gN R 7) (fun k σ' => g269_60 L xs (CL L xs (d - 1)) Q (nI s') (nI p') (bI (c0 && al (fun s => !(decide (r (2 + 3 * s) = nI (p' + 1)))) k)) (nI k) σ') (fun _ σ' => σ' = σ2) ?_ ?_ 0 σ2 (Nat.zero_le _) rfl |> (fun w => by rw [show al (fun s => !(decide (r (2 + 3 * s) = nI (p' + 1)))) 0 = true from rfl, Bool.and_true] at w; exact w)
    · rintro k σ3 hk rfl ih
      replace ih := ih σ3 rfl
      have ih : g269_60 L xs (CL L xs (d - 1)) Q (nI s') (nI p') (bI (c0 && (al (fun s => !(decide (r (2 + 3 * s) = nI (p' + 1)))) k && !(decide (r (2 + 3 * k) = nI (p' + 1)))))) (nI (k + 1)) σ3 := ih
      refine w269_60 hC ?_
      rw [Y2.1.2.1, hS.2, nI_1, nI_1]
      refine if_y (nI_lt hk (by omega)) ?_
      rw [← Bool.and_assoc] at ih
      refine if_b (fun z => ?_) (fun z => ?_)
      · rw [z] at ih; exact ih
      rw [z, Bool.true_and] at ih
      rw [e23 k 0, nI_clamp (by omega), m2 _ (by omega)]
      refine ix_k (by omega) (by omega) ?_
      refine if_c (fun z' => ?_) (fun z' => ?_)
      · rw [decide_eq_true z'] at ih; exact ih
      · rw [decide_eq_false z'] at ih; exact ih
    · rintro σ3 rfl
      refine w269_60 hC ?_
      rw [Y2.1.2.1, hS.2, nI_1]
      refine if_n (nI_nlt (Nat.le_refl _) (by omega)) ?_
      refine if_b (fun z => ?_) (fun z => ?_)
      · exact c152r (by omega) g2 (fun σ' g => ⟨_, rfl, q5 (ec.trans z) σ' g⟩)
      refine c268 (by omega) m2 h2 (fun σ4 f4 h4 => ⟨rfl, ?_⟩)
      have m4 : mRow σ4 r := m2.fr (fun _ => rfl) f4
      rw [e23 s' 0, nI_1 p', nI_1 (2 + 3 * s'), nI_clamp (by omega), nI_clamp (by omega)]
      refine ix_k (by omega) (by omega) (ix_k (by omega) (by omega) ?_)
      show Q (some (vi 1)) (m2_wI (m2_wI σ4 64 0 (2 + 3 * s') (nI (p' + 1))) 64 0 (2 + 3 * s' + 1) ((m2_wI σ4 64 0 (2 + 3 * s') (nI (p' + 1))).1 64 0 0))
      rw [wI_k (by omega), m4 0 (by omega)]
      refine qs (ec.trans z) _ (mA.w (mA.w (g2.A.fr gNt_A rfl rfl f4))) (m4.w.w) ?_
      exact ⟨h4.1, by rw [wI_t (by decide), wI_t (by decide)]; exact h4.2.1, fun j hj k hk => by rw [wI_t (by decide), wI_t (by decide)]; exact h4.2.2 j hj k hk⟩
  have m1 : mRow σ1 r := hm.fr (fun _ => rfl) g1.1
  refine c266 (by omega) hY.1.1 kr m1 rfl (by omega) ⟨_, rfl, ?_⟩
  refine if_b (fun z => ?_) (fun z => ?_)
  rotate_left
  · exact fin false σ1 (by unfold canL; rw [z]; rfl) g1
  refine c197 (by omega) rfl Y1.1 (by omega) ⟨_, rfl, ?_⟩
  refine if_b (fun z1 => ?_) (fun z1 => ?_)
  rotate_left
  · exact fin false σ1 (by unfold canL; rw [z1]; simp) g1
  refine c251 (by omega) Y1.1 rfl hp rfl hs (fun σ2 f2 => ⟨_, rfl, ?_⟩)
  refine if_b (fun z2 => ?_) (fun z2 => ?_)
  · exact fin false σ2 (by unfold canL; rw [z2]; simp) (g1.rn f2)
  · exact fin true σ2 (by unfold canL; rw [z, z1, z2]; simp) (g1.rn f2)
theorem o270 (hd : 11 ≤ d) {s mm : Int32} (hY : mY σ R C h) (hm : mRow σ r) (hk : inn s (R 7) = true → okD R r ∧ hM σ n H)
    (q1 : inn s (R 7) = false → ∀ σ', mG σ σ' 1 → Q (some (vi (-1))) σ')
    (q5 : inn s (R 7) = true → out r s.toNatClampNeg = false → ∀ σ', mG σ σ' 5 → Q (some (vi (-1))) σ')
    (qs : inn s (R 7) = true → out r s.toNatClampNeg = true → ∀ σ', mA σ σ' → mRow σ' (rBrng r s.toNatClampNeg (brC R C r s.toNatClampNeg mm)) → hM σ' (pn n) (psh r H) → Q (some (vi (brC R C r s.toNatClampNeg mm))) σ') : CL L xs d 270 [vr 13 0, vi s, vi mm] σ Q := by
  refine cl_at p270 (by omega) (w270_0 hC ?_)
  refine c150 (by omega) (fun σ1 g1 => ⟨rfl, ?_⟩)
  have Y1 := mY_o hY g1.1
  have hS := hY.1.1.cS
  have hM' := hY.1.1.cM
  refine c191 (by omega) Y1 ⟨_, rfl, ?_⟩
  refine if_b (fun z => ?_) (fun z => ?_)
  · exact c151 (by omega) g1 (q1 z)
  obtain ⟨kr, kh⟩ := hk z
  obtain ⟨hs, es⟩ := inn_k hS.2 (by omega) z
  replace hs : s.toNatClampNeg < gN R 7 := hs
  replace q5 := q5 z
  replace qs := qs z
  clear q1 z hk
  generalize s.toNatClampNeg = s' at *
  subst es
  have m1 : mRow σ1 r := hm.fr (fun _ => rfl) g1.1
  have h1 : hM σ1 n H := kh.fr (fun _ => rfl) rfl g1.1
  refine c266 (by omega) hY.1.1 kr m1 rfl (by omega) ⟨_, rfl, ?_⟩
  refine if_b (fun z => ?_) (fun z => ?_)
  · exact c151 (by omega) g1 (q5 z)
  replace qs := qs z
  refine c268 (by omega) m1 h1 (fun σ2 f2 h2 => ⟨rfl, ?_⟩)
  have m2 : mRow σ2 r := m1.fr (fun _ => rfl) f2
  have X2 := Y1.1.fr (fun _ => ⟨rfl, rfl⟩) f2
  have A2 := g1.A.fr gNt_A rfl rfl f2
  have fin : ∀ y0 σ3, y0 = brC R C r s' mm → fr gRn σ2 σ3 → g270_67 L xs (CL L xs (d - 1)) Q (nI s') y0 σ3 := by
    intro y0 σ3 ey f3
    rw [← ey] at qs
    have m3 : mRow σ3 r := m2.fr (fun _ => rfl) f3
    have h3 : hM σ3 (pn n) (psh r H) := h2.fr (fun _ => rfl) rfl f3
    refine w270_67 hC ?_
    rw [e23 s' 0, nI_1 (2 + 3 * s'), nI_clamp (by omega), nI_clamp (by omega)]
    refine ix_k (by omega) (by omega) (ix_k (by omega) (by omega) ?_)
    show Q (some (vi y0)) (m2_wI (m2_wI (m2_wI σ3 64 0 (2 + 3 * s') 0) 64 0 (2 + 3 * s' + 1) 0) 64 0 1 ((m2_wI (m2_wI σ3 64 0 (2 + 3 * s') 0) 64 0 (2 + 3 * s' + 1) 0).1 64 0 1 + y0))
    rw [wI_k (by omega), wI_k (by omega), m3 1 (by omega)]
    refine qs _ (mA.w (mA.w (mA.w (A2.fr (fun t i k w => gO_A t i k (gRn_O t i k w)) rfl rfl f3)))) (m3.w.w.w) ?_
    exact ⟨h3.1, by rw [wI_t (by decide), wI_t (by decide), wI_t (by decide)]; exact h3.2.1, fun j hj k hk => by rw [wI_t (by decide), wI_t (by decide), wI_t (by decide)]; exact h3.2.2 j hj k hk⟩
  refine if_c (fun zm => ?_) (fun zm => ?_)
  · exact fin _ _ (by unfold brC; rw [if_pos zm]) fr.id
  obtain ⟨j, hj, e1⟩ := out_j hY.1.1 kr (by omega) z
  have e1' : r (2 + 3 * s') - 1 = nI j := by rw [e1]; exact nI_sub (a := j + 1) (b := 1) (by omega)
  have eh : hold r s' = j := by unfold hold; rw [e1', nI_clamp (by omega)]
  obtain ⟨hp, ep⟩ := hY.1.1.man hj
  rw [e23 s' 0, nI_clamp (by omega), m2 _ (by omega), e1']
  refine ix_k (by omega) (by omega) ?_
  refine c250 (by omega) X2 rfl hj ⟨_, rfl, ?_⟩
  refine c209 (by omega) X2 ep hp (isC_s hs) isC_2 (fun σ3 f3 => ⟨_, rfl, ?_⟩)
  exact fin _ _ (by unfold brC; rw [if_neg zm, eh]; rfl) f3
theorem o271 (hd : 7 ≤ d) {s : Int32} (hY : mY σ R C h) (hm : mRow σ r) (hk : inn s (R 7) = true → okD R r ∧ hM σ n H)
    (q1 : inn s (R 7) = false → ∀ σ', mG σ σ' 1 → Q (some (vi 0)) σ')
    (q5 : inn s (R 7) = true → (C s.toNatClampNeg || out r s.toNatClampNeg) = true → ∀ σ', mG σ σ' 5 → Q (some (vi 0)) σ')
    (qs : inn s (R 7) = true → (C s.toNatClampNeg || out r s.toNatClampNeg) = false → ∀ σ', mA σ σ' → mRow σ' (rCln r s.toNatClampNeg) → hM σ' (pn n) (psh r H) → Q (some (vi 1)) σ') : CL L xs d 271 [vr 13 0, vi s] σ Q := by
  refine cl_at p271 (by omega) (w271_0 hC ?_)
  refine c150 (by omega) (fun σ1 g1 => ⟨rfl, ?_⟩)
  have Y1 := mY_o hY g1.1
  have hS := hY.1.1.cS
  refine c191 (by omega) Y1 ⟨_, rfl, ?_⟩
  refine if_b (fun z => ?_) (fun z => ?_)
  · exact c152r (by omega) g1 (fun σ' g => ⟨_, rfl, q1 z σ' g⟩)
  obtain ⟨kr, kh⟩ := hk z
  obtain ⟨hs, es⟩ := inn_k hS.2 (by omega) z
  replace hs : s.toNatClampNeg < gN R 7 := hs
  replace q5 := q5 z
  replace qs := qs z
  clear q1 z hk
  generalize s.toNatClampNeg = s' at *
  subst es
  have m1 : mRow σ1 r := hm.fr (fun _ => rfl) g1.1
  have h1 : hM σ1 n H := kh.fr (fun _ => rfl) rfl g1.1
  refine c197 (by omega) rfl Y1.1 (by omega) ⟨_, rfl, ?_⟩
  refine if_b (fun z => ?_) (fun z => ?_)
  rotate_left
  · exact c152r (by omega) g1 (fun σ' g => ⟨_, rfl, q5 (by rw [z]; rfl) σ' g⟩)
  refine c266 (by omega) hY.1.1 kr m1 rfl (by omega) ⟨_, rfl, ?_⟩
  refine if_b (fun z1 => ?_) (fun z1 => ?_)
  rotate_left
  · exact c152r (by omega) g1 (fun σ' g => ⟨_, rfl, q5 (by rw [z, z1]; rfl) σ' g⟩)
  refine c268 (by omega) m1 h1 (fun σ2 f2 h2 => ⟨rfl, ?_⟩)
  have m2 : mRow σ2 r := m1.fr (fun _ => rfl) f2
  have A2 := g1.A.fr gNt_A rfl rfl f2
  rw [e23 s' 0, l2, nI_add, nI_clamp (by omega)]
  refine ix_k (by omega) (by omega) ?_
  refine qs (by rw [z, z1]; rfl) _ A2.w m2.w ?_
  exact ⟨h2.1, by rw [wI_t (by decide)]; exact h2.2.1, fun j hj k hk => by rw [wI_t (by decide)]; exact h2.2.2 j hj k hk⟩
theorem o272 (hd : 7 ≤ d) (hY : mY σ R C h) (hm : mRow σ r) (hk : h = true → hM σ n H)
    (q1 : h = false → ∀ σ', mG σ σ' 1 → Q (some (vi (-1))) σ')
    (qs : h = true → ∀ σ', mA σ σ' → mRow σ' (rWeek r) → hM σ' (pn n) (psh r H) → Q (some (vi (r 0 + 1))) σ') : CL L xs d 272 [vr 13 0] σ Q := by
  refine cl_at p272 (by omega) (w272_0 hC ?_)
  refine c150 (by omega) (fun σ1 g1 => ⟨rfl, ?_⟩)
  have Y1 := mY_o hY g1.1
  have m1 : mRow σ1 r := hm.fr (fun _ => rfl) g1.1
  rw [Y1.2.1]
  refine if_b (fun z => ?_) (fun z => ?_)
  · exact c151 (by omega) g1 (q1 z)
  have h1 : hM σ1 n H := (hk z).fr (fun _ => rfl) rfl g1.1
  refine c268 (by omega) m1 h1 (fun σ2 f2 h2 => ⟨rfl, ?_⟩)
  have m2 : mRow σ2 r := m1.fr (fun _ => rfl) f2
  have A2 := g1.A.fr gNt_A rfl rfl f2
  show Q (some (vi ((m2_wI σ2 64 0 0 (σ2.1 64 0 0 + 1)).1 64 0 0))) (m2_wI σ2 64 0 0 (σ2.1 64 0 0 + 1))
  rw [wI_same, m2 0 (by omega)]
  refine qs z _ A2.w m2.w ?_
  exact ⟨h2.1, by rw [wI_t (by decide)]; exact h2.2.1, fun j hj k hk => by rw [wI_t (by decide)]; exact h2.2.2 j hj k hk⟩
theorem gCp_A {b n : Nat} : ∀ t i k, fCp 64 b n t i k = true → gAc t i k = true := by
  intro t i k h
  unfold fCp at h
  unfold gAc
  simp only [Bool.or_eq_true, Bool.and_eq_true, beq_iff_eq, decide_eq_true_eq] at *
  omega
theorem o273 (hd : 7 ≤ d) (hk : hM σ n H) (q6 : n = 0 → ∀ σ', mG σ σ' 6 → Q (some (vi 0)) σ') (qs : n ≠ 0 → ∀ σ', mA σ σ' → mRow σ' (H 0) → hM σ' (n - 1) (fun j => H (j + 1)) → Q (some (vi 1)) σ') : CL L xs d 273 [vr 13 0] σ Q := by
  refine cl_at p273 (by omega) (w273_0 hC ?_)
  refine c150 (by omega) (fun σ1 g1 => ⟨rfl, ?_⟩)
  obtain ⟨hn, en, hj⟩ : hM σ1 n H := hk.fr (fun _ => rfl) rfl g1.1
  rw [en]
  refine if_c (fun z => ?_) (fun z => ?_)
  · exact c152r (by omega) g1 (fun σ' g => ⟨_, rfl, q6 ((nI_eq (b := 0) (by omega) (by omega)).mp z) σ' g⟩)
  have z : n ≠ 0 := fun e => z (by rw [e]; rfl)
  show CL L xs (d - 1) 155 [vr 65 0, vi (23 * (m2_wI σ1 13 0 20 (nI n - 1)).1 13 0 20), vr 64 0, vi 0, vi 23] (m2_wI σ1 13 0 20 (nI n - 1)) _
  rw [wI_same, show nI n - 1 = nI (n - 1) from nI_sub (b := 1) (by omega), l23, nI_mul]
  have A1 : mA σ (m2_wI σ1 13 0 20 (nI (n - 1))) := ⟨g1.A.1.w rfl, by rw [wI_k (by decide)]; exact g1.2.1, by rw [wI_k (by decide)]; exact g1.2.2⟩
  refine c155_65_64 (a := 23 * (n - 1)) (b := 0) (n := 23) (by omega) rfl rfl rfl (by omega) (by omega) (fun σ2 f2 e2 => ⟨rfl, ?_⟩)
  refine qs z σ2 (A1.fr gCp_A (fCp_t (by decide)) (fCp_t (by decide)) f2) (fun k hk => ?_) ⟨by omega, ?_, fun j hj' k hk => ?_⟩
  · have := e2 k hk
    rw [Nat.zero_add, wI_t (by decide)] at this
    rw [this]
    exact hj 0 (by omega) k hk
  · rw [f2.1 _ _ _ (fCp_t (by decide)), wI_same]
  · rw [f2.1 _ _ _ (fCp_t (by decide)), wI_t (by decide)]
    have := hj (j + 1) (by omega) k hk
    rw [show n - 1 - (j + 1) = n - 1 - 1 - j by omega] at this
    exact this
theorem o274 (hd : 7 ≤ d) (hY : mY σ R C h) (hm : mRow σ r) (hk : iM σ m I)
    (q1 : h = false → ∀ σ', mG σ σ' 1 → Q (some (vi (-1))) σ') (q3 : h = true → m = 3 → ∀ σ', mG σ σ' 3 → Q (some (vi (-1))) σ')
    (qs : h = true → m ≠ 3 → ∀ σ', fr (fun t i k => gO t i k || (t == 66 || (t == 13 && k == 21))) σ σ' → σ'.1 13 0 11 = 0 ∧ σ'.1 13 0 0 = 0 → iM σ' (m + 1) (fun j => if j = m then r else I j) → Q (some (vi (nI m))) σ') : CL L xs d 274 [vr 13 0] σ Q := by
  refine cl_at p274 (by omega) (w274_0 hC ?_)
  refine c150 (by omega) (fun σ1 g1 => ⟨rfl, ?_⟩)
  have Y1 := mY_o hY g1.1
  have m1 : mRow σ1 r := hm.fr (fun _ => rfl) g1.1
  obtain ⟨hm3, em, hj⟩ : iM σ1 m I := hk.fr (fun _ => rfl) rfl g1.1
  rw [Y1.2.1, em]
  refine if_b (fun z => ?_) (fun z => ?_)
  · exact c151 (by omega) g1 (q1 z)
  refine if_c (fun z3 => ?_) (fun z3 => ?_)
  · exact c151 (by omega) g1 (q3 z ((nI_eq (b := 3) (by omega) (by omega)).mp z3))
  have z3 : m ≠ 3 := fun e => z3 (by rw [e]; rfl)
  rw [l23, nI_mul]
  refine c155_64_66 (a := 0) (b := 23 * m) (n := 23) (by omega) rfl rfl rfl (by omega) (by omega) (fun σ2 f2 e2 => ⟨rfl, ?_⟩)
  have k2 : σ2.1 13 0 21 = nI m := by rw [f2.1 _ _ _ (fCp_t (by decide))]; exact em
  show Q (some (vi ((m2_wI σ2 13 0 21 (σ2.1 13 0 21 + 1)).1 13 0 21 - 1))) (m2_wI σ2 13 0 21 (σ2.1 13 0 21 + 1))
  rw [wI_same, k2, nI_1, show nI (m + 1) - 1 = nI m from nI_sub (b := 1) (by omega)]
  have f2' : fr (fun t i k => gO t i k || (t == 66 || (t == 13 && k == 21))) σ σ2 := (g1.1.weak (fun t i k w => by show (gO t i k || _) = true; rw [w]; rfl)).trans (f2.weak (fun t i k w => by
    unfold fCp at w
    show (gO t i k || (t == 66 || (t == 13 && k == 21))) = true
    simp only [Bool.or_eq_true, Bool.and_eq_true, beq_iff_eq, decide_eq_true_eq] at *
    omega))
  refine qs z z3 _ (f2'.w rfl) ⟨by rw [wI_k (by decide), f2.1 _ _ _ (fCp_t (by decide))]; exact g1.2.1, by rw [wI_k (by decide), f2.1 _ _ _ (fCp_t (by decide))]; exact g1.2.2⟩ ⟨by omega, wI_same, fun j hj' k hk => ?_⟩
  rw [wI_t (by decide)]
  show σ2.1 66 0 (23 * j + k) = (if j = m then r else I j) k
  by_cases e : j = m
  · have := e2 k hk
    rw [Nat.zero_add] at this
    rw [if_pos e, e, this]
    exact m1 k hk
  · rw [if_neg e, f2.1 _ _ _ (fCp_o (by omega))]
    exact hj j (by omega) k hk
theorem o275 (hd : 7 ≤ d) {x : Int32} (hk : iM σ m I) (q1 : inn x (nI m) = false → ∀ σ', mG σ σ' 1 → Q (some (vi 0)) σ') (qs : inn x (nI m) = true → ∀ σ', mA σ σ' → mRow σ' (I x.toNatClampNeg) → σ'.1 13 0 20 = 0 → Q (some (vi 1)) σ') : CL L xs d 275 [vr 13 0, vi x] σ Q := by
  refine cl_at p275 (by omega) (w275_0 hC ?_)
  refine c150 (by omega) (fun σ1 g1 => ⟨rfl, ?_⟩)
  obtain ⟨hm3, em, hj⟩ : iM σ1 m I := hk.fr (fun _ => rfl) rfl g1.1
  rw [em]
  refine c153 (by omega) ⟨_, rfl, ?_⟩
  rw [inc_s1 (by omega)]
  refine if_b (fun z => ?_) (fun z => ?_)
  · exact c152r (by omega) g1 (fun σ' g => ⟨_, rfl, q1 z σ' g⟩)
  replace qs := qs z
  obtain ⟨hx, ex⟩ := inn_n (by omega) z
  replace hx : x.toNatClampNeg < m := hx
  clear z q1
  generalize x.toNatClampNeg = x' at *
  subst ex
  rw [l23, nI_mul]
  refine c155_66_64 (a := 23 * x') (b := 0) (n := 23) (by omega) rfl rfl rfl (by omega) (by omega) (fun σ2 f2 e2 => ⟨rfl, ?_⟩)
  have A2 := g1.A.fr gCp_A (fCp_t (by decide)) (fCp_t (by decide)) f2
  refine qs _ ⟨A2.1.w rfl, by rw [wI_k (by decide)]; exact A2.2.1, by rw [wI_k (by decide)]; exact A2.2.2⟩ (fun k hk => ?_) wI_same
  rw [wI_t (by decide)]
  have := e2 k hk
  rw [Nat.zero_add] at this
  rw [this]
  exact hj x' hx k hk
end OP18
