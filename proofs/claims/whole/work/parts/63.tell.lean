/-! THE LINES in the class: museum, thing, harm, person, ask, ends -/
def fLn' (W : Nat → Nat → Nat → Bool) : Nat → Nat → Nat → Bool := fun t i k => fMl t i k || W t i k
theorem fMl_L {W : Nat → Nat → Nat → Bool} : ∀ t i k, fMl t i k = true → fLn' W t i k = true := fun t i k h => by unfold fLn'; rw [h]; rfl
theorem fL_w {W : Nat → Nat → Nat → Bool} {t i k : Nat} (h : W t i k = true) : fLn' W t i k = true := by unfold fLn'; rw [h, Bool.or_true]
theorem fL_R {ν : Nat} {W : Nat → Nat → Nat → Bool} (h : ∀ t i k, W t i k = true → fMu ν t i k = true) : ∀ t i k, fLn' W t i k = true → fRd ν t i k = true := fun t i k hh => by
  unfold fLn' at hh
  unfold fRd
  simp only [Bool.or_eq_true] at *
  exact hh.imp id (h t i k)
theorem hg_of {ν s : Nat} {W : Nat → Nat → Nat → Bool} {σ σ' : M2} {v : Int32} (f : fq (fLn' W) σ σ') {t i k : Nat} (h : kMu t = true) (h1 : ¬ (t = 36 ∧ i = ν ∧ k = s)) (h2 : W t i k = false) : (m2_wI σ' 36 ν s v).1 t i k = σ.1 t i k := by
  show (if t = 36 ∧ i = ν ∧ k = s then v else σ'.1 t i k) = _
  rw [if_neg h1]
  exact f.1 t i k (by unfold fLn'; rw [kMu_l h, h2]; rfl)
def wMus (ν : Nat) : Nat → Nat → Nat → Bool := fun t i k => t == 5 && (i == ν && (decide (1 ≤ k) && decide (k ≤ 4)))
def wThg (ν x : Nat) : Nat → Nat → Nat → Bool := fun t i k => t == 37 && (i == ν && k == x)
def wNe (o : Nat) : Nat → Nat → Nat → Bool := fun t i _ => t == 6 && i == o
def wHrm (ν x : Nat) : Nat → Nat → Nat → Bool := fun t i k => (t == 6 && i == 6 * ν + x) || (t == 39 && (i == ν && k == x))
def wMan (ν x : Nat) : Nat → Nat → Nat → Bool := fun t i k => (t == 43 || t == 44) && (i == ν && k == x)
def wAsk (ν x : Nat) : Nat → Nat → Nat → Bool := fun t i k => (t == 45 || (t == 46 || t == 47)) && (i == ν && k == x)
def wEnd (ν : Nat) : Nat → Nat → Nat → Bool := fun t i k => t == 5 && (i == ν && (k == 16 || k == 17))
theorem wMus_u {ν : Nat} : ∀ t i k, wMus ν t i k = true → fMu ν t i k = true := by
  intro t i k h; unfold wMus at h; unfold fMu
  simp only [Bool.or_eq_true, Bool.and_eq_true, beq_iff_eq, decide_eq_true_eq] at *; omega
theorem wThg_u {ν x : Nat} : ∀ t i k, wThg ν x t i k = true → fMu ν t i k = true := by
  intro t i k h; unfold wThg at h; unfold fMu
  simp only [Bool.or_eq_true, Bool.and_eq_true, beq_iff_eq, decide_eq_true_eq] at *; omega
theorem wHrm_u {ν x : Nat} (hx : x < 6) : ∀ t i k, wHrm ν x t i k = true → fMu ν t i k = true := by
  intro t i k h; unfold wHrm at h; unfold fMu
  simp only [Bool.or_eq_true, Bool.and_eq_true, beq_iff_eq, decide_eq_true_eq] at *; omega
theorem wMan_u {ν x : Nat} : ∀ t i k, wMan ν x t i k = true → fMu ν t i k = true := by
  intro t i k h; unfold wMan at h; unfold fMu
  simp only [Bool.or_eq_true, Bool.and_eq_true, beq_iff_eq, decide_eq_true_eq] at *; omega
theorem wAsk_u {ν x : Nat} : ∀ t i k, wAsk ν x t i k = true → fMu ν t i k = true := by
  intro t i k h; unfold wAsk at h; unfold fMu
  simp only [Bool.or_eq_true, Bool.and_eq_true, beq_iff_eq, decide_eq_true_eq] at *; omega
theorem wEnd_u {ν : Nat} : ∀ t i k, wEnd ν t i k = true → fMu ν t i k = true := by
  intro t i k h; unfold wEnd at h; unfold fMu
  simp only [Bool.or_eq_true, Bool.and_eq_true, beq_iff_eq, decide_eq_true_eq] at *; omega
theorem s1ok : ∀ s, s < 28 → (srt s = 1 ↔ 0 ≤ s ∧ s ≤ 4) ∧ (srt s = 1 → num s = s - 0) := fun s h => ⟨(slots s h).1, (slots s h).2.2.2.2.2.1⟩
theorem s3ok : ∀ s, s < 28 → (srt s = 3 ↔ 5 ≤ s ∧ s ≤ 12) ∧ (srt s = 3 → num s = s - 5) := fun s h => ⟨(slots s h).2.1, (slots s h).2.2.2.2.2.2.1⟩
theorem s4ok : ∀ s, s < 28 → (srt s = 4 ↔ 13 ≤ s ∧ s ≤ 16) ∧ (srt s = 4 → num s = s - 13) := fun s h => ⟨(slots s h).2.2.1, (slots s h).2.2.2.2.2.2.2.1⟩
theorem s5ok : ∀ s, s < 28 → (srt s = 5 ↔ 17 ≤ s ∧ s ≤ 23) ∧ (srt s = 5 → num s = s - 17) := fun s h => ⟨(slots s h).2.2.2.1, (slots s h).2.2.2.2.2.2.2.2.1⟩
theorem s6ok : ∀ s, s < 28 → (srt s = 6 ↔ 24 ≤ s ∧ s ≤ 27) ∧ (srt s = 6 → num s = s - 24) := fun s h => ⟨(slots s h).2.2.2.2.1, (slots s h).2.2.2.2.2.2.2.2.2.1⟩
theorem bo_so {b : Bool} {σ : M2} {t i k : Nat} {K : M2 → Prop} (q : K (m2_wI σ t i k (bI b))) : dm_so (cond (bI b == 0 || bI b == 1) (some (m2_wI σ t i k (bI b))) none) K := by
  cases b <;> exact q
section TELL
variable {L : Nat} {xs : Nat → Int32} {d : Nat} {Q : Option dm_V → M2 → Prop} {σ σ0 : M2} {T : Nat → Nat} {n c ν m : Nat} {N : Nat → Nat} {F : Nat → Int32}
theorem c40 (hd : 8 ≤ d) (h : CT σ ν T n c N m) (hR : okR F) (hM : rM σ.1 ν F) (h0 : F 0 = 0) (qf : FCt ν σ (lMus T n F N c) Q) (qt : SCt ν T n m 0 σ (lMus T n F N c) Q) : CL L xs d 40 [vr 7 0] σ Q := by
  refine cl_at p40 (by omega) (w40_0 hC ?_)
  have wk := fL_R (ν := ν) wMus_u
  refine c35 (by omega) h (by omega) (fun z σ1 f1 e8 e9 => ⟨_, rfl, if_y rfl (qf.go (pW_f z _) (by omega) fq.id f1 e8 e9)⟩) (fun z1 σ1 f1 t1 => ⟨_, rfl, if_n (by decide) ?_⟩)
  have E1 : lMus T n F N c = _ := pW_t z1 _
  refine c36 (lo := 1) (hi := 3) (by omega) rfl rfl (by omega) (by omega) t1 (fun f ef hf σ2 f2 e8 e9 => ⟨_, rfl, if_y rfl (qf.go (E1.trans (pN_f ef hf _)) hf (f1.weak fMl_R) f2 e8 e9)⟩) (fun k2 g2 σ2 f2 e6 t2 => ⟨_, rfl, if_n (by decide) ?_⟩)
  have E2 := E1.trans (pN_t k2 g2 _)
  have v1b := g2
  rw [t2.1, e6]
  generalize tV T n (nx T n c) = v1 at *
  have A : fq (fLn' (wMus ν)) σ (m2_wI σ2 5 ν 1 (nI v1)) := ((f1.trans f2).weak fMl_L).w (fL_w (by simp [wMus]))
  have t2' : CT (m2_wI σ2 5 ν 1 (nI v1)) ν T n _ N m := t2.w (by decide) (by decide) (by decide) (by decide) (by decide)
  refine c35 (by omega) t2' (by omega) (fun z σ3 f3 e8 e9 => ⟨_, rfl, if_y rfl (qf.go (E2.trans (pW_f z _)) (by omega) (A.weak wk) f3 e8 e9)⟩) (fun z3 σ3 f3 t3 => ⟨_, rfl, if_n (by decide) ?_⟩)
  have E3 := E2.trans (pW_t z3 _)
  have A3 := A.trans (f3.weak fMl_L)
  refine c36 (lo := 0) (hi := 99) (by omega) rfl rfl (by omega) (by omega) t3 (fun f ef hf σ2 f2 e8 e9 => ⟨_, rfl, if_y rfl (qf.go (E3.trans (pN_f ef hf _)) hf (A3.weak wk) f2 e8 e9)⟩) (fun k4 g4 σ4 f4 e6 t4 => ⟨_, rfl, if_n (by decide) ?_⟩)
  have E4 := E3.trans (pN_t k4 g4 _)
  rw [t4.1, e6]
  generalize tV T n _ = v2 at *
  have B : fq (fLn' (wMus ν)) σ (m2_wI σ4 5 ν 2 (nI v2)) := (A3.trans (f4.weak fMl_L)).w (fL_w (by simp [wMus]))
  have b1 : (m2_wI σ4 5 ν 2 (nI v2)).1 5 ν 1 = nI v1 := by rw [wI_k (by decide), f4.1 _ _ _ rfl, f3.1 _ _ _ rfl, wI_same]
  have b2 : (m2_wI σ4 5 ν 2 (nI v2)).1 5 ν 2 = nI v2 := wI_same
  have t4' : CT (m2_wI σ4 5 ν 2 (nI v2)) ν T n _ N m := t4.w (by decide) (by decide) (by decide) (by decide) (by decide)
  generalize m2_wI σ4 5 ν 2 (nI v2) = σB at *
  refine c35 (by omega) t4' (by omega) (fun z σ3 f3 e8 e9 => ⟨_, rfl, if_y rfl (qf.go (E4.trans (pW_f z _)) (by omega) (B.weak wk) f3 e8 e9)⟩) (fun z5 σ5 f5 t5 => ⟨_, rfl, if_n (by decide) ?_⟩)
  have E5 := E4.trans (pW_t z5 _)
  have B5 := B.trans (f5.weak fMl_L)
  refine c36 (lo := 0) (hi := 9) (by omega) rfl rfl (by omega) (by omega) t5 (fun f ef hf σ2 f2 e8 e9 => ⟨_, rfl, if_y rfl (qf.go (E5.trans (pN_f ef hf _)) hf (B5.weak wk) f2 e8 e9)⟩) (fun k6 g6 σ6 f6 e6 t6 => ⟨_, rfl, if_n (by decide) ?_⟩)
  have E6 := E5.trans (pN_t k6 g6 _)
  rw [t6.1, e6]
  generalize tV T n _ = v3 at *
  have D : fq (fLn' (wMus ν)) σ (m2_wI σ6 5 ν 3 (nI v3)) := (B5.trans (f6.weak fMl_L)).w (fL_w (by simp [wMus]))
  have d1 : (m2_wI σ6 5 ν 3 (nI v3)).1 5 ν 1 = nI v1 := by rw [wI_k (by decide), f6.1 _ _ _ rfl, f5.1 _ _ _ rfl, b1]
  have d2 : (m2_wI σ6 5 ν 3 (nI v3)).1 5 ν 2 = nI v2 := by rw [wI_k (by decide), f6.1 _ _ _ rfl, f5.1 _ _ _ rfl, b2]
  have d3 : (m2_wI σ6 5 ν 3 (nI v3)).1 5 ν 3 = nI v3 := wI_same
  have t6' : CT (m2_wI σ6 5 ν 3 (nI v3)) ν T n _ N m := t6.w (by decide) (by decide) (by decide) (by decide) (by decide)
  generalize m2_wI σ6 5 ν 3 (nI v3) = σD at *
  refine c35 (by omega) t6' (by omega) (fun z σ3 f3 e8 e9 => ⟨_, rfl, if_y rfl (qf.go (E6.trans (pW_f z _)) (by omega) (D.weak wk) f3 e8 e9)⟩) (fun z7 σ7 f7 t7 => ⟨_, rfl, if_n (by decide) ?_⟩)
  have E7 := E6.trans (pW_t z7 _)
  have D7 := D.trans (f7.weak fMl_L)
  refine c36 (lo := 0) (hi := 99) (by omega) rfl rfl (by omega) (by omega) t7 (fun f ef hf σ2 f2 e8 e9 => ⟨_, rfl, if_y rfl (qf.go (E7.trans (pN_f ef hf _)) hf (D7.weak wk) f2 e8 e9)⟩) (fun k8 g8 σ8 f8 e6 t8 => ⟨_, rfl, if_n (by decide) ?_⟩)
  have E8 := E7.trans (pN_t k8 g8 _)
  rw [t8.1, e6]
  generalize tV T n _ = v4 at *
  have G : fq (fLn' (wMus ν)) σ (m2_wI σ8 5 ν 4 (nI v4)) := (D7.trans (f8.weak fMl_L)).w (fL_w (by simp [wMus]))
  refine qt _ _ _ _ E8 (G.weak wk) (t8.w (by decide) (by decide) (by decide) (by decide) (by decide)) ?_
  have w0 : updR (updR (updR (updR F 1 (nI v2)) 2 (nI v3)) 3 (nI v4)) 0 (nI v1) 0 ≠ 0 := by
    rw [updR_eq]; intro w; have := (nI_eq (b := 0) (by omega) (by omega)).mp w; omega
  refine rM_mus hR hM (fun k hk => by rw [updR_ne (by omega), updR_ne (by omega), updR_ne (by omega), updR_ne (by omega)]) (fun t i k h1 h2 h3 => hg_of G h1 h2 (by
    unfold wMus
    simp only [Bool.and_eq_false_iff, beq_eq_false_iff_ne, decide_eq_false_iff_not, ne_eq]
    omega)) ?_ (fun _ => ⟨?_, ?_, ?_, ?_⟩)
  · rw [if_neg w0, wI_same, wI_t (by decide)]
    rw [f8.1 _ _ _ rfl, f7.1 _ _ _ rfl, D.1 36 ν 0 rfl, hM.1.1, if_pos h0]; rfl
  · rw [wI_t (by decide), wI_k (by decide), f8.1 _ _ _ rfl, f7.1 _ _ _ rfl, d1, updR_eq]
  · rw [wI_t (by decide), wI_k (by decide), f8.1 _ _ _ rfl, f7.1 _ _ _ rfl, d2, updR_ne (by omega), updR_ne (by omega), updR_ne (by omega), updR_eq]
  · rw [wI_t (by decide), wI_k (by decide), f8.1 _ _ _ rfl, f7.1 _ _ _ rfl, d3, updR_ne (by omega), updR_ne (by omega), updR_eq]
  · rw [wI_t (by decide), wI_same, updR_ne (by omega), updR_eq]
theorem c41 (hd : 8 ≤ d) {x1 : Int32} (h1 : x1 = nI (gN F 4)) (hr : gN F 4 < 5) (hν : ν < 2) (hm : m < 28) (h : CT σ ν T n c N m) (hP : PV F N) (hM : rM σ.1 ν F) (hz : F 181 = 0) (qf : FCt ν σ (lThg T n F N c) Q) (qt : SCt ν T n (m + 1) 1 σ (lThg T n F N c) Q) : CL L xs d 41 [vr 7 0, vi x1] σ Q := by
  subst h1
  refine cl_at p41 (by omega) (w41_0 hC ?_)
  have wk := fL_R (ν := ν) (wThg_u (x := gN F 4))
  have sl := slots (gN F 4) (by omega)
  have s1 : srt (gN F 4) = 1 := sl.1.mpr (by omega)
  have sn : num (gN F 4) = gN F 4 := by rw [sl.2.2.2.2.2.1 s1]; rfl
  clear sl
  have hN0 : N (gN F 4) = 0 := Classical.byContradiction (fun w => by have := (hP.2.1 (gN F 4) (by omega)).mp w; rw [s1, sn] at this; exact Nat.lt_irrefl _ this)
  have c36' : σ.1 36 ν 1 = nI (gN F 4) := hM.1.2.1.trans hP.1.cT.2
  refine c38 (sort := 1) (slot := gN F 4) (cnt := gN F 4) (by omega) rfl (by omega) ⟨by omega, s1, sn⟩ hN0 hm c36' h (fun f hf hK σ1 f1 e8 e9 => ⟨_, rfl, if_y rfl (qf.go (hK _) hf fq.id f1 e8 e9)⟩) (fun hK σ1 f1 t1 => ⟨_, rfl, if_n (by decide) ?_⟩)
  have E1 : lThg T n F N c = _ := hK _
  refine c36 (lo := 0) (hi := 9) (by omega) rfl rfl (by omega) (by omega) t1 (fun f ef hf σ2 f2 e8 e9 => ⟨_, rfl, if_y rfl (qf.go (E1.trans (pN_f ef hf _)) hf (f1.weak fMl_R) f2 e8 e9)⟩) (fun k2 g2 σ2 f2 e6 t2 => ⟨_, rfl, if_n (by decide) ?_⟩)
  have E2 := E1.trans (pN_t k2 g2 _)
  rw [t2.1, e6, nI_clamp (by omega)]
  refine ix_k hr (by omega) ?_
  have G : fq (fLn' (wThg ν (gN F 4))) σ (m2_wI σ2 37 ν (gN F 4) (nI (tV T n (nx T n c)))) := ((f1.trans f2).weak fMl_L).w (fL_w (by simp [wThg]))
  refine qt _ _ _ _ E2 (G.weak wk) (t2.w (by decide) (by decide) (by decide) (by decide) (by decide)) ?_
  refine rM_thg hP.1 hν hr hM (fun k k1 k2 k3 => by rw [updR_ne (by omega), updR_ne (by omega)]) (by rw [updR_eq]) (fun t i k h1 h2 h3 => hg_of G h1 h2 (by
    unfold wThg
    simp only [Bool.and_eq_false_iff, beq_eq_false_iff_ne, ne_eq]
    omega)) ?_ ?_ hz
  · rw [wI_same, wI_t (by decide), f2.1 _ _ _ rfl, f1.1 _ _ _ rfl, c36', nI_1]
  · rw [wI_t (by decide), wI_same, updR_ne (by omega), updR_eq]
theorem c42 (hd : 7 ≤ d) {o : Nat} (h : CT σ ν T n c N m)
    (qf : ∀ f p, (∀ K : Nat → Int32 → Nat → Nat → PR, pUse T n N 0 4 c (fun t c => pHow T n c (fun u c => pN T n 0 9 c (fun b c => K t u b c))) = .inl (f, p)) → f ≠ 0 → ∀ σ', fq (fLn' (wNe o)) σ σ' → σ'.1 7 0 8 = nI f → σ'.1 7 0 9 = nI p → Q (some (vi 0)) σ')
    (qt : ∀ t u b c', (∀ K : Nat → Int32 → Nat → Nat → PR, pUse T n N 0 4 c (fun t c => pHow T n c (fun u c => pN T n 0 9 c (fun b c => K t u b c))) = K t u b c') → 0 + t ≤ 4 → N (0 + t) ≠ 0 → (u = 0 ∨ u = 1) → ∀ σ', fq (fLn' (wNe o)) σ σ' → CT σ' ν T n c' N m → σ'.1 6 o 0 = nI t → (σ'.1 6 o 1 = 0 ↔ u = 1) → σ'.1 6 o 2 = nI b → Q (some (vi 1)) σ') : CL L xs d 42 [vr 7 0, vr 6 o] σ Q := by
  refine cl_at p42 (by omega) (w42_0 hC ?_)
  have W6 : ∀ k, fLn' (wNe o) 6 o k = true := fun k => fL_w (by simp [wNe])
  refine c39 (sort := 1) (lo := 0) (hi := 4) (by omega) rfl (by omega) s1ok h (fun f hf hK σ1 f1 e8 e9 => ⟨_, rfl, if_y rfl (qf f _ (fun K => hK _) hf σ1 (f1.weak fMl_L) e8 e9)⟩) (fun t t1 t2 t3 hK σ1 f1 e6 e7 ct1 => ⟨_, rfl, if_n (by decide) ?_⟩)
  rw [e6]
  have ct1' : CT (m2_wI σ1 6 o 0 (nI t)) ν T n _ N m := ct1.w (by decide) (by decide) (by decide) (by decide) (by decide)
  have A : fq (fLn' (wNe o)) σ (m2_wI σ1 6 o 0 (nI t)) := (f1.weak fMl_L).w (W6 0)
  refine c74 (by omega) ct1'.2.1 ct1'.2.2.1 ct1'.2.2.2.1 (o := 14) (by omega) ⟨_, rfl, ?_⟩
  refine bo_so ?_
  have ct2 : CT (m2_wI (m2_wI σ1 6 o 0 (nI t)) 6 o 1 (bI (decide (cd T n (nx T n c) = kw 14)))) ν T n _ N m := ct1'.w (by decide) (by decide) (by decide) (by decide) (by decide)
  have B : fq (fLn' (wNe o)) σ (m2_wI (m2_wI σ1 6 o 0 (nI t)) 6 o 1 (bI (decide (cd T n (nx T n c) = kw 14)))) := A.w (W6 1)
  have b0 : (m2_wI (m2_wI σ1 6 o 0 (nI t)) 6 o 1 (bI (decide (cd T n (nx T n c) = kw 14)))).1 6 o 0 = nI t := by rw [wI_k (by decide), wI_same]
  have b1 : (m2_wI (m2_wI σ1 6 o 0 (nI t)) 6 o 1 (bI (decide (cd T n (nx T n c) = kw 14)))).1 6 o 1 = bI (decide (cd T n (nx T n c) = kw 14)) := wI_same
  generalize m2_wI (m2_wI σ1 6 o 0 (nI t)) 6 o 1 (bI (decide (cd T n (nx T n c) = kw 14))) = σ2 at *
  have fin : ∀ u, (u = 0 ∨ u = 1) → (σ2.1 6 o 1 = 0 ↔ u = 1) → (∀ K, pHow T n (nx T n c) K = K u (nx T n (nx T n c))) → g42_56 L xs (CL L xs (d - 1)) Q o σ2 := by
    intro u hu hb hK2
    refine w42_56 hC ?_
    refine ct2.nx (by omega) (fun σ3 f3 _ _ ct3 => ⟨rfl, ?_⟩)
    have hKK : ∀ K : Nat → Int32 → Nat → Nat → PR, pUse T n N 0 4 c (fun t c => pHow T n c (fun u c => pN T n 0 9 c (fun b c => K t u b c))) = pN T n 0 9 (nx T n (nx T n c)) (fun b c => K t u b c) := fun K => (hK _).trans (hK2 _)
    refine c36 (lo := 0) (hi := 9) (by omega) rfl rfl (by omega) (by omega) ct3 (fun f ef hf σ4 f4 e8 e9 => ⟨_, rfl, if_y rfl (qf f _ (fun K => (hKK K).trans (pN_f ef hf _)) hf σ4 (B.trans ((f3.trans f4).weak fMl_L)) e8 e9)⟩) (fun k4 g4 σ4 f4 e6 ct4 => ⟨_, rfl, if_n (by decide) ?_⟩)
    rw [e6]
    refine qt t u _ _ (fun K => (hKK K).trans (pN_t k4 g4 _)) t1 t3 hu _ ((B.trans ((f3.trans f4).weak fMl_L)).w (W6 2)) (ct4.w (by decide) (by decide) (by decide) (by decide) (by decide)) ?_ ?_ wI_same
    · rw [wI_k (by decide), f4.1 _ _ _ rfl, f3.1 _ _ _ rfl, b0]
    · rw [wI_k (by decide), f4.1 _ _ _ rfl, f3.1 _ _ _ rfl]; exact hb
  show (if σ2.1 6 o 1 = 0 then _ else _)
  rw [b1]
  refine if_b (fun z => ?_) (fun z => ?_)
  · have z' : cd T n (nx T n c) ≠ kw 14 := of_decide_eq_false z
    refine c74 (by omega) ct2.2.1 ct2.2.2.1 ct2.2.2.2.1 (o := 15) (by omega) ⟨_, rfl, ?_⟩
    refine if_b (fun z1 => ?_) (fun z1 => ?_)
    · have z1' : cd T n (nx T n c) ≠ kw 15 := of_decide_eq_false z1
      refine ct2.fail (f := 1) (by omega) rfl (fun σ3 f3 e8 e9 => ⟨_, rfl, ?_⟩)
      refine qf 1 _ (fun K => (hK _).trans ?_) (by omega) σ3 (B.trans (f3.weak fMl_L)) e8 e9
      show pHow T n (nx T n c) _ = _
      unfold pHow; rw [if_neg z1', if_neg z']
    · have z1' : cd T n (nx T n c) = kw 15 := of_decide_eq_true z1
      refine fin 1 (Or.inr rfl) (by rw [b1, z]; exact ⟨fun _ => rfl, fun _ => rfl⟩) (fun K => ?_)
      unfold pHow; rw [if_pos z1']
  · have z' : cd T n (nx T n c) = kw 14 := of_decide_eq_true z
    have z1' : cd T n (nx T n c) ≠ kw 15 := fun e => by have := kw_inj 14 (by omega) 15 (by omega) (z'.symm.trans e); omega
    refine fin 0 (Or.inl rfl) (by rw [b1, z]; exact ⟨fun w => absurd w (by decide), fun w => absurd w (by decide)⟩) (fun K => ?_)
    unfold pHow; rw [if_neg z1', if_pos z']
theorem c43 (hd : 9 ≤ d) {x1 : Int32} (h1 : x1 = nI (gN F 10)) (hr : gN F 10 < 6) (hν : ν < 2) (h : CT σ ν T n c N m) (hP : PV F N) (hM : rM σ.1 ν F) (qf : FCt ν σ (lHrm T n F N c) Q) (qt : SCt ν T n m 2 σ (lHrm T n F N c) Q) : CL L xs d 43 [vr 7 0, vi x1] σ Q := by
  subst h1
  refine cl_at p43 (by omega) (w43_0 hC ?_)
  have wk := fL_R (ν := ν) (wHrm_u hr)
  have wn : ∀ t i k, fLn' (wNe (6 * ν + gN F 10)) t i k = true → fLn' (wHrm ν (gN F 10)) t i k = true := fun t i k hh => by
    unfold fLn' at *
    simp only [Bool.or_eq_true] at *
    refine hh.imp id (fun w => ?_)
    unfold wNe at w
    unfold wHrm
    simp only [Bool.or_eq_true, Bool.and_eq_true, beq_iff_eq] at *
    omega
  rw [h.1, nI_clamp (by omega)]
  refine ix_k hr (by omega) ?_
  refine c42 (by omega) h (fun f p hK hf σ1 f1 e8 e9 => ⟨_, rfl, if_y rfl (qf f p σ1 (hK _) hf ((f1.weak wn).weak wk) e8 e9)⟩) (fun t u b c1 hK ht hNt hu σ1 f1 ct1 a0 a1 a2 => ⟨_, rfl, if_n (by decide) ?_⟩)
  have E1 : lHrm T n F N c = _ := hK _
  have A := f1.weak wn
  refine c35 (by omega) ct1 (by omega) (fun z σ2 f2 e8 e9 => ⟨_, rfl, if_y rfl (qf.go (E1.trans (pW_f z _)) (by omega) (A.weak wk) f2 e8 e9)⟩) (fun z2 σ2 f2 ct2 => ⟨_, rfl, if_n (by decide) ?_⟩)
  have E2 := E1.trans (pW_t z2 _)
  have A2 := A.trans (f2.weak fMl_L)
  refine c36 (lo := 1) (hi := 99) (by omega) rfl rfl (by omega) (by omega) ct2 (fun f ef hf σ3 f3 e8 e9 => ⟨_, rfl, if_y rfl (qf.go (E2.trans (pN_f ef hf _)) hf (A2.weak wk) f3 e8 e9)⟩) (fun k3 g3 σ3 f3 e6 ct3 => ⟨_, rfl, if_n (by decide) ?_⟩)
  have E3 := E2.trans (pN_t k3 g3 _)
  rw [ct3.1, e6]
  refine ix_k hr (by omega) ?_
  have G : fq (fLn' (wHrm ν (gN F 10))) σ (m2_wI σ3 39 ν (gN F 10) (nI (tV T n (nx T n c1)))) := (A2.trans (f3.weak fMl_L)).w (fL_w (by simp [wHrm]))
  refine qt _ _ _ _ E3 (G.weak wk) (ct3.w (by decide) (by decide) (by decide) (by decide) (by decide)) ?_
  have c36' : σ.1 36 ν 2 = nI (gN F 10) := hM.1.2.2.1.trans hP.1.cH.2
  refine rM_hrm hP.1 hν hr hM (fun k k1 k2 k3 => by rw [updR_ne (by omega), updR_ne (by omega), updR_ne (by omega), updR_ne (by omega), updR_ne (by omega)]) (by rw [updR_eq]) (fun t i k h1 h2 h3 h4 => hg_of G h1 h2 (by
    unfold wHrm
    simp only [Bool.or_eq_false_iff, Bool.and_eq_false_iff, beq_eq_false_iff_ne, ne_eq]
    omega)) ?_ ⟨?_, ?_, ?_, ?_⟩
  · rw [wI_same, wI_t (by decide), f3.1 _ _ _ rfl, f2.1 _ _ _ rfl, A.1 36 ν 2 rfl, c36', nI_1]
  · rw [wI_t (by decide), wI_t (by decide), f3.1 _ _ _ rfl, f2.1 _ _ _ rfl, a0, updR_ne (by omega), updR_ne (by omega), updR_ne (by omega), updR_ne (by omega), updR_eq]
  · rw [wI_t (by decide), wI_t (by decide), f3.1 _ _ _ rfl, f2.1 _ _ _ rfl, updR_ne (by omega), updR_ne (by omega), updR_ne (by omega), updR_eq]; exact a1
  · rw [wI_t (by decide), wI_t (by decide), f3.1 _ _ _ rfl, f2.1 _ _ _ rfl, a2, updR_ne (by omega), updR_ne (by omega), updR_eq]
  · rw [wI_t (by decide), wI_same, updR_ne (by omega), updR_eq]
end TELL
