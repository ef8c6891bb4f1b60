/-! THE LINES in the class: person, ask, ends, slip -/
def wSlp (o : Nat) : Nat → Nat → Nat → Bool := fun t i _ => t == 9 && i == o
theorem wSlp_u {ν x : Nat} (hx : x < 7) : ∀ t i k, wSlp (7 * ν + x) t i k = true → fMu ν t i k = true := by
  intro t i k h; unfold wSlp at h; unfold fMu
  simp only [Bool.or_eq_true, Bool.and_eq_true, beq_iff_eq, decide_eq_true_eq] at *; omega
section TEL2
variable {L : Nat} {xs : Nat → Int32} {d : Nat} {Q : Option dm_V → M2 → Prop} {σ σ0 : M2} {T : Nat → Nat} {n c ν m : Nat} {N : Nat → Nat} {F : Nat → Int32}
theorem c49 (hd : 8 ≤ d) {x1 : Int32} (h1 : x1 = nI (gN F 8)) (hr : gN F 8 < 4) (hν : ν < 2) (hm : m < 28) (h : CT σ ν T n c N m) (hP : PV F N) (hM : rM σ.1 ν F) (qf : FCt ν σ (lMan T n F N c) Q) (qt : SCt ν T n (m + 1) 6 σ (lMan T n F N c) Q) : CL L xs d 49 [vr 7 0, vi x1] σ Q := by
  subst h1
  refine cl_at p49 (by omega) (w49_0 hC ?_)
  have wk := fL_R (ν := ν) (wMan_u (x := gN F 8))
  have sl := slots (24 + gN F 8) (by omega)
  have s1 : srt (24 + gN F 8) = 6 := sl.2.2.2.2.1.mpr (by omega)
  have sn : num (24 + gN F 8) = gN F 8 := by rw [sl.2.2.2.2.2.2.2.2.2.1 s1]; exact Nat.add_sub_cancel_left _ _
  clear sl
  have hN0 : N (24 + gN F 8) = 0 := Classical.byContradiction (fun w => by have := (hP.2.1 (24 + gN F 8) (by omega)).mp w; rw [s1, sn] at this; exact Nat.lt_irrefl _ this)
  have c36' : σ.1 36 ν 6 = nI (gN F 8) := hM.1.2.2.2.2.2.2.1.trans hP.1.cM.2
  refine c38 (sort := 6) (slot := 24 + gN F 8) (cnt := gN F 8) (by omega) rfl (by omega) ⟨by omega, s1, sn⟩ hN0 hm c36' h (fun f hf hK σ1 f1 e8 e9 => ⟨_, rfl, if_y rfl (qf.go (hK _) hf fq.id f1 e8 e9)⟩) (fun hK σ1 f1 t1 => ⟨_, rfl, if_n (by decide) ?_⟩)
  have E1 : lMan T n F N c = pKnd T n (nx T n c) _ := hK _
  have fin : ∀ kn, kn ≤ 2 → (∀ K, pKnd T n (nx T n c) K = K kn (nx T n (nx T n c))) → g49_62 L xs (CL L xs (d - 1)) Q (nI (gN F 8)) (nI kn) σ1 := by
    intro kn hkn hK2
    refine w49_62 hC ?_
    refine if_n (nI_pos (by omega)) (ix_k hr (by omega) ?_)
    rw [t1.1, nI_clamp (by omega)]
    have E2 := E1.trans (hK2 _)
    have A : fq (fLn' (wMan ν (gN F 8))) σ (m2_wI σ1 43 ν (gN F 8) (nI kn)) := (f1.weak fMl_L).w (fL_w (by simp [wMan]))
    have t1' : CT (m2_wI σ1 43 ν (gN F 8) (nI kn)) ν T n _ _ (m + 1) := t1.w (by decide) (by decide) (by decide) (by decide) (by decide)
    have a43 : (m2_wI σ1 43 ν (gN F 8) (nI kn)).1 43 ν (gN F 8) = nI kn := wI_same
    generalize m2_wI σ1 43 ν (gN F 8) (nI kn) = σA at *
    refine t1'.nx (by omega) (fun σ2 f2 _ _ t2 => ⟨rfl, ?_⟩)
    have A2 := A.trans (f2.weak fMl_L)
    refine c39 (sort := 4) (lo := 13) (hi := 16) (by omega) rfl (by omega) s4ok t2 (fun f hf hK σ3 f3 e8 e9 => ⟨_, rfl, if_y rfl (qf.go (E2.trans (hK _)) hf (A2.weak wk) f3 e8 e9)⟩) (fun p p1 p2 p3 hK3 σ3 f3 e6 e7 t3 => ⟨_, rfl, if_n (by decide) ?_⟩)
    have E3 := E2.trans (hK3 _)
    rw [t3.1, e6]
    refine ix_k hr (by omega) ?_
    have G : fq (fLn' (wMan ν (gN F 8))) σ (m2_wI σ3 44 ν (gN F 8) (nI p)) := (A2.trans (f3.weak fMl_L)).w (fL_w (by simp [wMan]))
    refine qt _ _ _ _ E3 (G.weak wk) (t3.w (by decide) (by decide) (by decide) (by decide) (by decide)) ?_
    refine rM_man hP.1 hν hr hM (fun k k1 k2 k3 => by rw [updR_ne (by omega), updR_ne (by omega), updR_ne (by omega)]) (by rw [updR_eq]) (fun t i k h1 h2 h3 => hg_of G h1 h2 (by
      unfold wMan
      simp only [Bool.or_eq_false_iff, Bool.and_eq_false_iff, beq_eq_false_iff_ne, ne_eq]
      omega)) ?_ ⟨?_, ?_⟩
    · rw [wI_same, wI_t (by decide), f3.1 _ _ _ rfl, f2.1 _ _ _ rfl, A.1 36 ν 6 rfl, c36', nI_1]
    · rw [wI_t (by decide), wI_t (by decide), f3.1 _ _ _ rfl, f2.1 _ _ _ rfl, a43, updR_ne (by omega), updR_ne (by omega), updR_eq]
    · rw [wI_t (by decide), wI_same, updR_ne (by omega), updR_eq]
  refine c74 (by omega) t1.2.1 t1.2.2.1 t1.2.2.2.1 (o := 13) (by omega) ⟨_, rfl, ?_⟩
  refine if_b (fun z => ?_) (fun z => ?_)
  rotate_left
  · exact fin 0 (by omega) (fun K => by unfold pKnd; rw [if_pos (of_decide_eq_true z)])
  have z := of_decide_eq_false z
  refine c74 (by omega) t1.2.1 t1.2.2.1 t1.2.2.2.1 (o := 25) (by omega) ⟨_, rfl, ?_⟩
  refine if_b (fun z1 => ?_) (fun z1 => ?_)
  rotate_left
  · exact fin 1 (by omega) (fun K => by unfold pKnd; rw [if_neg z, if_pos (of_decide_eq_true z1)])
  have z1 := of_decide_eq_false z1
  refine c74 (by omega) t1.2.1 t1.2.2.1 t1.2.2.2.1 (o := 26) (by omega) ⟨_, rfl, ?_⟩
  refine if_b (fun z2 => ?_) (fun z2 => ?_)
  rotate_left
  · exact fin 2 (by omega) (fun K => by unfold pKnd; rw [if_neg z, if_neg z1, if_pos (of_decide_eq_true z2)])
  have z2 := of_decide_eq_false z2
  refine w49_62 hC (if_y (by decide) ?_)
  refine t1.fail (f := 1) (by omega) rfl (fun σ3 f3 e8 e9 => ⟨_, rfl, ?_⟩)
  exact qf.go (E1.trans (by unfold pKnd; rw [if_neg z, if_neg z1, if_neg z2])) (by omega) (f1.weak fMl_R) f3 e8 e9
theorem c50 (hd : 8 ≤ d) {x1 : Int32} (h1 : x1 = nI (gN F 9)) (hr : gN F 9 < 7) (hν : ν < 2) (h : CT σ ν T n c N m) (hP : PV F N) (hM : rM σ.1 ν F) (qf : FCt ν σ (lAsk T n F N c) Q) (qt : SCt ν T n m 7 σ (lAsk T n F N c) Q) : CL L xs d 50 [vr 7 0, vi x1] σ Q := by
  subst h1
  refine cl_at p50 (by omega) (w50_0 hC ?_)
  have wk := fL_R (ν := ν) (wAsk_u (x := gN F 9))
  refine c39 (sort := 6) (lo := 24) (hi := 27) (by omega) rfl (by omega) s6ok h (fun f hf hK σ3 f3 e8 e9 => ⟨_, rfl, if_y rfl (qf.go (hK _) hf fq.id f3 e8 e9)⟩) (fun mm p1 p2 p3 hK1 σ1 f1 e6 e7 t1 => ⟨_, rfl, if_n (by decide) ?_⟩)
  have E1 : lAsk T n F N c = _ := hK1 _
  rw [t1.1, e6, nI_clamp (by omega)]
  refine ix_k hr (by omega) ?_
  have A : fq (fLn' (wAsk ν (gN F 9))) σ (m2_wI σ1 45 ν (gN F 9) (nI mm)) := (f1.weak fMl_L).w (fL_w (by simp [wAsk]))
  have t1' : CT (m2_wI σ1 45 ν (gN F 9) (nI mm)) ν T n _ _ m := t1.w (by decide) (by decide) (by decide) (by decide) (by decide)
  have a45 : (m2_wI σ1 45 ν (gN F 9) (nI mm)).1 45 ν (gN F 9) = nI mm := wI_same
  generalize m2_wI σ1 45 ν (gN F 9) (nI mm) = σA at *
  refine c39 (sort := 5) (lo := 17) (hi := 23) (by omega) rfl (by omega) s5ok t1' (fun f hf hK σ3 f3 e8 e9 => ⟨_, rfl, if_y rfl (qf.go (E1.trans (hK _)) hf (A.weak wk) f3 e8 e9)⟩) (fun ss q1 q2 q3 hK2 σ2 f2 e6 e7 t2 => ⟨_, rfl, if_n (by decide) ?_⟩)
  have E2 := E1.trans (hK2 _)
  rw [t2.1, e6]
  refine ix_k hr (by omega) ?_
  have B : fq (fLn' (wAsk ν (gN F 9))) σ (m2_wI σ2 46 ν (gN F 9) (nI ss)) := (A.trans (f2.weak fMl_L)).w (fL_w (by simp [wAsk]))
  have t2' : CT (m2_wI σ2 46 ν (gN F 9) (nI ss)) ν T n _ _ m := t2.w (by decide) (by decide) (by decide) (by decide) (by decide)
  have b45 : (m2_wI σ2 46 ν (gN F 9) (nI ss)).1 45 ν (gN F 9) = nI mm := by rw [wI_t (by decide), f2.1 _ _ _ rfl, a45]
  have b46 : (m2_wI σ2 46 ν (gN F 9) (nI ss)).1 46 ν (gN F 9) = nI ss := wI_same
  have b6 : (m2_wI σ2 46 ν (gN F 9) (nI ss)).1 7 0 6 = nI ss := by rw [wI_t (by decide)]; exact e6
  have b7 : (m2_wI σ2 46 ν (gN F 9) (nI ss)).1 7 0 7 = nI (tA T n (nx T n c)) := by rw [wI_t (by decide)]; exact e7
  generalize m2_wI σ2 46 ν (gN F 9) (nI ss) = σB at *
  have old : ∀ i, i < gN F 9 → σB.1 45 ν i = F (160 + 3 * i) ∧ σB.1 46 ν i = F (160 + 3 * i + 1) := by
    intro i hi
    have k := hM.2.2.2.2.2.2.2.2.1 i hi
    have w : ∀ t, t = 45 ∨ t = 46 → fLn' (wAsk ν (gN F 9)) t ν i = false := by
      intro t ht
      unfold fLn' wAsk
      rw [kMu_l (by rcases ht with rfl | rfl <;> rfl)]
      simp only [Bool.false_or, Bool.and_eq_false_iff, beq_eq_false_iff_ne, ne_eq]
      omega
    exact ⟨by rw [B.1 45 ν i (w 45 (by omega))]; exact k.1, by rw [B.1 46 ν i (w 46 (by omega))]; exact k.2.1⟩
  refine dm_for (n := gN F 9) (fun i σ' => g50_49 L xs (CL L xs (d - 1)) Q (nI (gN F 9)) (nI i) σ') (fun i σ' => σ' = σB ∧ al (fun k => !(decide (F (160 + 3 * k) = nI mm) && decide (F (160 + 3 * k + 1) = nI ss))) i = true) ?_ ?_ 0 σB (Nat.zero_le _) ⟨rfl, rfl⟩
  · rintro i σ' hi ⟨rfl, ha⟩ ih
    refine w50_49 hC ?_
    rw [nI_1, t2'.1, nI_clamp (by omega), nI_clamp (by omega), (old i hi).1, (old i hi).2, b45, b6]
    refine if_y (nI_lt hi (by omega)) (ix_k (by omega) (by omega) (ix_k hr (by omega) ?_))
    refine if_c (fun z => ix_k (by omega) (by omega) ?_) (fun z => ?_)
    · refine if_c (fun z1 => ?_) (fun z1 => ?_)
      · have hd' : dup F mm ss (gN F 9) = true := by
          unfold dup
          rw [al_f hi (by show (!(decide (F (160 + 3 * i) = nI mm) && decide (F (160 + 3 * i + 1) = nI ss))) = false; rw [decide_eq_true z, decide_eq_true z1]; rfl)]; rfl
        rw [b7]
        refine c31 (by omega) (fun σ3 f3 e8 e9 => ⟨_, rfl, ?_⟩)
        exact qf.go (f := 3) (E2.trans (if_pos hd')) (by omega) (B.weak wk) f3 e8 e9
      · refine ih σ' ⟨rfl, ?_⟩
        show (al _ i && !(decide (F (160 + 3 * i) = nI mm) && decide (F (160 + 3 * i + 1) = nI ss))) = true
        rw [ha, decide_eq_false z1, Bool.and_false]; rfl
    · refine ih σ' ⟨rfl, ?_⟩
      show (al _ i && !(decide (F (160 + 3 * i) = nI mm) && decide (F (160 + 3 * i + 1) = nI ss))) = true
      rw [ha, decide_eq_false z, Bool.false_and]; rfl
  · rintro σ' ⟨rfl, ha⟩
    refine w50_49 hC ?_
    refine if_n (nI_nlt (Nat.le_refl _) (by omega)) ?_
    have hd' : ¬ dup F mm ss (gN F 9) = true := by unfold dup; rw [ha]; decide
    have E2' := E2.trans (if_neg hd')
    refine c35 (by omega) t2' (by omega) (fun z σ3 f3 e8 e9 => ⟨_, rfl, if_y rfl (qf.go (E2'.trans (pW_f z _)) (by omega) (B.weak wk) f3 e8 e9)⟩) (fun z3 σ3 f3 t3 => ⟨_, rfl, if_n (by decide) ?_⟩)
    have E3 := E2'.trans (pW_t z3 _)
    have B3 := B.trans (f3.weak fMl_L)
    refine c36 (lo := 0) (hi := 99) (by omega) rfl rfl (by omega) (by omega) t3 (fun f ef hf σ4 f4 e8 e9 => ⟨_, rfl, if_y rfl (qf.go (E3.trans (pN_f ef hf _)) hf (B3.weak wk) f4 e8 e9)⟩) (fun k4 g4 σ4 f4 e6' t4 => ⟨_, rfl, if_n (by decide) ?_⟩)
    have E4 := E3.trans (pN_t k4 g4 _)
    rw [t4.1, e6', nI_clamp (by omega)]
    refine ix_k hr (by omega) ?_
    generalize tV T n _ = v at *
    have G : fq (fLn' (wAsk ν (gN F 9))) σ (m2_wI σ4 47 ν (gN F 9) (nI v)) := (B3.trans (f4.weak fMl_L)).w (fL_w (by simp [wAsk]))
    refine qt _ _ _ _ E4 (G.weak wk) (t4.w (by decide) (by decide) (by decide) (by decide) (by decide)) ?_
    have c36' : σ.1 36 ν 7 = nI (gN F 9) := hM.1.2.2.2.2.2.2.2.1.trans hP.1.cA.2
    refine rM_ask hP.1 hν hr hM (fun k k1 k2 k3 => by rw [updR_ne (by omega), updR_ne (by omega), updR_ne (by omega), updR_ne (by omega)]) (by rw [updR_eq]) (fun t i k h1 h2 h3 => hg_of G h1 h2 (by
      unfold wAsk
      simp only [Bool.or_eq_false_iff, Bool.and_eq_false_iff, beq_eq_false_iff_ne, ne_eq]
      omega)) ?_ ⟨?_, ?_, ?_⟩
    · rw [wI_same, wI_t (by decide), f4.1 _ _ _ rfl, f3.1 _ _ _ rfl, B.1 36 ν 7 rfl, c36', nI_1]
    · rw [wI_t (by decide), wI_t (by decide), f4.1 _ _ _ rfl, f3.1 _ _ _ rfl, b45, updR_ne (by omega), updR_ne (by omega), updR_ne (by omega), updR_eq]
    · rw [wI_t (by decide), wI_t (by decide), f4.1 _ _ _ rfl, f3.1 _ _ _ rfl, b46, updR_ne (by omega), updR_ne (by omega), updR_eq]
    · rw [wI_t (by decide), wI_same, updR_ne (by omega), updR_eq]
theorem c51 (hd : 8 ≤ d) (h : CT σ ν T n c N m) (hP : PV F N) (hM : rM σ.1 ν F) (hz : F 181 = 0) (qf : FCt ν σ (lEnd T n F N c) Q) (qt : SCt ν T n m 8 σ (lEnd T n F N c) Q) : CL L xs d 51 [vr 7 0] σ Q := by
  refine cl_at p51 (by omega) (w51_0 hC ?_)
  have wk := fL_R (ν := ν) wEnd_u
  have b4 := hP.1.cT
  refine c39 (sort := 4) (lo := 13) (hi := 16) (by omega) rfl (by omega) s4ok h (fun f hf hK σ3 f3 e8 e9 => ⟨_, rfl, if_y rfl (qf.go (hK _) hf fq.id f3 e8 e9)⟩) (fun p p1 p2 p3 hK1 σ1 f1 e6 e7 t1 => ⟨_, rfl, if_n (by decide) ?_⟩)
  have E1 : lEnd T n F N c = pEs T n N p (gN F 4) 0 F (nx T n c) := hK1 _
  rw [t1.1, e6]
  have A : fq (fLn' (wEnd ν)) σ (m2_wI σ1 5 ν 16 (nI p)) := (f1.weak fMl_L).w (fL_w (by simp [wEnd]))
  have t1' : CT (m2_wI σ1 5 ν 16 (nI p)) ν T n _ _ m := t1.w (by decide) (by decide) (by decide) (by decide) (by decide)
  have a16 : (m2_wI σ1 5 ν 16 (nI p)).1 5 ν 16 = nI p := wI_same
  have c36' : σ.1 36 ν 1 = nI (gN F 4) := hM.1.2.1.trans b4.2
  have c8 : σ.1 36 ν 8 = 0 := hM.1.2.2.2.2.2.2.2.2.trans (if_pos hz)
  have loop : ∀ m1 t F1 c1 σ2 seen, t + m1 = gN F 4 → CT σ2 ν T n c1 N m → fq (fLn' (wEnd ν)) σ σ2 → σ2.1 5 ν 16 = nI p → (∀ k, k < 182 → F1 k = F k) → seen = fo (fun t a => a * 10 + F1 (181 + 1 + t)) 0 t → lEnd T n F N c = pEs T n N p m1 t F1 c1 → g51_25 L xs (CL L xs (d - 1)) Q seen (nI t) σ2 := by
    intro m1
    induction m1 with
    | zero =>
      intro t F1 c1 σ2 seen ht ct f2 e16 hF hs E
      have E' : lEnd T n F N c = .inr (c1, updR F1 181 (nI (p + 1)), N) := E.trans (by cases t <;> rfl)
      refine w51_25 hC ?_
      rw [ct.1, f2.1 36 ν 1 rfl, c36']
      refine if_n (nI_nlt (by omega) (by omega)) ?_
      have G : fq (fLn' (wEnd ν)) σ (m2_wI σ2 5 ν 17 seen) := f2.w (fL_w (by simp [wEnd]))
      refine qt _ _ _ _ E' (G.weak wk) (ct.w (by decide) (by decide) (by decide) (by decide) (by decide)) ?_
      have ne : updR F1 181 (nI (p + 1)) 181 ≠ 0 := by rw [updR_eq]; intro w; have := (nI_eq (b := 0) (by omega) (by omega)).mp w; omega
      refine rM_end hP.1 hM (fun k hk => by rw [updR_ne (by omega)]; exact hF k (by omega)) (fun t i k h1 h2 h3 => hg_of G h1 h2 (by
        unfold wEnd
        simp only [Bool.or_eq_false_iff, Bool.and_eq_false_iff, beq_eq_false_iff_ne, ne_eq]
        omega)) ?_ (fun _ => ⟨?_, ?_⟩)
      · rw [if_neg ne, wI_same, wI_t (by decide), f2.1 36 ν 8 rfl, c8]; rfl
      · rw [wI_t (by decide), wI_k (by decide), e16, updR_eq]; exact (nI_sub (a := p + 1) (b := 1) (by omega)).symm
      · have e4 : gN (updR F1 181 (nI (p + 1))) 4 = t := by rw [gN_eq (updR_ne (by omega)), gN_eq (hF 4 (by omega))]; omega
        rw [wI_t (by decide), wI_same, e4, hs]
        exact fo_congr t (fun k x hk => by show x * 10 + F1 (181 + 1 + k) = x * 10 + updR F1 181 (nI (p + 1)) (181 + 1 + k); rw [updR_ne (by omega)])
    | succ m1 ih =>
      intro t F1 c1 σ2 seen ht ct f2 e16 hF hs E
      have step : ∀ c2 σ3, CT σ3 ν T n c2 N m → fq (fLn' (wEnd ν)) σ σ3 → σ3.1 5 ν 16 = nI p → lEnd T n F N c = pN T n 0 9 c2 (fun v c => pEs T n N p m1 (t + 1) (updR F1 (182 + t) (nI v)) c) → g51_66 L xs (CL L xs (d - 1)) Q seen (nI t) σ3 := by
        intro c2 σ3 ct3 f3 e163 E3
        refine w51_66 hC ?_
        refine c36 (lo := 0) (hi := 9) (by omega) rfl rfl (by omega) (by omega) ct3 (fun f ef hf σ4 f4 e8 e9 => ⟨_, rfl, if_y rfl (qf.go (E3.trans (pN_f ef hf _)) hf (f3.weak wk) f4 e8 e9)⟩) (fun k4 g4 σ4 f4 e6' t4 => ⟨_, rfl, if_n (by decide) ?_⟩)
        rw [e6', nI_1]
        refine ih (t + 1) _ _ σ4 _ (by omega) t4 (f3.trans (f4.weak fMl_L)) (by rw [f4.1 _ _ _ rfl]; exact e163) (fun k hk => by rw [updR_ne (by omega)]; exact hF k hk) ?_ (E3.trans (pN_t k4 g4 _))
        show seen * 10 + nI (tV T n c2) = fo _ 0 t * 10 + updR F1 (182 + t) (nI (tV T n c2)) (181 + 1 + t)
        rw [show 181 + 1 + t = 182 + t by omega, updR_eq, hs]
        congr 2
        exact fo_congr t (fun k x hk => by show x * 10 + F1 (181 + 1 + k) = x * 10 + updR F1 (182 + t) _ (181 + 1 + k); rw [updR_ne (by omega)])
      refine w51_25 hC ?_
      rw [ct.1, f2.1 36 ν 1 rfl, c36']
      refine if_y (nI_lt (by omega) (by omega)) ?_
      match t, ht, hs, E, step with
      | 0, ht, hs, E, step =>
        refine if_n (by decide) ?_
        exact step c1 σ2 ct f2 e16 E
      | t + 1, ht, hs, E, step =>
        refine if_y (nI_lt (a := 0) (by omega) (by omega)) ?_
        have hT := ct.2.2.2.1
        have k5 := kd_5 (T := T) (n := n) (c := c1)
        rw [hT.1]
        refine if_c (fun z => ?_) (fun z => ?_)
        · have z := (nI_eq (b := 4) (by omega) (by omega)).mp z
          refine ct.nx (by omega) (fun σ3 f3 _ _ ct3 => ⟨rfl, ?_⟩)
          exact step _ σ3 ct3 (f2.trans (f3.weak fMl_L)) (by rw [f3.1 _ _ _ rfl]; exact e16) (E.trans (if_pos z))
        · have z : kd T n c1 ≠ 4 := fun w => z (by rw [w]; rfl)
          refine ct.fail (f := 1) (by omega) rfl (fun σ3 f3 e8 e9 => ⟨_, rfl, ?_⟩)
          exact qf.go (E.trans (if_neg z)) (by omega) (f2.weak wk) f3 e8 e9
  exact loop (gN F 4) 0 F _ _ 0 (by omega) t1' A a16 (fun k _ => rfl) rfl E1
theorem c48 (hd : 5 ≤ d) (h : CT σ ν T n c N m) (qf : (∀ K, pMis T n c K = .inl (1, tA T n c)) → Q (some (vi (-1))) σ) (qt : ∀ mi, mi ≤ 4 → (∀ K, pMis T n c K = K mi (nx T n c)) → Q (some (vi (nI mi))) σ) : CL L xs d 48 [vr 7 0] σ Q := by
  refine cl_at p48 (by omega) (w48_0 hC ?_)
  refine c74 (by omega) h.2.1 h.2.2.1 h.2.2.2.1 (o := 19) (by omega) ⟨_, rfl, ?_⟩
  refine if_b (fun z => ?_) (fun z => ?_)
  rotate_left
  · exact qt 0 (by omega) (fun K => by unfold pMis; rw [if_pos (of_decide_eq_true z)])
  have z := of_decide_eq_false z
  refine c74 (by omega) h.2.1 h.2.2.1 h.2.2.2.1 (o := 20) (by omega) ⟨_, rfl, ?_⟩
  refine if_b (fun z1 => ?_) (fun z1 => ?_)
  rotate_left
  · exact qt 1 (by omega) (fun K => by unfold pMis; rw [if_neg z, if_pos (of_decide_eq_true z1)])
  have z1 := of_decide_eq_false z1
  refine c74 (by omega) h.2.1 h.2.2.1 h.2.2.2.1 (o := 21) (by omega) ⟨_, rfl, ?_⟩
  refine if_b (fun z2 => ?_) (fun z2 => ?_)
  rotate_left
  · exact qt 2 (by omega) (fun K => by unfold pMis; rw [if_neg z, if_neg z1, if_pos (of_decide_eq_true z2)])
  have z2 := of_decide_eq_false z2
  refine c74 (by omega) h.2.1 h.2.2.1 h.2.2.2.1 (o := 22) (by omega) ⟨_, rfl, ?_⟩
  refine if_b (fun z3 => ?_) (fun z3 => ?_)
  rotate_left
  · exact qt 3 (by omega) (fun K => by unfold pMis; rw [if_neg z, if_neg z1, if_neg z2, if_pos (of_decide_eq_true z3)])
  have z3 := of_decide_eq_false z3
  refine c74 (by omega) h.2.1 h.2.2.1 h.2.2.2.1 (o := 23) (by omega) ⟨_, rfl, ?_⟩
  refine if_b (fun z4 => ?_) (fun z4 => ?_)
  rotate_left
  · exact qt 4 (by omega) (fun K => by unfold pMis; rw [if_neg z, if_neg z1, if_neg z2, if_neg z3, if_pos (of_decide_eq_true z4)])
  · have z4 := of_decide_eq_false z4
    exact qf (fun K => by unfold pMis; rw [if_neg z, if_neg z1, if_neg z2, if_neg z3, if_neg z4])
theorem c47 (hd : 8 ≤ d) {o : Nat} (ho : o = 7 * ν + gN F 7) (hr : gN F 7 < 7) (hν : ν < 2) (hm : m < 28) (h : CT σ ν T n c N m) (hP : PV F N) (hM : rM σ.1 ν F) (qf : FCt ν σ (lSlp T n F N c) Q) (qt : SCt ν T n (m + 1) 5 σ (lSlp T n F N c) Q) : CL L xs d 47 [vr 7 0, vr 9 o] σ Q := by
  refine cl_at p47 (by omega) (w47_0 hC ?_)
  have wk := fL_R (ν := ν) (W := wSlp o) (by rw [ho]; exact wSlp_u hr)
  have W9 : ∀ k, fLn' (wSlp o) 9 o k = true := fun k => fL_w (by simp [wSlp])
  have sl := slots (17 + gN F 7) (by omega)
  have s1 : srt (17 + gN F 7) = 5 := sl.2.2.2.1.mpr (by omega)
  have sn : num (17 + gN F 7) = gN F 7 := by rw [sl.2.2.2.2.2.2.2.2.1 s1]; exact Nat.add_sub_cancel_left _ _
  clear sl
  have hN0 : N (17 + gN F 7) = 0 := Classical.byContradiction (fun w => by have := (hP.2.1 (17 + gN F 7) (by omega)).mp w; rw [s1, sn] at this; exact Nat.lt_irrefl _ this)
  have c36' : σ.1 36 ν 5 = nI (gN F 7) := hM.1.2.2.2.2.2.1.trans hP.1.cS.2
  refine c38 (sort := 5) (slot := 17 + gN F 7) (cnt := gN F 7) (by omega) rfl (by omega) ⟨by omega, s1, sn⟩ hN0 hm c36' h (fun f hf hK σ1 f1 e8 e9 => ⟨_, rfl, if_y rfl (qf.go (hK _) hf fq.id f1 e8 e9)⟩) (fun hK σ1 f1 t1 => ⟨_, rfl, if_n (by decide) ?_⟩)
  have E1 : lSlp T n F N c = pMis T n (nx T n c) _ := hK _
  generalize upN N (17 + gN F 7) (cd T n c) = N1 at *
  refine c48 (by omega) t1 (fun hK2 => ⟨_, rfl, ?_⟩) (fun mi hmi hK2 => ⟨_, rfl, ?_⟩)
  · show (if (m2_wI σ1 9 o 0 (-1)).1 9 o 0 < 0 then _ else _)
    rw [wI_same]
    refine if_y (by decide) ?_
    have t1' : CT (m2_wI σ1 9 o 0 (-1)) ν T n _ _ (m + 1) := t1.w (by decide) (by decide) (by decide) (by decide) (by decide)
    refine t1'.fail (f := 1) (by omega) rfl (fun σ3 f3 e8 e9 => ⟨_, rfl, ?_⟩)
    exact qf.go (E1.trans (hK2 _)) (by omega) ((((f1.weak fMl_L).w (W9 0)).weak wk)) f3 e8 e9
  have E2 := E1.trans (hK2 _)
  show (if (m2_wI σ1 9 o 0 (nI mi)).1 9 o 0 < 0 then _ else _)
  rw [wI_same]
  refine if_n (nI_pos (by omega)) ?_
  have A : fq (fLn' (wSlp o)) σ (m2_wI σ1 9 o 0 (nI mi)) := (f1.weak fMl_L).w (W9 0)
  have t1' : CT (m2_wI σ1 9 o 0 (nI mi)) ν T n _ _ (m + 1) := t1.w (by decide) (by decide) (by decide) (by decide) (by decide)
  have a0 : (m2_wI σ1 9 o 0 (nI mi)).1 9 o 0 = nI mi := wI_same
  generalize m2_wI σ1 9 o 0 (nI mi) = σA at *
  refine t1'.nx (by omega) (fun σ2 f2 _ _ t2 => ⟨rfl, ?_⟩)
  have A2 := A.trans (f2.weak fMl_L)
  refine c39 (sort := 3) (lo := 5) (hi := 12) (by omega) rfl (by omega) s3ok t2 (fun f hf hK σ3 f3 e8 e9 => ⟨_, rfl, if_y rfl (qf.go (E2.trans (hK _)) hf (A2.weak wk) f3 e8 e9)⟩) (fun dd p1 p2 p3 hK3 σ3 f3 e6 e7 t3 => ⟨_, rfl, if_n (by decide) ?_⟩)
  have E3 := E2.trans (hK3 _)
  rw [e6]
  show (if (m2_wI (m2_wI σ3 9 o 1 (nI dd)) 9 o 2 (-2)).1 9 o 0 = 4 then _ else _)
  have B : fq (fLn' (wSlp o)) σ (m2_wI (m2_wI σ3 9 o 1 (nI dd)) 9 o 2 (-2)) := ((A2.trans (f3.weak fMl_L)).w (W9 1)).w (W9 2)
  have t3' : CT (m2_wI (m2_wI σ3 9 o 1 (nI dd)) 9 o 2 (-2)) ν T n _ _ (m + 1) := (t3.w (by decide) (by decide) (by decide) (by decide) (by decide)).w (by decide) (by decide) (by decide) (by decide) (by decide)
  have b0 : (m2_wI (m2_wI σ3 9 o 1 (nI dd)) 9 o 2 (-2)).1 9 o 0 = nI mi := by rw [wI_k (by decide), wI_k (by decide), f3.1 _ _ _ rfl, f2.1 _ _ _ rfl, a0]
  have b1 : (m2_wI (m2_wI σ3 9 o 1 (nI dd)) 9 o 2 (-2)).1 9 o 1 = nI dd := by rw [wI_k (by decide), wI_same]
  have b2 : (m2_wI (m2_wI σ3 9 o 1 (nI dd)) 9 o 2 (-2)).1 9 o 2 = -2 := wI_same
  generalize m2_wI (m2_wI σ3 9 o 1 (nI dd)) 9 o 2 (-2) = σB at *
  have fin : ∀ e c1 σ4, fq (fLn' (wSlp o)) σ σ4 → CT σ4 ν T n c1 N1 (m + 1) → σ4.1 9 o 0 = nI mi → σ4.1 9 o 1 = nI dd → σ4.1 9 o 2 = e → lSlp T n F N c = sEnd T n F N1 (gN F 7) mi dd e c1 → g47_109 L xs (CL L xs (d - 1)) Q o σ4 := by
    intro e c1 σ4 D t4 d0 d1 d2 E4
    refine w47_109 hC ?_
    refine c35 (by omega) t4 (by omega) (fun z σ5 f5 e8 e9 => ⟨_, rfl, if_y rfl (qf.go (E4.trans (pW_f z _)) (by omega) (D.weak wk) f5 e8 e9)⟩) (fun z5 σ5 f5 t5 => ⟨_, rfl, if_n (by decide) ?_⟩)
    have E5 := E4.trans (pW_t z5 _)
    have D5 := D.trans (f5.weak fMl_L)
    refine c36 (lo := 1) (hi := 9) (by omega) rfl rfl (by omega) (by omega) t5 (fun f ef hf σ6 f6 e8 e9 => ⟨_, rfl, if_y rfl (qf.go (E5.trans (pN_f ef hf _)) hf (D5.weak wk) f6 e8 e9)⟩) (fun k6 g6 σ6 f6 e6' t6 => ⟨_, rfl, if_n (by decide) ?_⟩)
    have E6 := E5.trans (pN_t k6 g6 _)
    rw [e6']
    generalize tV T n _ = v at *
    have G : fq (fLn' (wSlp o)) σ (m2_wI σ6 9 o 3 (nI v)) := (D5.trans (f6.weak fMl_L)).w (W9 3)
    refine qt _ _ _ _ E6 (G.weak wk) (t6.w (by decide) (by decide) (by decide) (by decide) (by decide)) ?_
    refine rM_slp hP.1 hν hr hM (fun k k1 k2 k3 => by rw [updR_ne (by omega), updR_ne (by omega), updR_ne (by omega), updR_ne (by omega), updR_ne (by omega)]) (by rw [updR_eq]) (fun t i k h1 h2 h3 => hg_of G h1 h2 (by
      unfold wSlp
      simp only [Bool.and_eq_false_iff, beq_eq_false_iff_ne, ne_eq]
      omega)) ?_ ⟨?_, ?_, ?_, ?_⟩
    · rw [wI_same, wI_t (by decide), f6.1 _ _ _ rfl, f5.1 _ _ _ rfl, D.1 36 ν 5 rfl, c36', nI_1]
    · rw [← ho, wI_t (by decide), wI_k (by decide), f6.1 _ _ _ rfl, f5.1 _ _ _ rfl, d0, updR_ne (by omega), updR_ne (by omega), updR_ne (by omega), updR_ne (by omega), updR_eq]
    · rw [← ho, wI_t (by decide), wI_k (by decide), f6.1 _ _ _ rfl, f5.1 _ _ _ rfl, d1, updR_ne (by omega), updR_ne (by omega), updR_ne (by omega), updR_eq]
    · rw [← ho, wI_t (by decide), wI_k (by decide), f6.1 _ _ _ rfl, f5.1 _ _ _ rfl, d2, updR_ne (by omega), updR_ne (by omega), updR_eq]
    · rw [← ho, wI_t (by decide), wI_same, updR_ne (by omega), updR_eq]
  rw [b0]
  refine if_c (fun z4 => ?_) (fun z4 => ?_)
  · have z4 := (nI_eq (b := 4) (by omega) (by omega)).mp z4
    have E3' := E3.trans (if_pos z4)
    refine c39 (sort := 3) (lo := 5) (hi := 12) (by omega) rfl (by omega) s3ok t3' (fun f hf hK σ4 f4 e8 e9 => ⟨_, rfl, if_y rfl (qf.go (E3'.trans (hK _)) hf (B.weak wk) f4 e8 e9)⟩) (fun ee q1 q2 q3 hK4 σ4 f4 e6' e7' t4 => ⟨_, rfl, if_n (by decide) ?_⟩)
    have E4 := E3'.trans (hK4 _)
    have B4 := B.trans (f4.weak fMl_L)
    rw [e6', f4.1 9 o 1 rfl, b1]
    refine if_c (fun z => ?_) (fun z => ?_)
    · have z := (nI_eq (by omega) (by omega)).mp z
      rw [e7']
      refine c31 (by omega) (fun σ5 f5 e8 e9 => ⟨_, rfl, ?_⟩)
      exact qf.go (f := 3) (E4.trans (if_pos z)) (by omega) (B4.weak wk) f5 e8 e9
    · have z : ee ≠ dd := fun w => z (by rw [w])
      exact fin (nI ee) _ _ (B4.w (W9 2)) (t4.w (by decide) (by decide) (by decide) (by decide) (by decide)) (by rw [wI_k (by decide), f4.1 _ _ _ rfl, b0]) (by rw [wI_k (by decide), f4.1 _ _ _ rfl, b1]) wI_same (E4.trans (if_neg z))
  · have z4 : mi ≠ 4 := fun w => z4 (by rw [w]; rfl)
    exact fin (-2) _ _ B t3' b0 b1 b2 (E3.trans (if_neg z4))
end TEL2
