/-! THE LINES in the model: plan, slip, deed -/
theorem MR.cg {σ : M2} {T : Nat → Nat} {n c : Nat} {F F' : Nat → Int32} {N : Nat → Nat} (h : MR σ T n c F N) (e : ∀ k, k < 187 → F' k = F k) : MR σ T n c F' N :=
  ⟨h.1, h.2.1, h.2.2.1, ⟨fun k hk => by rw [e k hk]; exact h.2.2.2.1.1 k hk, h.2.2.2.1.2⟩, h.2.2.2.2⟩
section MTL2
variable {L : Nat} {xs : Nat → Int32} {d : Nat} {Q : Option dm_V → M2 → Prop} {σ σ0 : M2} {T : Nat → Nat} {n c : Nat} {N : Nat → Nat} {F : Nat → Int32} {ff pp : Nat}
theorem c183 (hd : 11 ≤ d) (h : MR σ T n c F N) (hP : PV F N) (hr : gN F 6 < 4) (qf : MFc σ (lPln T n F N c) Q) (qt : MSc T n σ (lPln T n F N c) Q) : CL L xs d 183 [vr 13 0] σ Q := by
  refine cl_at p183 (by omega) (w183_0 hC ?_)
  have b6 := hP.1.cP
  rw [h.row (by omega), b6.2, h.h13]
  refine if_y rfl ?_
  have e13 : 13 + nI (gN F 6) = nI (13 + gN F 6) := nI_add 13 _
  have e96 : 96 + (7 * nI (gN F 6)) = nI (96 + 7 * gN F 6) := by rw [l96, l7, nI_mul, nI_add]
  rw [e13, e96]
  have fl : ∀ x3 σ1 f p, fr gRd σ σ1 → FM σ1 f p → f ≠ 0 → lPln T n F N c = .inl (f, p) → g183_48 L xs (CL L xs (d - 1)) Q (nI (96 + 7 * gN F 6)) x3 0 σ1 := fun x3 σ1 f p g m hf E => w183_48 hC (if_y rfl (ff_end qf E hf g m))
  have f84 : ∀ x3 x5 σ1 f p, fr gRd σ σ1 → FM σ1 f p → f ≠ 0 → lPln T n F N c = .inl (f, p) → g183_84 L xs (CL L xs (d - 1)) Q (nI (96 + 7 * gN F 6)) x3 x5 σ1 := fun x3 x5 σ1 f p g m hf E => w183_84 hC (ff_end qf E hf g m)
  refine c167 (slot := 13 + gN F 6) (by omega) rfl (by omega) h (fun f hf hK σ1 f1 m1 => ⟨rfl, ?_⟩) (fun hK σ1 f1 m1 => ⟨rfl, ?_⟩)
  · rw [m1.1]
    exact if_n (by decide) (fl _ σ1 f _ f1 m1 hf (hK _))
  generalize upN N (13 + gN F 6) (cd T n c) = N1 at *
  have E1 : lPln T n F N c = pSt T n N1 (gN F 6) 7 0 F (nx T n c) := hK _
  rw [m1.h13]
  refine if_y rfl ?_
  have fin : ∀ many F2 c2 σ2, many + 1 ≤ 6 → MR σ2 T n c2 F2 N1 → fr gRd σ σ2 → F2 6 = F 6 → lPln T n F N c = .inr (c2, updR (updR F2 (96 + 7 * gN F 6) (nI (many + 1))) 6 (nI (gN F 6 + 1)), N1) → g183_48 L xs (CL L xs (d - 1)) Q (nI (96 + 7 * gN F 6)) (nI (many + 1)) 0 σ2 := by
    intro many F2 c2 σ2 hm m2 g2 e6 E
    refine w183_48 hC (if_y rfl ?_)
    rw [m2.h13, nI_clamp (by omega)]
    refine if_y rfl (ix_k (by omega) (by omega) ?_)
    have m2' := m2.w (k := 96 + 7 * gN F 6) (v := nI (many + 1)) (by omega)
    show Q none (m2_wI (m2_wI σ2 63 0 (96 + 7 * gN F 6) (nI (many + 1))) 63 0 6 ((m2_wI σ2 63 0 (96 + 7 * gN F 6) (nI (many + 1))).1 63 0 6 + 1))
    rw [m2'.row (k := 6) (by omega), updR_ne (by omega), e6, b6.2, nI_1]
    exact qt _ _ _ _ E ((g2.w g63).w g63) (m2'.w (by omega))
  have step : ∀ mm many F1 c1 σ2, many ≤ 6 → MR σ2 T n c1 F1 N1 → fr gRd σ σ2 → F1 6 = F 6 → lPln T n F N c = pSt T n N1 (gN F 6) (mm + 1) many F1 c1 → (∀ F2 c2 σ3, many < 6 → MR σ3 T n c2 F2 N1 → fr gRd σ σ3 → F2 6 = F 6 → lPln T n F N c = pSt T n N1 (gN F 6) mm (many + 1) F2 c2 → g183_48 L xs (CL L xs (d - 1)) Q (nI (96 + 7 * gN F 6)) (nI (many + 1)) 1 σ3) → g183_48 L xs (CL L xs (d - 1)) Q (nI (96 + 7 * gN F 6)) (nI many) 1 σ2 := by
    intro mm many F1 c1 σ2 hm m2 g2 e6 E hnext
    have E : lPln T n F N c = pUse T n N1 5 12 c1 (fun e c' => if many = 6 then .inl (5, tA T n c1) else if kd T n c' = 4 then pSt T n N1 (gN F 6) mm (many + 1) (updR F1 (96 + 7 * gN F 6 + 1 + many) (nI e)) (nx T n c') else .inr (c', updR (updR (updR F1 (96 + 7 * gN F 6 + 1 + many) (nI e)) (96 + 7 * gN F 6) (nI (many + 1))) 6 (nI (gN F 6 + 1)), N1)) := E
    refine w183_48 hC (if_n (by decide) ?_)
    refine c168 (lo := 5) (hi := 12) (by omega) rfl rfl (by omega) (by omega) m2 (fun f hf hK σ3 f3 m3 => ⟨_, rfl, ?_⟩) (fun e q1 q2 hK3 => ⟨_, rfl, ?_⟩)
    · rw [m3.1]
      exact if_n (by decide) (f84 _ _ σ3 f _ (g2.trans f3) m3 hf (E.trans (hK _)))
    have E3 := E.trans (hK3 _)
    rw [m2.h13]
    refine if_y rfl ?_
    by_cases z6 : many = 6
    · refine if_y (by rw [z6]; rfl) ?_
      refine c161 (by omega) m2 (f := 5) rfl m2.at (fun σ3 f3 m3 => ⟨rfl, ?_⟩)
      exact f84 _ _ σ3 5 _ (g2.trans f3) m3 (by omega) (E3.trans (if_pos z6))
    refine if_n (fun w => z6 ((nI_eq (b := 6) (by omega) (by omega)).mp w)) ?_
    have E3' := E3.trans (if_neg z6)
    refine w183_84 hC ?_
    rw [m2.h13]
    refine if_y rfl ?_
    have ea : (nI (96 + 7 * gN F 6) + 1) + nI many = nI (96 + 7 * gN F 6 + 1 + many) := by rw [nI_1, nI_add]
    rw [ea, nI_1 many, nI_clamp (by omega)]
    refine m2.nx (by omega) (fun σ3 f3 m3 => ⟨rfl, ix_k (by omega) (by omega) ?_⟩)
    have m3' := m3.w (k := 96 + 7 * gN F 6 + 1 + many) (v := nI e) (by omega)
    have g3 := (g2.trans f3).w (z := nI e) (g63 (k := 96 + 7 * gN F 6 + 1 + many))
    have e6' : updR F1 (96 + 7 * gN F 6 + 1 + many) (nI e) 6 = F 6 := by rw [updR_ne (by omega)]; exact e6
    refine c174 (by omega) m3' (fun z4 => ⟨_, rfl, ?_⟩) (fun z4 σ4 f4 m4 => ⟨_, rfl, ?_⟩)
    · exact fin many _ _ _ (by omega) m3' g3 e6' (E3'.trans (if_neg z4))
    · exact hnext _ _ σ4 (by omega) m4 (g3.trans f4) e6' (E3'.trans (if_pos z4))
  have loop : ∀ mm many F1 c1 σ2, many + mm = 6 → MR σ2 T n c1 F1 N1 → fr gRd σ σ2 → F1 6 = F 6 → lPln T n F N c = pSt T n N1 (gN F 6) (mm + 1) many F1 c1 → g183_48 L xs (CL L xs (d - 1)) Q (nI (96 + 7 * gN F 6)) (nI many) 1 σ2 := by
    intro mm
    induction mm with
    | zero => exact fun many F1 c1 σ2 hm7 m G e E => step 0 many F1 c1 σ2 (by omega) m G e E (fun _ _ _ w => by omega)
    | succ mm ih => exact fun many F1 c1 σ2 hm7 m G e E => step (mm + 1) many F1 c1 σ2 (by omega) m G e E (fun F2 c2 σ3 _ m3 G3 e3 E3 => ih (many + 1) F2 c2 σ3 (by omega) m3 G3 e3 E3)
  exact loop 6 0 F _ σ1 (by omega) m1 f1 rfl E1
theorem c184 (hd : 12 ≤ d) (h : MR σ T n c F N) (hP : PV F N) (hr : gN F 7 < 7) (qf : MFc σ (lSlp T n F N c) Q) (qt : MSc T n σ (lSlp T n F N c) Q) : CL L xs d 184 [vr 13 0] σ Q := by
  refine cl_at p184 (by omega) (w184_0 hC ?_)
  have b7 := hP.1.cS
  rw [h.row (by omega), b7.2, h.h13]
  refine if_y rfl ?_
  have e17 : 17 + nI (gN F 7) = nI (17 + gN F 7) := nI_add 17 _
  have e124 : 124 + (4 * nI (gN F 7)) = nI (124 + 4 * gN F 7) := by rw [l124, l4, nI_mul, nI_add]
  rw [e17, e124]
  have f116 : ∀ x3 σ1 f p, fr gRd σ σ1 → FM σ1 f p → f ≠ 0 → lSlp T n F N c = .inl (f, p) → g184_116 L xs (CL L xs (d - 1)) Q (nI (124 + 4 * gN F 7)) x3 σ1 := fun x3 σ1 f p g m hf E => w184_116 hC (ff_end qf E hf g m)
  have f185 : ∀ x3 x4 x5 σ1 f p, fr gRd σ σ1 → FM σ1 f p → f ≠ 0 → lSlp T n F N c = .inl (f, p) → g184_185 L xs (CL L xs (d - 1)) Q (nI (124 + 4 * gN F 7)) x3 x4 x5 σ1 := fun x3 x4 x5 σ1 f p g m hf E => w184_185 hC (c173f (by omega) m ⟨_, rfl, ff_end qf E hf g m⟩)
  refine c167 (slot := 17 + gN F 7) (by omega) rfl (by omega) h (fun f hf hK σ1 f1 m1 => ⟨rfl, ?_⟩) (fun hK σ1 f1 m1 => ⟨rfl, ?_⟩)
  · refine c162f (by omega) m1 ⟨_, rfl, if_y rfl (c162f (by omega) m1 ⟨_, rfl, if_y rfl (c162f (by omega) m1 ⟨_, rfl, if_y rfl (c162f (by omega) m1 ⟨_, rfl, if_y rfl (c162f (by omega) m1 ⟨_, rfl, if_y rfl ?_⟩)⟩)⟩)⟩)⟩
    refine w184_102 hC (if_y (by decide) (c161f (by omega) m1 ⟨rfl, ?_⟩))
    exact f116 _ σ1 f _ f1 m1 hf (hK _)
  generalize upN N (17 + gN F 7) (cd T n c) = N1 at *
  have E1 : lSlp T n F N c = pMis T n (nx T n c) _ := hK _
  have fin : ∀ mi dd e x5 c2 σ2, mi ≤ 4 → dd < 8 → MR σ2 T n c2 F N1 → fr gRd σ σ2 → (mi = 4 → x5 = e) → (mi ≠ 4 → e = -2) → lSlp T n F N c = sEnd T n F N1 (gN F 7) mi dd e c2 → g184_185 L xs (CL L xs (d - 1)) Q (nI (124 + 4 * gN F 7)) (nI mi) (nI dd) x5 σ2 := by
    intro mi dd e x5 c2 σ2 hmi hdd m2 g2 he1 he2 E
    refine w184_185 hC ?_
    have e1 : nI (124 + 4 * gN F 7) + 1 = nI (124 + 4 * gN F 7 + 1) := nI_1 _
    have e2 : nI (124 + 4 * gN F 7) + 2 = nI (124 + 4 * gN F 7 + 2) := nI_add _ 2
    have e3 : nI (124 + 4 * gN F 7) + 3 = nI (124 + 4 * gN F 7 + 3) := nI_add _ 3
    refine c173 (o := 24) (lo := 1) (hi := 9) (by omega) (by omega) rfl rfl (by omega) (by omega) m2 (fun f p hf hK σ3 f3 m3 => ⟨_, rfl, ?_⟩) (fun v c3 v1 v2 hK3 σ3 f3 m3 => ⟨_, rfl, ?_⟩)
    · exact ff_end qf (E.trans (hK _)) hf (g2.trans f3) m3
    have E3 := E.trans (hK3 _)
    rw [m3.h13, e1, e2, nI_clamp (n := 124 + 4 * gN F 7) (by omega), nI_clamp (n := 124 + 4 * gN F 7 + 1) (by omega)]
    refine if_y rfl (ix_k (by omega) (by omega) (ix_k (by omega) (by omega) ?_))
    have m3' := (m3.w (k := 124 + 4 * gN F 7) (v := nI mi) (by omega)).w (k := 124 + 4 * gN F 7 + 1) (v := nI dd) (by omega)
    have g3 := ((g2.trans f3).w (z := nI mi) (g63 (k := 124 + 4 * gN F 7))).w (z := nI dd) (g63 (k := 124 + 4 * gN F 7 + 1))
    have last : ∀ y, y = e → g184_241 L xs (CL L xs (d - 1)) Q (nI (124 + 4 * gN F 7)) (nI v) y (nI (124 + 4 * gN F 7 + 2)) (m2_wI (m2_wI σ3 63 0 (124 + 4 * gN F 7) (nI mi)) 63 0 (124 + 4 * gN F 7 + 1) (nI dd)) := by
      intro y ey
      subst ey
      refine w184_241 hC ?_
      rw [e3, nI_clamp (n := 124 + 4 * gN F 7 + 2) (by omega), nI_clamp (n := 124 + 4 * gN F 7 + 3) (by omega)]
      refine ix_k (by omega) (by omega) (ix_k (by omega) (by omega) ?_)
      have m4 := (m3'.w (k := 124 + 4 * gN F 7 + 2) (v := y) (by omega)).w (k := 124 + 4 * gN F 7 + 3) (v := nI v) (by omega)
      have g4 := (g3.w (z := y) (g63 (k := 124 + 4 * gN F 7 + 2))).w (z := nI v) (g63 (k := 124 + 4 * gN F 7 + 3))
      generalize m2_wI (m2_wI (m2_wI (m2_wI σ3 63 0 (124 + 4 * gN F 7) (nI mi)) 63 0 (124 + 4 * gN F 7 + 1) (nI dd)) 63 0 (124 + 4 * gN F 7 + 2) y) 63 0 (124 + 4 * gN F 7 + 3) (nI v) = σ4 at *
      show Q none (m2_wI σ4 63 0 7 (σ4.1 63 0 7 + 1))
      rw [m4.row (k := 7) (by omega), updR_ne (by omega), updR_ne (by omega), updR_ne (by omega), updR_ne (by omega), b7.2, nI_1]
      exact qt _ _ _ _ E3 (g4.w g63) (m4.w (by omega))
    refine if_c (fun z => last _ (he1 ((nI_eq (b := 4) (by omega) (by omega)).mp z))) (fun z => last _ (he2 (fun w => z (by rw [w]; rfl))).symm)
  have go : ∀ mi, mi ≤ 4 → (∀ K, pMis T n (nx T n c) K = K mi (nx T n (nx T n c))) → g184_102 L xs (CL L xs (d - 1)) Q (nI (124 + 4 * gN F 7)) (nI mi) σ1 := by
    intro mi hmi hK2
    have E2 := E1.trans (hK2 _)
    refine w184_102 hC (if_n (nI_pos (by omega)) ?_)
    refine w184_116 hC ?_
    rw [m1.h13]
    refine if_y rfl ?_
    refine m1.nx (by omega) (fun σ2 f2 m2 => ⟨rfl, ?_⟩)
    have g2 := f1.trans f2
    refine c171 (by omega) m2 (fun f hf hK σ3 f3 m3 => ⟨_, rfl, ?_⟩) (fun dd d1 d2 hK3 σ3 f3 m3 => ⟨_, rfl, ?_⟩)
    · have g3 := g2.trans f3
      have E3 := E2.trans (hK _)
      refine if_c (fun _ => ?_) (fun _ => f185 _ _ _ σ3 f _ g3 m3 hf E3)
      refine c168f (by omega) m3 ⟨_, rfl, ?_⟩
      rw [m3.1]
      exact if_n (by decide) (if_n (by decide) (f185 _ _ _ σ3 f _ g3 m3 hf E3))
    have E3 := E2.trans (hK3 _)
    have g3 := g2.trans f3
    refine if_c (fun z => ?_) (fun z => ?_)
    · have z := (nI_eq (b := 4) (by omega) (by omega)).mp z
      have E3' := E3.trans (if_pos z)
      refine c168 (lo := 5) (hi := 12) (by omega) rfl rfl (by omega) (by omega) m3 (fun f hf hK σ4 f4 m4 => ⟨_, rfl, ?_⟩) (fun ee q1 q2 hK4 => ⟨_, rfl, ?_⟩)
      · rw [m4.1]
        exact if_n (by decide) (if_n (by decide) (f185 _ _ _ σ4 f _ (g3.trans f4) m4 hf (E3'.trans (hK _))))
      have E4 := E3'.trans (hK4 _)
      rw [m3.h13]
      refine if_y rfl ?_
      refine if_c (fun w => ?_) (fun w => ?_)
      · have w := (nI_eq (by omega) (by omega)).mp w
        refine c161 (by omega) m3 (f := 3) rfl m3.at (fun σ4 f4 m4 => ⟨rfl, ?_⟩)
        rw [m4.1]
        exact if_n (by decide) (f185 _ _ _ σ4 3 _ (g3.trans f4) m4 (by omega) (E4.trans (if_pos w)))
      · have w : ee ≠ dd := fun e => w (by rw [e])
        refine if_y rfl (m3.nx (by omega) (fun σ4 f4 m4 => ⟨rfl, ?_⟩))
        exact fin mi dd (nI ee) _ _ σ4 hmi (by omega) m4 (g3.trans f4) (fun _ => rfl) (fun w => absurd z w) (E4.trans (if_neg w))
    · have z : mi ≠ 4 := fun w => z (by rw [w]; rfl)
      exact fin mi dd (-2) _ _ σ3 hmi (by omega) m3 g3 (fun w => absurd w z) (fun _ => rfl) (E3.trans (if_neg z))
  refine m1.wd (by omega) (o := 19) (by omega) ⟨_, rfl, ?_⟩
  refine if_b (fun z => ?_) (fun z => go 0 (by omega) (fun K => by unfold pMis; rw [if_pos (of_decide_eq_true z)]))
  have z := of_decide_eq_false z
  refine m1.wd (by omega) (o := 20) (by omega) ⟨_, rfl, ?_⟩
  refine if_b (fun z1 => ?_) (fun z1 => go 1 (by omega) (fun K => by unfold pMis; rw [if_neg z, if_pos (of_decide_eq_true z1)]))
  have z1 := of_decide_eq_false z1
  refine m1.wd (by omega) (o := 21) (by omega) ⟨_, rfl, ?_⟩
  refine if_b (fun z2 => ?_) (fun z2 => go 2 (by omega) (fun K => by unfold pMis; rw [if_neg z, if_neg z1, if_pos (of_decide_eq_true z2)]))
  have z2 := of_decide_eq_false z2
  refine m1.wd (by omega) (o := 22) (by omega) ⟨_, rfl, ?_⟩
  refine if_b (fun z3 => ?_) (fun z3 => go 3 (by omega) (fun K => by unfold pMis; rw [if_neg z, if_neg z1, if_neg z2, if_pos (of_decide_eq_true z3)]))
  have z3 := of_decide_eq_false z3
  refine m1.wd (by omega) (o := 23) (by omega) ⟨_, rfl, ?_⟩
  refine if_b (fun z4 => ?_) (fun z4 => go 4 (by omega) (fun K => by unfold pMis; rw [if_neg z, if_neg z1, if_neg z2, if_neg z3, if_pos (of_decide_eq_true z4)]))
  have z4 := of_decide_eq_false z4
  refine w184_102 hC (if_y (by decide) (c161 (by omega) m1 (f := 1) rfl m1.at (fun σ2 f2 m2 => ⟨rfl, ?_⟩)))
  exact f116 _ σ2 1 _ (f1.trans f2) m2 (by omega) (E1.trans (by unfold pMis; rw [if_neg z, if_neg z1, if_neg z2, if_neg z3, if_neg z4]))
theorem c182 (hd : 12 ≤ d) (h : MR σ T n c F N) (hP : PV F N) (hr : gN F 5 < 8) (qf : MFc σ (lDed T n F N c) Q) (qt : MSc T n σ (lDed T n F N c) Q) : CL L xs d 182 [vr 13 0] σ Q := by
  refine cl_at p182 (by omega) (w182_0 hC ?_)
  have b5 := hP.1.cD
  rw [h.row (by omega), b5.2, h.h13]
  refine if_y rfl ?_
  have e5 : 5 + nI (gN F 5) = nI (5 + gN F 5) := nI_add 5 _
  have e40 : 40 + (7 * nI (gN F 5)) = nI (40 + 7 * gN F 5) := by rw [l40, l7, nI_mul, nI_add]
  rw [e5, e40]
  have f76 : ∀ x3 σ1 f p, fr gRd σ σ1 → FM σ1 f p → f ≠ 0 → lDed T n F N c = .inl (f, p) → g182_76 L xs (CL L xs (d - 1)) Q (nI (40 + 7 * gN F 5)) x3 0 σ1 := fun x3 σ1 f p g m hf E => w182_76 hC (if_y rfl (c163f (by omega) m ⟨_, rfl, if_y rfl (ff_end qf E hf g m)⟩))
  have f131 : ∀ x3 σ1 f p, fr gRd σ σ1 → FM σ1 f p → f ≠ 0 → lDed T n F N c = .inl (f, p) → g182_131 L xs (CL L xs (d - 1)) Q (nI (40 + 7 * gN F 5)) x3 σ1 := fun x3 σ1 f p g m hf E => w182_131 hC (ff_end qf E hf g m)
  have f202 : ∀ x3 x5 x6 σ1 f p, fr gRd σ σ1 → FM σ1 f p → f ≠ 0 → lDed T n F N c = .inl (f, p) → g182_202 L xs (CL L xs (d - 1)) Q (nI (40 + 7 * gN F 5)) x3 x5 x6 σ1 := fun x3 x5 x6 σ1 f p g m hf E => w182_202 hC (ff_end qf E hf g m)
  refine c167 (slot := 5 + gN F 5) (by omega) rfl (by omega) h (fun f hf hK σ1 f1 m1 => ⟨rfl, ?_⟩) (fun hK σ1 f1 m1 => ⟨rfl, ?_⟩)
  · refine dm_for (n := 7) (fun j σ' => g182_32 L xs (CL L xs (d - 1)) Q (nI (40 + 7 * gN F 5)) (nI j) σ') (fun _ σ' => σ' = σ1) ?_ ?_ 0 σ1 (Nat.zero_le _) rfl
    · rintro j σ' hj rfl ih
      refine w182_32 hC ?_
      rw [m1.1, nI_1]
      exact if_y (nI_lt (b := 7) hj (by omega)) (if_n (by decide) (ih σ' rfl))
    · rintro σ' rfl
      refine w182_32 hC ?_
      rw [m1.1]
      exact if_n (nI_nlt (b := 7) (Nat.le_refl _) (by omega)) (if_n (by decide) (f76 _ σ' f _ f1 m1 hf (hK _)))
  generalize upN N (5 + gN F 5) (cd T n c) = N1 at *
  have E1 : lDed T n F N c = dEf T n N1 (gN F 5) 0 (dEf T n N1 (gN F 5) 1 (dEf T n N1 (gN F 5) 2 (fun _ _ => .inl (0, 0)))) (ze7 F (40 + 7 * gN F 5)) (nx T n c) := hK _
  have e4' : nI (40 + 7 * gN F 5) + 4 = nI (40 + 7 * gN F 5 + 4) := nI_add _ 4
  have e5' : nI (40 + 7 * gN F 5) + 5 = nI (40 + 7 * gN F 5 + 5) := nI_add _ 5
  have e6' : nI (40 + 7 * gN F 5) + 6 = nI (40 + 7 * gN F 5 + 6) := nI_add _ 6
  have fin : ∀ x3 F2 c2 σ2, MR σ2 T n c2 F2 N1 → fr gRd σ σ2 → F2 5 = F 5 → lDed T n F N c = dIf T n N1 (gN F 5) F2 c2 → g182_76 L xs (CL L xs (d - 1)) Q (nI (40 + 7 * gN F 5)) x3 0 σ2 := by
    intro x3 F2 c2 σ2 m2 g2 h5 E
    refine w182_76 hC (if_y rfl ?_)
    refine c163 (by omega) m2 (o := 9) (by omega) (fun z => ⟨_, rfl, if_y rfl ?_⟩) (fun z σ3 f3 m3 => ⟨_, rfl, if_n (by decide) ?_⟩)
    · rw [m2.h13, m2.row (k := 5) (by omega), h5, b5.2, nI_1]
      refine if_y rfl ?_
      exact qt _ _ _ _ (E.trans (if_neg z)) (g2.w g63) (m2.w (by omega))
    have E2 := E.trans (if_pos z)
    have g3 := g2.trans f3
    rw [e4', e5', e6', nI_clamp (n := 40 + 7 * gN F 5 + 4) (by omega), nI_clamp (n := 40 + 7 * gN F 5 + 5) (by omega), nI_clamp (n := 40 + 7 * gN F 5 + 6) (by omega)]
    refine c170 (by omega) m3 (fun f hf hK σ4 f4 m4 => ⟨_, rfl, ix_k (by omega) (by omega) ?_⟩) (fun t t1 t2 hK4 σ4 f4 m4 => ⟨_, rfl, ix_k (by omega) (by omega) ?_⟩)
    · refine c180f (by omega) m4.w ⟨_, rfl, ix_k (by omega) (by omega) ?_⟩
      refine c172f (by omega) m4.w.w ⟨_, rfl, ix_k (by omega) (by omega) ?_⟩
      exact ff_end qf (E2.trans (hK _)) hf ((((g3.trans f4).w g63).w g63).w g63) m4.w.w.w
    have E4 := E2.trans (hK4 _)
    rw [nI_1 t]
    have m4' := m4.w (k := 40 + 7 * gN F 5 + 4) (v := nI (t + 1)) (by omega)
    have g4 := (g3.trans f4).w (z := nI (t + 1)) (g63 (k := 40 + 7 * gN F 5 + 4))
    refine c180 (by omega) m4' (fun f p hf hK σ5 f5 m5 v => ⟨_, rfl, ix_k (by omega) (by omega) ?_⟩) (fun u hu hK5 σ5 f5 m5 => ⟨_, rfl, ix_k (by omega) (by omega) ?_⟩)
    · refine c172f (by omega) m5.w ⟨_, rfl, ix_k (by omega) (by omega) ?_⟩
      exact ff_end qf (E4.trans (hK _)) hf (((g4.trans f5).w g63).w g63) m5.w.w
    have E5 := E4.trans (hK5 _)
    have m5' := m5.w (k := 40 + 7 * gN F 5 + 5) (v := u) (by omega)
    have g5 := (g4.trans f5).w (z := u) (g63 (k := 40 + 7 * gN F 5 + 5))
    refine c172 (lo := 0) (hi := 9) (by omega) rfl rfl (by omega) (by omega) m5' (fun f hf hK σ6 f6 m6 => ⟨_, rfl, ix_k (by omega) (by omega) ?_⟩) (fun b v1 v2 hK6 σ6 f6 m6 => ⟨_, rfl, ix_k (by omega) (by omega) ?_⟩)
    · exact ff_end qf (E5.trans (hK _)) hf ((g5.trans f6).w g63) m6.w
    have E6 := E5.trans (hK6 _)
    have m6' := m6.w (k := 40 + 7 * gN F 5 + 6) (v := nI b) (by omega)
    show (if (m2_wI σ6 63 0 (40 + 7 * gN F 5 + 6) (nI b)).1 13 0 13 = 0 then Q none (m2_wI (m2_wI σ6 63 0 (40 + 7 * gN F 5 + 6) (nI b)) 63 0 5 ((m2_wI σ6 63 0 (40 + 7 * gN F 5 + 6) (nI b)).1 63 0 5 + 1)) else _)
    rw [m6'.h13, m6'.row (k := 5) (by omega), updR_ne (by omega), updR_ne (by omega), updR_ne (by omega), h5, b5.2, nI_1]
    refine if_y rfl ?_
    exact qt _ _ _ _ E6 (((g5.trans f6).w g63).w g63) (m6'.w (by omega))
  have step : ∀ many F1 c1 σ2 more, many ≤ 2 → MR σ2 T n c1 F1 N1 → fr gRd σ σ2 → F1 5 = F 5 → lDed T n F N c = dEf T n N1 (gN F 5) many more F1 c1 → (∀ F2 c2 σ3, many < 2 → MR σ3 T n c2 F2 N1 → fr gRd σ σ3 → F2 5 = F 5 → lDed T n F N c = more F2 c2 → g182_76 L xs (CL L xs (d - 1)) Q (nI (40 + 7 * gN F 5)) (nI (many + 1)) 1 σ3) → g182_76 L xs (CL L xs (d - 1)) Q (nI (40 + 7 * gN F 5)) (nI many) 1 σ2 := by
    intro many F1 c1 σ2 more hmany m2 g2 h5 E hmore
    have k110 : (cd T n c1 = kw 17 ∨ cd T n c1 = kw 18) → g182_110 L xs (CL L xs (d - 1)) Q (nI (40 + 7 * gN F 5)) (nI many) σ2 := by
      intro hb
      have D0 : lDed T n F N c = (if many = 2 then .inl (5, tA T n c1) else pUse T n N1 0 4 (nx T n c1) (fun t c2 => if many = 1 ∧ F1 (40 + 7 * gN F 5) = nI (t + 1) then .inl (3, tA T n (nx T n c1)) else pN T n 1 9 c2 (fun v c3 => if kd T n c3 = 4 then more (updR (updR F1 (40 + 7 * gN F 5 + 2 * many) (nI (t + 1))) (40 + 7 * gN F 5 + 2 * many + 1) (if cd T n c1 = kw 17 then nI v else -(nI v))) (nx T n c3) else dIf T n N1 (gN F 5) (updR (updR F1 (40 + 7 * gN F 5 + 2 * many) (nI (t + 1))) (40 + 7 * gN F 5 + 2 * many + 1) (if cd T n c1 = kw 17 then nI v else -(nI v))) c3))) := E.trans (if_pos hb)
      refine w182_110 hC ?_
      rw [m2.h13]
      refine if_y rfl ?_
      by_cases z2 : many = 2
      · refine if_y (by rw [z2]; rfl) ?_
        refine c161 (by omega) m2 (f := 5) rfl m2.at (fun σ3 f3 m3 => ⟨rfl, ?_⟩)
        exact f131 _ σ3 5 _ (g2.trans f3) m3 (by omega) (D0.trans (if_pos z2))
      refine if_n (fun w => z2 ((nI_eq (b := 2) (by omega) (by omega)).mp w)) ?_
      have D1 := D0.trans (if_neg z2)
      refine w182_131 hC ?_
      rw [m2.h13]
      refine if_y rfl ?_
      have k154 : ∀ y0, (∀ v : Nat, y0 * nI v = (if cd T n c1 = kw 17 then nI v else -(nI v))) → g182_154 L xs (CL L xs (d - 1)) Q (nI (40 + 7 * gN F 5)) (nI many) y0 σ2 := by
        intro y0 hy
        refine w182_154 hC ?_
        refine m2.nx (by omega) (fun σ3 f3 m3 => ⟨rfl, ?_⟩)
        have g3 := g2.trans f3
        refine c168 (lo := 0) (hi := 4) (by omega) rfl rfl (by omega) (by omega) m3 (fun f hf hK σ4 f4 m4 => ⟨_, rfl, ?_⟩) (fun t t1 t2 hK4 => ⟨_, rfl, ?_⟩)
        · rw [m4.1]
          exact if_n (by decide) (f202 _ _ _ σ4 f _ (g3.trans f4) m4 hf (D1.trans (hK _)))
        have D2 := D1.trans (hK4 _)
        have k202 : ¬ (many = 1 ∧ F1 (40 + 7 * gN F 5) = nI (t + 1)) → g182_202 L xs (CL L xs (d - 1)) Q (nI (40 + 7 * gN F 5)) (nI many) y0 (nI t) σ3 := by
          intro ng
          have D3 := D2.trans (if_neg ng)
          refine w182_202 hC ?_
          rw [m3.h13]
          refine if_y rfl ?_
          have ea : nI (40 + 7 * gN F 5) + (2 * nI many) = nI (40 + 7 * gN F 5 + 2 * many) := by rw [l2, nI_mul, nI_add]
          rw [ea, nI_1 (40 + 7 * gN F 5 + 2 * many), nI_1 t, nI_1 many, nI_clamp (n := 40 + 7 * gN F 5 + 2 * many) (by omega), nI_clamp (n := 40 + 7 * gN F 5 + 2 * many + 1) (by omega)]
          refine m3.nx (by omega) (fun σ4 f4 m4 => ⟨rfl, ix_k (by omega) (by omega) ?_⟩)
          have m4' := m4.w (k := 40 + 7 * gN F 5 + 2 * many) (v := nI (t + 1)) (by omega)
          have g4 := (g3.trans f4).w (z := nI (t + 1)) (g63 (k := 40 + 7 * gN F 5 + 2 * many))
          refine c172 (lo := 1) (hi := 9) (by omega) rfl rfl (by omega) (by omega) m4' (fun f hf hK σ5 f5 m5 => ⟨_, rfl, ix_k (by omega) (by omega) ?_⟩) (fun v v1 v2 hK5 σ5 f5 m5 => ⟨_, rfl, ix_k (by omega) (by omega) ?_⟩)
          · refine c174f (by omega) m5.w ⟨_, rfl, ?_⟩
            exact f76 _ _ f _ ((g4.trans f5).w g63) m5.w hf (D3.trans (hK _))
          have D4 := D3.trans (hK5 _)
          rw [hy v]
          have m5' := m5.w (k := 40 + 7 * gN F 5 + 2 * many + 1) (v := if cd T n c1 = kw 17 then nI v else -(nI v)) (by omega)
          have g5 := (g4.trans f5).w (z := if cd T n c1 = kw 17 then nI v else -(nI v)) (g63 (k := 40 + 7 * gN F 5 + 2 * many + 1))
          have h5' : updR (updR F1 (40 + 7 * gN F 5 + 2 * many) (nI (t + 1))) (40 + 7 * gN F 5 + 2 * many + 1) (if cd T n c1 = kw 17 then nI v else -(nI v)) 5 = F 5 := by rw [updR_ne (by omega), updR_ne (by omega)]; exact h5
          refine c174 (by omega) m5' (fun z4 => ⟨_, rfl, ?_⟩) (fun z4 σ6 f6 m6 => ⟨_, rfl, ?_⟩)
          · exact fin _ _ _ _ m5' g5 h5' (D4.trans (if_neg z4))
          · exact hmore _ _ σ6 (by omega) m6 (g5.trans f6) h5' (D4.trans (if_pos z4))
        rw [m3.h13]
        refine if_y rfl ?_
        refine if_c (fun z1 => ix_k (by omega) (by omega) ?_) (fun z1 => k202 (fun w => z1 (by rw [w.1]; rfl)))
        have z1 := (nI_eq (b := 1) (by omega) (by omega)).mp z1
        rw [nI_clamp (by omega), m3.row (by omega), nI_1 t]
        refine if_c (fun w => ?_) (fun w => k202 (fun q => w q.2))
        refine c161 (by omega) m3 (f := 3) rfl m3.at (fun σ4 f4 m4 => ⟨rfl, ?_⟩)
        exact f202 _ _ _ σ4 3 _ (g3.trans f4) m4 (by omega) (D2.trans (if_pos ⟨z1, w⟩))
      refine m2.wd (by omega) (o := 17) (by omega) ⟨_, rfl, ?_⟩
      refine if_b (fun z => k154 _ (fun v => ?_)) (fun z => k154 _ (fun v => ?_))
      · rw [if_neg (of_decide_eq_false z), Int32.neg_mul, Int32.one_mul]
      · rw [if_pos (of_decide_eq_true z), Int32.one_mul]
    refine w182_76 hC (if_n (by decide) ?_)
    refine m2.wd (by omega) (o := 17) (by omega) ⟨_, rfl, ?_⟩
    refine if_b (fun z => ?_) (fun z => k110 (Or.inl (of_decide_eq_true z)))
    refine m2.wd (by omega) (o := 18) (by omega) ⟨_, rfl, ?_⟩
    refine if_b (fun z1 => ?_) (fun z1 => k110 (Or.inr (of_decide_eq_true z1)))
    refine c161 (by omega) m2 (f := 1) rfl m2.at (fun σ3 f3 m3 => ⟨rfl, ?_⟩)
    refine w182_110 hC ?_
    rw [m3.1]
    exact if_n (by decide) (f131 _ σ3 1 _ (g2.trans f3) m3 (by omega) (E.trans (if_neg (fun w => w.elim (of_decide_eq_false z) (of_decide_eq_false z1)))))
  refine dm_for (n := 7) (fun j σ' => g182_32 L xs (CL L xs (d - 1)) Q (nI (40 + 7 * gN F 5)) (nI j) σ') (fun j σ' => fr gRd σ σ' ∧ MR σ' T n (nx T n c) (fun i => if 40 + 7 * gN F 5 ≤ i ∧ i < 40 + 7 * gN F 5 + j then 0 else F i) N1) ?_ ?_ 0 σ1 (Nat.zero_le _) ⟨f1, m1.cg (fun k _ => if_neg (fun w => by omega))⟩
  · rintro j σ' hj ⟨g, m⟩ ih
    refine w182_32 hC ?_
    rw [m.h13, nI_add, nI_1 j, nI_clamp (n := 40 + 7 * gN F 5 + j) (by omega)]
    refine if_y (nI_lt (b := 7) hj (by omega)) (if_y rfl (ix_k (by omega) (by omega) ?_))
    refine ih _ ⟨g.w g63, (m.w (k := 40 + 7 * gN F 5 + j) (v := 0) (by omega)).cg (fun k hk => ?_)⟩
    show (if 40 + 7 * gN F 5 ≤ k ∧ k < 40 + 7 * gN F 5 + (j + 1) then (0 : Int32) else F k) = (if k = 40 + 7 * gN F 5 + j then 0 else (if 40 + 7 * gN F 5 ≤ k ∧ k < 40 + 7 * gN F 5 + j then 0 else F k))
    by_cases e : k = 40 + 7 * gN F 5 + j
    · rw [if_pos e, if_pos (by omega)]
    · rw [if_neg e]
      by_cases e2 : 40 + 7 * gN F 5 ≤ k ∧ k < 40 + 7 * gN F 5 + j
      · rw [if_pos e2, if_pos (by omega)]
      · rw [if_neg e2, if_neg (by omega)]
  · rintro σ' ⟨g, m⟩
    refine w182_32 hC ?_
    rw [m.h13]
    refine if_n (nI_nlt (b := 7) (Nat.le_refl _) (by omega)) (if_y rfl ?_)
    have z5 : ze7 F (40 + 7 * gN F 5) 5 = F 5 := if_neg (fun w => by omega)
    refine step 0 (ze7 F (40 + 7 * gN F 5)) _ σ' _ (by omega) m g z5 E1 (fun F3 c3 σ3 _ m3 g3 h3 E3 => ?_)
    refine step 1 F3 _ σ3 _ (by omega) m3 g3 h3 E3 (fun F4 c4 σ4 _ m4 g4 h4 E4 => ?_)
    exact step 2 F4 _ σ4 _ (by omega) m4 g4 h4 E4 (fun F5 c5 σ5 w _ _ _ _ => by omega)
end MTL2
