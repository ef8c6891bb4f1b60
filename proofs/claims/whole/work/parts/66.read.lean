/-! THE READER of the class: plan, which line, the whole text -/
theorem CT.fr {A : Nat → Nat → Nat → Bool} {σ σ' : M2} {ν : Nat} {T : Nat → Nat} {n c : Nat} {N : Nat → Nat} {m : Nat} (hA : ∀ k, A 7 0 k = false ∧ A 11 0 k = false ∧ A 54 0 k = false ∧ A 49 0 k = false ∧ A 50 0 k = false) (h : CT σ ν T n c N m) (f : fr A σ σ') : CT σ' ν T n c N m := by
  obtain ⟨a1, a2, a3, a4, a5, a6⟩ := h
  refine ⟨by rw [f.2]; exact a1, ⟨by rw [f.2]; exact a2.1, a2.2.1, by rw [f.1 _ _ _ (hA _).2.1]; exact a2.2.2.1, fun i hi => ⟨(a2.2.2.2 i hi).1, by rw [f.1 _ _ _ (hA _).2.2.1]; exact (a2.2.2.2 i hi).2⟩⟩, a3, ⟨by rw [f.1 _ _ _ (hA _).2.1]; exact a4.1, by rw [f.1 _ _ _ (hA _).2.1]; exact a4.2.1, by rw [f.1 _ _ _ (hA _).2.1]; exact a4.2.2.1, fun w => by rw [f.1 _ _ _ (hA _).2.1]; exact a4.2.2.2.1 w, fun w => by rw [f.2]; exact a4.2.2.2.2 w⟩, ?_, a6⟩
  exact a5.fj (A := A) (hA _).1 (hA _).1 (fun k => ⟨(hA k).2.2.2.1, (hA k).2.2.2.2⟩) f.j
theorem fr.q {A : Nat → Nat → Nat → Bool} {σ σ1 : M2} (h : fr A σ σ1) : fq A σ σ1 := ⟨h.1, by rw [h.2], fun k _ => by rw [h.2]⟩
section READ
variable {L : Nat} {xs : Nat → Int32} {d : Nat} {Q : Option dm_V → M2 → Prop} {σ σ0 : M2} {T : Nat → Nat} {n c ν m : Nat} {N : Nat → Nat} {F : Nat → Int32}
theorem c46 (hd : 8 ≤ d) {o : Nat} (ho : o = 4 * ν + gN F 6) (hr : gN F 6 < 4) (hν : ν < 2) (hm : m < 28) (h : CT σ ν T n c N m) (hP : PV F N) (hM : rM σ.1 ν F) (qf : FCt ν σ (lPln T n F N c) Q) (qt : SCt ν T n (m + 1) 4 σ (lPln T n F N c) Q) : CL L xs d 46 [vr 7 0, vr 10 o] σ Q := by
  refine cl_at p46 (by omega) (w46_0 hC ?_)
  have wk := fL_R (ν := ν) (W := wPln o) (by rw [ho]; exact wPln_u hr)
  have W10 : ∀ k, fLn' (wPln o) 10 o k = true := fun k => fL_w (by simp [wPln])
  have wS : ∀ t i k, fS o t i k = true → fLn' (wPln o) t i k = true := fun t i k hh => by
    unfold fLn' wPln
    unfold fS at hh
    simp only [Bool.or_eq_true, Bool.and_eq_true, beq_iff_eq] at *
    refine Or.inr ?_
    omega
  have sl := slots (13 + gN F 6) (by omega)
  have s1 : srt (13 + gN F 6) = 4 := sl.2.2.1.mpr (by omega)
  have sn : num (13 + gN F 6) = gN F 6 := by rw [sl.2.2.2.2.2.2.2.1 s1]; exact Nat.add_sub_cancel_left _ _
  clear sl
  have hN0 : N (13 + gN F 6) = 0 := Classical.byContradiction (fun w => by have := (hP.2.1 (13 + gN F 6) (by omega)).mp w; rw [s1, sn] at this; exact Nat.lt_irrefl _ this)
  have c36' : σ.1 36 ν 4 = nI (gN F 6) := hM.1.2.2.2.2.1.trans hP.1.cP.2
  refine c38 (sort := 4) (slot := 13 + gN F 6) (cnt := gN F 6) (by omega) rfl (by omega) ⟨by omega, s1, sn⟩ hN0 hm c36' h (fun f hf hK σ1 f1 e8 e9 => ⟨_, rfl, if_y rfl (qf.go (hK _) hf fq.id f1 e8 e9)⟩) (fun hK σ1 f1 t1 => ⟨_, rfl, if_n (by decide) ?_⟩)
  generalize upN N (13 + gN F 6) (cd T n c) = N1 at *
  have E1 : lPln T n F N c = pSt T n N1 (gN F 6) 7 0 F (nx T n c) := hK _
  have fin : ∀ many F2 c2 σ3, many + 1 ≤ 6 → fq (fLn' (wPln o)) σ σ3 → vS σ3.1 o (many + 1, fun i => 2 * gN F2 (96 + 7 * gN F 6 + 1 + i)) → (∀ k, (k < 96 + 7 * gN F 6 + 1 ∨ 96 + 7 * gN F 6 + 7 ≤ k) → F2 k = F k) → CT σ3 ν T n c2 N1 (m + 1) → lPln T n F N c = .inr (c2, updR (updR F2 (96 + 7 * gN F 6) (nI (many + 1))) 6 (nI (gN F 6 + 1)), N1) → Q (some (vi 1)) σ3 := by
    intro many F2 c2 σ3 hm6 G V hF ct E
    refine qt _ _ _ _ E (G.weak wk) ct ?_
    refine rM_pln hP.1 hν hr hM (fun k k1 k2 k3 => by rw [updR_ne k2, updR_ne (by omega)]; exact hF k (by omega)) (by rw [updR_eq]) (fun t i k h1 h2 h3 => hg_of G h1 h2 (by
      unfold wPln
      simp only [Bool.or_eq_false_iff, Bool.and_eq_false_iff, beq_eq_false_iff_ne, ne_eq]
      omega)) ?_ ?_
    · rw [wI_same, G.1 36 ν 4 rfl, c36', nI_1]
    · rw [← ho]
      refine vS_cg (p := (many + 1, fun i => 2 * gN F2 (96 + 7 * gN F 6 + 1 + i))) (fun k => ⟨wI_t (by decide), wI_t (by decide), wI_t (by decide)⟩) ?_ (fun i hi => ?_) V
      · show gN (updR (updR F2 (96 + 7 * gN F 6) (nI (many + 1))) 6 (nI (gN F 6 + 1))) (96 + 7 * gN F 6) = many + 1
        exact gN_of (by rw [updR_ne (by omega), updR_eq]) (by omega)
      · have hi : i < many + 1 := hi
        show 2 * gN (updR (updR F2 (96 + 7 * gN F 6) (nI (many + 1))) 6 (nI (gN F 6 + 1))) (96 + 7 * gN F 6 + 1 + i) = 2 * gN F2 (96 + 7 * gN F 6 + 1 + i)
        rw [gN_eq (show updR (updR F2 (96 + 7 * gN F 6) (nI (many + 1))) 6 (nI (gN F 6 + 1)) (96 + 7 * gN F 6 + 1 + i) = F2 (96 + 7 * gN F 6 + 1 + i) by rw [updR_ne (by omega), updR_ne (by omega)])]
  have step : ∀ mm many F1 c1 σ2, many ≤ 6 → CT σ2 ν T n c1 N1 (m + 1) → fq (fLn' (wPln o)) σ σ2 → vS σ2.1 o (many, fun i => 2 * gN F1 (96 + 7 * gN F 6 + 1 + i)) → (∀ k, (k < 96 + 7 * gN F 6 + 1 ∨ 96 + 7 * gN F 6 + 7 ≤ k) → F1 k = F k) → lPln T n F N c = pSt T n N1 (gN F 6) (mm + 1) many F1 c1 → (∀ F2 c2 σ3, many < 6 → CT σ3 ν T n c2 N1 (m + 1) → fq (fLn' (wPln o)) σ σ3 → vS σ3.1 o (many + 1, fun i => 2 * gN F2 (96 + 7 * gN F 6 + 1 + i)) → (∀ k, (k < 96 + 7 * gN F 6 + 1 ∨ 96 + 7 * gN F 6 + 7 ≤ k) → F2 k = F k) → lPln T n F N c = pSt T n N1 (gN F 6) mm (many + 1) F2 c2 → g46_17 L xs (CL L xs (d - 1)) Q o (nI (many + 1)) σ3) → g46_17 L xs (CL L xs (d - 1)) Q o (nI many) σ2 := by
    intro mm many F1 c1 σ2 hm6 ct G V hF E hnext
    have E : lPln T n F N c = pUse T n N1 5 12 c1 (fun e c' => if many = 6 then .inl (5, tA T n c1) else if kd T n c' = 4 then pSt T n N1 (gN F 6) mm (many + 1) (updR F1 (96 + 7 * gN F 6 + 1 + many) (nI e)) (nx T n c') else .inr (c', updR (updR (updR F1 (96 + 7 * gN F 6 + 1 + many) (nI e)) (96 + 7 * gN F 6) (nI (many + 1))) 6 (nI (gN F 6 + 1)), N1)) := E
    refine w46_17 hC ?_
    refine if_n (nI_nlt (a := 6) (by omega) (by omega)) ?_
    refine c39 (sort := 3) (lo := 5) (hi := 12) (by omega) rfl (by omega) s3ok ct (fun f hf hK σ3 f3 e8 e9 => ⟨_, rfl, if_y rfl (qf.go (E.trans (hK _)) hf (G.weak wk) f3 e8 e9)⟩) (fun e p1 p2 p3 hK3 σ3 f3 e6 e7 t3 => ⟨_, rfl, if_n (by decide) ?_⟩)
    have E3 := E.trans (hK3 _)
    have G3 := G.trans (f3.weak fMl_L)
    have V3 : vS σ3.1 o (many, fun i => 2 * gN F1 (96 + 7 * gN F 6 + 1 + i)) := vS_cg (fun k => ⟨f3.1 _ _ _ rfl, f3.1 _ _ _ rfl, f3.1 _ _ _ rfl⟩) rfl (fun _ _ => rfl) V
    have v1 : σ3.1 10 o 0 = nI many := V3.1
    rw [v1, e6, nI_1]
    by_cases z6 : many < 6
    · refine if_y (nI_lt (b := 6) z6 (by omega)) ?_
      have E3' := E3.trans (if_neg (show ¬ many = 6 by omega))
      refine c66 (k := many) (c := 2 * e) (by omega) rfl (by rw [Nat.mul_div_cancel_left _ (by omega)]) (by rw [Nat.mul_mod_right]; rfl) V3 (show many < 12 by omega) (Nat.le_refl _) (fun σ4 f4 V4 => ⟨rfl, ?_⟩)
      have ct4 : CT σ4 ν T n _ N1 (m + 1) := t3.fr (A := fS o) (fun k => ⟨rfl, rfl, rfl, rfl, rfl⟩) f4
      have G4 := G3.trans (f4.q.weak wS)
      have F2e : ∀ k, (k < 96 + 7 * gN F 6 + 1 ∨ 96 + 7 * gN F 6 + 7 ≤ k) → updR F1 (96 + 7 * gN F 6 + 1 + many) (nI e) k = F k := fun k hk => by rw [updR_ne (by omega)]; exact hF k hk
      have V4' : vS σ4.1 o (many + 1, fun i => 2 * gN (updR F1 (96 + 7 * gN F 6 + 1 + many) (nI e)) (96 + 7 * gN F 6 + 1 + i)) := by
        refine vS_cg (p := pIns (many, fun i => 2 * gN F1 (96 + 7 * gN F 6 + 1 + i)) many (2 * e)) (fun k => ⟨rfl, rfl, rfl⟩) rfl (fun i hi => ?_) V4
        have hi : i < many + 1 := hi
        show 2 * gN (updR F1 (96 + 7 * gN F 6 + 1 + many) (nI e)) (96 + 7 * gN F 6 + 1 + i) = (if i < many then 2 * gN F1 (96 + 7 * gN F 6 + 1 + i) else if i = many then 2 * e else 2 * gN F1 (96 + 7 * gN F 6 + 1 + (i - 1)))
        by_cases z : i < many
        · rw [if_pos z, gN_eq (show updR F1 (96 + 7 * gN F 6 + 1 + many) (nI e) (96 + 7 * gN F 6 + 1 + i) = F1 (96 + 7 * gN F 6 + 1 + i) from updR_ne (by omega))]
        · obtain rfl : i = many := by omega
          rw [if_neg z, if_pos rfl, gN_of (a := e) (show updR F1 (96 + 7 * gN F 6 + 1 + i) (nI e) (96 + 7 * gN F 6 + 1 + i) = nI e from updR_eq) (by omega)]
      have hT := ct4.2.2.2.1
      have k5 := kd_5 (T := T) (n := n) (c := nx T n c1)
      rw [hT.1]
      refine if_c (fun z => ?_) (fun z => ?_)
      · have z := (nI_eq (b := 4) (by omega) (by omega)).mp z
        refine ct4.nx (by omega) (fun σ5 f5 _ _ t5 => ⟨rfl, ?_⟩)
        exact hnext _ _ σ5 z6 t5 (G4.trans (f5.weak fMl_L)) (vS_cg (fun k => ⟨f5.1 _ _ _ rfl, f5.1 _ _ _ rfl, f5.1 _ _ _ rfl⟩) rfl (fun _ _ => rfl) V4') F2e (E3'.trans (if_pos z))
      · have z : kd T n (nx T n c1) ≠ 4 := fun w => z (by rw [w]; rfl)
        exact fin many _ _ σ4 (by omega) G4 V4' F2e ct4 (E3'.trans (if_neg z))
    · refine if_n (nI_nlt (b := 6) (by omega) (by omega)) ?_
      rw [e7]
      refine c31 (by omega) (fun σ5 f5 e8 e9 => ⟨_, rfl, ?_⟩)
      exact qf.go (f := 5) (E3.trans (if_pos (by omega))) (by omega) (G3.weak wk) f5 e8 e9
  have loop : ∀ mm many F1 c1 σ2, many + mm = 6 → CT σ2 ν T n c1 N1 (m + 1) → fq (fLn' (wPln o)) σ σ2 → vS σ2.1 o (many, fun i => 2 * gN F1 (96 + 7 * gN F 6 + 1 + i)) → (∀ k, (k < 96 + 7 * gN F 6 + 1 ∨ 96 + 7 * gN F 6 + 7 ≤ k) → F1 k = F k) → lPln T n F N c = pSt T n N1 (gN F 6) (mm + 1) many F1 c1 → g46_17 L xs (CL L xs (d - 1)) Q o (nI many) σ2 := by
    intro mm
    induction mm with
    | zero => exact fun many F1 c1 σ2 hm7 ct G V hF E => step 0 many F1 c1 σ2 (by omega) ct G V hF E (fun _ _ _ w => by omega)
    | succ mm ih => exact fun many F1 c1 σ2 hm7 ct G V hF E => step (mm + 1) many F1 c1 σ2 (by omega) ct G V hF E (fun F2 c2 σ3 _ ct3 G3 V3 hF3 E3 => ih (many + 1) F2 c2 σ3 (by omega) ct3 G3 V3 hF3 E3)
  refine loop 6 0 F _ _ (by omega) (t1.w (by decide) (by decide) (by decide) (by decide) (by decide)) ((f1.weak fMl_L).w (W10 0)) ⟨wI_same, fun i hi => absurd hi (Nat.not_lt_zero i)⟩ (fun k _ => rfl) E1
def rmN (s : Nat) : Nat := [1, 5, 6, 8, 4, 7, 4, 7, 1].getD s 0
theorem rm_eq : ∀ s, s < 9 → m2_room.getD s 0 = nI (rmN s) := by decide
theorem rm_lt : ∀ s, s < 9 → rmN s < 10 := by decide
/-- why a line may not begin (0: it may) -/
def gtc (F : Nat → Int32) (s cnt : Nat) : Nat := if 0 < cnt ∧ (s = 0 ∨ s = 8) then 3 else if rmN s ≤ cnt then 5 else if s ≠ 0 ∧ F 0 = 0 then 6 else if s = 1 ∧ F 181 ≠ 0 then 6 else 0
theorem c32 (hd : 6 ≤ d) {s cnt : Nat} (hs : s < 9) (hc' : cnt < 100) (hcnt : σ.1 36 ν s = nI cnt) (h0 : σ.1 36 ν 0 = (if F 0 = 0 then 0 else 1)) (h8 : σ.1 36 ν 8 = (if F 181 = 0 then 0 else 1)) (h : CT σ ν T n c N m) (qf : gtc F s cnt ≠ 0 → ∀ σ', fq fMl σ σ' → σ'.1 7 0 8 = nI (gtc F s cnt) → σ'.1 7 0 9 = nI (tA T n c) → Q (some (vi 0)) σ') (qt : gtc F s cnt = 0 → Q (some (vi 1)) σ) : CL L xs d 32 [vr 7 0, vi (nI s)] σ Q := by
  refine cl_at p32 (by omega) (w32_0 hC ?_)
  have hr := rm_lt s hs
  have bad : ∀ f w, w = nI f → f ≠ 0 → gtc F s cnt = f → CL L xs (d - 1) 30 [vr 7 0, vi w] σ (fun r σ1 => ∃ v2 : Int32, r = some (vi v2) ∧ Q (some (vi (v2 &&& 1))) σ1) := fun f w ew hf hg => h.fail (f := f) (by omega) ew (fun σ' f' e1 e2 => ⟨_, rfl, qf (by omega) σ' f' (by rw [hg]; exact e1) e2⟩)
  rw [h.1, nI_clamp (by omega), hcnt]
  refine if_n (nI_pos (by omega)) (if_n (nI_nlt (a := 8) (by omega) (by omega)) (ix_k hs (by omega) ?_))
  have g46 : ¬ (0 < cnt ∧ (s = 0 ∨ s = 8)) → g32_46 L xs (CL L xs (d - 1)) Q (nI s) (nI cnt) σ := by
    intro n3
    refine w32_46 hC ?_
    rw [nI_clamp (by omega), rm_eq s hs, h.1, h0]
    refine ix_k hs (by omega) ?_
    by_cases z5 : cnt < rmN s
    · refine if_y (nI_lt z5 (by omega)) ?_
      have e5 : gtc F s cnt = (if s ≠ 0 ∧ F 0 = 0 then 6 else if s = 1 ∧ F 181 ≠ 0 then 6 else 0) := by unfold gtc; rw [if_neg n3, if_neg (by omega)]
      have g82 : ¬ (s ≠ 0 ∧ F 0 = 0) → g32_82 L xs (CL L xs (d - 1)) Q (nI s) 0 σ := by
        intro n6
        refine w32_82 hC (if_y rfl ?_)
        rw [h.1, h8]
        rw [if_neg n6] at e5
        refine if_c (fun z1 => ?_) (fun z1 => ?_)
        · have z1 := (nI_eq (b := 1) (by omega) (by omega)).mp z1
          by_cases zz : F 181 = 0
          · rw [if_pos zz]
            refine if_n (by decide) (qt ?_)
            rw [e5, if_neg (fun w => w.2 zz)]
          · rw [if_neg zz]
            exact if_y (by decide) (bad 6 6 rfl (by omega) (by rw [e5, if_pos ⟨z1, zz⟩]))
        · have z1 : s ≠ 1 := fun w => z1 (by rw [w]; rfl)
          exact qt (by rw [e5, if_neg (fun w => z1 w.1)])
      refine if_c (fun z0 => ?_) (fun z0 => ?_)
      · have z0 := (nI_eq (b := 0) (by omega) (by omega)).mp z0
        exact g82 (fun w => w.1 z0)
      · have z0 : s ≠ 0 := fun w => z0 (by rw [w]; rfl)
        by_cases zz : F 0 = 0
        · rw [if_pos zz]
          refine if_y rfl (w32_82 hC (if_n (by decide) ?_))
          exact bad 6 6 rfl (by omega) (by rw [e5, if_pos ⟨z0, zz⟩])
        · rw [if_neg zz]
          exact if_n (by decide) (g82 (fun w => zz w.2))
    · refine if_n (nI_nlt (by omega) (by omega)) ?_
      exact bad 5 5 rfl (by omega) (by unfold gtc; rw [if_neg n3, if_pos (by omega)])
  by_cases zc : 0 < cnt
  · refine if_y (nI_lt (a := 0) zc (by omega)) ?_
    refine if_c (fun z0 => ?_) (fun z0 => ?_)
    · have z0 := (nI_eq (b := 0) (by omega) (by omega)).mp z0
      exact bad 3 3 rfl (by omega) (by unfold gtc; rw [if_pos ⟨zc, Or.inl z0⟩])
    refine if_c (fun z8 => ?_) (fun z8 => ?_)
    · have z8 := (nI_eq (b := 8) (by omega) (by omega)).mp z8
      exact bad 3 3 rfl (by omega) (by unfold gtc; rw [if_pos ⟨zc, Or.inr z8⟩])
    · exact g46 (fun w => w.2.elim (fun e => z0 (by rw [e]; rfl)) (fun e => z8 (by rw [e]; rfl)))
  · exact if_n (nI_nlt (a := 0) (by omega) (by omega)) (g46 (fun w => zc w.1))
end READ
