/-! THE LINES in the class: deed, plan -/
def wDed (o : Nat) : Nat → Nat → Nat → Bool := fun t i _ => ((t == 0 || (t == 20 || t == 21)) && i == o) || (t == 6 && i == o + 12)
def wPln (o : Nat) : Nat → Nat → Nat → Bool := fun t i _ => (t == 10 || (t == 52 || t == 53)) && i == o
theorem wDed_u {ν x : Nat} (hx : x < 8) : ∀ t i k, wDed (8 * ν + x) t i k = true → fMu ν t i k = true := by
  intro t i k h; unfold wDed at h; unfold fMu
  simp only [Bool.or_eq_true, Bool.and_eq_true, beq_iff_eq, decide_eq_true_eq] at *; omega
theorem wPln_u {ν x : Nat} (hx : x < 4) : ∀ t i k, wPln (4 * ν + x) t i k = true → fMu ν t i k = true := by
  intro t i k h; unfold wPln at h; unfold fMu
  simp only [Bool.or_eq_true, Bool.and_eq_true, beq_iff_eq, decide_eq_true_eq] at *; omega
/-- a deed that is being told: so many effects yet -/
def dSt (σ : M2) (o d many : Nat) (F : Nat → Int32) : Prop := σ.1 0 o 0 = nI many ∧ (∀ e, e < many → ∃ t, t < 5 ∧ F (40 + 7 * d + 2 * e) = nI (t + 1) ∧ σ.1 20 o e = nI t ∧ σ.1 21 o e = F (40 + 7 * d + 2 * e + 1)) ∧ (∀ e, many ≤ e → e < 2 → F (40 + 7 * d + 2 * e) = 0) ∧ F (40 + 7 * d + 4) = 0
section TEL3
variable {L : Nat} {xs : Nat → Int32} {d : Nat} {Q : Option dm_V → M2 → Prop} {σ σ0 : M2} {T : Nat → Nat} {n c ν m : Nat} {N : Nat → Nat} {F : Nat → Int32}
theorem dSt.fq {A : Nat → Nat → Nat → Bool} {σ σ' : M2} {o e many : Nat} (hA : ∀ k, A 0 o k = false ∧ A 20 o k = false ∧ A 21 o k = false) (h : dSt σ o e many F) (f : fq A σ σ') : dSt σ' o e many F := by
  refine ⟨by rw [f.1 _ _ _ (hA 0).1]; exact h.1, fun i hi => ?_, h.2.2⟩
  obtain ⟨t, t1, t2, t3, t4⟩ := h.2.1 i hi
  exact ⟨t, t1, t2, by rw [f.1 _ _ _ (hA i).2.1]; exact t3, by rw [f.1 _ _ _ (hA i).2.2]; exact t4⟩
theorem c45 (hd : 7 ≤ d) {o e many : Nat} (hmany : many ≤ 2) (h : CT σ ν T n c N m) (hS : dSt σ o e many F)
    (qf : ∀ f p, (∀ more, dEf T n N e many more F c = .inl (f, p)) → f ≠ 0 → ∀ σ', fq (fLn' (wDed o)) σ σ' → σ'.1 7 0 8 = nI f → σ'.1 7 0 9 = nI p → Q (some (vi 0)) σ')
    (qt : ∀ F2 c3, many < 2 → (∀ more, dEf T n N e many more F c = (if kd T n c3 = 4 then more F2 (nx T n c3) else dIf T n N e F2 c3)) → ∀ σ', fq (fLn' (wDed o)) σ σ' → CT σ' ν T n c3 N m → dSt σ' o e (many + 1) F2 → (∀ k, (k < 40 + 7 * e ∨ 40 + 7 * e + 4 ≤ k) → F2 k = F k) → Q (some (vi 1)) σ') : CL L xs d 45 [vr 7 0, vr 0 o] σ Q := by
  refine cl_at p45 (by omega) (w45_0 hC ?_)
  have W0 : ∀ k, fLn' (wDed o) 0 o k = true := fun k => fL_w (by simp [wDed])
  have W20 : ∀ k, fLn' (wDed o) 20 o k = true := fun k => fL_w (by simp [wDed])
  have W21 : ∀ k, fLn' (wDed o) 21 o k = true := fun k => fL_w (by simp [wDed])
  have go : ∀ b : Bool, (cd T n c = kw 17 ∨ cd T n c = kw 18) → (b = decide (cd T n c = kw 17)) → g45_32 L xs (CL L xs (d - 1)) Q o (bI b) σ := by
    intro b hb eb
    refine w45_32 hC ?_
    rw [hS.1]
    have D0 : ∀ more, dEf T n N e many more F c = (if many = 2 then .inl (5, tA T n c) else pUse T n N 0 4 (nx T n c) (fun t c2 => if many = 1 ∧ F (40 + 7 * e) = nI (t + 1) then .inl (3, tA T n (nx T n c)) else pN T n 1 9 c2 (fun v c3 => if kd T n c3 = 4 then more (updR (updR F (40 + 7 * e + 2 * many) (nI (t + 1))) (40 + 7 * e + 2 * many + 1) (if cd T n c = kw 17 then nI v else -(nI v))) (nx T n c3) else dIf T n N e (updR (updR F (40 + 7 * e + 2 * many) (nI (t + 1))) (40 + 7 * e + 2 * many + 1) (if cd T n c = kw 17 then nI v else -(nI v))) c3))) := fun more => if_pos hb
    by_cases z2 : many < 2
    · refine if_y (nI_lt (b := 2) z2 (by omega)) ?_
      refine h.nx (by omega) (fun σ1 f1 _ _ t1 => ⟨rfl, ?_⟩)
      have D1 := fun more => (D0 more).trans (if_neg (show ¬ many = 2 by omega))
      refine c39 (sort := 1) (lo := 0) (hi := 4) (by omega) rfl (by omega) s1ok t1 (fun f hf hK σ2 f2 e8 e9 => ⟨_, rfl, if_y rfl (qf f _ (fun more => (D1 more).trans (hK _)) hf σ2 ((f1.trans f2).weak fMl_L) e8 e9)⟩) (fun t p1 p2 p3 hK σ2 f2 e6 e7 t2 => ⟨_, rfl, if_n (by decide) ?_⟩)
      have D2 := fun more => (D1 more).trans (hK _)
      have f12 := f1.trans f2
      have S2 : dSt σ2 o e many F := hS.fq (A := fMl) (fun k => ⟨rfl, rfl, rfl⟩) f12
      have rest : ¬ (many = 1 ∧ F (40 + 7 * e) = nI (t + 1)) → g45_92 L xs (CL L xs (d - 1)) Q o (bI b) (nI many) σ2 := by
        intro ng
        have D3 := fun more => (D2 more).trans (if_neg ng)
        refine w45_92 hC ?_
        rw [e6, nI_clamp (by omega)]
        refine ix_k z2 (by omega) ?_
        have t2' : CT (m2_wI σ2 20 o many (nI t)) ν T n _ N m := t2.w (by decide) (by decide) (by decide) (by decide) (by decide)
        have A : fq (fLn' (wDed o)) σ (m2_wI σ2 20 o many (nI t)) := (f12.weak fMl_L).w (W20 many)
        refine c36 (lo := 1) (hi := 9) (by omega) rfl rfl (by omega) (by omega) t2' (fun f ef hf σ3 f3 e8 e9 => ⟨_, rfl, if_y rfl (qf f _ (fun more => (D3 more).trans (pN_f ef hf _)) hf σ3 (A.trans (f3.weak fMl_L)) e8 e9)⟩) (fun k3 g3 σ3 f3 e6' t3 => ⟨_, rfl, if_n (by decide) ?_⟩)
        have D4 := fun more => (D3 more).trans (pN_t k3 g3 _)
        rw [e6']
        generalize tV T n _ = v at *
        have A3 := A.trans (f3.weak fMl_L)
        have fin : ∀ w, w = (if cd T n c = kw 17 then nI v else -(nI v)) → Q (some (vi 1)) (m2_wI (m2_wI σ3 21 o many w) 0 o 0 ((m2_wI σ3 21 o many w).1 0 o 0 + 1)) := by
          intro w ew
          rw [← ew] at D4
          refine qt _ _ z2 D4 _ ((A3.w (W21 many)).w (W0 0)) ((t3.w (by decide) (by decide) (by decide) (by decide) (by decide)).w (by decide) (by decide) (by decide) (by decide) (by decide)) ⟨?_, fun i hi => ?_, fun i h1 h2 => ?_, ?_⟩ (fun k hk => by rw [updR_ne (by omega), updR_ne (by omega)])
          · rw [wI_same, wI_t (by decide), f3.1 _ _ _ rfl, wI_t (by decide), S2.1, nI_1]
          · by_cases ei : i = many
            · subst ei
              refine ⟨t, by omega, by rw [updR_ne (by omega), updR_eq], ?_, ?_⟩
              · rw [wI_t (by decide), wI_t (by decide), f3.1 _ _ _ rfl, wI_same]
              · rw [wI_t (by decide), wI_same, updR_eq]
            · obtain ⟨t', t1', t2', t3', t4'⟩ := S2.2.1 i (by omega)
              refine ⟨t', t1', by rw [updR_ne (by omega), updR_ne (by omega)]; exact t2', ?_, ?_⟩
              · rw [wI_t (by decide), wI_t (by decide), f3.1 _ _ _ rfl, wI_k ei]; exact t3'
              · rw [wI_t (by decide), wI_k ei, f3.1 _ _ _ rfl, wI_t (by decide), updR_ne (by omega), updR_ne (by omega)]; exact t4'
          · rw [updR_ne (by omega), updR_ne (by omega)]; exact S2.2.2.1 i (by omega) h2
          · rw [updR_ne (by omega), updR_ne (by omega)]; exact S2.2.2.2
        refine if_b (fun zb => ix_k z2 (by omega) ?_) (fun zb => ix_k z2 (by omega) ?_)
        · rw [zb] at eb
          exact fin _ (if_neg (of_decide_eq_false eb.symm)).symm
        · rw [zb] at eb
          exact fin _ (if_pos (of_decide_eq_true eb.symm)).symm
      match many, hmany, z2, hS, qf, qt, D0, D1, D2, S2, rest with
      | 0, _, _, _, _, _, _, _, _, _, rest =>
        exact if_n (by decide) (rest (fun w => by omega))
      | 1, _, _, _, qf, _, _, _, D2, S2, rest =>
        refine if_y (by decide) ?_
        obtain ⟨t', t1', t2', t3', t4'⟩ := S2.2.1 0 (by omega)
        rw [e6, t3']
        refine if_c (fun z => ?_) (fun z => ?_)
        · have z := (nI_eq (by omega) (by omega)).mp z
          rw [e7]
          refine c31 (by omega) (fun σ3 f3 e8 e9 => ⟨_, rfl, ?_⟩)
          exact qf 3 _ (fun more => (D2 more).trans (if_pos ⟨rfl, by rw [← z]; exact t2'⟩)) (by omega) σ3 ((f12.trans f3).weak fMl_L) e8 e9
        · refine rest (fun w => z ?_)
          have := w.2
          rw [show 40 + 7 * e + 2 * 0 = 40 + 7 * e by omega] at t2'
          rw [t2'] at this
          have := (nI_eq (by omega) (by omega)).mp this
          rw [show t' = t by omega]
    · refine if_n (nI_nlt (b := 2) (by omega) (by omega)) ?_
      refine h.fail (f := 5) (by omega) rfl (fun σ3 f3 e8 e9 => ⟨_, rfl, ?_⟩)
      exact qf 5 _ (fun more => (D0 more).trans (if_pos (by omega))) (by omega) σ3 (f3.weak fMl_L) e8 e9
  refine c74 (by omega) h.2.1 h.2.2.1 h.2.2.2.1 (o := 17) (by omega) ⟨_, rfl, ?_⟩
  by_cases z : cd T n c = kw 17
  · rw [decide_eq_true z]
    exact if_n (by decide) (go true (Or.inl z) (decide_eq_true z).symm)
  · rw [decide_eq_false z]
    refine if_y rfl ?_
    refine c74 (by omega) h.2.1 h.2.2.1 h.2.2.2.1 (o := 18) (by omega) ⟨_, rfl, ?_⟩
    refine if_b (fun z1 => ?_) (fun z1 => ?_)
    · have z1 := of_decide_eq_false z1
      refine h.fail (f := 1) (by omega) rfl (fun σ3 f3 e8 e9 => ⟨_, rfl, ?_⟩)
      exact qf 1 _ (fun more => if_neg (fun w => w.elim z z1)) (by omega) σ3 (f3.weak fMl_L) e8 e9
    · exact go false (Or.inr (of_decide_eq_true z1)) (decide_eq_false z).symm
theorem c44 (hd : 9 ≤ d) {o : Nat} (ho : o = 8 * ν + gN F 5) (hr : gN F 5 < 8) (hν : ν < 2) (hm : m < 28) (h : CT σ ν T n c N m) (hP : PV F N) (hM : rM σ.1 ν F) (qf : FCt ν σ (lDed T n F N c) Q) (qt : SCt ν T n (m + 1) 3 σ (lDed T n F N c) Q) : CL L xs d 44 [vr 7 0, vr 0 o] σ Q := by
  refine cl_at p44 (by omega) (w44_0 hC ?_)
  have wk := fL_R (ν := ν) (W := wDed o) (by rw [ho]; exact wDed_u hr)
  have W0 : ∀ k, fLn' (wDed o) 0 o k = true := fun k => fL_w (by simp [wDed])
  have wn : ∀ t i k, fLn' (wNe (o + 12)) t i k = true → fLn' (wDed o) t i k = true := fun t i k hh => by
    unfold fLn' at *
    simp only [Bool.or_eq_true] at *
    refine hh.imp id (fun w => ?_)
    unfold wNe at w
    unfold wDed
    simp only [Bool.or_eq_true, Bool.and_eq_true, beq_iff_eq] at *
    omega
  have sl := slots (5 + gN F 5) (by omega)
  have s1 : srt (5 + gN F 5) = 3 := sl.2.1.mpr (by omega)
  have sn : num (5 + gN F 5) = gN F 5 := by rw [sl.2.2.2.2.2.2.1 s1]; exact Nat.add_sub_cancel_left _ _
  clear sl
  have hN0 : N (5 + gN F 5) = 0 := Classical.byContradiction (fun w => by have := (hP.2.1 (5 + gN F 5) (by omega)).mp w; rw [s1, sn] at this; exact Nat.lt_irrefl _ this)
  have c36' : σ.1 36 ν 3 = nI (gN F 5) := hM.1.2.2.2.1.trans hP.1.cD.2
  refine c38 (sort := 3) (slot := 5 + gN F 5) (cnt := gN F 5) (by omega) rfl (by omega) ⟨by omega, s1, sn⟩ hN0 hm c36' h (fun f hf hK σ1 f1 e8 e9 => ⟨_, rfl, if_y rfl (qf.go (hK _) hf fq.id f1 e8 e9)⟩) (fun hK σ1 f1 t1 => ⟨_, rfl, if_n (by decide) ?_⟩)
  generalize eN : upN N (5 + gN F 5) (cd T n c) = N1 at *
  have E1 : lDed T n F N c = dEf T n N1 (gN F 5) 0 (dEf T n N1 (gN F 5) 1 (dEf T n N1 (gN F 5) 2 (fun _ _ => .inl (0, 0)))) (ze7 F (40 + 7 * gN F 5)) (nx T n c) := hK _
  have A : fq (fLn' (wDed o)) σ (m2_wI σ1 0 o 0 0) := (f1.weak fMl_L).w (W0 0)
  have t1' : CT (m2_wI σ1 0 o 0 0) ν T n _ _ (m + 1) := t1.w (by decide) (by decide) (by decide) (by decide) (by decide)
  have zz : ∀ k, 40 + 7 * gN F 5 ≤ k → k < 40 + 7 * gN F 5 + 7 → ze7 F (40 + 7 * gN F 5) k = 0 := fun k h1 h2 => if_pos ⟨h1, h2⟩
  have zo : ∀ k, (k < 40 + 7 * gN F 5 ∨ 40 + 7 * gN F 5 + 7 ≤ k) → ze7 F (40 + 7 * gN F 5) k = F k := fun k hk => if_neg (fun w => by omega)
  have S0 : dSt (m2_wI σ1 0 o 0 0) o (gN F 5) 0 (ze7 F (40 + 7 * gN F 5)) := ⟨wI_same, fun e he => absurd he (Nat.not_lt_zero e), fun e _ he => zz _ (by omega) (by omega), zz _ (by omega) (by omega)⟩
  have okK : ∀ (F2 F' : Nat → Int32) (many : Nat) (σ3 : M2), many ≤ 2 → fq (fLn' (wDed o)) σ σ3 → dSt σ3 o (gN F 5) many F2 → (∀ k, (k < 40 + 7 * gN F 5 ∨ 40 + 7 * gN F 5 + 7 ≤ k) → F2 k = F k) → (∀ k, k ≠ 5 → (k < 40 + 7 * gN F 5 + 4 ∨ 40 + 7 * gN F 5 + 7 ≤ k) → F' k = F2 k) → F' 5 = nI (gN F 5 + 1) → (σ3.1 0 o 3 = 0 ↔ F' (40 + 7 * gN F 5 + 4) = 0) → (F' (40 + 7 * gN F 5 + 4) ≠ 0 → σ3.1 6 (o + 12) 0 = F' (40 + 7 * gN F 5 + 4) - 1 ∧ (σ3.1 6 (o + 12) 1 = 0 ↔ F' (40 + 7 * gN F 5 + 5) = 1) ∧ σ3.1 6 (o + 12) 2 = F' (40 + 7 * gN F 5 + 6)) → rM (m2_wI σ3 36 ν 3 (σ3.1 36 ν 3 + 1)).1 ν F' := by
    intro F2 F' many σ3 hmany G S hF2 hF' h5 h3 h6
    refine rM_ded hP.1 hν hr hM (fun k k1 k2 k3 => (hF' k k2 (by omega)).trans (hF2 k k3)) h5 (fun t i k h1 h2 h3 h4 => hg_of G h1 h2 (by
      unfold wDed
      simp only [Bool.or_eq_false_iff, Bool.and_eq_false_iff, beq_eq_false_iff_ne, ne_eq]
      omega)) ?_ ⟨⟨many, hmany, ?_, fun e he => ⟨fun hlt => ?_, fun hge => ?_⟩⟩, ?_, fun w => ?_⟩
    · rw [wI_same, G.1 36 ν 3 rfl, c36', nI_1]
    · rw [← ho, wI_t (by decide)]; exact S.1
    · obtain ⟨t, q1, q2, q3, q4⟩ := S.2.1 e hlt
      rw [← ho, wI_t (by decide), wI_t (by decide), hF' _ (by omega) (by omega), hF' _ (by omega) (by omega), q2, q3]
      refine ⟨fun w => ?_, (nI_sub (a := t + 1) (b := 1) (by omega)).symm, q4⟩
      have := (nI_eq (b := 0) (by omega) (by omega)).mp w; omega
    · rw [hF' _ (by omega) (by omega)]; exact S.2.2.1 e hge he
    · rw [← ho, wI_t (by decide)]; exact h3
    · rw [← ho, wI_t (by decide), wI_t (by decide), wI_t (by decide)]; exact h6 w
  have fin : ∀ many F2 c3 σ2, many ≤ 2 → CT σ2 ν T n c3 N1 (m + 1) → fq (fLn' (wDed o)) σ σ2 → dSt σ2 o (gN F 5) many F2 → (∀ k, (k < 40 + 7 * gN F 5 ∨ 40 + 7 * gN F 5 + 7 ≤ k) → F2 k = F k) → lDed T n F N c = dIf T n N1 (gN F 5) F2 c3 → g44_59 L xs (CL L xs (d - 1)) Q o σ2 := by
    intro many F2 c3 σ2 hmany ct G S hF2 E
    refine w44_59 hC ?_
    refine c74 (by omega) ct.2.1 ct.2.2.1 ct.2.2.2.1 (o := 9) (by omega) ⟨_, rfl, ?_⟩
    refine bo_so ?_
    show (if (m2_wI σ2 0 o 3 (bI (decide (cd T n c3 = kw 9)))).1 0 o 3 = 0 then _ else _)
    have G3 : fq (fLn' (wDed o)) σ (m2_wI σ2 0 o 3 (bI (decide (cd T n c3 = kw 9)))) := G.w (W0 3)
    have ct3 : CT (m2_wI σ2 0 o 3 (bI (decide (cd T n c3 = kw 9)))) ν T n c3 N1 (m + 1) := ct.w (by decide) (by decide) (by decide) (by decide) (by decide)
    have S3 : dSt (m2_wI σ2 0 o 3 (bI (decide (cd T n c3 = kw 9)))) o (gN F 5) many F2 := by
      refine ⟨by rw [wI_k (by decide)]; exact S.1, fun e he => ?_, S.2.2⟩
      obtain ⟨t, q1, q2, q3, q4⟩ := S.2.1 e he
      exact ⟨t, q1, q2, by rw [wI_t (by decide)]; exact q3, by rw [wI_t (by decide)]; exact q4⟩
    have b3 : (m2_wI σ2 0 o 3 (bI (decide (cd T n c3 = kw 9)))).1 0 o 3 = bI (decide (cd T n c3 = kw 9)) := wI_same
    rw [b3]
    generalize m2_wI σ2 0 o 3 (bI (decide (cd T n c3 = kw 9))) = σ3 at *
    refine if_b (fun z => ?_) (fun z => ?_)
    · rw [z] at b3
      have E' := E.trans (if_neg (of_decide_eq_false z))
      refine qt _ _ _ _ E' (G3.weak wk) ct3 ?_
      refine okK F2 _ many σ3 hmany G3 S3 hF2 (fun k k1 k2 => by rw [updR_ne k1]) (by rw [updR_eq]) ?_ (fun w => ?_)
      · rw [updR_ne (by omega), S3.2.2.2]; exact ⟨fun _ => rfl, fun _ => b3⟩
      · rw [updR_ne (by omega), S3.2.2.2] at w; exact absurd rfl w
    · rw [z] at b3
      have E' := E.trans (if_pos (of_decide_eq_true z))
      refine ct3.nx (by omega) (fun σ4 f4 _ _ t4 => ⟨rfl, ?_⟩)
      have G4 := G3.trans (f4.weak fMl_L)
      refine c42 (by omega) t4 (fun f p hK hf σ5 f5 e8 e9 => ⟨_, rfl, qf f p σ5 (E'.trans (hK _)) hf ((G4.trans (f5.weak wn)).weak wk) e8 e9⟩) (fun t u b c5 hK ht hNt hu σ5 f5 ct5 a0 a1 a2 => ⟨_, rfl, ?_⟩)
      have E5 := E'.trans (hK _)
      have S5 : dSt σ5 o (gN F 5) many F2 := (S3.fq (A := fMl) (fun k => ⟨rfl, rfl, rfl⟩) f4).fq (A := fLn' (wNe (o + 12))) (fun k => ⟨rfl, rfl, rfl⟩) f5
      refine qt _ _ _ _ E5 ((G4.trans (f5.weak wn)).weak wk) ct5 ?_
      have f4' : updR (updR (updR (updR F2 (40 + 7 * gN F 5 + 4) (nI (t + 1))) (40 + 7 * gN F 5 + 5) u) (40 + 7 * gN F 5 + 6) (nI b)) 5 (nI (gN F 5 + 1)) (40 + 7 * gN F 5 + 4) = nI (t + 1) := by rw [updR_ne (by omega), updR_ne (by omega), updR_ne (by omega), updR_eq]
      have ne : nI (t + 1) ≠ 0 := fun w => by have := (nI_eq (b := 0) (by omega) (by omega)).mp w; omega
      refine okK F2 _ many σ5 hmany (G4.trans (f5.weak wn)) S5 hF2 (fun k k1 k2 => by rw [updR_ne k1, updR_ne (by omega), updR_ne (by omega), updR_ne (by omega)]) (by rw [updR_eq]) ?_ (fun w => ⟨?_, ?_, ?_⟩)
      · rw [f4', f5.1 0 o 3 rfl, f4.1 0 o 3 rfl, b3]
        exact ⟨fun w => absurd w (by decide), fun w => absurd w ne⟩
      · rw [f4', a0]; exact (nI_sub (a := t + 1) (b := 1) (by omega)).symm
      · rw [updR_ne (by omega), updR_ne (by omega), updR_eq]; exact a1
      · rw [updR_ne (by omega), updR_eq]; exact a2
  have step : ∀ many F2 c2 σ2 more, many ≤ 2 → CT σ2 ν T n c2 N1 (m + 1) → fq (fLn' (wDed o)) σ σ2 → dSt σ2 o (gN F 5) many F2 → (∀ k, (k < 40 + 7 * gN F 5 ∨ 40 + 7 * gN F 5 + 7 ≤ k) → F2 k = F k) → lDed T n F N c = dEf T n N1 (gN F 5) many more F2 c2 → (∀ F3 c3 σ3, many < 2 → CT σ3 ν T n c3 N1 (m + 1) → fq (fLn' (wDed o)) σ σ3 → dSt σ3 o (gN F 5) (many + 1) F3 → (∀ k, (k < 40 + 7 * gN F 5 ∨ 40 + 7 * gN F 5 + 7 ≤ k) → F3 k = F k) → lDed T n F N c = more F3 c3 → g44_17 L xs (CL L xs (d - 1)) Q o (nI (many + 1)) σ3) → g44_17 L xs (CL L xs (d - 1)) Q o (nI many) σ2 := by
    intro many F2 c2 σ2 more hmany ct G S hF2 E hmore
    refine w44_17 hC ?_
    refine if_n (nI_nlt (a := 2) (by omega) (by omega)) ?_
    refine c45 (by omega) hmany ct S (fun f p hK hf σ3 f3 e8 e9 => ⟨_, rfl, if_y rfl (qf f p σ3 (E.trans (hK _)) hf ((G.trans f3).weak wk) e8 e9)⟩) (fun F3 c3 h2 hK σ3 f3 ct3 S3 hF3 => ⟨_, rfl, if_n (by decide) ?_⟩)
    have E3 := E.trans (hK _)
    have hF3' : ∀ k, (k < 40 + 7 * gN F 5 ∨ 40 + 7 * gN F 5 + 7 ≤ k) → F3 k = F k := fun k hk => (hF3 k (by omega)).trans (hF2 k hk)
    have hT := ct3.2.2.2.1
    have k5 := kd_5 (T := T) (n := n) (c := c3)
    rw [hT.1, nI_1]
    refine if_c (fun z => ?_) (fun z => ?_)
    · have z := (nI_eq (b := 4) (by omega) (by omega)).mp z
      refine ct3.nx (by omega) (fun σ4 f4 _ _ t4 => ⟨rfl, ?_⟩)
      exact hmore F3 _ σ4 h2 t4 ((G.trans f3).trans (f4.weak fMl_L)) (S3.fq (A := fMl) (fun k => ⟨rfl, rfl, rfl⟩) f4) hF3' (E3.trans (if_pos z))
    · have z : kd T n c3 ≠ 4 := fun w => z (by rw [w]; rfl)
      exact fin (many + 1) F3 c3 σ3 (by omega) ct3 (G.trans f3) S3 hF3' (E3.trans (if_neg z))
  refine step 0 _ _ _ _ (by omega) t1' A S0 zo E1 (fun F3 c3 σ3 _ ct3 G3 S3 hF3 E3 => ?_)
  refine step 1 _ _ _ _ (by omega) ct3 G3 S3 hF3 E3 (fun F4 c4 σ4 _ ct4 G4 S4 hF4 E4 => ?_)
  exact step 2 _ _ _ _ (by omega) ct4 G4 S4 hF4 E4 (fun F5 c5 σ5 h5 _ _ _ _ _ => by omega)
end TEL3
