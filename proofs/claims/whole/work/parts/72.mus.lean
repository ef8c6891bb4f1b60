/-! THE CLASS TAKES a museum -/
def fz (A : Nat → Nat → Nat → Bool) (σ σ' : M2) : Prop := (∀ t i k, A t i k = false → σ'.1 t i k = σ.1 t i k) ∧ ∀ k, k < 10 → σ'.2.1 48 0 k = σ.2.1 48 0 k
theorem fz.id {A : Nat → Nat → Nat → Bool} {σ : M2} : fz A σ σ := ⟨fun _ _ _ _ => rfl, fun _ _ => rfl⟩
theorem fz.trans {A : Nat → Nat → Nat → Bool} {σ σ1 σ2 : M2} (h : fz A σ σ1) (h' : fz A σ1 σ2) : fz A σ σ2 := ⟨fun t i k q => (h'.1 t i k q).trans (h.1 t i k q), fun k hk => (h'.2 k hk).trans (h.2 k hk)⟩
theorem fz.weak {A B : Nat → Nat → Nat → Bool} (hAB : ∀ t i k, A t i k = true → B t i k = true) {σ σ1 : M2} (h : fz A σ σ1) : fz B σ σ1 := ⟨fun t i k q => h.1 t i k (by
  cases hA : A t i k
  · rfl
  · rw [hAB t i k hA] at q; cases q), h.2⟩
theorem fz.w {A : Nat → Nat → Nat → Bool} {σ σ1 : M2} (h : fz A σ σ1) {t i k : Nat} (hA : A t i k = true) {z : Int32} : fz A σ (m2_wI σ1 t i k z) := by
  refine ⟨fun t' i' k' q => ?_, h.2⟩
  rw [← h.1 t' i' k' q]
  show (if t' = t ∧ i' = i ∧ k' = k then z else σ1.1 t' i' k') = _
  rw [if_neg]
  rintro ⟨rfl, rfl, rfl⟩
  rw [hA] at q; cases q
theorem fq.z {A : Nat → Nat → Nat → Bool} {σ σ1 : M2} (h : fq A σ σ1) : fz A σ σ1 := ⟨h.1, h.2.2⟩
theorem fr.z {A : Nat → Nat → Nat → Bool} {σ σ1 : M2} (h : fr A σ σ1) : fz A σ σ1 := h.q.z
def fBg (ν : Nat) : Nat → Nat → Nat → Bool := fun t i k => fRd ν t i k || t == 11
def fMf (ν : Nat) : Nat → Nat → Nat → Bool := fun t i k => fBg ν t i k || (t == 12 && (k == 1 || (k == 13 || (k == 14 || k == 15))))
def fMs (ν : Nat) : Nat → Nat → Nat → Bool := fun t i k => fMf ν t i k || (fD 0 t i k || ((t == 2 && (k == 2 || k == 4)) || (t == 32 || ((t == 3 && k == 0) || (t == 12 && k == 5)))))
theorem fRd_B {ν : Nat} : ∀ t i k, fRd ν t i k = true → fBg ν t i k = true := fun t i k h => by unfold fBg; rw [h]; rfl
theorem fBg_f {ν : Nat} : ∀ t i k, fBg ν t i k = true → fMf ν t i k = true := fun t i k h => by unfold fMf; rw [h]; rfl
theorem fMf_s {ν : Nat} : ∀ t i k, fMf ν t i k = true → fMs ν t i k = true := fun t i k h => by unfold fMs; rw [h]; rfl
theorem okR_of {F R : Nat → Int32} (h : okR F) (hF : ∀ k, k < 187 → R k = F k) : okR R := by
  have a : ∀ a b, b ≤ 187 → agF F R a b := fun a b hb k _ hk => hF k (by omega)
  have g : ∀ k, k < 187 → gN F k ≤ gN R k := fun k hk => by rw [gN_eq (hF k hk)]; exact Nat.le_refl _
  obtain ⟨q1, q2, q3, q4, q5, q6, q7, q8, q9⟩ := h
  exact ⟨k1.cg (a _ _ (by omega)) q1, k2.cg (a _ _ (by omega)) (hF _ (by omega)) (g _ (by omega)) q2, k3.cg q1 (a _ _ (by omega)) (hF _ (by omega)) q3, k4.cg q1 (a _ _ (by omega)) (hF _ (by omega)) (g _ (by omega)) q4, k5.cg q1 (a _ _ (by omega)) (hF _ (by omega)) (g _ (by omega)) q5, k6.cg q1 (a _ _ (by omega)) (hF _ (by omega)) (g _ (by omega)) q6, k7.cg q1 (a _ _ (by omega)) (hF _ (by omega)) (g _ (by omega)) q7, k8.cg q1 (a _ _ (by omega)) (hF _ (by omega)) (g _ (by omega)) q8, k9.cg q1 (a _ _ (by omega)) (hF _ (by omega)) (g _ (by omega)) (g _ (by omega)) q9⟩
theorem cM_of {g g' : Nat → Nat → Nat → Int32} {ν : Nat} {F R : Nat → Int32} (hR : okR F) (hν : ν < 2) (h0 : F 0 ≠ 0) (hF : ∀ k, k < 187 → R k = F k) (hg : ∀ t i k, kpX t i = true → g' t i k = g t i k) (h : rM g ν F) : cM g' ν R := by
  have a : ∀ a b, b ≤ 187 → agF F R a b := fun a b hb k _ hk => hF k (by omega)
  obtain ⟨hB, hC', hT, hH, hE, hP, hS, hN, hK, hZ⟩ := h
  have kp : ∀ t, (t = 10 ∨ t = 52 ∨ t = 53) → ∀ x, x < 4 → kpX t (4 * ν + x) = true := by
    intro t ht x hx
    have : 4 * ν + x < 8 := by omega
    rcases ht with rfl | rfl | rfl <;> simp [kpX, this]
  refine ⟨?_, ?_, rT.cg hR.1 (fun k => hg 37 ν k rfl) (a _ _ (by omega)) (hF _ (by omega)) hT, rH.cg hR.1 (fun x k _ => hg 6 _ k rfl) (fun k => hg 39 ν k rfl) (a _ _ (by omega)) (hF _ (by omega)) hH, rE.cg hR.1 (fun x k _ => ⟨hg 0 _ k rfl, hg 20 _ k rfl, hg 21 _ k rfl, hg 6 _ k rfl⟩) (a _ _ (by omega)) (hF _ (by omega)) hE, rP.cg hR.1 hR.2.2.2.2.2.1 (fun x k hx => ⟨hg 10 _ k (kp 10 (by omega) x hx), hg 52 _ k (kp 52 (by omega) x hx), hg 53 _ k (kp 53 (by omega) x hx)⟩) (a _ _ (by omega)) (hF _ (by omega)) hP, rS.cg hR.1 (fun x k _ => hg 9 _ k rfl) (a _ _ (by omega)) (hF _ (by omega)) hS, rN.cg hR.1 (fun k => ⟨hg 43 ν k rfl, hg 44 ν k rfl⟩) (a _ _ (by omega)) (hF _ (by omega)) hN, rK.cg hR.1 (fun k => ⟨hg 45 ν k rfl, hg 46 ν k rfl, hg 47 ν k rfl⟩) (a _ _ (by omega)) (hF _ (by omega)) hK, rZ.cg hR.1 ⟨hg 5 ν 16 rfl, hg 5 ν 17 rfl⟩ (a _ _ (by omega)) (hF _ (by omega)) hZ⟩
  · rw [hg 36 ν 1 rfl, hg 36 ν 2 rfl, hg 36 ν 3 rfl, hg 36 ν 4 rfl, hg 36 ν 5 rfl, hg 36 ν 6 rfl, hg 36 ν 7 rfl, hg 36 ν 8 rfl, hF 4 (by omega), hF 10 (by omega), hF 5 (by omega), hF 6 (by omega), hF 7 (by omega), hF 8 (by omega), hF 9 (by omega), hF 181 (by omega)]
    exact hB.2
  · rw [hg 5 ν 1 rfl, hg 5 ν 2 rfl, hg 5 ν 3 rfl, hg 5 ν 4 rfl, hF 0 (by omega), hF 1 (by omega), hF 2 (by omega), hF 3 (by omega)]
    exact hC' h0
/-- the other museum stands -/
theorem cM_o {g g' : Nat → Nat → Nat → Int32} {μ ν : Nat} {R : Nat → Int32} (hR : okR R) (hμ : μ < 2) (hν : ν < 2) (hne : μ ≠ ν) (hg : ∀ t i k, fMu ν t i k = false → g' t i k = g t i k) (h : cM g μ R) : cM g' μ R := by
  obtain ⟨hB, hC', hT, hH, hE, hP, hS, hN, hK, hZ⟩ := h
  have o : ∀ t i k, (t = 36 ∨ t = 5 ∨ t = 37 ∨ t = 39 ∨ t = 43 ∨ t = 44 ∨ t = 45 ∨ t = 46 ∨ t = 47) → i = μ → g' t i k = g t i k := by
    intro t i k ht hi
    refine hg t i k ?_
    unfold fMu
    simp only [Bool.or_eq_false_iff, Bool.and_eq_false_iff, beq_eq_false_iff_ne, ne_eq, decide_eq_false_iff_not]
    omega
  have r0 : ∀ k, R k = R k := fun _ => rfl
  refine ⟨?_, ?_, rT.cg hR.1 (fun k => o 37 μ k (by omega) rfl) (fun _ _ _ => rfl) rfl hT, rH.cg hR.1 (fun x k hx => hg 6 _ k ?_) (fun k => o 39 μ k (by omega) rfl) (fun _ _ _ => rfl) rfl hH, rE.cg hR.1 (fun x k hx => ⟨hg 0 _ k ?_, hg 20 _ k ?_, hg 21 _ k ?_, hg 6 _ k ?_⟩) (fun _ _ _ => rfl) rfl hE, rP.cg hR.1 hR.2.2.2.2.2.1 (fun x k hx => ⟨hg 10 _ k ?_, hg 52 _ k ?_, hg 53 _ k ?_⟩) (fun _ _ _ => rfl) rfl hP, rS.cg hR.1 (fun x k hx => hg 9 _ k ?_) (fun _ _ _ => rfl) rfl hS, rN.cg hR.1 (fun k => ⟨o 43 μ k (by omega) rfl, o 44 μ k (by omega) rfl⟩) (fun _ _ _ => rfl) rfl hN, rK.cg hR.1 (fun k => ⟨o 45 μ k (by omega) rfl, o 46 μ k (by omega) rfl, o 47 μ k (by omega) rfl⟩) (fun _ _ _ => rfl) rfl hK, rZ.cg hR.1 ⟨o 5 μ 16 (by omega) rfl, o 5 μ 17 (by omega) rfl⟩ (fun _ _ _ => rfl) rfl hZ⟩
  · rw [o 36 μ 1 (by omega) rfl, o 36 μ 2 (by omega) rfl, o 36 μ 3 (by omega) rfl, o 36 μ 4 (by omega) rfl, o 36 μ 5 (by omega) rfl, o 36 μ 6 (by omega) rfl, o 36 μ 7 (by omega) rfl, o 36 μ 8 (by omega) rfl]
    exact hB
  · rw [o 5 μ 1 (by omega) rfl, o 5 μ 2 (by omega) rfl, o 5 μ 3 (by omega) rfl, o 5 μ 4 (by omega) rfl]
    exact hC'
  all_goals
    unfold fMu
    simp only [Bool.or_eq_false_iff, Bool.and_eq_false_iff, beq_eq_false_iff_ne, ne_eq, decide_eq_false_iff_not]
    omega
section MUS
variable {L : Nat} {xs : Nat → Int32} {d : Nat} {Q : Option dm_V → M2 → Prop} {σ : M2} {T : Nat → Nat} {n ν : Nat}
theorem c70 (hd : 6 ≤ d) (hn : n ≤ 1000) (hT : ∀ i, i < n → T i < 256 ∧ σ.1 54 0 i = sb (T i)) (q : ∀ σ', (∀ t i k, t ≠ 11 → σ'.1 t i k = σ.1 t i k) → (∀ k, σ'.2.1 48 0 k = σ.2.1 48 0 k) → (∀ t i k, t ≠ 11 → σ'.2.2 t i k = σ.2.2 t i k) → TX σ' T n → TC σ' T n 0 → Q none σ') : CL L xs d 70 [vr 11 0, vr 54 0, vi (nI n)] σ Q := by
  refine cl_at p70 (by omega) (w70_0 hC ?_)
  have e0 : (if 1000 < nI n then 1000 else nI n) = nI n := if_neg (nI_nlt (a := 1000) (by omega) (by omega))
  have e1 : (if (0 : Int32) < nI n then nI n else 0) = nI n := by
    by_cases z : n = 0
    · subst z; rfl
    · exact if_pos (nI_lt (a := 0) (by omega) (by omega))
  show CL L xs (d - 1) 71 [vr 11 0] (m2_wI (m2_wI (m2_wD σ 11 0 0 0) 11 0 1 (if (0 : Int32) < (if 1000 < nI n then 1000 else nI n) then (if 1000 < nI n then 1000 else nI n) else 0)) 11 0 4 0) _
  rw [e0, e1]
  have d0 : (m2_wD σ 11 0 0 0).2.2 11 0 0 = 0 := by unfold m2_wD; simp
  have X : TX (m2_wI (m2_wI (m2_wD σ 11 0 0 0) 11 0 1 (nI n)) 11 0 4 0) T n := ⟨d0, hn, by rw [wI_k (by decide), wI_same], fun i hi => ⟨(hT i hi).1, by rw [wI_t (by decide), wI_t (by decide)]; exact (hT i hi).2⟩⟩
  have dd : ∀ t i k, t ≠ 11 → (m2_wD σ 11 0 0 0).2.2 t i k = σ.2.2 t i k := fun t i k ht => if_neg (fun w => ht w.1)
  refine c71 (c := 0) (by omega) X (Nat.zero_le _) wI_same (fun σ' f' t' => ⟨rfl, ?_⟩)
  have ft : ∀ t i k, t ≠ 11 → fTo t i k = false := fun t i k ht => by simp [fTo, ht]
  exact q σ' (fun t i k ht => by rw [f'.1 t i k (ft t i k ht), wI_t ht, wI_t ht]; rfl) (fun k => f'.2.2 k) (fun t i k ht => by rw [f'.2.1]; exact dd t i k ht) (X.fj rfl (fun _ => rfl) f') t'
theorem rM_0 {g : Nat → Nat → Nat → Int32} (h : ∀ k, k < 9 → g 36 ν k = 0) : rM g ν (fun _ => 0) := by
  have no : ∀ x k, ¬ x < gN (fun _ => 0) k := fun x k => Nat.not_lt_zero x
  exact ⟨⟨h 0 (by omega), h 1 (by omega), h 2 (by omega), h 3 (by omega), h 4 (by omega), h 5 (by omega), h 6 (by omega), h 7 (by omega), h 8 (by omega)⟩, fun w => absurd rfl w, fun x w => absurd w (no x 4), fun x w => absurd w (no x 10), fun x w => absurd w (no x 5), fun x w => absurd w (no x 6), fun x w => absurd w (no x 7), fun x w => absurd w (no x 8), fun x w => absurd w (no x 9), fun w => absurd rfl w⟩
theorem c29 (hd : 12 ≤ d) (hν : σ.2.2 7 0 5 = ν) (hν2 : ν < 2) (hn : n ≤ 1000) (hT : ∀ i, i < n → T i < 256 ∧ σ.1 54 0 i = sb (T i)) (hk : ∀ o, o < 10 → σ.2.1 48 0 o = Int64.ofNat (kw o))
    (qf : ∀ f p σ', rdP T n (n + 1) (fun _ => 0) (fun _ => 0) 0 = .inl (f, p) → f ≠ 0 → fz (fBg ν) σ σ' → (∀ t i k, t ≠ 11 → σ'.2.2 t i k = σ.2.2 t i k) → σ'.1 7 0 8 = nI f → σ'.1 7 0 9 = nI p → Q none σ')
    (qt : ∀ c' F' N' σ', rdP T n (n + 1) (fun _ => 0) (fun _ => 0) 0 = .inr (c', F', N') → fz (fBg ν) σ σ' → (∀ t i k, t ≠ 11 → σ'.2.2 t i k = σ.2.2 t i k) → σ'.1 7 0 8 = 0 → rM σ'.1 ν F' → PV F' N' → F' 0 ≠ 0 → Q none σ') : CL L xs d 29 [vr 7 0, vr 54 0, vi (nI n)] σ Q := by
  refine cl_at p29 (by omega) (w29_0 hC ?_)
  have A36 : ∀ k, fBg ν 36 ν k = true := fun k => fRd_B _ _ _ f36_R
  refine dm_for (n := 9) (fun k σ' => g29_2 L xs (CL L xs (d - 1)) Q (nI n) (nI k) σ') (fun k σ' => fr (fBg ν) σ σ' ∧ ∀ s, s < k → σ'.1 36 ν s = 0) ?_ ?_ 0 σ (Nat.zero_le _) ⟨fr.id, fun s hs => absurd hs (Nat.not_lt_zero s)⟩
  · rintro k σ2 hk' ⟨f2, h2⟩ ih
    refine w29_2 hC ?_
    have r2 : σ2.2.2 7 0 5 = ν := by rw [f2.2]; exact hν
    rw [nI_clamp (by omega), nI_1, r2]
    refine if_y (nI_lt (b := 9) hk' (by omega)) (ix_k hk' (by omega) ?_)
    refine ih _ ⟨f2.w (A36 k), fun s hs => ?_⟩
    by_cases e : s = k
    · rw [e, wI_same]
    · rw [wI_k e]; exact h2 s (by omega)
  · rintro σ2 ⟨f2, h2⟩
    refine w29_2 hC ?_
    refine if_n (nI_nlt (b := 9) (Nat.le_refl _) (by omega)) ?_
    have A7 : ∀ k, fBg ν 7 0 k = true := fun k => by simp [fBg, fRd, fMl]
    have f3 : fr (fBg ν) σ (m2_wI (m2_wI (m2_wI σ2 7 0 4 10) 7 0 8 0) 7 0 9 0) := ((f2.w (A7 _)).w (A7 _)).w (A7 _)
    have e4 : (m2_wI (m2_wI (m2_wI σ2 7 0 4 10) 7 0 8 0) 7 0 9 0).1 7 0 4 = 10 := by rw [wI_k (by decide), wI_k (by decide), wI_same]
    have e8 : (m2_wI (m2_wI (m2_wI σ2 7 0 4 10) 7 0 8 0) 7 0 9 0).1 7 0 8 = 0 := by rw [wI_k (by decide), wI_same]
    have e36 : ∀ s, s < 9 → (m2_wI (m2_wI (m2_wI σ2 7 0 4 10) 7 0 8 0) 7 0 9 0).1 36 ν s = 0 := fun s hs => by rw [wI_t (by decide), wI_t (by decide), wI_t (by decide)]; exact h2 s hs
    show CL L xs (d - 1) 70 [vr 11 0, vr 54 0, vi (nI n)] (m2_wI (m2_wI (m2_wI σ2 7 0 4 10) 7 0 8 0) 7 0 9 0) _
    generalize m2_wI (m2_wI (m2_wI σ2 7 0 4 10) 7 0 8 0) 7 0 9 0 = σ3 at *
    have n54 : ∀ k, fBg ν 54 0 k = false := fun k => by
      unfold fBg fRd fMl fMu
      simp only [Bool.or_eq_false_iff, Bool.and_eq_false_iff, beq_eq_false_iff_ne, ne_eq, decide_eq_false_iff_not]
      omega
    refine c70 (by omega) hn (fun i hi => ⟨(hT i hi).1, by rw [f3.1 _ _ _ (n54 i)]; exact (hT i hi).2⟩) (fun σ4 a1 a2 a3 X4 T4 => ⟨rfl, ?_⟩)
    have F4 : fz (fBg ν) σ σ4 := f3.z.trans ⟨fun t i k h => a1 t i k (fun w => by rw [w] at h; simp [fBg] at h), fun k _ => a2 k⟩
    have r4 : ∀ t i k, t ≠ 11 → σ4.2.2 t i k = σ.2.2 t i k := fun t i k ht => by rw [a3 t i k ht, f3.2]
    have ct : CT σ4 ν T n 0 (fun _ => 0) (sm (fun _ => 0)) := ⟨by rw [r4 7 0 5 (by decide)]; exact hν, X4, Nat.zero_le _, T4, ⟨⟨by show 0 ≤ 28; omega, by rw [a1 7 0 8 (by decide)]; exact e8⟩, by rw [a1 7 0 4 (by decide)]; exact e4, fun o ho => by rw [a2, f3.2]; exact hk o ho, fun _ => 0, fun j hj => absurd hj (Nat.not_lt_zero j), fun s _ w => absurd rfl w⟩, PV_0.2.2.1⟩
    refine c29l (d := d - 1) (σ := σ4) (ν := ν) (T := T) (n := n) (by omega) hν2 (n + 1) 0 (fun _ => 0) (fun _ => 0) 0 σ4 (Nat.le_refl _) (Nat.le_refl _) ct PV_0 (rM_0 (fun k hk => by rw [a1 36 ν k (by decide)]; exact e36 k hk)) fq.id (fun f p σ' E hf f' e1 e2 => ?_) (fun c' F' N' σ' E f' e1 M' P' h0 => ?_)
    · exact qf f p σ' E hf (F4.trans (f'.z.weak fRd_B)) (fun t i k ht => by rw [f'.2.1]; exact r4 t i k ht) e1 e2
    · exact qt c' F' N' σ' E (F4.trans (f'.z.weak fRd_B)) (fun t i k ht => by rw [f'.2.1]; exact r4 t i k ht) e1 M' P' h0
theorem c3 (hd : 4 ≤ d) (q : ∀ σ', fr (fD 0) σ σ' → dkS σ'.1 0 (fun _ => 0) → σ'.1 1 0 2 = 0 → Q none σ') : CL L xs d 3 [vr 1 0] σ Q := by
  refine cl_at p3 hd (w3_0 hC ?_)
  refine dm_for (n := 7) (fun k σ' => g3_2 L xs (CL L xs (d - 1)) Q 0 (nI k) σ') (fun k σ' => fr (fD 0) σ σ' ∧ ∀ s, s < k → σ'.1 22 0 s = -2) ?_ ?_ 0 σ (Nat.zero_le _) ⟨fr.id, fun s hs => absurd hs (Nat.not_lt_zero s)⟩
  · rintro k σ2 hk' ⟨f2, h2⟩ ih
    refine w3_2 hC ?_
    rw [nI_clamp (by omega), nI_1]
    refine if_y (nI_lt (b := 7) hk' (by omega)) (ix_k hk' (by omega) (ix_k hk' (by omega) ?_))
    refine ih _ ⟨(f2.w rfl).w rfl, fun s hs => ?_⟩
    by_cases e : s = k
    · rw [wI_t (by decide), e, wI_same]
    · rw [wI_t (by decide), wI_k e]; exact h2 s (by omega)
  · rintro σ2 ⟨f2, h2⟩
    refine w3_2 hC ?_
    refine if_n (nI_nlt (b := 7) (Nat.le_refl _) (by omega)) ?_
    have e2 : (m2_wI (m2_wI (m2_wI σ2 1 0 2 0) 1 0 3 0) 1 0 4 0).1 1 0 2 = 0 := by rw [wI_k (by decide), wI_k (by decide), wI_same]
    refine q _ (((f2.w rfl).w rfl).w rfl) ⟨by rw [wI_k (by decide), wI_same], wI_same, ⟨0, by omega, e2, fun s _ => by rw [Nat.zero_testBit]; rfl⟩, fun s hs => ⟨fun _ => ?_, fun w => absurd rfl w⟩⟩ e2
    rw [wI_t (by decide), wI_t (by decide), wI_t (by decide)]; exact h2 s hs
theorem c19 (hd : 4 ≤ d) (q : ∀ σ', fr (fun t _ _ => t == 32) σ σ' → (∀ p, p < 4 → σ'.1 32 0 p = -1) → Q none σ') : CL L xs d 19 [vr 4 0] σ Q := by
  refine cl_at p19 hd (w19_0 hC ?_)
  refine dm_for (n := 4) (fun k σ' => g19_2 L xs (CL L xs (d - 1)) Q (nI k) σ') (fun k σ' => fr (fun t _ _ => t == 32) σ σ' ∧ ∀ s, s < k → σ'.1 32 0 s = -1) ?_ ?_ 0 σ (Nat.zero_le _) ⟨fr.id, fun s hs => absurd hs (Nat.not_lt_zero s)⟩
  · rintro k σ2 hk' ⟨f2, h2⟩ ih
    refine w19_2 hC ?_
    rw [nI_clamp (by omega), nI_1]
    refine if_y (nI_lt (b := 4) hk' (by omega)) (ix_k hk' (by omega) ?_)
    refine ih _ ⟨f2.w rfl, fun s hs => ?_⟩
    by_cases e : s = k
    · rw [e, wI_same]
    · rw [wI_k e]; exact h2 s (by omega)
  · rintro σ2 ⟨f2, h2⟩
    exact w19_2 hC (if_n (nI_nlt (b := 4) (Nat.le_refl _) (by omega)) (q σ2 f2 h2))
theorem o78 (hd : 14 ≤ d) {x : Int32} {fd : Nat} (hfd : fd ≤ 1000) (efd : σ.1 12 0 1 = nI fd) (hT : ∀ i, i < fd → T i < 256 ∧ σ.1 54 0 i = sb (T i)) (hν : σ.2.2 7 0 5 = ν) (hν2 : ν < 2) (hk : ∀ o, o < 10 → σ.2.1 48 0 o = Int64.ofNat (kw o))
    (qn : inc x 0 (nI fd) = false → ∀ σ', cG σ σ' 2 → Q (some (vi (-1))) σ')
    (qf : inc x 0 (nI fd) = true → ∀ f p σ', rdP T x.toNatClampNeg (x.toNatClampNeg + 1) (fun _ => 0) (fun _ => 0) 0 = .inl (f, p) → f ≠ 0 → fz (fMf ν) σ σ' → (∀ t i k, t ≠ 11 → σ'.2.2 t i k = σ.2.2 t i k) → σ'.1 12 0 1 = 0 → σ'.1 12 0 14 = nI f → σ'.1 12 0 15 = nI p → σ'.1 12 0 13 = 4 → Q (some (vi (-1))) σ')
    (qt : inc x 0 (nI fd) = true → ∀ c' F' N' σ', rdP T x.toNatClampNeg (x.toNatClampNeg + 1) (fun _ => 0) (fun _ => 0) 0 = .inr (c', F', N') → fz (fMs ν) σ σ' → σ'.2.2 12 0 4 = ν → σ'.2.2 7 0 5 = σ.2.2 12 0 4 → σ'.2.2 8 0 0 = ν → σ'.1 12 0 1 = 0 → σ'.1 12 0 14 = 0 → σ'.1 12 0 13 = 0 → σ'.1 12 0 5 = 1 → rM σ'.1 ν F' → PV F' N' → F' 0 ≠ 0 → dkS σ'.1 0 (fun _ => 0) → σ'.1 1 0 2 = 0 → σ'.1 2 0 2 = 0 → σ'.1 2 0 4 = 0 → (∀ p, p < 4 → σ'.1 32 0 p = -1) → σ'.1 3 0 0 = -1 → Q (some (vi (F' 7))) σ') : CL L xs d 78 [vr 12 0, vi x] σ Q := by
  refine cl_at p78 (by omega) (w78_0 hC ?_)
  rw [efd]
  refine if_c (fun z => c81 (by omega) fr.id (qn (by unfold inc; rw [decide_eq_false (fun w => w z)]; rfl))) (fun z => ?_)
  refine if_c (fun z' => c81 (by omega) fr.id (qn (by unfold inc; rw [decide_eq_false (p := ¬ nI fd < x) (fun w => w z'), Bool.and_false]))) (fun z' => ?_)
  have hi : inc x 0 (nI fd) = true := by unfold inc; rw [decide_eq_true z, decide_eq_true z']; rfl
  replace qf := qf hi
  replace qt := qt hi
  obtain ⟨n, hn, rfl⟩ : ∃ n, n ≤ fd ∧ x = nI n := by
    obtain ⟨j, hj, rfl⟩ := nI_of z
    exact ⟨j, Nat.le_of_not_lt (fun w => z' (nI_lt w hj)), rfl⟩
  rw [nI_clamp (by omega)] at qf qt
  clear z z' hi qn
  have w12 : ∀ k, k = 1 ∨ k = 13 ∨ k = 14 ∨ k = 15 → fMf ν 12 0 k = true := fun k hk => by rcases hk with rfl | rfl | rfl | rfl <;> simp [fMf]
  refine c29 (by omega) hν hν2 (by omega) (fun i hi => hT i (by omega)) hk (fun f p σ3 E hf f3 r3 e8 e9 => ⟨rfl, ?_⟩) (fun c' F' N' σ3 E f3 r3 e8 M3 P3 h03 => ⟨rfl, ?_⟩)
  · have hf' : nI f ≠ 0 := fun w => hf ((nI_eq (b := 0) (by have := f6_rdP (T := T) (n := n) _ _ _ _ f p E; omega) (by omega)).mp w)
    have x8 : (m2_wI σ3 12 0 1 0).1 7 0 8 = nI f := by rw [wI_t (by decide)]; exact e8
    have x9 : (m2_wI (m2_wI σ3 12 0 1 0) 12 0 14 (nI f)).1 7 0 9 = nI p := by rw [wI_t (by decide), wI_t (by decide)]; exact e9
    have x14 : (m2_wI (m2_wI (m2_wI σ3 12 0 1 0) 12 0 14 (nI f)) 12 0 15 (nI p)).1 12 0 14 = nI f := by rw [wI_k (by decide), wI_same]
    show (if (m2_wI (m2_wI (m2_wI σ3 12 0 1 0) 12 0 14 ((m2_wI σ3 12 0 1 0).1 7 0 8)) 12 0 15 ((m2_wI (m2_wI σ3 12 0 1 0) 12 0 14 ((m2_wI σ3 12 0 1 0).1 7 0 8)).1 7 0 9)).1 12 0 14 = 0 then _ else CL L xs (d - 1) 81 [vr 12 0, vi 4] (m2_wI (m2_wI (m2_wI σ3 12 0 1 0) 12 0 14 ((m2_wI σ3 12 0 1 0).1 7 0 8)) 12 0 15 ((m2_wI (m2_wI σ3 12 0 1 0) 12 0 14 ((m2_wI σ3 12 0 1 0).1 7 0 8)).1 7 0 9)) _)
    rw [x8, x9, x14]
    refine if_n hf' (c81r (by omega) ⟨_, rfl, ?_⟩)
    refine qf f p _ E hf ((((f3.weak fBg_f).w (w12 1 (by omega))).w (w12 14 (by omega))).w (w12 15 (by omega)) |>.w (w12 13 (by omega))) r3 ?_ ?_ ?_ wI_same
    · rw [wI_k (by decide), wI_k (by decide), wI_k (by decide), wI_same]
    · rw [wI_k (by decide), wI_k (by decide), wI_same]
    · rw [wI_k (by decide), wI_same]
  · have x8 : (m2_wI σ3 12 0 1 0).1 7 0 8 = 0 := by rw [wI_t (by decide)]; exact e8
    have f6 : ∀ y, fz (fMs ν) σ (m2_wI (m2_wI (m2_wI σ3 12 0 1 0) 12 0 14 0) 12 0 15 y) := fun y => ((((f3.weak fBg_f).w (w12 1 (by omega))).w (w12 14 (by omega))).w (w12 15 (by omega))).weak fMf_s
    have x14 : ∀ y, (m2_wI (m2_wI (m2_wI σ3 12 0 1 0) 12 0 14 0) 12 0 15 y).1 12 0 14 = 0 := fun y => by rw [wI_k (by decide), wI_same]
    have x1 : ∀ y, (m2_wI (m2_wI (m2_wI σ3 12 0 1 0) 12 0 14 0) 12 0 15 y).1 12 0 1 = 0 := fun y => by rw [wI_k (by decide), wI_k (by decide), wI_same]
    have xo : ∀ y t i k, t ≠ 12 → (m2_wI (m2_wI (m2_wI σ3 12 0 1 0) 12 0 14 0) 12 0 15 y).1 t i k = σ3.1 t i k := fun y t i k ht => by rw [wI_t ht, wI_t ht, wI_t ht]
    have x2 : ∀ y, (m2_wI (m2_wI (m2_wI σ3 12 0 1 0) 12 0 14 0) 12 0 15 y).2 = σ3.2 := fun y => rfl
    show (if (m2_wI (m2_wI (m2_wI σ3 12 0 1 0) 12 0 14 ((m2_wI σ3 12 0 1 0).1 7 0 8)) 12 0 15 ((m2_wI (m2_wI σ3 12 0 1 0) 12 0 14 ((m2_wI σ3 12 0 1 0).1 7 0 8)).1 7 0 9)).1 12 0 14 = 0 then CL L xs (d - 1) 3 [vr 1 0] (m2_wD (m2_wI (m2_wD (m2_wD (m2_wI (m2_wI (m2_wI σ3 12 0 1 0) 12 0 14 ((m2_wI σ3 12 0 1 0).1 7 0 8)) 12 0 15 ((m2_wI (m2_wI σ3 12 0 1 0) 12 0 14 ((m2_wI σ3 12 0 1 0).1 7 0 8)).1 7 0 9)) 12 0 4 (σ3.2.2 7 0 5)) 7 0 5 (σ3.2.2 12 0 4)) 12 0 5 1) 8 0 0 ((m2_wD (m2_wD (m2_wI (m2_wI (m2_wI σ3 12 0 1 0) 12 0 14 ((m2_wI σ3 12 0 1 0).1 7 0 8)) 12 0 15 ((m2_wI (m2_wI σ3 12 0 1 0) 12 0 14 ((m2_wI σ3 12 0 1 0).1 7 0 8)).1 7 0 9)) 12 0 4 (σ3.2.2 7 0 5)) 7 0 5 (σ3.2.2 12 0 4)).2.2 12 0 4)) _ else _)
    rw [x8]
    generalize (m2_wI (m2_wI σ3 12 0 1 0) 12 0 14 0).1 7 0 9 = y at *
    replace f6 := f6 y
    replace x14 := x14 y
    replace x1 := x1 y
    replace xo := xo y
    replace x2 := x2 y
    generalize m2_wI (m2_wI (m2_wI σ3 12 0 1 0) 12 0 14 0) 12 0 15 y = σ6 at *
    refine if_y x14 ?_
    have k4 : (m2_wD (m2_wD σ6 12 0 4 (σ3.2.2 7 0 5)) 7 0 5 (σ3.2.2 12 0 4)).2.2 12 0 4 = ν := by
      rw [wD_t (by decide), wD_same, r3 7 0 5 (by decide)]; exact hν
    rw [k4]
    have G : fz (fMs ν) σ (m2_wD (m2_wI (m2_wD (m2_wD σ6 12 0 4 (σ3.2.2 7 0 5)) 7 0 5 (σ3.2.2 12 0 4)) 12 0 5 1) 8 0 0 ν) := by
      have : fz (fMs ν) σ (m2_wI σ6 12 0 5 1) := f6.w (by simp [fMs])
      exact this
    have y1 : ∀ t i k, ¬ (t = 12 ∧ i = 0 ∧ k = 5) → (m2_wD (m2_wI (m2_wD (m2_wD σ6 12 0 4 (σ3.2.2 7 0 5)) 7 0 5 (σ3.2.2 12 0 4)) 12 0 5 1) 8 0 0 ν).1 t i k = σ6.1 t i k := fun t i k ht => if_neg ht
    have y5 : (m2_wD (m2_wI (m2_wD (m2_wD σ6 12 0 4 (σ3.2.2 7 0 5)) 7 0 5 (σ3.2.2 12 0 4)) 12 0 5 1) 8 0 0 ν).1 12 0 5 = 1 := by
      show (m2_wI (m2_wD (m2_wD σ6 12 0 4 (σ3.2.2 7 0 5)) 7 0 5 (σ3.2.2 12 0 4)) 12 0 5 1).1 12 0 5 = 1
      exact wI_same
    have y8 : (m2_wD (m2_wI (m2_wD (m2_wD σ6 12 0 4 (σ3.2.2 7 0 5)) 7 0 5 (σ3.2.2 12 0 4)) 12 0 5 1) 8 0 0 ν).2.2 8 0 0 = ν := by unfold m2_wD; simp
    have y4 : (m2_wD (m2_wI (m2_wD (m2_wD σ6 12 0 4 (σ3.2.2 7 0 5)) 7 0 5 (σ3.2.2 12 0 4)) 12 0 5 1) 8 0 0 ν).2.2 12 0 4 = ν := by
      rw [wD_t (by decide)]; exact k4
    have y7 : (m2_wD (m2_wI (m2_wD (m2_wD σ6 12 0 4 (σ3.2.2 7 0 5)) 7 0 5 (σ3.2.2 12 0 4)) 12 0 5 1) 8 0 0 ν).2.2 7 0 5 = σ.2.2 12 0 4 := by
      rw [wD_t (by decide)]
      show (m2_wD (m2_wD σ6 12 0 4 (σ3.2.2 7 0 5)) 7 0 5 (σ3.2.2 12 0 4)).2.2 7 0 5 = _
      rw [wD_same]; exact r3 12 0 4 (by decide)
    generalize m2_wD (m2_wI (m2_wD (m2_wD σ6 12 0 4 (σ3.2.2 7 0 5)) 7 0 5 (σ3.2.2 12 0 4)) 12 0 5 1) 8 0 0 ν = σ10 at *
    refine c3 (by omega) (fun σ11 f11 D11 b11 => ⟨rfl, ?_⟩)
    refine cl_at p9 (by omega) (w9_0 hC ⟨rfl, ?_⟩)
    refine c19 (by omega) (fun σ13 f13 m13 => ⟨rfl, ?_⟩)
    refine cl_at p15 (by omega) (w15_0 hC ⟨rfl, ?_⟩)
    have f12 : fr (fun t i k => fD 0 t i k || (t == 2 && (k == 2 || k == 4))) σ10 (m2_wI (m2_wI σ11 2 0 2 0) 2 0 4 0) := ((f11.weak (fun t i k w => by rw [w]; rfl)).w (by simp)).w (by simp)
    have D12 : dkS (m2_wI (m2_wI σ11 2 0 2 0) 2 0 4 0).1 0 (fun _ => 0) := D11.fr (A := fun t _ _ => t == 2) (fun _ => ⟨rfl, rfl, rfl⟩) ((fr.id.w rfl).w rfl)
    have b12 : (m2_wI (m2_wI σ11 2 0 2 0) 2 0 4 0).1 1 0 2 = 0 := by rw [wI_t (by decide), wI_t (by decide)]; exact b11
    have n12 : (m2_wI (m2_wI σ11 2 0 2 0) 2 0 4 0).1 2 0 2 = 0 := by rw [wI_k (by decide), wI_same]
    have i12 : (m2_wI (m2_wI σ11 2 0 2 0) 2 0 4 0).1 2 0 4 = 0 := wI_same
    generalize m2_wI (m2_wI σ11 2 0 2 0) 2 0 4 0 = σ12 at *
    have F14 : fr (fun t i k => fD 0 t i k || ((t == 2 && (k == 2 || k == 4)) || (t == 32 || (t == 3 && k == 0)))) σ10 (m2_wI σ13 3 0 0 (-1)) := (f12.weak (fun t i k w => by
      unfold fD at *
      simp only [Bool.or_eq_true, Bool.and_eq_true, beq_iff_eq] at *
      omega)).trans (f13.weak (fun t i k w => by
      unfold fD at *
      simp only [Bool.or_eq_true, Bool.and_eq_true, beq_iff_eq] at *
      omega)) |>.w rfl
    have D14 : dkS (m2_wI σ13 3 0 0 (-1)).1 0 (fun _ => 0) := (D12.fr (A := fun t _ _ => t == 32) (fun _ => ⟨rfl, rfl, rfl⟩) f13).fr (A := fun t _ _ => t == 3) (fun _ => ⟨rfl, rfl, rfl⟩) (fr.id.w rfl)
    have b14 : (m2_wI σ13 3 0 0 (-1)).1 1 0 2 = 0 := by rw [wI_t (by decide), f13.1 _ _ _ rfl]; exact b12
    have n14 : (m2_wI σ13 3 0 0 (-1)).1 2 0 2 = 0 := by rw [wI_t (by decide), f13.1 _ _ _ rfl]; exact n12
    have i14 : (m2_wI σ13 3 0 0 (-1)).1 2 0 4 = 0 := by rw [wI_t (by decide), f13.1 _ _ _ rfl]; exact i12
    have m14 : ∀ p, p < 4 → (m2_wI σ13 3 0 0 (-1)).1 32 0 p = -1 := fun p hp => by rw [wI_t (by decide)]; exact m13 p hp
    have l14 : (m2_wI σ13 3 0 0 (-1)).1 3 0 0 = -1 := wI_same
    show CL L xs (d - 1) 83 [vr 12 0, vi ((m2_wI σ13 3 0 0 (-1)).1 36 ((m2_wI σ13 3 0 0 (-1)).2.2 12 0 4) 5)] (m2_wI σ13 3 0 0 (-1)) _
    generalize m2_wI σ13 3 0 0 (-1) = σ14 at *
    clear f11 D11 b11 f12 D12 b12 n12 i12 f13 m13
    have MM : ∀ t i k, kMu t = true → σ14.1 t i k = σ3.1 t i k := by
      intro t i k hk
      have h1 : t ≠ 12 ∧ t ≠ 22 ∧ t ≠ 23 ∧ t ≠ 1 ∧ t ≠ 2 ∧ t ≠ 32 ∧ t ≠ 3 := by
        unfold kMu at hk
        simp only [Bool.or_eq_true, beq_iff_eq] at hk
        omega
      rw [F14.1 t i k (by
        unfold fD
        simp only [Bool.or_eq_false_iff, Bool.and_eq_false_iff, beq_eq_false_iff_ne, ne_eq]
        omega), y1 t i k (fun w => h1.1 w.1), xo t i k h1.1]
    have r14 : ∀ t i k, σ14.2.2 t i k = σ10.2.2 t i k := fun t i k => by rw [F14.2]
    have MM' : ∀ t i k, kMu t = true → (m2_wI σ14 12 0 13 0).1 t i k = σ3.1 t i k := fun t i k hk => by
      rw [wI_t (fun w => by rw [w] at hk; cases hk)]; exact MM t i k hk
    have M14 : rM (m2_wI σ14 12 0 13 0).1 ν F' := by
      obtain ⟨hB, hC', hT, hH, hE, hPp, hS, hNn, hK, hZ⟩ := M3
      have this := MM'
      refine ⟨?_, rC.cg (fun k _ => this 5 ν k rfl) (fun k _ _ => rfl) hC', rT.cg P3.1.1 (fun k => this 37 ν k rfl) (fun k _ _ => rfl) rfl hT, rH.cg P3.1.1 (fun x k _ => this 6 _ k rfl) (fun k => this 39 ν k rfl) (fun k _ _ => rfl) rfl hH, rE.cg P3.1.1 (fun x k _ => ⟨this 0 _ k rfl, this 20 _ k rfl, this 21 _ k rfl, this 6 _ k rfl⟩) (fun k _ _ => rfl) rfl hE, rP.cg P3.1.1 P3.1.2.2.2.2.2.1 (fun x k _ => ⟨this 10 _ k rfl, this 52 _ k rfl, this 53 _ k rfl⟩) (fun k _ _ => rfl) rfl hPp, rS.cg P3.1.1 (fun x k _ => this 9 _ k rfl) (fun k _ _ => rfl) rfl hS, rN.cg P3.1.1 (fun k => ⟨this 43 ν k rfl, this 44 ν k rfl⟩) (fun k _ _ => rfl) rfl hNn, rK.cg P3.1.1 (fun k => ⟨this 45 ν k rfl, this 46 ν k rfl, this 47 ν k rfl⟩) (fun k _ _ => rfl) rfl hK, rZ.cg P3.1.1 ⟨this 5 ν 16 rfl, this 5 ν 17 rfl⟩ (fun k _ _ => rfl) rfl hZ⟩
      unfold rB
      rw [this 36 ν 0 rfl, this 36 ν 1 rfl, this 36 ν 2 rfl, this 36 ν 3 rfl, this 36 ν 4 rfl, this 36 ν 5 rfl, this 36 ν 6 rfl, this 36 ν 7 rfl, this 36 ν 8 rfl]
      exact hB
    have e7 : σ14.1 36 (σ14.2.2 12 0 4) 5 = F' 7 := by
      rw [r14, y4, MM 36 ν 5 rfl]; exact M3.1.2.2.2.2.2.1
    rw [e7]
    refine c83r (by omega) ⟨_, rfl, ?_⟩
    have o12 : ∀ k, k ≠ 13 → (m2_wI σ14 12 0 13 0).1 12 0 k = σ10.1 12 0 k := fun k hk => by rw [wI_k hk]; exact F14.1 12 0 k rfl
    refine qt c' F' N' _ E ?_ ((r14 12 0 4).trans y4) ((r14 7 0 5).trans y7) ((r14 8 0 0).trans y8) ?_ ?_ wI_same ?_ M14 P3 h03 (D14.fr (A := fun t _ _ => t == 12) (fun _ => ⟨rfl, rfl, rfl⟩) (fr.id.w rfl)) (by rw [wI_t (by decide)]; exact b14) (by rw [wI_t (by decide)]; exact n14) (by rw [wI_t (by decide)]; exact i14) (fun p hp => by rw [wI_t (by decide)]; exact m14 p hp) (by rw [wI_t (by decide)]; exact l14)
    · refine (G.trans (F14.z.weak (fun t i k w => ?_))).w (by simp [fMs, fMf])
      unfold fMs
      unfold fD at *
      simp only [Bool.or_eq_true, Bool.and_eq_true, beq_iff_eq] at *
      omega
    · rw [o12 1 (by decide), y1 12 0 1 (by omega)]; exact x1
    · rw [o12 14 (by decide), y1 12 0 14 (by omega)]; exact x14
    · rw [o12 5 (by decide)]; exact y5
end MUS
