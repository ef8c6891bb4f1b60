/-! EACH LINE keeps what is read in order: the lines themselves -/
section PVM
variable {T : Nat → Nat} {n c : Nat} {F F' : Nat → Int32} {N N' : Nat → Nat} {c' : Nat}
theorem lThg_pv (hP : PV F N) (hr : gN F 4 < 5) (hc : c ≤ n) (h : lThg T n F N c = .inr (c', F', N')) : PV F' N' ∧ c ≤ c' ∧ c' ≤ n ∧ F' 0 = F 0 := by
  unfold lThg at h
  have e1 := nx_le (T := T) hc
  obtain ⟨hk, hl, h⟩ := pNew_i h
  have e2 := nx_le (T := T) e1.2
  obtain ⟨v, v1, v2, h⟩ := pN_i h
  cases h
  refine ⟨pv_thg hP hr (fun k k1 k2 k3 => by rw [updR_ne (by omega), updR_ne (by omega)]) (by rw [updR_eq]) (by rw [updR_ne (by omega), updR_eq]; exact vpn (by omega) (by omega)) ⟨hc, hk, hl, rfl⟩, by omega, by omega, by rw [updR_ne (by omega), updR_ne (by omega)]⟩
theorem lHrm_pv (hP : PV F N) (hr : gN F 10 < 6) (hc : c ≤ n) (h : lHrm T n F N c = .inr (c', F', N')) : PV F' N' ∧ c ≤ c' ∧ c' ≤ n ∧ F' 0 = F 0 := by
  unfold lHrm at h
  have e1 := nx_le (T := T) hc
  obtain ⟨t, t1, t2, t3, h⟩ := pUse_i hc h
  have ht := hP.2.1.th t1 t3
  have e2 := nx_le (T := T) e1.2
  obtain ⟨u, -, h⟩ := pHow_i h
  have e3 := nx_le (T := T) e2.2
  obtain ⟨b, -, -, h⟩ := pN_i h
  have e4 := nx_le (T := T) e3.2
  obtain ⟨-, h⟩ := pW_i h
  have e5 := nx_le (T := T) e4.2
  obtain ⟨z, z1, z2, h⟩ := pN_i h
  cases h
  have b4 := hP.1.cT.1
  refine ⟨pv_hrm hP hr (fun k k1 k2 k3 => by rw [updR_ne (by omega), updR_ne (by omega), updR_ne (by omega), updR_ne (by omega), updR_ne (by omega)]) (by rw [updR_eq]) ⟨?_, ?_⟩ rfl, by omega, by omega, by rw [updR_ne (by omega), updR_ne (by omega), updR_ne (by omega), updR_ne (by omega), updR_ne (by omega)]⟩
  · rw [updR_ne (by omega), updR_ne (by omega), updR_ne (by omega), updR_ne (by omega), updR_eq]; exact vpn ht (by omega)
  · rw [updR_ne (by omega), updR_eq]; exact vpn (by omega) (by omega)
/-- a deed as it is told -/
def dOK (F : Nat → Int32) (d th : Nat) : Prop := (∀ e, e < 2 → vp_in (F (40 + 7 * d + 2 * e)) (th + 1)) ∧ vp_in (F (40 + 7 * d + 4)) (th + 1)
def dRes (n : Nat) (N : Nat → Nat) (d th : Nat) (F : Nat → Int32) (c : Nat) (r : PR) : Prop := ∀ c' F' N', r = .inr (c', F', N') → N' = N ∧ c ≤ c' ∧ c' ≤ n ∧ F' 5 = nI (d + 1) ∧ (∀ k, k ≠ 5 → (k < 40 + 7 * d ∨ 40 + 7 * d + 7 ≤ k) → F' k = F k) ∧ dOK F' d th ∧ th ≠ 0
theorem dIf_r {d th : Nat} (hth : th < 6) (hN : ∀ v, 0 + v ≤ 4 → N (0 + v) ≠ 0 → v < th) (hc : c ≤ n) (hd : dOK F d th) (h0 : th ≠ 0) : dRes n N d th F c (dIf T n N d F c) := by
  intro c' F' N' h
  unfold dIf at h
  have e1 := nx_le (T := T) hc
  split at h
  · have e2 := nx_le (T := T) e1.2
    obtain ⟨t, t1, t2, t3, h⟩ := pUse_i e1.2 h
    have ht := hN t t1 t3
    have e3 := nx_le (T := T) e2.2
    obtain ⟨u, -, h⟩ := pHow_i h
    have e4 := nx_le (T := T) e3.2
    obtain ⟨b, -, -, h⟩ := pN_i h
    cases h
    refine ⟨rfl, by omega, by omega, by rw [updR_eq], fun k k1 k2 => by rw [updR_ne (by omega), updR_ne (by omega), updR_ne (by omega), updR_ne (by omega)], ⟨fun e he => ?_, ?_⟩, h0⟩
    · rw [updR_ne (by omega), updR_ne (by omega), updR_ne (by omega), updR_ne (by omega)]; exact hd.1 e he
    · rw [updR_ne (by omega), updR_ne (by omega), updR_ne (by omega), updR_eq]; exact vpn (by omega) (by omega)
  · cases h
    refine ⟨rfl, Nat.le_refl _, hc, by rw [updR_eq], fun k k1 k2 => by rw [updR_ne (by omega)], ⟨fun e he => ?_, ?_⟩, h0⟩
    · rw [updR_ne (by omega)]; exact hd.1 e he
    · rw [updR_ne (by omega)]; exact hd.2
theorem dEf_r {d th many : Nat} {more : (Nat → Int32) → Nat → PR} (hm : many < 3) (hth : th < 6) (hN : ∀ v, 0 + v ≤ 4 → N (0 + v) ≠ 0 → v < th) (hmore : ∀ F c, c ≤ n → dOK F d th → dRes n N d th F c (more F c)) (hc : c ≤ n) (hd : dOK F d th) : dRes n N d th F c (dEf T n N d many more F c) := by
  intro c' F' N' h
  unfold dEf at h
  have e1 := nx_le (T := T) hc
  split at h
  · split at h
    · cases h
    · rename_i hm2
      have e2 := nx_le (T := T) e1.2
      obtain ⟨t, t1, t2, t3, h⟩ := pUse_i e1.2 h
      have ht := hN t t1 t3
      split at h
      · cases h
      have e3 := nx_le (T := T) e2.2
      obtain ⟨v, v1, v2, h⟩ := pN_i h
      have hd' : ∀ x, dOK (updR (updR F (40 + 7 * d + 2 * many) (nI (t + 1))) (40 + 7 * d + 2 * many + 1) x) d th := by
        intro x
        refine ⟨fun e he => ?_, by rw [updR_ne (by omega), updR_ne (by omega)]; exact hd.2⟩
        rw [updR_ne (by omega)]
        by_cases z : e = many
        · rw [z, updR_eq]; exact vpn (by omega) (by omega)
        · rw [updR_ne (by omega)]; exact hd.1 e he
      have key : ∀ x c2, c2 ≤ n → c ≤ c2 → ∀ r : PR, dRes n N d th (updR (updR F (40 + 7 * d + 2 * many) (nI (t + 1))) (40 + 7 * d + 2 * many + 1) x) c2 r → r = .inr (c', F', N') → N' = N ∧ c ≤ c' ∧ c' ≤ n ∧ F' 5 = nI (d + 1) ∧ (∀ k, k ≠ 5 → (k < 40 + 7 * d ∨ 40 + 7 * d + 7 ≤ k) → F' k = F k) ∧ dOK F' d th ∧ th ≠ 0 := by
        intro x c2 hc2 hcc r hr hq
        obtain ⟨a1, a2, a3, a4, a5, a6, a7⟩ := hr c' F' N' hq
        exact ⟨a1, by omega, a3, a4, fun k k1 k2 => by rw [a5 k k1 k2, updR_ne (by omega), updR_ne (by omega)], a6, a7⟩
      split at h
      · have e4 := nx_le (T := T) e3.2
        exact key _ _ e4.2 (by omega) _ (hmore _ _ e4.2 (hd' _)) h
      · exact key _ _ e3.2 (by omega) _ (dIf_r hth hN e3.2 (hd' _) (by omega)) h
  · cases h
theorem lDed_pv (hP : PV F N) (hr : gN F 5 < 8) (hc : c ≤ n) (h : lDed T n F N c = .inr (c', F', N')) : PV F' N' ∧ c ≤ c' ∧ c' ≤ n ∧ F' 0 = F 0 := by
  unfold lDed at h
  have e1 := nx_le (T := T) hc
  obtain ⟨hk, hl, h⟩ := pNew_i h
  have b4 := hP.1.cT.1
  have hN : ∀ v, 0 + v ≤ 4 → upN N (5 + gN F 5) (cd T n c) (0 + v) ≠ 0 → v < gN F 4 := fun v h1 h2 => hP.2.1.th h1 (by rw [upN_o (by omega)] at h2; exact h2)
  have d0 : dOK (ze7 F (40 + 7 * gN F 5)) (gN F 5) (gN F 4) := by
    have z : ∀ k, 40 + 7 * gN F 5 ≤ k → k < 40 + 7 * gN F 5 + 7 → ze7 F (40 + 7 * gN F 5) k = 0 := fun k h1 h2 => if_pos ⟨h1, h2⟩
    exact ⟨fun e he => by rw [z _ (by omega) (by omega)]; exact vpn (a := 0) (by omega) (by omega), by rw [z _ (by omega) (by omega)]; exact vpn (a := 0) (by omega) (by omega)⟩
  obtain ⟨a1, a2, a3, a4, a5, a6, a7⟩ := dEf_r (many := 0) (by omega) (by omega) hN (fun F c hc hd => dEf_r (many := 1) (by omega) (by omega) hN (fun F c hc hd => dEf_r (many := 2) (by omega) (by omega) hN (fun F c hc hd c' F' N' h => by cases h) hc hd) hc hd) e1.2 d0 c' F' N' h
  have zo : ∀ k, (k < 40 + 7 * gN F 5 ∨ 40 + 7 * gN F 5 + 7 ≤ k) → ze7 F (40 + 7 * gN F 5) k = F k := fun k hk => if_neg (fun w => by omega)
  refine ⟨pv_ded hP hr (fun k k1 k2 k3 => (a5 k k2 k3).trans (zo k k3)) a4 ⟨a6, a7⟩ ⟨hc, hk, hl, a1⟩, by omega, a3, ?_⟩
  exact (a5 0 (by omega) (by omega)).trans (zo 0 (by omega))
theorem pSt_r {p ds : Nat} (hds : ds < 9) (hN : ∀ v, 5 + v ≤ 12 → N (5 + v) ≠ 0 → v < ds) : ∀ m many F c c' F' N', many + m = 7 → c ≤ n → (∀ i, i < many → vp_in (F (96 + 7 * p + 1 + i)) ds) → pSt T n N p m many F c = .inr (c', F', N') → N' = N ∧ c ≤ c' ∧ c' ≤ n ∧ F' 6 = nI (p + 1) ∧ (∀ k, k ≠ 6 → (k < 96 + 7 * p ∨ 96 + 7 * p + 7 ≤ k) → F' k = F k) ∧ vp_in (F' (96 + 7 * p)) 7 ∧ (∀ i, i < gN F' (96 + 7 * p) → vp_in (F' (96 + 7 * p + 1 + i)) ds) ∧ ds ≠ 0
  | 0, many, F, c, c', F', N', _, _, _, h => by cases h
  | m + 1, many, F, c, c', F', N', hm, hc, hv, h => by
    have h : pUse T n N 5 12 c (fun d c' => if many = 6 then .inl (5, tA T n c) else if kd T n c' = 4 then pSt T n N p m (many + 1) (updR F (96 + 7 * p + 1 + many) (nI d)) (nx T n c') else .inr (c', updR (updR (updR F (96 + 7 * p + 1 + many) (nI d)) (96 + 7 * p) (nI (many + 1))) 6 (nI (p + 1)), N)) = .inr (c', F', N') := h
    have e1 := nx_le (T := T) hc
    obtain ⟨t, t1, t2, t3, h⟩ := pUse_i hc h
    have ht := hN t t1 t3
    split at h
    · cases h
    rename_i h6
    have hv' : ∀ i, i < many + 1 → vp_in (updR F (96 + 7 * p + 1 + many) (nI t) (96 + 7 * p + 1 + i)) ds := by
      intro i hi
      by_cases z : i = many
      · rw [z, updR_eq]; exact vpn ht (by omega)
      · rw [updR_ne (by omega)]; exact hv i (by omega)
    split at h
    · have e2 := nx_le (T := T) e1.2
      obtain ⟨a1, a2, a3, a4, a5, a6⟩ := pSt_r hds hN m (many + 1) _ _ c' F' N' (by omega) e2.2 hv' h
      exact ⟨a1, by omega, a3, a4, fun k k1 k2 => by rw [a5 k k1 k2, updR_ne (by omega)], a6⟩
    · cases h
      have eg : gN (updR (updR (updR F (96 + 7 * p + 1 + many) (nI t)) (96 + 7 * p) (nI (many + 1))) 6 (nI (p + 1))) (96 + 7 * p) = many + 1 := gN_of (by rw [updR_ne (by omega), updR_eq]) (by omega)
      refine ⟨rfl, by omega, by omega, by rw [updR_eq], fun k k1 k2 => by rw [updR_ne (by omega), updR_ne (by omega), updR_ne (by omega)], ?_, fun i hi => ?_, by omega⟩
      · rw [updR_ne (by omega), updR_eq]; exact vpn (by omega) (by omega)
      · rw [eg] at hi
        rw [updR_ne (by omega), updR_ne (by omega)]; exact hv' i hi
theorem lPln_pv (hP : PV F N) (hr : gN F 6 < 4) (hc : c ≤ n) (h : lPln T n F N c = .inr (c', F', N')) : PV F' N' ∧ c ≤ c' ∧ c' ≤ n ∧ F' 0 = F 0 := by
  unfold lPln at h
  have e1 := nx_le (T := T) hc
  obtain ⟨hk, hl, h⟩ := pNew_i h
  have b5 := hP.1.cD.1
  have hN : ∀ v, 5 + v ≤ 12 → upN N (13 + gN F 6) (cd T n c) (5 + v) ≠ 0 → v < gN F 5 := fun v h1 h2 => hP.2.1.de h1 (by rw [upN_o (by omega)] at h2; exact h2)
  obtain ⟨a1, a2, a3, a4, a5, a6, a7, a8⟩ := pSt_r (by omega) hN 7 0 F _ c' F' N' (by omega) e1.2 (fun i hi => absurd hi (Nat.not_lt_zero i)) h
  exact ⟨pv_pln hP hr (fun k k1 k2 k3 => a5 k k2 k3) a4 ⟨a6, a7, a8⟩ ⟨hc, hk, hl, a1⟩, by omega, a3, a5 0 (by omega) (by omega)⟩
theorem pMis_i {r : Nat × (Nat → Int32) × (Nat → Nat)} {K : Nat → Nat → PR} (h : pMis T n c K = .inr r) : ∃ mi, mi ≤ 4 ∧ K mi (nx T n c) = .inr r := by
  unfold pMis at h
  split at h
  · exact ⟨0, by omega, h⟩
  split at h
  · exact ⟨1, by omega, h⟩
  split at h
  · exact ⟨2, by omega, h⟩
  split at h
  · exact ⟨3, by omega, h⟩
  split at h
  · exact ⟨4, by omega, h⟩
  · cases h
theorem pKnd_i {r : Nat × (Nat → Int32) × (Nat → Nat)} {K : Nat → Nat → PR} (h : pKnd T n c K = .inr r) : ∃ kn, kn ≤ 2 ∧ K kn (nx T n c) = .inr r := by
  unfold pKnd at h
  split at h
  · exact ⟨0, by omega, h⟩
  split at h
  · exact ⟨1, by omega, h⟩
  split at h
  · exact ⟨2, by omega, h⟩
  · cases h
theorem sEnd_pv {mi dd : Nat} {e : Int32} {c0 : Nat} (hP : PV F N) (hr : gN F 7 < 7) (hc0 : c0 ≤ n) (hk : kd T n c0 = 1) (hl : lkN N (cd T n c0) = none) (hc : c ≤ n) (hmi : mi ≤ 4) (hdd : dd < gN F 5) (he : mi = 4 → vp_in e (gN F 5)) (h : sEnd T n F (upN N (17 + gN F 7) (cd T n c0)) (gN F 7) mi dd e c = .inr (c', F', N')) : PV F' N' ∧ c ≤ c' ∧ c' ≤ n ∧ F' 0 = F 0 := by
  unfold sEnd at h
  have b5 := hP.1.cD.1
  have e1 := nx_le (T := T) hc
  obtain ⟨-, h⟩ := pW_i h
  have e2 := nx_le (T := T) e1.2
  obtain ⟨o, o1, o2, h⟩ := pN_i h
  cases h
  refine ⟨pv_slp hP hr (fun k k1 k2 k3 => by rw [updR_ne (by omega), updR_ne (by omega), updR_ne (by omega), updR_ne (by omega), updR_ne (by omega)]) (by rw [updR_eq]) ⟨?_, ?_, fun w => ?_, ?_⟩ ⟨hc0, hk, hl, rfl⟩, by omega, by omega, by rw [updR_ne (by omega), updR_ne (by omega), updR_ne (by omega), updR_ne (by omega), updR_ne (by omega)]⟩
  · rw [updR_ne (by omega), updR_ne (by omega), updR_ne (by omega), updR_ne (by omega), updR_eq]; exact vpn (by omega) (by omega)
  · rw [updR_ne (by omega), updR_ne (by omega), updR_ne (by omega), updR_eq]; exact vpn hdd (by omega)
  · rw [updR_ne (by omega), updR_ne (by omega), updR_ne (by omega), updR_ne (by omega), updR_eq] at w
    rw [updR_ne (by omega), updR_ne (by omega), updR_eq]
    exact he ((nI_eq (b := 4) (by omega) (by omega)).mp w)
  · rw [updR_ne (by omega), updR_eq]; exact vpn (by omega) (by omega)
theorem lSlp_pv (hP : PV F N) (hr : gN F 7 < 7) (hc : c ≤ n) (h : lSlp T n F N c = .inr (c', F', N')) : PV F' N' ∧ c ≤ c' ∧ c' ≤ n ∧ F' 0 = F 0 := by
  unfold lSlp at h
  have b5 := hP.1.cD.1
  have e1 := nx_le (T := T) hc
  obtain ⟨hk, hl, h⟩ := pNew_i h
  have hN : ∀ v, 5 + v ≤ 12 → upN N (17 + gN F 7) (cd T n c) (5 + v) ≠ 0 → v < gN F 5 := fun v h1 h2 => hP.2.1.de h1 (by rw [upN_o (by omega)] at h2; exact h2)
  have e2 := nx_le (T := T) e1.2
  obtain ⟨mi, hmi, h⟩ := pMis_i h
  have e3 := nx_le (T := T) e2.2
  obtain ⟨dd, d1, d2, d3, h⟩ := pUse_i e2.2 h
  have hdd := hN dd d1 d3
  split at h
  · have e4 := nx_le (T := T) e3.2
    obtain ⟨e, k1, k2, k3, h⟩ := pUse_i e3.2 h
    have he := hN e k1 k3
    split at h
    · cases h
    obtain ⟨a1, a2, a3, a4⟩ := sEnd_pv hP hr hc hk hl e4.2 hmi hdd (fun _ => vpn he (by omega)) h
    exact ⟨a1, by omega, a3, a4⟩
  · rename_i z
    obtain ⟨a1, a2, a3, a4⟩ := sEnd_pv hP hr hc hk hl e3.2 hmi hdd (fun w => absurd w z) h
    exact ⟨a1, by omega, a3, a4⟩
theorem lMan_pv (hP : PV F N) (hr : gN F 8 < 4) (hc : c ≤ n) (h : lMan T n F N c = .inr (c', F', N')) : PV F' N' ∧ c ≤ c' ∧ c' ≤ n ∧ F' 0 = F 0 := by
  unfold lMan at h
  have b6 := hP.1.cP.1
  have e1 := nx_le (T := T) hc
  obtain ⟨hk, hl, h⟩ := pNew_i h
  have e2 := nx_le (T := T) e1.2
  obtain ⟨kn, hkn, h⟩ := pKnd_i h
  have e3 := nx_le (T := T) e2.2
  obtain ⟨p, p1, p2, p3, h⟩ := pUse_i e2.2 h
  have hp := hP.2.1.pl p1 (by rw [upN_o (by omega)] at p3; exact p3)
  cases h
  refine ⟨pv_man hP hr (fun k k1 k2 k3 => by rw [updR_ne (by omega), updR_ne (by omega), updR_ne (by omega)]) (by rw [updR_eq]) (by rw [updR_ne (by omega), updR_eq]; exact vpn hp (by omega)) ⟨hc, hk, hl, rfl⟩, by omega, by omega, by rw [updR_ne (by omega), updR_ne (by omega), updR_ne (by omega)]⟩
theorem lAsk_pv (hP : PV F N) (hr : gN F 9 < 7) (hc : c ≤ n) (h : lAsk T n F N c = .inr (c', F', N')) : PV F' N' ∧ c ≤ c' ∧ c' ≤ n ∧ F' 0 = F 0 := by
  unfold lAsk at h
  have b7 := hP.1.cS.1
  have b8 := hP.1.cM.1
  have e1 := nx_le (T := T) hc
  obtain ⟨m, m1, m2, m3, h⟩ := pUse_i hc h
  have hm := hP.2.1.ma m1 m3
  have e2 := nx_le (T := T) e1.2
  obtain ⟨s, s1, s2, s3, h⟩ := pUse_i e1.2 h
  have hs := hP.2.1.sl s1 s3
  split at h
  · cases h
  have e3 := nx_le (T := T) e2.2
  obtain ⟨-, h⟩ := pW_i h
  have e4 := nx_le (T := T) e3.2
  obtain ⟨v, v1, v2, h⟩ := pN_i h
  cases h
  refine ⟨pv_ask hP hr (fun k k1 k2 k3 => by rw [updR_ne (by omega), updR_ne (by omega), updR_ne (by omega), updR_ne (by omega)]) (by rw [updR_eq]) ⟨?_, ?_, ?_⟩ rfl, by omega, by omega, by rw [updR_ne (by omega), updR_ne (by omega), updR_ne (by omega), updR_ne (by omega)]⟩
  · rw [updR_ne (by omega), updR_ne (by omega), updR_ne (by omega), updR_eq]; exact vpn hm (by omega)
  · rw [updR_ne (by omega), updR_ne (by omega), updR_eq]; exact vpn hs (by omega)
  · rw [updR_ne (by omega), updR_eq]; exact vpn (by omega) (by omega)
theorem pEs_r {p : Nat} : ∀ m t F c c' F' N', c ≤ n → pEs T n N p m t F c = .inr (c', F', N') → N' = N ∧ c ≤ c' ∧ c' ≤ n ∧ (∀ k, k < 181 → F' k = F k) ∧ F' 181 = nI (p + 1)
  | 0, t, F, c, c', F', N', hc, h => by
    have h : (.inr (c, updR F 181 (nI (p + 1)), N) : PR) = .inr (c', F', N') := by cases t <;> exact h
    cases h
    exact ⟨rfl, Nat.le_refl _, hc, fun k hk => updR_ne (by omega), updR_eq⟩
  | m + 1, 0, F, c, c', F', N', hc, h => by
    have e1 := nx_le (T := T) hc
    obtain ⟨v, v1, v2, h⟩ := pN_i (K := fun v c => pEs T n N p m 1 (updR F 182 (nI v)) c) h
    obtain ⟨a1, a2, a3, a4, a5⟩ := pEs_r m 1 _ _ c' F' N' e1.2 h
    exact ⟨a1, by omega, a3, fun k hk => (a4 k hk).trans (updR_ne (by omega)), a5⟩
  | m + 1, t + 1, F, c, c', F', N', hc, h => by
    have h : (if kd T n c = 4 then pN T n 0 9 (nx T n c) (fun v c => pEs T n N p m (t + 2) (updR F (182 + (t + 1)) (nI v)) c) else .inl (1, tA T n c)) = .inr (c', F', N') := h
    have e1 := nx_le (T := T) hc
    split at h
    · have e2 := nx_le (T := T) e1.2
      obtain ⟨v, v1, v2, h⟩ := pN_i h
      obtain ⟨a1, a2, a3, a4, a5⟩ := pEs_r m (t + 2) _ _ c' F' N' e2.2 h
      exact ⟨a1, by omega, a3, fun k hk => (a4 k hk).trans (updR_ne (by omega)), a5⟩
    · cases h
theorem lEnd_pv (hP : PV F N) (hc : c ≤ n) (h : lEnd T n F N c = .inr (c', F', N')) : PV F' N' ∧ c ≤ c' ∧ c' ≤ n ∧ F' 0 = F 0 := by
  unfold lEnd at h
  have b6 := hP.1.cP.1
  have e1 := nx_le (T := T) hc
  obtain ⟨p, p1, p2, p3, h⟩ := pUse_i hc h
  have hp := hP.2.1.pl p1 p3
  obtain ⟨a1, a2, a3, a4, a5⟩ := pEs_r _ _ _ _ c' F' N' e1.2 h
  subst a1
  exact ⟨pv_end hP a4 (by rw [a5]; exact vpn (by omega) (by omega)), by omega, a3, a4 0 (by omega)⟩
theorem gat_i {s room cnt : Nat} {l : PR} {r : Nat × (Nat → Int32) × (Nat → Nat)} (h : gat T n F c s room cnt l = .inr r) : cnt < room ∧ F 0 ≠ 0 ∧ (s = 1 → F 181 = 0) ∧ l = .inr r := by
  unfold gat at h
  split at h
  · split at h
    · cases h
    · split at h
      · cases h
      · rename_i h1 h2 h3
        exact ⟨h1, h2, fun e => Classical.byContradiction (fun w => h3 ⟨e, w⟩), h⟩
  · cases h
theorem lin_pv (hP : PV F N) (hc : c ≤ n) (h : lin T n F N c = .inr (c', F', N')) : PV F' N' ∧ c ≤ c' ∧ c' ≤ n ∧ F' 0 ≠ 0 := by
  unfold lin at h
  have e1 := nx_le (T := T) hc
  split at h
  · split at h
    · have k := lMus_pv hP e1.2 h; exact ⟨k.1, by omega, k.2.2.1, k.2.2.2⟩
    · cases h
  split at h
  · have g := gat_i h; have k := lThg_pv hP g.1 e1.2 g.2.2.2; exact ⟨k.1, by omega, k.2.2.1, by rw [k.2.2.2]; exact g.2.1⟩
  split at h
  · have g := gat_i h; have k := lHrm_pv hP g.1 e1.2 g.2.2.2; exact ⟨k.1, by omega, k.2.2.1, by rw [k.2.2.2]; exact g.2.1⟩
  split at h
  · have g := gat_i h; have k := lDed_pv hP g.1 e1.2 g.2.2.2; exact ⟨k.1, by omega, k.2.2.1, by rw [k.2.2.2]; exact g.2.1⟩
  split at h
  · have g := gat_i h; have k := lPln_pv hP g.1 e1.2 g.2.2.2; exact ⟨k.1, by omega, k.2.2.1, by rw [k.2.2.2]; exact g.2.1⟩
  split at h
  · have g := gat_i h; have k := lSlp_pv hP g.1 e1.2 g.2.2.2; exact ⟨k.1, by omega, k.2.2.1, by rw [k.2.2.2]; exact g.2.1⟩
  split at h
  · have g := gat_i h; have k := lMan_pv hP g.1 e1.2 g.2.2.2; exact ⟨k.1, by omega, k.2.2.1, by rw [k.2.2.2]; exact g.2.1⟩
  split at h
  · have g := gat_i h; have k := lAsk_pv hP g.1 e1.2 g.2.2.2; exact ⟨k.1, by omega, k.2.2.1, by rw [k.2.2.2]; exact g.2.1⟩
  split at h
  · split at h
    · split at h
      · cases h
      · rename_i h0
        have k := lEnd_pv hP e1.2 h; exact ⟨k.1, by omega, k.2.2.1, by rw [k.2.2.2]; exact h0⟩
    · cases h
  · cases h
end PVM
