/-! THE READER of the class: a line, the whole text -/
def sm (F : Nat → Int32) : Nat := gN F 4 + gN F 5 + gN F 6 + gN F 7 + gN F 8
theorem sm_of {F F' : Nat → Int32} (j : Nat) (h1 : 4 ≤ j) (h2 : j ≤ 8) (e : F' j = nI (gN F j + 1)) (hb : gN F j < 100) (ho : ∀ k, 4 ≤ k → k ≤ 8 → k ≠ j → F' k = F k) : sm F' = sm F + 1 := by
  have ej : gN F' j = gN F j + 1 := gN_of e (by omega)
  have eo : ∀ k, 4 ≤ k → k ≤ 8 → k ≠ j → gN F' k = gN F k := fun k a b c => gN_eq (ho k a b c)
  unfold sm
  have : j = 4 ∨ j = 5 ∨ j = 6 ∨ j = 7 ∨ j = 8 := by omega
  rcases this with rfl | rfl | rfl | rfl | rfl
  · rw [ej, eo 5 (by omega) (by omega) (by omega), eo 6 (by omega) (by omega) (by omega), eo 7 (by omega) (by omega) (by omega), eo 8 (by omega) (by omega) (by omega)]; omega
  · rw [ej, eo 4 (by omega) (by omega) (by omega), eo 6 (by omega) (by omega) (by omega), eo 7 (by omega) (by omega) (by omega), eo 8 (by omega) (by omega) (by omega)]; omega
  · rw [ej, eo 4 (by omega) (by omega) (by omega), eo 5 (by omega) (by omega) (by omega), eo 7 (by omega) (by omega) (by omega), eo 8 (by omega) (by omega) (by omega)]; omega
  · rw [ej, eo 4 (by omega) (by omega) (by omega), eo 5 (by omega) (by omega) (by omega), eo 6 (by omega) (by omega) (by omega), eo 8 (by omega) (by omega) (by omega)]; omega
  · rw [ej, eo 4 (by omega) (by omega) (by omega), eo 5 (by omega) (by omega) (by omega), eo 6 (by omega) (by omega) (by omega), eo 7 (by omega) (by omega) (by omega)]; omega
theorem sm_eq {F F' : Nat → Int32} (ho : ∀ k, 4 ≤ k → k ≤ 8 → F' k = F k) : sm F' = sm F := by
  unfold sm
  rw [gN_eq (ho 4 (by omega) (by omega)), gN_eq (ho 5 (by omega) (by omega)), gN_eq (ho 6 (by omega) (by omega)), gN_eq (ho 7 (by omega) (by omega)), gN_eq (ho 8 (by omega) (by omega))]
def LN (T : Nat → Nat) (n s : Nat) (F : Nat → Int32) (N : Nat → Nat) (c : Nat) : PR := match s with
  | 0 => lMus T n F N c
  | 1 => lThg T n F N c
  | 2 => lHrm T n F N c
  | 3 => lDed T n F N c
  | 4 => lPln T n F N c
  | 5 => lSlp T n F N c
  | 6 => lMan T n F N c
  | 7 => lAsk T n F N c
  | _ => lEnd T n F N c
def cnF (F : Nat → Int32) (s : Nat) : Nat := match s with
  | 0 => if F 0 = 0 then 0 else 1
  | 1 => gN F 4
  | 2 => gN F 10
  | 3 => gN F 5
  | 4 => gN F 6
  | 5 => gN F 7
  | 6 => gN F 8
  | 7 => gN F 9
  | _ => if F 181 = 0 then 0 else 1
def nwS (s : Nat) : Nat := match s with
  | 1 => 1
  | 3 => 1
  | 4 => 1
  | 5 => 1
  | 6 => 1
  | _ => 0
section RDL
variable {T : Nat → Nat} {n c : Nat} {F F' : Nat → Int32} {N N' : Nat → Nat} {c' : Nat}
theorem LN_sm {s : Nat} (hs : s < 9) (hP : PV F N) (hc : c ≤ n) (hr : s ≠ 0 → s ≠ 8 → cnF F s < rmN s) (h : LN T n s F N c = .inr (c', F', N')) : sm F' = sm F + nwS s := by
  have e1 := nx_le (T := T) hc
  match s, hs, hr, h with
  | 0, _, _, h =>
    have h : lMus T n F N c = .inr (c', F', N') := h
    unfold lMus at h
    obtain ⟨-, h⟩ := pW_i h
    obtain ⟨_, _, _, h⟩ := pN_i h
    obtain ⟨-, h⟩ := pW_i h
    obtain ⟨_, _, _, h⟩ := pN_i h
    obtain ⟨-, h⟩ := pW_i h
    obtain ⟨_, _, _, h⟩ := pN_i h
    obtain ⟨-, h⟩ := pW_i h
    obtain ⟨_, _, _, h⟩ := pN_i h
    cases h
    exact sm_eq (fun k h1 h2 => by rw [updR_ne (by omega), updR_ne (by omega), updR_ne (by omega), updR_ne (by omega)])
  | 1, _, hr, h =>
    have hr : gN F 4 < 5 := hr (by omega) (by omega)
    have h : lThg T n F N c = .inr (c', F', N') := h
    unfold lThg at h
    obtain ⟨-, -, h⟩ := pNew_i h
    obtain ⟨_, _, _, h⟩ := pN_i h
    cases h
    exact sm_of 4 (by omega) (by omega) (by rw [updR_eq]) (by omega) (fun k h1 h2 h3 => by rw [updR_ne h3, updR_ne (by omega)])
  | 2, _, hr, h =>
    have h : lHrm T n F N c = .inr (c', F', N') := h
    unfold lHrm at h
    obtain ⟨_, _, _, _, h⟩ := pUse_i hc h
    obtain ⟨_, -, h⟩ := pHow_i h
    obtain ⟨_, _, _, h⟩ := pN_i h
    obtain ⟨-, h⟩ := pW_i h
    obtain ⟨_, _, _, h⟩ := pN_i h
    cases h
    exact sm_eq (fun k h1 h2 => by rw [updR_ne (by omega), updR_ne (by omega), updR_ne (by omega), updR_ne (by omega), updR_ne (by omega)])
  | 3, _, hr, h =>
    have hr : gN F 5 < 8 := hr (by omega) (by omega)
    have h : lDed T n F N c = .inr (c', F', N') := h
    unfold lDed at h
    obtain ⟨hk, hl, h⟩ := pNew_i h
    have b4 := hP.1.cT.1
    have hN : ∀ v, 0 + v ≤ 4 → upN N (5 + gN F 5) (cd T n c) (0 + v) ≠ 0 → v < gN F 4 := fun v h1 h2 => hP.2.1.th h1 (by rw [upN_o (by omega)] at h2; exact h2)
    have d0 : dOK (ze7 F (40 + 7 * gN F 5)) (gN F 5) (gN F 4) := by
      have z : ∀ k, 40 + 7 * gN F 5 ≤ k → k < 40 + 7 * gN F 5 + 7 → ze7 F (40 + 7 * gN F 5) k = 0 := fun k h1 h2 => if_pos ⟨h1, h2⟩
      exact ⟨fun e he => by rw [z _ (by omega) (by omega)]; exact vpn (a := 0) (by omega) (by omega), by rw [z _ (by omega) (by omega)]; exact vpn (a := 0) (by omega) (by omega)⟩
    obtain ⟨a1, a2, a3, a4, a5, a6, a7⟩ := dEf_r (many := 0) (by omega) (by omega) hN (fun F c hc hd => dEf_r (many := 1) (by omega) (by omega) hN (fun F c hc hd => dEf_r (many := 2) (by omega) (by omega) hN (fun F c hc hd c' F' N' h => by cases h) hc hd) hc hd) e1.2 d0 c' F' N' h
    have zo : ∀ k, (k < 40 + 7 * gN F 5 ∨ 40 + 7 * gN F 5 + 7 ≤ k) → ze7 F (40 + 7 * gN F 5) k = F k := fun k hk => if_neg (fun w => by omega)
    exact sm_of 5 (by omega) (by omega) a4 (by omega) (fun k h1 h2 h3 => (a5 k h3 (by omega)).trans (zo k (by omega)))
  | 4, _, hr, h =>
    have hr : gN F 6 < 4 := hr (by omega) (by omega)
    have h : lPln T n F N c = .inr (c', F', N') := h
    unfold lPln at h
    obtain ⟨hk, hl, h⟩ := pNew_i h
    have b5 := hP.1.cD.1
    have hN : ∀ v, 5 + v ≤ 12 → upN N (13 + gN F 6) (cd T n c) (5 + v) ≠ 0 → v < gN F 5 := fun v h1 h2 => hP.2.1.de h1 (by rw [upN_o (by omega)] at h2; exact h2)
    obtain ⟨a1, a2, a3, a4, a5, a6, a7, a8⟩ := pSt_r (by omega) hN 7 0 F _ c' F' N' (by omega) e1.2 (fun i hi => absurd hi (Nat.not_lt_zero i)) h
    exact sm_of 6 (by omega) (by omega) a4 (by omega) (fun k h1 h2 h3 => a5 k h3 (by omega))
  | 5, _, hr, h =>
    have hr : gN F 7 < 7 := hr (by omega) (by omega)
    have h : lSlp T n F N c = .inr (c', F', N') := h
    unfold lSlp at h
    obtain ⟨-, -, h⟩ := pNew_i h
    have e2 := nx_le (T := T) e1.2
    obtain ⟨mi, _, h⟩ := pMis_i h
    have e3 := nx_le (T := T) e2.2
    obtain ⟨dd, _, _, _, h⟩ := pUse_i e2.2 h
    have key : ∀ N1 e c1, sEnd T n F N1 (gN F 7) mi dd e c1 = .inr (c', F', N') → sm F' = sm F + 1 := by
      intro N1 e c1 h
      unfold sEnd at h
      obtain ⟨-, h⟩ := pW_i h
      obtain ⟨_, _, _, h⟩ := pN_i h
      cases h
      exact sm_of 7 (by omega) (by omega) (by rw [updR_eq]) (by omega) (fun k h1 h2 h3 => by rw [updR_ne h3, updR_ne (by omega), updR_ne (by omega), updR_ne (by omega), updR_ne (by omega)])
    split at h
    · obtain ⟨_, _, _, _, h⟩ := pUse_i e3.2 h
      split at h
      · cases h
      · exact key _ _ _ h
    · exact key _ _ _ h
  | 6, _, hr, h =>
    have hr : gN F 8 < 4 := hr (by omega) (by omega)
    have h : lMan T n F N c = .inr (c', F', N') := h
    unfold lMan at h
    obtain ⟨-, -, h⟩ := pNew_i h
    have e2 := nx_le (T := T) e1.2
    obtain ⟨_, _, h⟩ := pKnd_i h
    obtain ⟨_, _, _, _, h⟩ := pUse_i e2.2 h
    cases h
    exact sm_of 8 (by omega) (by omega) (by rw [updR_eq]) (by omega) (fun k h1 h2 h3 => by rw [updR_ne h3, updR_ne (by omega), updR_ne (by omega)])
  | 7, _, hr, h =>
    have h : lAsk T n F N c = .inr (c', F', N') := h
    unfold lAsk at h
    obtain ⟨_, _, _, _, h⟩ := pUse_i hc h
    obtain ⟨_, _, _, _, h⟩ := pUse_i e1.2 h
    split at h
    · cases h
    obtain ⟨-, h⟩ := pW_i h
    obtain ⟨_, _, _, h⟩ := pN_i h
    cases h
    exact sm_eq (fun k h1 h2 => by rw [updR_ne (by omega), updR_ne (by omega), updR_ne (by omega), updR_ne (by omega)])
  | 8, _, _, h =>
    have h : lEnd T n F N c = .inr (c', F', N') := h
    unfold lEnd at h
    obtain ⟨p, _, _, _, h⟩ := pUse_i hc h
    obtain ⟨a1, a2, a3, a4, a5⟩ := pEs_r _ _ _ _ c' F' N' e1.2 h
    exact sm_eq (fun k h1 h2 => a4 k (by omega))
theorem kwn {a b : Nat} (ha : a < 28) (hb : b < 28) (h : a ≠ b) : kw a ≠ kw b := fun e => h (kw_inj a ha b hb e)
theorem gat_g {s cnt : Nat} {l : PR} (h0 : s ≠ 0) (h8 : s ≠ 8) : gat T n F c s (rmN s) cnt l = (if gtc F s cnt = 0 then l else .inl (gtc F s cnt, tA T n c)) := by
  have e : gtc F s cnt = (if rmN s ≤ cnt then 5 else if s ≠ 0 ∧ F 0 = 0 then 6 else if s = 1 ∧ F 181 ≠ 0 then 6 else 0) := if_neg (fun w => w.2.elim h0 h8)
  rw [e]
  unfold gat
  by_cases z : cnt < rmN s
  · rw [if_pos z, if_neg (show ¬ rmN s ≤ cnt by omega)]
    by_cases z0 : F 0 = 0
    · rw [if_pos z0, if_pos (show s ≠ 0 ∧ F 0 = 0 from ⟨h0, z0⟩), if_neg (by omega)]
    · rw [if_neg z0, if_neg (show ¬ (s ≠ 0 ∧ F 0 = 0) from fun w => z0 w.2)]
      by_cases z1 : s = 1 ∧ F 181 ≠ 0
      · rw [if_pos z1, if_pos z1, if_neg (by omega)]
      · rw [if_neg z1, if_neg z1, if_pos rfl]
  · rw [if_neg z, if_pos (show rmN s ≤ cnt by omega), if_neg (by omega)]
theorem lin_eq {s : Nat} (hs : s < 9) (h : cd T n c = kw s) : lin T n F N c = (if gtc F s (cnF F s) = 0 then LN T n s F N (nx T n c) else .inl (gtc F s (cnF F s), tA T n c)) := by
  unfold lin
  rw [h]
  match s, hs, h with
  | 0, _, _ =>
    rw [if_pos rfl]
    show _ = (if gtc F 0 (if F 0 = 0 then 0 else 1) = 0 then lMus T n F N (nx T n c) else .inl (gtc F 0 (if F 0 = 0 then 0 else 1), tA T n c))
    by_cases z : F 0 = 0
    · rw [if_pos z, if_pos z]
      have : gtc F 0 0 = 0 := by unfold gtc; rw [if_neg (by omega), if_neg (by decide), if_neg (by omega), if_neg (by omega)]
      rw [if_pos this]
    · rw [if_neg z, if_neg z]
      have : gtc F 0 1 = 3 := by unfold gtc; rw [if_pos (by omega)]
      rw [this, if_neg (by omega)]
  | 1, _, _ => rw [if_neg (kwn (by omega) (by omega) (by omega)), if_pos rfl]; exact gat_g (by omega) (by omega)
  | 2, _, _ => rw [if_neg (kwn (by omega) (by omega) (by omega)), if_neg (kwn (by omega) (by omega) (by omega)), if_pos rfl]; exact gat_g (by omega) (by omega)
  | 3, _, _ => rw [if_neg (kwn (by omega) (by omega) (by omega)), if_neg (kwn (by omega) (by omega) (by omega)), if_neg (kwn (by omega) (by omega) (by omega)), if_pos rfl]; exact gat_g (by omega) (by omega)
  | 4, _, _ => rw [if_neg (kwn (by omega) (by omega) (by omega)), if_neg (kwn (by omega) (by omega) (by omega)), if_neg (kwn (by omega) (by omega) (by omega)), if_neg (kwn (by omega) (by omega) (by omega)), if_pos rfl]; exact gat_g (by omega) (by omega)
  | 5, _, _ => rw [if_neg (kwn (by omega) (by omega) (by omega)), if_neg (kwn (by omega) (by omega) (by omega)), if_neg (kwn (by omega) (by omega) (by omega)), if_neg (kwn (by omega) (by omega) (by omega)), if_neg (kwn (by omega) (by omega) (by omega)), if_pos rfl]; exact gat_g (by omega) (by omega)
  | 6, _, _ => rw [if_neg (kwn (by omega) (by omega) (by omega)), if_neg (kwn (by omega) (by omega) (by omega)), if_neg (kwn (by omega) (by omega) (by omega)), if_neg (kwn (by omega) (by omega) (by omega)), if_neg (kwn (by omega) (by omega) (by omega)), if_neg (kwn (by omega) (by omega) (by omega)), if_pos rfl]; exact gat_g (by omega) (by omega)
  | 7, _, _ => rw [if_neg (kwn (by omega) (by omega) (by omega)), if_neg (kwn (by omega) (by omega) (by omega)), if_neg (kwn (by omega) (by omega) (by omega)), if_neg (kwn (by omega) (by omega) (by omega)), if_neg (kwn (by omega) (by omega) (by omega)), if_neg (kwn (by omega) (by omega) (by omega)), if_neg (kwn (by omega) (by omega) (by omega)), if_pos rfl]; exact gat_g (by omega) (by omega)
  | 8, _, _ =>
    rw [if_neg (kwn (by omega) (by omega) (by omega)), if_neg (kwn (by omega) (by omega) (by omega)), if_neg (kwn (by omega) (by omega) (by omega)), if_neg (kwn (by omega) (by omega) (by omega)), if_neg (kwn (by omega) (by omega) (by omega)), if_neg (kwn (by omega) (by omega) (by omega)), if_neg (kwn (by omega) (by omega) (by omega)), if_neg (kwn (by omega) (by omega) (by omega)), if_pos rfl]
    show _ = (if gtc F 8 (if F 181 = 0 then 0 else 1) = 0 then lEnd T n F N (nx T n c) else .inl (gtc F 8 (if F 181 = 0 then 0 else 1), tA T n c))
    by_cases z : F 181 = 0
    · rw [if_pos z, if_pos z]
      by_cases z0 : F 0 = 0
      · have : gtc F 8 0 = 6 := by unfold gtc; rw [if_neg (by omega), if_neg (by decide), if_pos ⟨by omega, z0⟩]
        rw [if_pos z0, this, if_neg (by omega)]
      · have : gtc F 8 0 = 0 := by unfold gtc; rw [if_neg (by omega), if_neg (by decide), if_neg (fun w => z0 w.2), if_neg (by omega)]
        rw [if_neg z0, this, if_pos rfl]
    · rw [if_neg z, if_neg z]
      have : gtc F 8 1 = 3 := by unfold gtc; rw [if_pos (by omega)]
      rw [this, if_neg (by omega)]
theorem lin_no (h : ∀ s, s < 9 → cd T n c ≠ kw s) : lin T n F N c = .inl (1, tA T n c) := by
  unfold lin
  rw [if_neg (h 0 (by omega)), if_neg (h 1 (by omega)), if_neg (h 2 (by omega)), if_neg (h 3 (by omega)), if_neg (h 4 (by omega)), if_neg (h 5 (by omega)), if_neg (h 6 (by omega)), if_neg (h 7 (by omega)), if_neg (h 8 (by omega))]
theorem gtc_0 {s cnt : Nat} (h : gtc F s cnt = 0) : ¬ (0 < cnt ∧ (s = 0 ∨ s = 8)) ∧ cnt < rmN s ∧ ¬ (s ≠ 0 ∧ F 0 = 0) ∧ ¬ (s = 1 ∧ F 181 ≠ 0) := by
  unfold gtc at h
  split at h
  · cases h
  split at h
  · cases h
  split at h
  · cases h
  split at h
  · cases h
  · exact ⟨‹_›, by omega, ‹_›, ‹_›⟩
end RDL
theorem FCt.m {ν : Nat} {σ : M2} {R : PR} {Q : Option dm_V → M2 → Prop} (h : FCt ν σ R Q) : FCt ν σ R (fun r σ' => ∃ v : Int32, r = some (vi v) ∧ Q (some (vi (v &&& 1))) σ') := fun f p σ' a b c d e => ⟨0, rfl, h f p σ' a b c d e⟩
theorem SCt.m {ν : Nat} {T : Nat → Nat} {n m s : Nat} {σ : M2} {R : PR} {Q : Option dm_V → M2 → Prop} (h : SCt ν T n m s σ R Q) : SCt ν T n m s σ R (fun r σ' => ∃ v : Int32, r = some (vi v) ∧ Q (some (vi (v &&& 1))) σ') := fun c' F' N' σ' a b c d => ⟨1, rfl, h c' F' N' σ' a b c d⟩
section RDC
variable {L : Nat} {xs : Nat → Int32} {d : Nat} {Q : Option dm_V → M2 → Prop} {σ σ0 : M2} {T : Nat → Nat} {n c ν m : Nat} {N : Nat → Nat} {F : Nat → Int32}
theorem c34 (hd : 10 ≤ d) {s : Nat} (hs : s < 9) (hν : ν < 2) (hg : gtc F s (cnF F s) = 0) (h : CT σ ν T n c N (sm F)) (hP : PV F N) (hM : rM σ.1 ν F) (qf : FCt ν σ (LN T n s F N c) Q) (qt : SCt ν T n (sm F + nwS s) s σ (LN T n s F N c) Q) : CL L xs d 34 [vr 7 0, vi (nI s)] σ Q := by
  refine cl_at p34 (by omega) (w34_0 hC ?_)
  have g := gtc_0 hg
  have b4 := hP.1.cT
  have b5 := hP.1.cD
  have b6 := hP.1.cP
  have b7 := hP.1.cS
  have b8 := hP.1.cM
  have hB := hM.1
  match s, hs, g, qf, qt with
  | 0, _, g, qf, qt =>
    refine if_y rfl (c40 (by omega) h hP.1 hM ?_ qf.m qt.m)
    exact Classical.byContradiction (fun w => g.1 ⟨by show 0 < (if F 0 = 0 then 0 else 1); rw [if_neg w]; omega, Or.inl rfl⟩)
  | 1, _, g, qf, qt =>
    have hr : gN F 4 < 5 := g.2.1
    refine if_n (by decide) (if_y rfl ?_)
    rw [h.1, hB.2.1]
    exact c41 (by omega) b4.2 hr hν (by unfold sm; omega) h hP hM (Classical.byContradiction (fun w => g.2.2.2 ⟨rfl, w⟩)) qf.m qt.m
  | 2, _, g, qf, qt =>
    have hr : gN F 10 < 6 := g.2.1
    refine if_n (by decide) (if_n (by decide) (if_y rfl ?_))
    rw [h.1, hB.2.2.1]
    exact c43 (by omega) hP.1.cH.2 hr hν h hP hM qf.m qt.m
  | 3, _, g, qf, qt =>
    have hr : gN F 5 < 8 := g.2.1
    refine if_n (by decide) (if_n (by decide) (if_n (by decide) (if_y rfl ?_)))
    rw [h.1, hB.2.2.2.1, b5.2]
    refine ix_k hr (by omega) ?_
    rw [nI_clamp (by omega)]
    exact c44 (by omega) rfl hr hν (by unfold sm; omega) h hP hM qf.m qt.m
  | 4, _, g, qf, qt =>
    have hr : gN F 6 < 4 := g.2.1
    refine if_n (by decide) (if_n (by decide) (if_n (by decide) (if_n (by decide) (if_y rfl ?_))))
    rw [h.1, hB.2.2.2.2.1, b6.2]
    refine ix_k hr (by omega) ?_
    rw [nI_clamp (by omega)]
    exact c46 (by omega) rfl hr hν (by unfold sm; omega) h hP hM qf.m qt.m
  | 5, _, g, qf, qt =>
    have hr : gN F 7 < 7 := g.2.1
    refine if_n (by decide) (if_n (by decide) (if_n (by decide) (if_n (by decide) (if_n (by decide) (if_y rfl ?_)))))
    rw [h.1, hB.2.2.2.2.2.1, b7.2]
    refine ix_k hr (by omega) ?_
    rw [nI_clamp (by omega)]
    exact c47 (by omega) rfl hr hν (by unfold sm; omega) h hP hM qf.m qt.m
  | 6, _, g, qf, qt =>
    have hr : gN F 8 < 4 := g.2.1
    refine if_n (by decide) (if_n (by decide) (if_n (by decide) (if_n (by decide) (if_n (by decide) (if_n (by decide) (if_y rfl ?_))))))
    rw [h.1, hB.2.2.2.2.2.2.1]
    exact c49 (by omega) b8.2 hr hν (by unfold sm; omega) h hP hM qf.m qt.m
  | 7, _, g, qf, qt =>
    have hr : gN F 9 < 7 := g.2.1
    refine if_n (by decide) (if_n (by decide) (if_n (by decide) (if_n (by decide) (if_n (by decide) (if_n (by decide) (if_n (by decide) (if_y rfl ?_)))))))
    rw [h.1, hB.2.2.2.2.2.2.2.1]
    exact c50 (by omega) hP.1.cA.2 hr hν h hP hM qf.m qt.m
  | 8, _, g, qf, qt =>
    refine if_n (by decide) (if_n (by decide) (if_n (by decide) (if_n (by decide) (if_n (by decide) (if_n (by decide) (if_n (by decide) (if_n (by decide) ?_)))))))
    exact c51 (by omega) h hP hM (Classical.byContradiction (fun w => g.1 ⟨by show 0 < (if F 181 = 0 then 0 else 1); rw [if_neg w]; omega, Or.inr rfl⟩)) qf.m qt.m
theorem cnF_cell (hP : okR F) (hB : rB σ.1 ν F) {s : Nat} (hs : s < 9) : σ.1 36 ν s = nI (cnF F s) ∧ cnF F s < 100 := by
  match s, hs with
  | 0, _ => refine ⟨hB.1.trans ?_, ?_⟩
            · show _ = nI (if F 0 = 0 then 0 else 1); split <;> rfl
            · show (if F 0 = 0 then 0 else 1) < 100; split <;> omega
  | 1, _ => exact ⟨hB.2.1.trans hP.cT.2, by show gN F 4 < 100; have := hP.cT.1; omega⟩
  | 2, _ => exact ⟨hB.2.2.1.trans hP.cH.2, by show gN F 10 < 100; have := hP.cH.1; omega⟩
  | 3, _ => exact ⟨hB.2.2.2.1.trans hP.cD.2, by show gN F 5 < 100; have := hP.cD.1; omega⟩
  | 4, _ => exact ⟨hB.2.2.2.2.1.trans hP.cP.2, by show gN F 6 < 100; have := hP.cP.1; omega⟩
  | 5, _ => exact ⟨hB.2.2.2.2.2.1.trans hP.cS.2, by show gN F 7 < 100; have := hP.cS.1; omega⟩
  | 6, _ => exact ⟨hB.2.2.2.2.2.2.1.trans hP.cM.2, by show gN F 8 < 100; have := hP.cM.1; omega⟩
  | 7, _ => exact ⟨hB.2.2.2.2.2.2.2.1.trans hP.cA.2, by show gN F 9 < 100; have := hP.cA.1; omega⟩
  | 8, _ => refine ⟨hB.2.2.2.2.2.2.2.2.trans ?_, ?_⟩
            · show _ = nI (if F 181 = 0 then 0 else 1); split <;> rfl
            · show (if F 181 = 0 then 0 else 1) < 100; split <;> omega
theorem f36_R {k : Nat} : fRd ν 36 ν k = true := fMu_R (by unfold fMu; simp)
/-- all lines -/
theorem c29l (hd : 11 ≤ d) (hν : ν < 2) : ∀ fuel c F N ln σ1, n + 1 ≤ fuel + c → ln ≤ c → CT σ1 ν T n c N (sm F) → PV F N → rM σ1.1 ν F → fq (fRd ν) σ σ1 →
    (∀ f p σ', rdP T n fuel F N c = .inl (f, p) → f ≠ 0 → fq (fRd ν) σ σ' → σ'.1 7 0 8 = nI f → σ'.1 7 0 9 = nI p → Q none σ') →
    (∀ c' F' N' σ', rdP T n fuel F N c = .inr (c', F', N') → fq (fRd ν) σ σ' → σ'.1 7 0 8 = 0 → rM σ'.1 ν F' → PV F' N' → F' 0 ≠ 0 → Q none σ') → g29_53 L xs (CL L xs d) Q (nI n) (nI ln) σ1 := by
  intro fuel
  induction fuel with
  | zero => intro c F N ln σ1 h1 h2 ct; have := ct.2.2.1; omega
  | succ fuel ih =>
    intro c F N ln σ1 h1 h2 ct hP hM G qf qt
    have hn := ct.2.1.2.1
    have hc := ct.2.2.1
    refine w29_53 hC ?_
    refine if_n (nI_nlt (by omega) (by omega)) ?_
    have E0 : rdP T n (fuel + 1) F N c = (match lin T n F N c with
      | .inl e => .inl e
      | .inr (c', F', N') => if kd T n c' = 0 then (if F' 0 = 0 ∨ F' 4 = 0 ∨ F' 6 = 0 then .inl (6, tA T n c') else .inr (c', F', N')) else if kd T n c' = 3 then rdP T n fuel F' N' (nx T n c') else .inl (1, tA T n c')) := rfl
    have bad : ∀ v : Int32, (v < 0 ∨ 8 < v) → (∀ s, s < 9 → cd T n c ≠ kw s) → CL L xs d 32 [vr 7 0, vi v] σ1 (fun r σ3 => ∃ v4 : Int32, r = some (vi v4) ∧ (if v4 = 0 then Q none σ3 else False)) := by
      intro v hv hno
      have go : CL L xs (d - 1) 30 [vr 7 0, vi 1] σ1 (fun r σ3 => ∃ v4 : Int32, r = some (vi v4) ∧ (∃ v5 : Int32, some (vi (v4 &&& 1)) = some (vi v5) ∧ (if v5 = 0 then Q none σ3 else False))) := by
        refine ct.fail (f := 1) (by omega) rfl (fun σ' f' e1 e2 => ⟨_, rfl, _, rfl, if_y (by decide) ?_⟩)
        exact qf 1 _ σ' (by rw [E0, lin_no hno]) (by omega) (G.trans (f'.weak fMl_R)) e1 e2
      refine cl_at p32 (by omega) (w32_0 hC ?_)
      refine if_c (fun _ => go) (fun z => if_y (hv.resolve_left z) go)
    have bad' : ∀ v : Int32, (v < 0 ∨ 8 < v) → (∀ s, s < 9 → cd T n c ≠ kw s) → ∀ K : Int32 → M2 → Prop, CL L xs d 32 [vr 7 0, vi v] σ1 (fun r σ3 => ∃ v4 : Int32, r = some (vi v4) ∧ (if v4 = 0 then Q none σ3 else K v4 σ3)) := by
      intro v hv hno K
      refine hC _ _ _ _ _ ?_ (bad v hv hno)
      rintro r σ3 ⟨v4, e, w⟩
      refine ⟨v4, e, ?_⟩
      by_cases z : v4 = 0
      · rw [if_pos z] at w ⊢; exact w
      · rw [if_neg z] at w; exact w.elim
    refine c37 (by omega) ct (fun z => ⟨_, rfl, ?_⟩) (fun o ho e => ⟨_, rfl, ?_⟩) (fun z rv s hl j hj e49 e50 => ⟨_, rfl, ?_⟩) (fun z rv hl => ⟨_, rfl, ?_⟩)
    · exact bad' (-1) (Or.inl (by decide)) (fun s hs => cd_n1 (by omega) z) _
    · by_cases h9 : o < 9
      · obtain ⟨cc, cl⟩ := cnF_cell hP.1 hM.1 h9
        have El := lin_eq (T := T) (n := n) (c := c) (F := F) (N := N) h9 e
        refine c32 (F := F) (by omega) h9 cl cc hM.1.1 hM.1.2.2.2.2.2.2.2.2 ct (fun hgn σ2 f2 e8 e9 => ⟨_, rfl, if_y rfl ?_⟩) (fun hg0 => ⟨_, rfl, if_n (by decide) ?_⟩)
        · rw [if_neg hgn] at El
          exact qf _ _ σ2 (by rw [E0, El]) hgn (G.trans (f2.weak fMl_R)) e8 e9
        rw [if_pos hg0] at El
        have e1 := nx_le (T := T) hc
        refine ct.nx (by omega) (fun σ2 f2 _ _ t2 => ⟨rfl, ?_⟩)
        have M2' : rM σ2.1 ν F := by
          have : ∀ t i k, kMu t = true → σ2.1 t i k = σ1.1 t i k := fun t i k hk => f2.1 t i k (kMu_l hk)
          obtain ⟨hB, hC', hT, hH, hE, hPp, hS, hNn, hK, hZ⟩ := hM
          refine ⟨?_, rC.cg (fun k _ => this 5 ν k rfl) (fun k _ _ => rfl) hC', rT.cg hP.1.1 (fun k => this 37 ν k rfl) (fun k _ _ => rfl) rfl hT, rH.cg hP.1.1 (fun x k _ => this 6 _ k rfl) (fun k => this 39 ν k rfl) (fun k _ _ => rfl) rfl hH, rE.cg hP.1.1 (fun x k _ => ⟨this 0 _ k rfl, this 20 _ k rfl, this 21 _ k rfl, this 6 _ k rfl⟩) (fun k _ _ => rfl) rfl hE, rP.cg hP.1.1 hP.1.2.2.2.2.2.1 (fun x k _ => ⟨this 10 _ k rfl, this 52 _ k rfl, this 53 _ k rfl⟩) (fun k _ _ => rfl) rfl hPp, rS.cg hP.1.1 (fun x k _ => this 9 _ k rfl) (fun k _ _ => rfl) rfl hS, rN.cg hP.1.1 (fun k => ⟨this 43 ν k rfl, this 44 ν k rfl⟩) (fun k _ _ => rfl) rfl hNn, rK.cg hP.1.1 (fun k => ⟨this 45 ν k rfl, this 46 ν k rfl, this 47 ν k rfl⟩) (fun k _ _ => rfl) rfl hK, rZ.cg hP.1.1 ⟨this 5 ν 16 rfl, this 5 ν 17 rfl⟩ (fun k _ _ => rfl) rfl hZ⟩
          unfold rB
          rw [this 36 ν 0 rfl, this 36 ν 1 rfl, this 36 ν 2 rfl, this 36 ν 3 rfl, this 36 ν 4 rfl, this 36 ν 5 rfl, this 36 ν 6 rfl, this 36 ν 7 rfl, this 36 ν 8 rfl]
          exact hB
        have G2 := G.trans (f2.weak fMl_R)
        refine c34 (by omega) h9 hν hg0 t2 hP M2' (fun f p σ3 E hf f3 e8 e9 => ⟨_, rfl, if_y rfl ?_⟩) (fun c3 F3 N3 σ3 E f3 ct3 M3 => ⟨_, rfl, if_n (by decide) ?_⟩)
        · exact qf f p σ3 (by rw [E0, El, E]) hf (G2.trans f3) e8 e9
        have El' := El.trans E
        obtain ⟨P3, l1, l2, h03⟩ := lin_pv hP hc El'
        have gg := gtc_0 hg0
        have sm3 := LN_sm h9 hP e1.2 (fun _ _ => gg.2.1) E
        rw [← sm3] at ct3
        rw [nI_clamp (by omega), ct3.1]
        refine ix_k h9 (by omega) (ix_k h9 (by omega) ?_)
        show (if (m2_wI σ3 36 ν o (σ3.1 36 ν o + 1)).1 11 0 2 = 0 then _ else _)
        have ct3' : CT (m2_wI σ3 36 ν o (σ3.1 36 ν o + 1)) ν T n c3 N3 (sm F3) := ct3.w (by decide) (by decide) (by decide) (by decide) (by decide)
        have G3 : fq (fRd ν) σ (m2_wI σ3 36 ν o (σ3.1 36 ν o + 1)) := (G2.trans f3).w f36_R
        generalize m2_wI σ3 36 ν o (σ3.1 36 ν o + 1) = σ4 at *
        have hT := ct3'.2.2.2.1
        have k5 := kd_5 (T := T) (n := n) (c := c3)
        have E1 : rdP T n (fuel + 1) F N c = (if kd T n c3 = 0 then (if F3 0 = 0 ∨ F3 4 = 0 ∨ F3 6 = 0 then .inl (6, tA T n c3) else .inr (c3, F3, N3)) else if kd T n c3 = 3 then rdP T n fuel F3 N3 (nx T n c3) else .inl (1, tA T n c3)) := by rw [E0, El']
        rw [hT.1]
        refine if_c (fun z => ?_) (fun z => ?_)
        · have z := (nI_eq (b := 0) (by omega) (by omega)).mp z
          have E2 := E1.trans (if_pos z)
          have fail6 : (F3 0 = 0 ∨ F3 4 = 0 ∨ F3 6 = 0) → CL L xs (d - 1) 30 [vr 7 0, vi 6] σ4 (fun r σ1 => ∃ v2 : Int32, r = some (vi v2) ∧ (if v2 = 0 then (∃ v3 : Int32, some (vi 0) = some (vi v3) ∧ Q none σ1) else (∃ v3 : Int32, some (vi 1) = some (vi v3) ∧ Q none σ1))) := by
            intro w
            refine ct3'.fail (f := 6) (by omega) rfl (fun σ5 f5 e8 e9 => ⟨_, rfl, if_y rfl ⟨_, rfl, ?_⟩⟩)
            exact qf 6 _ σ5 (E2.trans (if_pos w)) (by omega) (G3.trans (f5.weak fMl_R)) e8 e9
          refine cl_at p33 (by omega) (w33_0 hC ?_)
          rw [ct3'.1, M3.1.2.1, M3.1.2.2.2.2.1]
          have b4 := P3.1.cT
          have b6 := P3.1.cP
          by_cases z4 : F3 4 = 0
          · refine if_n (by rw [z4]; decide) (fail6 (Or.inr (Or.inl z4)))
          have z4' : gN F3 4 ≠ 0 := fun w => z4 (by rw [b4.2, w]; rfl)
          refine if_y (by rw [b4.2]; exact nI_lt (a := 0) (by omega) (by omega)) ?_
          by_cases z6 : F3 6 = 0
          · refine if_n (by rw [z6]; decide) (fail6 (Or.inr (Or.inr z6)))
          have z6' : gN F3 6 ≠ 0 := fun w => z6 (by rw [b6.2, w]; rfl)
          refine if_y (by rw [b6.2]; exact nI_lt (a := 0) (by omega) (by omega)) ?_
          refine ⟨_, rfl, ?_⟩
          exact qt _ _ _ σ4 (E2.trans (if_neg (fun w => w.elim h03 (fun w => w.elim z4 z6)))) G3 ct3'.2.2.2.2.1.1.2 M3 P3 h03
        have z : kd T n c3 ≠ 0 := fun w => z (by rw [w]; rfl)
        refine if_c (fun z3 => ?_) (fun z3 => ?_)
        · have z3 := (nI_eq (b := 3) (by omega) (by omega)).mp z3
          have E2 := (E1.trans (if_neg z)).trans (if_pos z3)
          refine ct3'.nx (by omega) (fun σ5 f5 _ _ t5 => ⟨rfl, ?_⟩)
          have M5 : rM σ5.1 ν F3 := by
            have : ∀ t i k, kMu t = true → σ5.1 t i k = σ4.1 t i k := fun t i k hk => f5.1 t i k (kMu_l hk)
            obtain ⟨hB, hC', hT, hH, hE, hPp, hS, hNn, hK, hZ⟩ := M3
            refine ⟨?_, rC.cg (fun k _ => this 5 ν k rfl) (fun k _ _ => rfl) hC', rT.cg P3.1.1 (fun k => this 37 ν k rfl) (fun k _ _ => rfl) rfl hT, rH.cg P3.1.1 (fun x k _ => this 6 _ k rfl) (fun k => this 39 ν k rfl) (fun k _ _ => rfl) rfl hH, rE.cg P3.1.1 (fun x k _ => ⟨this 0 _ k rfl, this 20 _ k rfl, this 21 _ k rfl, this 6 _ k rfl⟩) (fun k _ _ => rfl) rfl hE, rP.cg P3.1.1 P3.1.2.2.2.2.2.1 (fun x k _ => ⟨this 10 _ k rfl, this 52 _ k rfl, this 53 _ k rfl⟩) (fun k _ _ => rfl) rfl hPp, rS.cg P3.1.1 (fun x k _ => this 9 _ k rfl) (fun k _ _ => rfl) rfl hS, rN.cg P3.1.1 (fun k => ⟨this 43 ν k rfl, this 44 ν k rfl⟩) (fun k _ _ => rfl) rfl hNn, rK.cg P3.1.1 (fun k => ⟨this 45 ν k rfl, this 46 ν k rfl, this 47 ν k rfl⟩) (fun k _ _ => rfl) rfl hK, rZ.cg P3.1.1 ⟨this 5 ν 16 rfl, this 5 ν 17 rfl⟩ (fun k _ _ => rfl) rfl hZ⟩
            unfold rB
            rw [this 36 ν 0 rfl, this 36 ν 1 rfl, this 36 ν 2 rfl, this 36 ν 3 rfl, this 36 ν 4 rfl, this 36 ν 5 rfl, this 36 ν 6 rfl, this 36 ν 7 rfl, this 36 ν 8 rfl]
            exact hB
          rw [nI_1]
          have nb := (nx_b (T := T) l2).2.2 z
          refine ih (nx T n c3) F3 N3 (ln + 1) σ5 (by omega) (by omega) t5 P3 M5 (G3.trans (f5.weak fMl_R)) (fun f p σ' E => qf f p σ' (E2.trans E)) (fun c' F' N' σ' E => qt c' F' N' σ' (E2.trans E))
        · have z3 : kd T n c3 ≠ 3 := fun w => z3 (by rw [w]; rfl)
          refine ct3'.fail (f := 1) (by omega) rfl (fun σ5 f5 e8 e9 => ⟨_, rfl, ?_⟩)
          exact qf 1 _ σ5 ((E1.trans (if_neg z)).trans (if_neg z3)) (by omega) (G3.trans (f5.weak fMl_R)) e8 e9
      · obtain rfl : o = 9 := by omega
        exact bad' (nI 9) (Or.inr (by decide)) (fun s hs w => kwn (a := 9) (b := s) (by omega) (by omega) (by omega) (e.symm.trans w)) _
    · refine bad' (nI (10 + j)) (Or.inr (nI_lt (a := 8) (by omega) (by omega))) (fun s hs w => ?_) _
      have := resv_t.mpr ⟨s, by omega, w⟩
      rw [rv] at this; cases this
    · refine bad' (-1) (Or.inl (by decide)) (fun s hs w => ?_) _
      have := resv_t.mpr ⟨s, by omega, w⟩
      rw [rv] at this; cases this
end RDC
