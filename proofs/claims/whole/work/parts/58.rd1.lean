/-! THE READER of the class: names; what the museum that is read holds -/
theorem pW_t {T : Nat → Nat} {n o c : Nat} (h : cd T n c = kw o) (K : Nat → PR) : pW T n o c K = K (nx T n c) := if_pos h
theorem pW_f {T : Nat → Nat} {n o c : Nat} (h : cd T n c ≠ kw o) (K : Nat → PR) : pW T n o c K = .inl (1, tA T n c) := if_neg h
theorem pN_t {T : Nat → Nat} {n lo hi c : Nat} (h : kd T n c = 2) (h' : lo ≤ tV T n c ∧ tV T n c ≤ hi) (K : Nat → Nat → PR) : pN T n lo hi c K = K (tV T n c) (nx T n c) := by
  unfold pN; rw [if_pos h, if_pos h']
theorem pN_f {T : Nat → Nat} {n lo hi c f : Nat} (h : (if kd T n c = 2 then (if lo ≤ tV T n c ∧ tV T n c ≤ hi then 0 else 4) else 1) = f) (hf : f ≠ 0) (K : Nat → Nat → PR) : pN T n lo hi c K = .inl (f, tA T n c) := by
  unfold pN
  by_cases z : kd T n c = 2
  · rw [if_pos z] at h ⊢
    by_cases z' : lo ≤ tV T n c ∧ tV T n c ≤ hi
    · rw [if_pos z'] at h; exact absurd h.symm hf
    · rw [if_neg z'] at h ⊢; rw [h]
  · rw [if_neg z] at h ⊢; rw [h]
theorem isNm_t {T : Nat → Nat} {n c : Nat} (h : kd T n c = 1) (h' : resv (cd T n c) = false) : isNm T n c = true := by unfold isNm; rw [decide_eq_true h, h']; rfl
theorem isNm_k {T : Nat → Nat} {n c : Nat} (h : kd T n c ≠ 1) : ¬ isNm T n c = true := by unfold isNm; rw [decide_eq_false h, Bool.false_and]; decide
theorem isNm_r {T : Nat → Nat} {n c : Nat} (h : resv (cd T n c) = true) : ¬ isNm T n c = true := by unfold isNm; rw [h, Bool.and_comm, Bool.not_true, Bool.false_and]; decide
theorem CT.w {σ : M2} {ν : Nat} {T : Nat → Nat} {n c : Nat} {N : Nat → Nat} {m : Nat} (h : CT σ ν T n c N m) {t i k : Nat} {v : Int32} (h7 : 7 ≠ t) (h11 : 11 ≠ t) (h54 : 54 ≠ t) (h49 : 49 ≠ t) (h50 : 50 ≠ t) : CT (m2_wI σ t i k v) ν T n c N m := by
  obtain ⟨a1, a2, a3, a4, a5, a6⟩ := h
  refine ⟨a1, ⟨a2.1, a2.2.1, by rw [wI_t h11]; exact a2.2.2.1, fun i hi => ⟨(a2.2.2.2 i hi).1, by rw [wI_t h54]; exact (a2.2.2.2 i hi).2⟩⟩, a3, ⟨by rw [wI_t h11]; exact a4.1, by rw [wI_t h11]; exact a4.2.1, by rw [wI_t h11]; exact a4.2.2.1, fun w => by rw [wI_t h11]; exact a4.2.2.2.1 w, a4.2.2.2.2⟩, ?_, a6⟩
  obtain ⟨b1, b2, b3, e, b4, b5⟩ := a5
  exact ⟨⟨b1.1, by rw [wI_t h7]; exact b1.2⟩, by rw [wI_t h7]; exact b2, b3, e, fun j hj => ⟨(b4 j hj).1, (b4 j hj).2.1, (b4 j hj).2.2.1, by rw [wI_t h49]; exact (b4 j hj).2.2.2.1, by rw [wI_t h50]; exact (b4 j hj).2.2.2.2⟩, b5⟩
section RD1
variable {L : Nat} {xs : Nat → Int32} {d : Nat} {Q : Option dm_V → M2 → Prop} {σ σ0 : M2} {T : Nat → Nat} {n c ν m : Nat} {N : Nat → Nat}
/-- a failure at the token -/
theorem CT.fail (hd : 5 ≤ d) {w : Int32} {f : Nat} (h : CT σ ν T n c N m) (hw : w = nI f) (q : ∀ σ', fq fMl σ σ' → σ'.1 7 0 8 = nI f → σ'.1 7 0 9 = nI (tA T n c) → Q (some (vi 0)) σ') : CL L xs d 30 [vr 7 0, vi w] σ Q :=
  c30 hd (fun σ' f' e1 e2 => q σ' f' (e1.trans hw) (e2.trans h.2.2.2.1.2.1))
theorem c31 (hd : 4 ≤ d) {w p : Int32} (q : ∀ σ', fq fMl σ σ' → σ'.1 7 0 8 = w → σ'.1 7 0 9 = p → Q (some (vi 0)) σ') : CL L xs d 31 [vr 7 0, vi w, vi p] σ Q :=
  cl_at p31 hd (w31_0 hC (q _ ((fq.id.w rfl).w rfl) (by rw [wI_k (by decide), wI_same]) wI_same))
theorem c39 (hd : 6 ≤ d) {sort lo hi : Nat} {x1 : Int32} (h1 : x1 = nI sort) (hso : sort < 10) (hs : ∀ s, s < 28 → (srt s = sort ↔ lo ≤ s ∧ s ≤ hi) ∧ (srt s = sort → num s = s - lo)) (h : CT σ ν T n c N m)
    (qf : ∀ f, f ≠ 0 → (∀ K, pUse T n N lo hi c K = .inl (f, tA T n c)) → ∀ σ', fq fMl σ σ' → σ'.1 7 0 8 = nI f → σ'.1 7 0 9 = nI (tA T n c) → Q (some (vi 0)) σ')
    (qt : ∀ v, lo + v ≤ hi → lo + v < 28 → N (lo + v) ≠ 0 → (∀ K, pUse T n N lo hi c K = K v (nx T n c)) → ∀ σ', fq fMl σ σ' → σ'.1 7 0 6 = nI v → σ'.1 7 0 7 = nI (tA T n c) → CT σ' ν T n (nx T n c) N m → Q (some (vi 1)) σ') : CL L xs d 39 [vr 7 0, vi x1] σ Q := by
  subst h1
  have hT := h.2.2.2.1
  have hc := h.2.2.1
  have k5 := kd_5 (T := T) (n := n) (c := c)
  have ha := tA_b (T := T) hc
  have hn := h.2.1.2.1
  have bad1 : (∀ K, pUse T n N lo hi c K = .inl (1, tA T n c)) → CL L xs (d - 1) 30 [vr 7 0, vi 1] σ (fun r σ1 => ∃ v2 : Int32, r = some (vi v2) ∧ Q (some (vi (v2 &&& 1))) σ1) := fun hK => h.fail (f := 1) (by omega) rfl (fun σ' f' e1 e2 => ⟨_, rfl, qf 1 (by omega) hK σ' f' e1 e2⟩)
  have bad2 : (∀ K, pUse T n N lo hi c K = .inl (2, tA T n c)) → CL L xs (d - 1) 30 [vr 7 0, vi 2] σ (fun r σ1 => ∃ v2 : Int32, r = some (vi v2) ∧ Q (some (vi (v2 &&& 1))) σ1) := fun hK => h.fail (f := 2) (by omega) rfl (fun σ' f' e1 e2 => ⟨_, rfl, qf 2 (by omega) hK σ' f' e1 e2⟩)
  refine cl_at p39 (by omega) (w39_0 hC ?_)
  refine c37 (by omega) h (fun z => ⟨_, rfl, ?_⟩) (fun o ho e => ⟨_, rfl, ?_⟩) (fun z rv s hl j hj e49 e50 => ⟨_, rfl, ?_⟩) (fun z rv hl => ⟨_, rfl, ?_⟩)
  · rw [hT.1]
    exact if_n (fun w => z ((nI_eq (b := 1) (by omega) (by omega)).mp w)) (bad1 (fun K => if_neg (isNm_k z)))
  · rw [hT.1]
    refine if_c (fun _ => ?_) (fun _ => bad1 (fun K => if_neg (isNm_r (resv_t.mpr ⟨o, ho, e⟩))))
    refine if_n (nI_pos (by omega)) (if_y (nI_lt (b := 10) ho (by omega)) (bad1 (fun K => if_neg (isNm_r (resv_t.mpr ⟨o, ho, e⟩)))))
  · rw [hT.1]
    refine if_y (by rw [z]; rfl) (if_n (nI_pos (by omega)) (if_n (nI_nlt (b := 10) (by omega) (by omega)) ?_))
    have ls := lkN_s hl
    have hK : ∀ K, pUse T n N lo hi c K = (if lo ≤ s ∧ s ≤ hi then K (s - lo) (nx T n c) else .inl (2, tA T n c)) := fun K => by
      unfold pUse; rw [if_pos (isNm_t z rv), hl]
    refine w39_32 hC ?_
    refine if_n (nI_pos (by omega)) (ix_k (by omega) (by omega) ?_)
    rw [nI_clamp (by omega), e49, e50]
    have sr : srt s < 10 := by unfold srt; repeat (split; omega); 
                               omega
    refine if_c (fun w => ?_) (fun w => ?_)
    · have w := (nI_eq (by omega) (by omega)).mp w
      have k := hs s ls.1
      have g := k.1.mp w
      refine ix_k (by omega) (by omega) ?_
      show CL L xs (d - 1) 71 [vr 11 0] (m2_wI (m2_wI σ 7 0 6 (nI (num s))) 7 0 7 ((m2_wI σ 7 0 6 (nI (num s))).1 11 0 3)) _
      rw [wI_t (by decide), hT.2.1, k.2 w]
      have f1 : fj fMl σ (m2_wI (m2_wI σ 7 0 6 (nI (s - lo))) 7 0 7 (nI (tA T n c))) := (fj.id.w rfl).w rfl
      have h' : CT (m2_wI (m2_wI σ 7 0 6 (nI (s - lo))) 7 0 7 (nI (tA T n c))) ν T n c N m := ⟨h.1, h.2.1.fj (A := fMl) rfl (fun _ => rfl) f1, hc, ⟨by rw [wI_t (by decide), wI_t (by decide)]; exact hT.1, by rw [wI_t (by decide), wI_t (by decide)]; exact hT.2.1, by rw [wI_t (by decide), wI_t (by decide)]; exact hT.2.2.1, fun w => by rw [wI_t (by decide), wI_t (by decide)]; exact hT.2.2.2.1 w, hT.2.2.2.2⟩, h.2.2.2.2.1.fj (A := fun t i k => t == 7 && (k == 6 || k == 7)) rfl rfl (fun _ => ⟨rfl, rfl⟩) ((fj.id.w rfl).w rfl), h.2.2.2.2.2⟩
      refine h'.nx (by omega) (fun σ' f' e6 e7 t' => ⟨rfl, ?_⟩)
      refine qt (s - lo) (by omega) (by omega) ?_ (fun K => by rw [hK, if_pos g]) σ' (f1.q.trans f') (e6.trans (by rw [wI_k (by decide), wI_same])) (e7.trans wI_same) t'
      rw [show lo + (s - lo) = s by omega, ls.2]
      exact cd_pos hc z
    · have w : ¬ srt s = sort := fun e => w (by rw [e])
      exact bad2 (fun K => by rw [hK, if_neg (fun g => w ((hs s ls.1).1.mpr g))])
  · rw [hT.1]
    refine if_y (by rw [z]; rfl) (if_y (by decide) ?_)
    refine w39_32 hC (if_y (by decide) (bad2 (fun K => ?_)))
    unfold pUse; rw [if_pos (isNm_t z rv), hl]
theorem c38 (hd : 6 ≤ d) {sort slot cnt : Nat} {x1 : Int32} (h1 : x1 = nI sort) (hso : sort < 9) (hs : slot < 28 ∧ srt slot = sort ∧ num slot = cnt) (hN : N slot = 0) (hm : m < 28) (hcnt : σ.1 36 ν sort = nI cnt) (h : CT σ ν T n c N m)
    (qf : ∀ f, f ≠ 0 → (∀ K, pNew T n N slot c K = .inl (f, tA T n c)) → ∀ σ', fq fMl σ σ' → σ'.1 7 0 8 = nI f → σ'.1 7 0 9 = nI (tA T n c) → Q (some (vi 0)) σ')
    (qt : (∀ K, pNew T n N slot c K = K (upN N slot (cd T n c)) (nx T n c)) → ∀ σ', fq fMl σ σ' → CT σ' ν T n (nx T n c) (upN N slot (cd T n c)) (m + 1) → Q (some (vi 1)) σ') : CL L xs d 38 [vr 7 0, vi x1] σ Q := by
  subst h1
  have hT := h.2.2.2.1
  have hc := h.2.2.1
  have k5 := kd_5 (T := T) (n := n) (c := c)
  have bad : ∀ f w, w = nI f → f ≠ 0 → (∀ K, pNew T n N slot c K = .inl (f, tA T n c)) → CL L xs (d - 1) 30 [vr 7 0, vi w] σ (fun r σ1 => ∃ v2 : Int32, r = some (vi v2) ∧ Q (some (vi (v2 &&& 1))) σ1) := fun f w ew hf hK => h.fail (f := f) (by omega) ew (fun σ' f' e1 e2 => ⟨_, rfl, qf f hf hK σ' f' e1 e2⟩)
  refine cl_at p38 (by omega) (w38_0 hC ?_)
  refine c37 (by omega) h (fun z => ⟨_, rfl, ?_⟩) (fun o ho e => ⟨_, rfl, ?_⟩) (fun z rv s hl j hj e49 e50 => ⟨_, rfl, ?_⟩) (fun z rv hl => ⟨_, rfl, ?_⟩)
  · rw [hT.1]
    exact if_n (fun w => z ((nI_eq (b := 1) (by omega) (by omega)).mp w)) (bad 1 1 rfl (by omega) (fun K => if_neg (isNm_k z)))
  · rw [hT.1]
    refine if_c (fun _ => ?_) (fun _ => bad 1 1 rfl (by omega) (fun K => if_neg (isNm_r (resv_t.mpr ⟨o, ho, e⟩))))
    refine if_n (nI_pos (by omega)) (if_y (nI_lt (b := 10) ho (by omega)) (bad 1 1 rfl (by omega) (fun K => if_neg (isNm_r (resv_t.mpr ⟨o, ho, e⟩)))))
  · rw [hT.1]
    refine if_y (by rw [z]; rfl) (if_n (nI_pos (by omega)) (if_n (nI_nlt (b := 10) (by omega) (by omega)) ?_))
    refine w38_32 hC (if_n (nI_pos (by omega)) (bad 3 3 rfl (by omega) (fun K => ?_)))
    unfold pNew; rw [if_pos (isNm_t z rv), hl]
  · rw [hT.1]
    refine if_y (by rw [z]; rfl) (if_y (by decide) ?_)
    refine w38_32 hC (if_y (by decide) ?_)
    obtain ⟨b1, b2, b3, e, b4, b5⟩ := h.2.2.2.2.1
    rw [b2, nI_clamp (by omega)]
    refine if_y (nI_lt (b := 38) (by omega) (by omega)) (ix_k (by omega) (by omega) ?_)
    show dm_ix ((m2_wJ σ 48 0 (10 + m) (σ.2.1 11 0 6)).1 7 0 4) 38 _
    have e7 : (m2_wJ σ 48 0 (10 + m) (σ.2.1 11 0 6)).1 7 0 4 = nI (10 + m) := b2
    rw [e7, nI_clamp (by omega)]
    refine ix_k (by omega) (by omega) (ix_k hso (by omega) ?_)
    show dm_ix ((m2_wI (m2_wJ σ 48 0 (10 + m) (σ.2.1 11 0 6)) 49 0 (10 + m) (nI sort)).1 7 0 4) 38 _
    have e7' : (m2_wI (m2_wJ σ 48 0 (10 + m) (σ.2.1 11 0 6)) 49 0 (10 + m) (nI sort)).1 7 0 4 = nI (10 + m) := by rw [wI_t (by decide)]; exact b2
    have e36 : (m2_wI (m2_wJ σ 48 0 (10 + m) (σ.2.1 11 0 6)) 49 0 (10 + m) (nI sort)).1 36 ((m2_wI (m2_wJ σ 48 0 (10 + m) (σ.2.1 11 0 6)) 49 0 (10 + m) (nI sort)).2.2 7 0 5) (nI sort).toNatClampNeg = nI cnt := by
      rw [wI_t (by decide), nI_clamp (by omega)]
      show σ.1 36 (σ.2.2 7 0 5) sort = nI cnt
      rw [h.1]; exact hcnt
    rw [e7', e36, nI_clamp (by omega)]
    refine ix_k (by omega) (by omega) ?_
    have e7'' : (m2_wI (m2_wI (m2_wJ σ 48 0 (10 + m) (σ.2.1 11 0 6)) 49 0 (10 + m) (nI sort)) 50 0 (10 + m) (nI cnt)).1 7 0 4 = nI (10 + m) := by rw [wI_t (by decide)]; exact e7'
    show CL L xs (d - 1) 71 [vr 11 0] (m2_wI (m2_wI (m2_wI (m2_wJ σ 48 0 (10 + m) (σ.2.1 11 0 6)) 49 0 (10 + m) (nI sort)) 50 0 (10 + m) (nI cnt)) 7 0 4 ((m2_wI (m2_wI (m2_wJ σ 48 0 (10 + m) (σ.2.1 11 0 6)) 49 0 (10 + m) (nI sort)) 50 0 (10 + m) (nI cnt)).1 7 0 4 + 1)) _
    rw [e7'', nI_1, hT.2.2.2.2 z]
    have f1 : fq fMl σ (m2_wI (m2_wI (m2_wI (m2_wJ σ 48 0 (10 + m) (Int64.ofNat (cd T n c))) 49 0 (10 + m) (nI sort)) 50 0 (10 + m) (nI cnt)) 7 0 4 (nI (10 + m + 1))) := by
      have f0 : fq fMl σ (m2_wJ σ 48 0 (10 + m) (Int64.ofNat (cd T n c))) := ⟨fun _ _ _ _ => rfl, rfl, fun k hk => if_neg (fun w => by have := w.2.2; omega)⟩
      exact ((f0.w rfl).w rfl).w rfl
    have dn := h.2.2.2.2.2
    have ne0 := cd_pos hc z
    have h' : CT (m2_wI (m2_wI (m2_wI (m2_wJ σ 48 0 (10 + m) (Int64.ofNat (cd T n c))) 49 0 (10 + m) (nI sort)) 50 0 (10 + m) (nI cnt)) 7 0 4 (nI (10 + m + 1))) ν T n c (upN N slot (cd T n c)) (m + 1) := by
      refine ⟨h.1, h.2.1.fq (A := fMl) rfl (fun _ => rfl) f1, hc, ⟨by rw [wI_t (by decide), wI_t (by decide), wI_t (by decide)]; exact hT.1, by rw [wI_t (by decide), wI_t (by decide), wI_t (by decide)]; exact hT.2.1, by rw [wI_t (by decide), wI_t (by decide), wI_t (by decide)]; exact hT.2.2.1, fun w => by rw [wI_t (by decide), wI_t (by decide), wI_t (by decide)]; exact hT.2.2.2.1 w, fun w => ?_⟩, ⟨⟨by omega, by rw [wI_k (by decide), wI_t (by decide), wI_t (by decide)]; exact b1.2⟩, by rw [wI_same]; rfl, fun o ho => by rw [f1.2.2 o ho]; exact b3 o ho, fun j => if j = m then slot else e j, fun j hj => ?_, fun s hs' hne => ?_⟩, dn.up hc z hl⟩
      · exact hT.2.2.2.2 w
      · show (if j = m then slot else e j) < 28 ∧ upN N slot (cd T n c) (if j = m then slot else e j) ≠ 0 ∧ (m2_wJ σ 48 0 (10 + m) (Int64.ofNat (cd T n c))).2.1 48 0 (10 + j) = Int64.ofNat (upN N slot (cd T n c) (if j = m then slot else e j)) ∧ _ = nI (srt (if j = m then slot else e j)) ∧ _ = nI (num (if j = m then slot else e j))
        by_cases ej : j = m
        · subst ej
          rw [if_pos rfl]
          unfold upN
          rw [if_pos rfl]
          exact ⟨hs.1, ne0, wJ_same, by rw [wI_t (by decide), wI_t (by decide), wI_same, hs.2.1], by rw [wI_t (by decide), wI_same, hs.2.2]⟩
        · rw [if_neg ej]
          have bj := b4 j (by omega)
          have en : e j ≠ slot := fun w => bj.2.1 (by rw [w]; exact hN)
          unfold upN
          rw [if_neg en]
          refine ⟨bj.1, bj.2.1, ?_, by rw [wI_t (by decide), wI_t (by decide), wI_k (by omega)]; exact bj.2.2.2.1, by rw [wI_t (by decide), wI_k (by omega), wI_t (by decide)]; exact bj.2.2.2.2⟩
          exact (if_neg (fun w => by have := w.2.2; omega)).trans bj.2.2.1
      · by_cases es : s = slot
        · exact ⟨m, by omega, (if_pos rfl).trans es.symm⟩
        · unfold upN at hne
          rw [if_neg es] at hne
          obtain ⟨j, hj, ej⟩ := b5 s hs' hne
          exact ⟨j, by omega, (if_neg (by omega)).trans ej⟩
    refine h'.nx (by omega) (fun σ' f' _ _ t' => ⟨rfl, qt (fun K => ?_) σ' (f1.trans f') t'⟩)
    unfold pNew; rw [if_pos (isNm_t z rv), hl]
end RD1
