/-! THE READER of the model: a line, the whole text -/
section MRD
variable {L : Nat} {xs : Nat → Int32} {d : Nat} {Q : Option dm_V → M2 → Prop} {σ σ0 : M2} {T : Nat → Nat} {n c : Nat} {N : Nat → Nat} {F : Nat → Int32} {ff pp : Nat}
theorem sl_5 : ∀ s, s < 8 → 1 ≤ s → (nI (sL s) = 5 ↔ s = 1) := by decide +kernel
theorem c176 (hd : 9 ≤ d) {s cnt : Nat} {x2 : Int32} (hs : s < 8) (hs1 : 1 ≤ s) (hx : x2 = bI (decide (cnt < rmN s))) (h : MR σ T n c F N) (hP : PV F N) (q0 : cd T n c ≠ kw s → Q (some (vi 0)) σ)
    (qf : cd T n c = kw s → gtc F s cnt ≠ 0 → ∀ σ', fr gRd σ σ' → FM σ' (gtc F s cnt) (tA T n c) → Q (some (vi 1)) σ') (qt : cd T n c = kw s → gtc F s cnt = 0 → ∀ σ', fr gRd σ σ' → MR σ' T n (nx T n c) F N → Q (some (vi 1)) σ') : CL L xs d 176 [vr 13 0, vr 90 s, vi x2] σ Q := by
  refine cl_at p176 (by omega) (w176_0 hC ?_)
  obtain ⟨j1, e1⟩ := gn_in hP.1.2.1.2.2.2.2
  have b6 := hP.1.cP.1
  refine h.wd (by omega) (by omega) ⟨_, rfl, ?_⟩
  refine if_b (fun z => q0 (of_decide_eq_false z)) (fun z => ?_)
  have z := of_decide_eq_true z
  have qf := qf z
  have qt := qt z
  have f70 : ∀ σ1, fr gRd σ σ1 → FM σ1 (gtc F s cnt) (tA T n c) → gtc F s cnt ≠ 0 → g176_70 L xs (CL L xs (d - 1)) Q σ1 := by
    intro σ1 g m hg
    refine w176_70 hC ?_
    rw [m.1]
    exact if_n (by decide) (qf hg σ1 g m)
  have e0 : gtc F s cnt = (if rmN s ≤ cnt then 5 else if s ≠ 0 ∧ F 0 = 0 then 6 else if s = 1 ∧ F 181 ≠ 0 then 6 else 0) := if_neg (fun w => by omega)
  subst hx
  refine if_b (fun zc => ?_) (fun zc => ?_)
  · have zc := of_decide_eq_false zc
    rw [if_pos (show rmN s ≤ cnt by omega)] at e0
    refine c161k (by omega) h (f := 5) rfl h.at (fun σ1 f1 m1 => ⟨rfl, ?_⟩)
    have m1' : FM σ1 (gtc F s cnt) (tA T n c) := by rw [e0]; exact m1
    have g1 := f1.weak gFw_R
    have k70 := f70 σ1 g1 m1' (by omega)
    refine w176_23 hC ?_
    refine if_c (fun _ => c161f (by omega) m1 ⟨rfl, k70⟩) (fun _ => if_c (fun _ => if_c (fun _ => ?_) (fun _ => k70)) (fun _ => k70))
    exact c162f (by omega) m1 ⟨_, rfl, if_y rfl k70⟩
  · have zc := of_decide_eq_true zc
    rw [if_neg (show ¬ rmN s ≤ cnt by omega)] at e0
    refine w176_23 hC ?_
    rw [h.row (by omega), h.row (by omega)]
    refine if_c (fun z0 => ?_) (fun z0 => ?_)
    · rw [if_pos (show s ≠ 0 ∧ F 0 = 0 from ⟨by omega, z0⟩)] at e0
      refine c161 (by omega) h (f := 6) rfl h.at (fun σ1 f1 m1 => ⟨rfl, ?_⟩)
      exact f70 σ1 f1 (by rw [e0]; exact m1) (by omega)
    rw [if_neg (show ¬ (s ≠ 0 ∧ F 0 = 0) from fun w => z0 w.2)] at e0
    have ok70 : gtc F s cnt = 0 → g176_70 L xs (CL L xs (d - 1)) Q σ := by
      intro hg
      refine w176_70 hC ?_
      rw [h.h13]
      exact if_y rfl (h.nx (by omega) (fun σ1 f1 m1 => ⟨rfl, qt hg σ1 f1 m1⟩))
    refine if_c (fun ze => ?_) (fun ze => ?_)
    · have ne : F 181 ≠ 0 := fun w => by rw [w] at ze; exact absurd ze (by decide)
      refine if_c (fun z5 => ?_) (fun z5 => ?_)
      · have s1 := (sl_5 s hs hs1).mp z5
        refine h.wd (by omega) (o := 1) (by omega) ⟨_, rfl, ?_⟩
        rw [decide_eq_true (show cd T n c = kw 1 by rw [z, s1])]
        refine if_n (by decide) ?_
        rw [if_pos ⟨s1, ne⟩] at e0
        refine c161 (by omega) h (f := 6) rfl h.at (fun σ1 f1 m1 => ⟨rfl, ?_⟩)
        exact f70 σ1 f1 (by rw [e0]; exact m1) (by omega)
      · refine ok70 ?_
        rw [e0, if_neg (fun w => z5 ((sl_5 s hs hs1).mpr w.1))]
    · refine ok70 ?_
      have : F 181 = 0 := Classical.byContradiction (fun w => ze (by
        have jne : gN F 181 ≠ 0 := fun q => w (by rw [e1, q]; rfl)
        rw [e1]
        exact nI_lt (a := 0) (by omega) (by omega)))
      rw [e0, if_neg (fun w => w.2 this)]
theorem lt_b {v : Int32} {a b : Nat} (e : v = nI a) (ha : a < 2 ^ 31) (hb : b < 2 ^ 31) {A : Int32 → Prop} (q : A (bI (decide (a < b)))) : if v < nI b then A 1 else A 0 := by
  subst e
  by_cases z : a < b
  · rw [decide_eq_true z] at q; exact if_y (nI_lt z hb) q
  · rw [decide_eq_false z] at q; exact if_n (nI_nlt (by omega) ha) q
theorem c177 (hd : 13 ≤ d) (h : MR σ T n c F N) (hP : PV F N) (h0' : F 181 ≠ 0 → F 0 ≠ 0) (qf : MFc σ (lin T n F N c) Q) (qt : MSc T n σ (lin T n F N c) Q) : CL L xs d 177 [vr 13 0] σ Q := by
  refine cl_at p177 (by omega) (w177_0 hC ?_)
  have b4 := hP.1.cT
  have b5 := hP.1.cD
  have b6 := hP.1.cP
  have b7 := hP.1.cS
  have b8 := hP.1.cM
  have b9 := hP.1.cA
  have b10 := hP.1.cH
  have fend : ∀ y, (y = 179 ∨ y = 181 ∨ y = 182 ∨ y = 183 ∨ y = 184 ∨ y = 185 ∨ y = 186) → ∀ σ1 f p, fr gRd σ σ1 → FM σ1 f p → f ≠ 0 → lin T n F N c = .inl (f, p) → CL L xs (d - 1) y [vr 13 0] σ1 (fun r σ3 => r = none ∧ Q none σ3) := by
    intro y hy σ1 f p g m hf E
    rcases hy with rfl | rfl | rfl | rfl | rfl | rfl | rfl
    · exact cl_at p179 (by omega) (w179_0 hC (by rw [m.1]; exact if_n (by decide) ⟨rfl, qf f p σ1 E hf g m⟩))
    · exact cl_at p181 (by omega) (w181_0 hC (by rw [m.1]; exact if_n (by decide) ⟨rfl, qf f p σ1 E hf g m⟩))
    · exact cl_at p182 (by omega) (w182_0 hC (by rw [m.1]; exact if_n (by decide) ⟨rfl, qf f p σ1 E hf g m⟩))
    · exact cl_at p183 (by omega) (w183_0 hC (by rw [m.1]; exact if_n (by decide) ⟨rfl, qf f p σ1 E hf g m⟩))
    · exact cl_at p184 (by omega) (w184_0 hC (by rw [m.1]; exact if_n (by decide) ⟨rfl, qf f p σ1 E hf g m⟩))
    · exact cl_at p185 (by omega) (w185_0 hC (by rw [m.1]; exact if_n (by decide) ⟨rfl, qf f p σ1 E hf g m⟩))
    · exact cl_at p186 (by omega) (w186_0 hC (by rw [m.1]; exact if_n (by decide) ⟨rfl, qf f p σ1 E hf g m⟩))
  have mf : ∀ {σ1 : M2} {R : PR}, fr gRd σ σ1 → lin T n F N c = R → MFc σ1 R (fun r σ3 => r = none ∧ Q none σ3) := fun g E f p σ' ER hf g' m' => ⟨rfl, qf f p σ' (E.trans ER) hf (g.trans g') m'⟩
  have ms : ∀ {σ1 : M2} {R : PR}, fr gRd σ σ1 → lin T n F N c = R → MSc T n σ1 R (fun r σ3 => r = none ∧ Q none σ3) := fun g E c' F' N' σ' ER g' m' => ⟨rfl, qt c' F' N' σ' (E.trans ER) (g.trans g') m'⟩
  have El : ∀ {s : Nat}, s < 9 → cd T n c = kw s → lin T n F N c = (if gtc F s (cnF F s) = 0 then LN T n s F N (nx T n c) else .inl (gtc F s (cnF F s), tA T n c)) := fun hs e => lin_eq hs e
  refine h.wd (by omega) (o := 0) (by omega) ⟨_, rfl, ?_⟩
  refine if_b (fun z0 => ?_) (fun z0 => ?_)
  rotate_left
  · have z0 := of_decide_eq_true z0
    have E : lin T n F N c = (if F 0 = 0 then lMus T n F N (nx T n c) else .inl (3, tA T n c)) := by unfold lin; rw [if_pos z0]
    exact c178 (by omega) h hP (mf fr.id E) (ms fr.id E)
  have z0 := of_decide_eq_false z0
  rw [h.row (by omega)]
  refine lt_b (b := 5) b4.2 (by omega) (by omega) (A := fun y => g177_34 L xs (CL L xs (d - 1)) Q y σ) ?_
  refine w177_34 hC ?_
  refine c176 (s := 1) (cnt := gN F 4) (by omega) (by omega) (by omega) rfl h hP (fun z1 => ⟨_, rfl, if_y rfl ?_⟩) (fun e hg σ1 f1 m1 => ⟨_, rfl, if_n (by decide) ?_⟩) (fun e hg σ1 f1 m1 => ⟨_, rfl, if_n (by decide) ?_⟩)
  rotate_left
  · exact fend 179 (by omega) σ1 _ _ f1 m1 hg ((El (s := 1) (by omega) e).trans (if_neg hg))
  · have E := (El (s := 1) (by omega) e).trans (if_pos hg)
    exact c179 (by omega) m1 hP (gtc_0 hg).2.1 (mf f1 E) (ms f1 E)
  rw [h.row (by omega)]
  refine lt_b (b := 6) b10.2 (by omega) (by omega) (A := fun y => g177_67 L xs (CL L xs (d - 1)) Q y σ) ?_
  refine w177_67 hC ?_
  refine c176 (s := 2) (cnt := gN F 10) (by omega) (by omega) (by omega) rfl h hP (fun z2 => ⟨_, rfl, if_y rfl ?_⟩) (fun e hg σ1 f1 m1 => ⟨_, rfl, if_n (by decide) ?_⟩) (fun e hg σ1 f1 m1 => ⟨_, rfl, if_n (by decide) ?_⟩)
  rotate_left
  · exact fend 181 (by omega) σ1 _ _ f1 m1 hg ((El (s := 2) (by omega) e).trans (if_neg hg))
  · have E := (El (s := 2) (by omega) e).trans (if_pos hg)
    exact c181 (by omega) m1 hP (gtc_0 hg).2.1 (mf f1 E) (ms f1 E)
  rw [h.row (by omega)]
  refine lt_b (b := 8) b5.2 (by omega) (by omega) (A := fun y => g177_99 L xs (CL L xs (d - 1)) Q y σ) ?_
  refine w177_99 hC ?_
  refine c176 (s := 3) (cnt := gN F 5) (by omega) (by omega) (by omega) rfl h hP (fun z3 => ⟨_, rfl, if_y rfl ?_⟩) (fun e hg σ1 f1 m1 => ⟨_, rfl, if_n (by decide) ?_⟩) (fun e hg σ1 f1 m1 => ⟨_, rfl, if_n (by decide) ?_⟩)
  rotate_left
  · exact fend 182 (by omega) σ1 _ _ f1 m1 hg ((El (s := 3) (by omega) e).trans (if_neg hg))
  · have E := (El (s := 3) (by omega) e).trans (if_pos hg)
    exact c182 (by omega) m1 hP (gtc_0 hg).2.1 (mf f1 E) (ms f1 E)
  rw [h.row (by omega)]
  refine lt_b (b := 4) b6.2 (by omega) (by omega) (A := fun y => g177_131 L xs (CL L xs (d - 1)) Q y σ) ?_
  refine w177_131 hC ?_
  refine c176 (s := 4) (cnt := gN F 6) (by omega) (by omega) (by omega) rfl h hP (fun z4 => ⟨_, rfl, if_y rfl ?_⟩) (fun e hg σ1 f1 m1 => ⟨_, rfl, if_n (by decide) ?_⟩) (fun e hg σ1 f1 m1 => ⟨_, rfl, if_n (by decide) ?_⟩)
  rotate_left
  · exact fend 183 (by omega) σ1 _ _ f1 m1 hg ((El (s := 4) (by omega) e).trans (if_neg hg))
  · have E := (El (s := 4) (by omega) e).trans (if_pos hg)
    exact c183 (by omega) m1 hP (gtc_0 hg).2.1 (mf f1 E) (ms f1 E)
  rw [h.row (by omega)]
  refine lt_b (b := 7) b7.2 (by omega) (by omega) (A := fun y => g177_164 L xs (CL L xs (d - 1)) Q y σ) ?_
  refine w177_164 hC ?_
  refine c176 (s := 5) (cnt := gN F 7) (by omega) (by omega) (by omega) rfl h hP (fun z5 => ⟨_, rfl, if_y rfl ?_⟩) (fun e hg σ1 f1 m1 => ⟨_, rfl, if_n (by decide) ?_⟩) (fun e hg σ1 f1 m1 => ⟨_, rfl, if_n (by decide) ?_⟩)
  rotate_left
  · exact fend 184 (by omega) σ1 _ _ f1 m1 hg ((El (s := 5) (by omega) e).trans (if_neg hg))
  · have E := (El (s := 5) (by omega) e).trans (if_pos hg)
    exact c184 (by omega) m1 hP (gtc_0 hg).2.1 (mf f1 E) (ms f1 E)
  rw [h.row (by omega)]
  refine lt_b (b := 4) b8.2 (by omega) (by omega) (A := fun y => g177_196 L xs (CL L xs (d - 1)) Q y σ) ?_
  refine w177_196 hC ?_
  refine c176 (s := 6) (cnt := gN F 8) (by omega) (by omega) (by omega) rfl h hP (fun z6 => ⟨_, rfl, if_y rfl ?_⟩) (fun e hg σ1 f1 m1 => ⟨_, rfl, if_n (by decide) ?_⟩) (fun e hg σ1 f1 m1 => ⟨_, rfl, if_n (by decide) ?_⟩)
  rotate_left
  · exact fend 185 (by omega) σ1 _ _ f1 m1 hg ((El (s := 6) (by omega) e).trans (if_neg hg))
  · have E := (El (s := 6) (by omega) e).trans (if_pos hg)
    exact c185 (by omega) m1 hP (gtc_0 hg).2.1 (mf f1 E) (ms f1 E)
  rw [h.row (by omega)]
  refine lt_b (b := 7) b9.2 (by omega) (by omega) (A := fun y => g177_229 L xs (CL L xs (d - 1)) Q y σ) ?_
  refine w177_229 hC ?_
  refine c176 (s := 7) (cnt := gN F 9) (by omega) (by omega) (by omega) rfl h hP (fun z7 => ⟨_, rfl, if_y rfl ?_⟩) (fun e hg σ1 f1 m1 => ⟨_, rfl, if_n (by decide) ?_⟩) (fun e hg σ1 f1 m1 => ⟨_, rfl, if_n (by decide) ?_⟩)
  rotate_left
  · exact fend 186 (by omega) σ1 _ _ f1 m1 hg ((El (s := 7) (by omega) e).trans (if_neg hg))
  · have E := (El (s := 7) (by omega) e).trans (if_pos hg)
    exact c186 (by omega) m1 hP (gtc_0 hg).2.1 (mf f1 E) (ms f1 E)
  refine h.wd (by omega) (o := 8) (by omega) ⟨_, rfl, ?_⟩
  refine if_b (fun z8 => ?_) (fun z8 => ?_)
  · have z8 := of_decide_eq_false z8
    have E : lin T n F N c = .inl (1, tA T n c) := lin_no (fun s hs => by
      match s, hs with
      | 0, _ => exact z0
      | 1, _ => exact z1
      | 2, _ => exact z2
      | 3, _ => exact z3
      | 4, _ => exact z4
      | 5, _ => exact z5
      | 6, _ => exact z6
      | 7, _ => exact z7
      | 8, _ => exact z8)
    exact c161 (by omega) h (f := 1) rfl h.at (fun σ1 f1 m1 => ⟨rfl, qf 1 _ σ1 E (by omega) f1 m1⟩)
  · have z8 := of_decide_eq_true z8
    have E : lin T n F N c = (if F 181 = 0 then (if F 0 = 0 then .inl (6, tA T n c) else lEnd T n F N (nx T n c)) else .inl (3, tA T n c)) := by
      unfold lin
      rw [if_neg z0, if_neg z1, if_neg z2, if_neg z3, if_neg z4, if_neg z5, if_neg z6, if_neg z7, if_pos z8]
    exact c187 (by omega) h hP (mf fr.id E) (ms fr.id E) h0'
/-- what comes behind a line -/
def aft (T : Nat → Nat) (n m : Nat) (F : Nat → Int32) (N : Nat → Nat) (c : Nat) : PR := if kd T n c = 0 then (if F 0 = 0 ∨ F 4 = 0 ∨ F 6 = 0 then .inl (6, tA T n c) else .inr (c, F, N)) else if kd T n c = 3 then rdP T n m F N (nx T n c) else .inl (1, tA T n c)
theorem rdP_i {m : Nat} {f p : Nat} (h : lin T n F N c = .inl (f, p)) : rdP T n (m + 1) F N c = .inl (f, p) := by
  unfold rdP
  rw [h]
theorem rdP_r {m : Nat} {c' : Nat} {F' : Nat → Int32} {N' : Nat → Nat} (h : lin T n F N c = .inr (c', F', N')) : rdP T n (m + 1) F N c = aft T n m F' N' c' := by
  unfold rdP
  rw [h]
  rfl
def gMu : Nat → Nat → Nat → Bool := fun t i k => gRd t i k || (t == 13 && (k == 0 || (k == 2 || (k == 3 || k == 11))))
def gMt : Nat → Nat → Nat → Bool := fun t i k => gMu t i k || (t == 62 || (t == 64 || (t == 13 && (k == 14 || (k == 20 || k == 21)))))
theorem gRd_M : ∀ t i k, gRd t i k = true → gMu t i k = true := fun t i k h => by unfold gMu; rw [h]; rfl
theorem gMu_t : ∀ t i k, gMu t i k = true → gMt t i k = true := fun t i k h => by unfold gMt; rw [h]; rfl
theorem PV_0 : PV (fun _ => 0) (fun _ => 0) := by
  have g0 : ∀ k, gN (fun _ => 0) k = 0 := fun _ => rfl
  have z : ∀ a, 0 < a → a < 2 ^ 31 → vp_in (0 : Int32) a := fun a h1 h2 => vpn (a := 0) h1 h2
  have no : ∀ x k, ¬ x < gN (fun _ => 0) k := fun x k => by rw [g0]; omega
  refine ⟨⟨⟨z _ (by omega) (by omega), z _ (by omega) (by omega), z _ (by omega) (by omega), z _ (by omega) (by omega), z _ (by omega) (by omega), z _ (by omega) (by omega), z _ (by omega) (by omega)⟩, ⟨z _ (by omega) (by omega), z _ (by omega) (by omega), z _ (by omega) (by omega), z _ (by omega) (by omega), z _ (by omega) (by rw [g0]; omega)⟩, fun x hx => absurd hx (no x 4), fun x hx => absurd hx (no x 10), fun x hx => absurd hx (no x 5), fun x hx => absurd hx (no x 6), fun x hx => absurd hx (no x 7), fun x hx => absurd hx (no x 8), fun x hx => absurd hx (no x 9)⟩, fun s _ => ⟨fun w => absurd rfl w, fun w => absurd w (no _ _)⟩, ⟨fun a _ b _ w => absurd rfl w, fun a _ => by show 0 < 2 ^ 40; decide⟩, fun _ => rfl, fun _ => rfl⟩
theorem c151r (hd : 4 ≤ d) {w : Int32} (q : Q (some (vi (-1))) (m2_wI σ 13 0 11 w)) : CL L xs d 151 [vr 13 0, vi w] σ Q := cl_at p151 hd (w151_0 hC q)
theorem o175 (hd : 15 ≤ d) {x : Int32} {fd : Nat} (hfd : fd ≤ 1000) (efd : σ.1 13 0 2 = nI fd) (hT : ∀ i, i < fd → T i < 256 ∧ σ.1 60 0 i = nI (T i))
    (qn : inc x 0 (nI fd) = false → ∀ σ', mG σ σ' 2 → Q (some (vi (-1))) σ')
    (qf : inc x 0 (nI fd) = true → ∀ f p σ', rdP T x.toNatClampNeg (x.toNatClampNeg + 1) (fun _ => 0) (fun _ => 0) 0 = .inl (f, p) → f ≠ 0 → fr gMu σ σ' → σ'.1 13 0 0 = 0 → σ'.1 13 0 2 = 0 → σ'.1 13 0 9 = nI f → σ'.1 13 0 10 = nI p → σ'.1 13 0 11 = 4 → Q (some (vi (-1))) σ')
    (qt : inc x 0 (nI fd) = true → ∀ c' F' N' σ', rdP T x.toNatClampNeg (x.toNatClampNeg + 1) (fun _ => 0) (fun _ => 0) 0 = .inr (c', F', N') → fr gMt σ σ' → σ'.1 13 0 0 = 0 → σ'.1 13 0 2 = 0 → σ'.1 13 0 9 = 0 → σ'.1 13 0 11 = 0 → (∀ k, k < 187 → σ'.1 62 0 k = F' k) → (∀ k, k < 23 → σ'.1 64 0 k = 0) → σ'.1 13 0 14 = 1 → σ'.1 13 0 20 = 0 → σ'.1 13 0 21 = 0 → Q (some (vi (F' 7))) σ') : CL L xs d 175 [vr 13 0, vi x] σ Q := by
  refine cl_at p175 (by omega) (w175_0 hC ?_)
  refine cl_at p150 (by omega) (w150_0 hC ⟨rfl, ?_⟩)
  have g1 : mG σ (m2_wI (m2_wI σ 13 0 0 0) 13 0 11 0) 0 := ⟨(fr.id.w rfl).w rfl, wI_same, by rw [wI_k (by decide), wI_same]⟩
  have G1 : fr gMu σ (m2_wI (m2_wI σ 13 0 0 0) 13 0 11 0) := (fr.id.w rfl).w rfl
  generalize m2_wI (m2_wI σ 13 0 0 0) 13 0 11 0 = σ1 at *
  have e2 : σ1.1 13 0 2 = nI fd := by rw [g1.1.1 _ _ _ rfl]; exact efd
  rw [e2]
  refine c153 (by omega) ⟨_, rfl, ?_⟩
  refine if_b (fun z => ?_) (fun z => ?_)
  · exact c151 (by omega) g1 (qn z)
  replace qf := qf z
  replace qt := qt z
  obtain ⟨n, hn, rfl⟩ : ∃ n, n ≤ fd ∧ x = nI n := by
    unfold inc at z
    simp only [Bool.and_eq_true, decide_eq_true_eq] at z
    obtain ⟨j, hj, rfl⟩ := nI_of z.1
    exact ⟨j, Nat.le_of_not_lt (fun w => z.2 (nI_lt w hj)), rfl⟩
  rw [nI_clamp (by omega)] at qf qt
  clear z qn
  have key : ∀ σ', fr gMu σ σ' → σ'.1 13 0 0 = 0 → σ'.1 13 0 2 = 0 → σ'.1 13 0 9 = 0 → σ'.1 13 0 11 = 0 → σ'.1 13 0 13 = 0 → (∀ i, i < 439 → σ'.1 63 0 i = 0) → CL L xs (d - 1) 160 [vr 13 0] (m2_wI (m2_wI σ' 13 0 3 (nI n)) 13 0 5 0) (fun r σ3 => r = none ∧ CL L xs (d - 1) 177 [vr 13 0] σ3 (fun r σ4 => r = none ∧ g175_77 L xs (CL L xs (d - 1)) Q σ4)) := by
    intro σ' G h0 h2 h9 h11 h13 h63
    have X : MX (m2_wI (m2_wI σ' 13 0 3 (nI n)) 13 0 5 0) T n := ⟨by omega, by rw [wI_k (by decide), wI_same], fun i hi => ⟨(hT i (by omega)).1, by rw [wI_t (by decide), wI_t (by decide), G.1 _ _ _ rfl]; exact (hT i (by omega)).2⟩⟩
    refine c160 (c := 0) (by omega) X (Nat.zero_le _) (by rw [wI_same]; rfl) (fun σ3 f3 m3 => ⟨rfl, ?_⟩)
    have o3 : ∀ k, k = 0 ∨ k = 2 ∨ k = 9 ∨ k = 11 ∨ k = 13 → σ3.1 13 0 k = σ'.1 13 0 k := by
      intro k hk
      rcases hk with rfl | rfl | rfl | rfl | rfl <;> rw [f3.1 _ _ _ rfl, wI_k (by decide), wI_k (by decide)]
    have M3 : MR σ3 T n 0 (fun _ => 0) (fun _ => 0) := by
      refine ⟨X.fr rfl (fun _ => rfl) f3, Nat.zero_le _, m3, ⟨fun k hk => ?_, ?_⟩, fun s hs => ⟨fun _ => ?_, fun w => absurd rfl w⟩, PV_0.2.2.1, ?_⟩
      · rw [f3.1 _ _ _ rfl, wI_t (by decide), wI_t (by decide)]; exact h63 k (by omega)
      · rw [o3 9 (by omega)]; exact h9
      · rw [f3.1 _ _ _ rfl, wI_t (by decide), wI_t (by decide)]; exact h63 _ (by omega)
      · rw [o3 13 (by omega)]; exact h13
    have G3 : fr gMu σ σ3 := ((G.w rfl).w rfl).trans ((f3.weak gNx_R).weak gRd_M)
    have z0 := (o3 0 (by omega)).trans h0
    have z2 := (o3 2 (by omega)).trans h2
    have z11 := (o3 11 (by omega)).trans h11
    clear o3 h0 h2 h9 h11 h13 h63 X f3 m3 G
    -- failed
    have f172 : ∀ σ4 f p, fr gRd σ3 σ4 → FM σ4 f p → f ≠ 0 → rdP T n (n + 1) (fun _ => 0) (fun _ => 0) 0 = .inl (f, p) → g175_172 L xs (CL L xs (d - 1)) Q σ4 := by
      intro σ4 f p g m hf E
      refine w175_172 hC ?_
      rw [m.1]
      refine if_n (by decide) (c151r (by omega) ⟨_, rfl, ?_⟩)
      exact qf f p _ E hf ((G3.trans (g.weak gRd_M)).w rfl) (by rw [wI_k (by decide), g.1 _ _ _ rfl]; exact z0) (by rw [wI_k (by decide), g.1 _ _ _ rfl]; exact z2) (by rw [wI_k (by decide)]; exact m.2.1) (by rw [wI_k (by decide)]; exact m.2.2) wI_same
    have f127 : ∀ σ4 f p, fr gRd σ3 σ4 → FM σ4 f p → f ≠ 0 → rdP T n (n + 1) (fun _ => 0) (fun _ => 0) 0 = .inl (f, p) → g175_127 L xs (CL L xs (d - 1)) Q σ4 := by
      intro σ4 f p g m hf E
      refine w175_127 hC ?_
      rw [m.1]
      exact if_n (by decide) (f172 σ4 f p g m hf E)
    have f77 : ∀ σ4 f p, fr gRd σ3 σ4 → FM σ4 f p → f ≠ 0 → rdP T n (n + 1) (fun _ => 0) (fun _ => 0) 0 = .inl (f, p) → g175_77 L xs (CL L xs (d - 1)) Q σ4 := by
      intro σ4 f p g m hf E
      refine w175_77 hC ?_
      rw [m.1]
      exact if_n (by decide) (if_n (by decide) (f127 σ4 f p g m hf E))
    -- the whole text is well
    have good : ∀ c4 F4 N4 σ4, fr gRd σ3 σ4 → MR σ4 T n c4 F4 N4 → rdP T n (n + 1) (fun _ => 0) (fun _ => 0) 0 = .inr (c4, F4, N4) → g175_172 L xs (CL L xs (d - 1)) Q σ4 := by
      intro c4 F4 N4 σ4 g m E
      refine w175_172 hC ?_
      rw [m.h13]
      refine if_y rfl ?_
      refine c155_63_62 (a := 0) (b := 0) (n := 439) (by omega) rfl rfl rfl (by omega) (by omega) (fun σ5 f5 e5 => ⟨rfl, ?_⟩)
      have G5 : fr gMt σ σ5 := ((G3.trans (g.weak gRd_M)).weak gMu_t).trans (f5.weak (fun t i k w => by
        unfold fCp at w
        unfold gMt
        simp only [Bool.or_eq_true, Bool.and_eq_true, beq_iff_eq, decide_eq_true_eq] at *
        omega))
      have o5 : ∀ k, σ5.1 13 0 k = σ4.1 13 0 k := fun k => f5.1 _ _ _ (fCp_t (by decide))
      refine dm_for (n := 23) (fun j σ' => g175_203 L xs (CL L xs (d - 1)) Q (nI j) σ') (fun j σ' => fr (fun t _ _ => t == 64) σ5 σ' ∧ ∀ i, i < j → σ'.1 64 0 i = 0) ?_ ?_ 0 σ5 (Nat.zero_le _) ⟨fr.id, fun i hi => absurd hi (Nat.not_lt_zero i)⟩
      · rintro j σ6 hj ⟨f6, h6⟩ ih
        refine w175_203 hC ?_
        rw [nI_clamp (by omega), nI_1]
        refine if_y (nI_lt (b := 23) hj (by omega)) (ix_k hj (by omega) ?_)
        refine ih _ ⟨f6.w rfl, fun i hi => ?_⟩
        by_cases e : i = j
        · rw [e, wI_same]
        · rw [wI_k e]; exact h6 i (by omega)
      · rintro σ6 ⟨f6, h6⟩
        refine w175_203 hC ?_
        refine if_n (nI_nlt (b := 23) (Nat.le_refl _) (by omega)) ?_
        have r62 : ∀ k, k < 187 → σ6.1 62 0 k = F4 k := fun k hk => by
          have := e5 k (by omega)
          rw [Nat.zero_add] at this
          rw [f6.1 _ _ _ rfl, this]
          exact m.row hk
        have o6 : ∀ k, σ6.1 13 0 k = σ4.1 13 0 k := fun k => (f6.1 _ _ _ rfl).trans (o5 k)
        show Q (some (vi ((m2_wI (m2_wI (m2_wI σ6 13 0 14 1) 13 0 20 0) 13 0 21 0).1 62 0 7))) (m2_wI (m2_wI (m2_wI σ6 13 0 14 1) 13 0 20 0) 13 0 21 0)
        rw [wI_t (by decide), wI_t (by decide), wI_t (by decide), r62 7 (by omega)]
        have G6 : fr gMt σ σ6 := G5.trans (f6.weak (fun t i k w => by
          unfold gMt
          simp only [Bool.or_eq_true, Bool.and_eq_true, beq_iff_eq] at *
          omega))
        refine qt c4 F4 N4 _ E (((G6.w rfl).w rfl).w rfl) ?_ ?_ ?_ ?_ (fun k hk => by rw [wI_t (by decide), wI_t (by decide), wI_t (by decide)]; exact r62 k hk) (fun k hk => by rw [wI_t (by decide), wI_t (by decide), wI_t (by decide)]; exact h6 k hk) ?_ ?_ wI_same
        · rw [wI_k (by decide), wI_k (by decide), wI_k (by decide), o6, g.1 _ _ _ rfl]; exact z0
        · rw [wI_k (by decide), wI_k (by decide), wI_k (by decide), o6, g.1 _ _ _ rfl]; exact z2
        · rw [wI_k (by decide), wI_k (by decide), wI_k (by decide), o6]; exact m.2.2.2.1.2
        · rw [wI_k (by decide), wI_k (by decide), wI_k (by decide), o6, g.1 _ _ _ rfl]; exact z11
        · rw [wI_k (by decide), wI_k (by decide), wI_same]
        · rw [wI_k (by decide), wI_same]
    have loop : ∀ fm F4 N4 c4 σ4, n ≤ fm + c4 → fr gRd σ3 σ4 → MR σ4 T n c4 F4 N4 → PV F4 N4 → F4 0 ≠ 0 → rdP T n (n + 1) (fun _ => 0) (fun _ => 0) 0 = aft T n fm F4 N4 c4 → g175_77 L xs (CL L xs (d - 1)) Q σ4 := by
      intro fm
      induction fm with
      | zero =>
        intro F4 N4 c4 σ4 hfm g m P h0 E
        have hc := m.2.1
        obtain rfl : c4 = n := by omega
        have kk : kd T c4 c4 = 0 := (kd_0 (by show c4 ≤ re T c4 isSp c4; rw [re_n]; exact Nat.le_refl _)).1
        have k5 := kd_5 (T := T) (n := c4) (c := c4)
        have E2 := E.trans (if_pos kk)
        refine w175_77 hC ?_
        rw [m.h13, m.2.2.1.1, kk]
        refine if_y rfl (if_n (by decide) (if_y rfl (if_y rfl ?_)))
        refine w175_127 hC ?_
        rw [m.h13, m.row (by omega), m.row (by omega), m.row (by omega)]
        refine if_y rfl (if_n h0 ?_)
        refine if_c (fun z4 => ?_) (fun z4 => ?_)
        · exact c161 (by omega) m (f := 6) rfl m.at (fun σ5 f5 m5 => ⟨rfl, f172 σ5 6 _ (g.trans f5) m5 (by omega) (E2.trans (if_pos (Or.inr (Or.inl z4))))⟩)
        refine if_c (fun z6 => ?_) (fun z6 => ?_)
        · exact c161 (by omega) m (f := 6) rfl m.at (fun σ5 f5 m5 => ⟨rfl, f172 σ5 6 _ (g.trans f5) m5 (by omega) (E2.trans (if_pos (Or.inr (Or.inr z6))))⟩)
        · exact good c4 F4 N4 σ4 g m (E2.trans (if_neg (fun w => w.elim h0 (fun w => w.elim z4 z6))))
      | succ fm ih =>
        intro F4 N4 c4 σ4 hfm g m P h0 E
        have k5 := kd_5 (T := T) (n := n) (c := c4)
        refine w175_77 hC ?_
        rw [m.h13, m.2.2.1.1]
        refine if_y rfl ?_
        refine if_c (fun z3 => ?_) (fun z3 => ?_)
        · have z3 := (mk_eq _ k5).2.2.1.mp z3
          have E2 := (E.trans (if_neg (show ¬ kd T n c4 = 0 by omega))).trans (if_pos z3)
          have nb := (nx_b (T := T) m.2.1).2.2 (by omega)
          refine m.nx (by omega) (fun σ5 f5 m5 => ⟨rfl, ?_⟩)
          have g5 := g.trans f5
          refine c177 (by omega) m5 P (fun _ => h0) (fun f p σ6 El hf f6 m6 => ⟨rfl, ?_⟩) (fun c6 F6 N6 σ6 El f6 m6 => ⟨rfl, ?_⟩)
          · exact f77 σ6 f p (g5.trans f6) m6 hf (E2.trans (rdP_i El))
          · obtain ⟨P6, l1, l2, h06⟩ := lin_pv P m5.2.1 El
            exact ih F6 N6 c6 σ6 (by omega) (g5.trans f6) m6 P6 h06 (E2.trans (rdP_r El))
        · have z3 : kd T n c4 ≠ 3 := fun w => z3 ((mk_eq _ k5).2.2.1.mpr w)
          refine if_y rfl (if_c (fun zk => ?_) (fun zk => ?_))
          · have zk := (mk_eq _ k5).2.2.2.2.mp zk
            have E2 := E.trans (if_pos zk)
            refine w175_127 hC ?_
            rw [m.h13, m.row (by omega), m.row (by omega), m.row (by omega)]
            refine if_y rfl (if_n h0 ?_)
            refine if_c (fun z4 => ?_) (fun z4 => ?_)
            · exact c161 (by omega) m (f := 6) rfl m.at (fun σ5 f5 m5 => ⟨rfl, f172 σ5 6 _ (g.trans f5) m5 (by omega) (E2.trans (if_pos (Or.inr (Or.inl z4))))⟩)
            refine if_c (fun z6 => ?_) (fun z6 => ?_)
            · exact c161 (by omega) m (f := 6) rfl m.at (fun σ5 f5 m5 => ⟨rfl, f172 σ5 6 _ (g.trans f5) m5 (by omega) (E2.trans (if_pos (Or.inr (Or.inr z6))))⟩)
            · exact good c4 F4 N4 σ4 g m (E2.trans (if_neg (fun w => w.elim h0 (fun w => w.elim z4 z6))))
          · have zk : kd T n c4 ≠ 0 := fun w => zk ((mk_eq _ k5).2.2.2.2.mpr w)
            exact c161 (by omega) m (f := 1) rfl m.at (fun σ5 f5 m5 => ⟨rfl, f127 σ5 1 _ (g.trans f5) m5 (by omega) ((E.trans (if_neg zk)).trans (if_neg z3))⟩)
    refine c177 (by omega) M3 PV_0 (fun w => absurd rfl w) (fun f p σ6 El hf f6 m6 => ⟨rfl, ?_⟩) (fun c6 F6 N6 σ6 El f6 m6 => ⟨rfl, ?_⟩)
    · exact f77 σ6 f p f6 m6 hf (rdP_i El)
    · obtain ⟨P6, l1, l2, h06⟩ := lin_pv PV_0 (Nat.zero_le _) El
      exact loop n F6 N6 c6 σ6 (by omega) f6 m6 P6 h06 (rdP_r El)
  refine dm_for (n := 439) (fun j σ' => g175_39 L xs (CL L xs (d - 1)) Q (nI n) (nI j) σ') (fun j σ' => fr gMu σ σ' ∧ (σ'.1 13 0 0 = 0 ∧ σ'.1 13 0 2 = 0 ∧ σ'.1 13 0 9 = 0 ∧ σ'.1 13 0 11 = 0 ∧ σ'.1 13 0 13 = 0) ∧ ∀ i, i < j → σ'.1 63 0 i = 0) ?_ ?_ 0 _ (Nat.zero_le _) ⟨((G1.w rfl).w rfl).w rfl, ⟨?_, ?_, ?_, ?_, ?_⟩, fun i hi => absurd hi (Nat.not_lt_zero i)⟩
  · rintro j σ6 hj ⟨f6, ⟨a0, a2, a9, a11, a13⟩, h6⟩ ih
    refine w175_39 hC ?_
    rw [nI_clamp (by omega), nI_1]
    refine if_y (nI_lt (b := 439) hj (by omega)) (ix_k hj (by omega) ?_)
    refine ih _ ⟨f6.w rfl, ⟨by rw [wI_t (by decide)]; exact a0, by rw [wI_t (by decide)]; exact a2, by rw [wI_t (by decide)]; exact a9, by rw [wI_t (by decide)]; exact a11, by rw [wI_t (by decide)]; exact a13⟩, fun i hi => ?_⟩
    by_cases e : i = j
    · rw [e, wI_same]
    · rw [wI_k e]; exact h6 i (by omega)
  · rintro σ6 ⟨f6, ⟨a0, a2, a9, a11, a13⟩, h6⟩
    refine w175_39 hC ?_
    refine if_n (nI_nlt (b := 439) (Nat.le_refl _) (by omega)) ?_
    exact key σ6 f6 a0 a2 a9 a11 a13 h6
  · rw [wI_k (by decide), wI_k (by decide), wI_k (by decide)]; exact g1.2.2
  · rw [wI_k (by decide), wI_k (by decide), wI_same]
  · rw [wI_k (by decide), wI_same]
  · rw [wI_k (by decide), wI_k (by decide), wI_k (by decide)]; exact g1.2.1
  · exact wI_same
end MRD
