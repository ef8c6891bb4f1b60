/-! CALLS: worth; the search for the best lending -/
def mPl (R : Nat → Int32) (m : Nat) : Pl := plR R (gN R (152 + 2 * m + 1))
def mayH (R : Nat → Int32) (C : Nat → Bool) (m : Nat) (s : Int32) : Bool := !(decide (R (152 + 2 * m) = 1)) || !(decide (R 3 < hm2 R C (mPl R m) s (-2)))
def wth (R : Nat → Int32) (C : Nat → Bool) (a : Nat) : Int32 := if C (gN R (160 + 3 * a + 1)) = true then -2 else if mayH R C (gN R (160 + 3 * a)) (R (160 + 3 * a + 1)) = true then (if R (152 + 2 * gN R (160 + 3 * a)) = 2 then 0 else R (160 + 3 * a + 2)) + R 2 * hm2 R C (mPl R (gN R (160 + 3 * a))) (R (160 + 3 * a + 1)) (-2) else -2
def a_worth (R : Nat → Int32) (C : Nat → Bool) (a : Int32) : Int32 × Int32 := if inn a (R 9) = true then (wth R C a.toNatClampNeg, 0) else no1
theorem okR.man {R : Nat → Int32} (h : okR R) {m : Nat} (hm : m < gN R 8) : gN R (152 + 2 * m + 1) < gN R 6 ∧ R (152 + 2 * m + 1) = nI (gN R (152 + 2 * m + 1)) := in_tn (h.2.2.2.2.2.2.2.1 m hm)
theorem okR.ask {R : Nat → Int32} (h : okR R) {a : Nat} (ha : a < gN R 9) : (gN R (160 + 3 * a) < gN R 8 ∧ R (160 + 3 * a) = nI (gN R (160 + 3 * a))) ∧ (gN R (160 + 3 * a + 1) < gN R 7 ∧ R (160 + 3 * a + 1) = nI (gN R (160 + 3 * a + 1))) ∧ (gN R (160 + 3 * a + 2) < 100 ∧ R (160 + 3 * a + 2) = nI (gN R (160 + 3 * a + 2))) := ⟨in_tn (h.2.2.2.2.2.2.2.2 a ha).1, in_tn (h.2.2.2.2.2.2.2.2 a ha).2.1, in_tn (h.2.2.2.2.2.2.2.2 a ha).2.2⟩
theorem wth_b {R : Nat → Int32} (hR : okR R) (C : Nat → Bool) {a : Nat} (ha : a < gN R 9) : wth R C a = -2 ∨ ∃ j, j ≤ 8000 ∧ wth R C a = nI j := by
  unfold wth
  split
  · exact Or.inl rfl
  split
  · right
    obtain ⟨j, hj, ej⟩ := hm2_b hR C (mPl R (gN R (160 + 3 * a))) (R (160 + 3 * a + 1)) (-2)
    obtain ⟨hf, ef⟩ := gn_in hR.2.1.2.2.1
    have hp := (hR.ask ha).2.2
    rw [ej, ef, nI_mul]
    have hm : gN R 2 * j ≤ 9 * 799 := Nat.mul_le_mul (by omega) (by omega)
    split
    · exact ⟨0 + gN R 2 * j, by omega, nI_add 0 _⟩
    · rw [hp.2, nI_add]; exact ⟨_, by omega, rfl⟩
  · exact Or.inl rfl
section OP11
variable {L : Nat} {xs : Nat → Int32} {d : Nat} {Q : Option dm_V → M2 → Prop} {σ : M2} {μ : Nat} {R : Nat → Int32} {C : Nat → Bool} {h : Bool}
theorem c61 (hd : 9 ≤ d) {m s : Nat} {x1 x2 : Int32} (hX : cX σ μ R C) (h1 : x1 = nI m) (hm : m < gN R 8) (h2 : x2 = nI s) (hs : s < gN R 7) (q : ∀ σ', fr fRn σ σ' → Q (some (vi (bI (!(C s) && mayH R C m x2)))) σ') : CL L xs d 61 [vr 8 0, vi x1, vi x2] σ Q := by
  subst h1
  refine cl_at p61 (by omega) (w61_0 hC ?_)
  have hS := hX.ok.cS.1
  have hM := hX.ok.cM.1
  have hP := hX.ok.cP.1
  have hmu := hX.mu
  obtain ⟨hp, ep⟩ := hX.ok.man hm
  refine c5 (by omega) h2 (by omega) hX.cln ⟨_, rfl, ?_⟩
  refine if_b (fun z => ?_) (fun z => ?_)
  · rw [nI_clamp (by omega), hX.r8, (hX.man m hm).1, (hX.man m hm).2, ep, nI_clamp (by omega)]
    refine ix_k (by omega) (by omega) (ix_k (by omega) (by omega) (ix_k (by omega) (by omega) ?_))
    rw [z] at q
    unfold mayH at q
    refine if_c (fun z1 => ?_) (fun z1 => ?_)
    · rw [decide_eq_true z1] at q
      refine c59 (by omega) hX (hX.pln _ hp) (by omega) ((hX.ok.pl hp).up (by omega)) (Or.inr ⟨s, hs, h2⟩) isC_2 (fun σ1 f1 => ⟨_, rfl, ?_⟩)
      have X1 := hX.fr fRn_k f1
      rw [X1.r8, X1.five.2.2.2]
      have q := q σ1 f1
      refine if_c (fun z2 => ?_) (fun z2 => ?_)
      · rw [decide_eq_true (show R 3 < hm2 R C (mPl R m) x2 (-2) from z2)] at q; exact q
      · rw [decide_eq_false (show ¬ R 3 < hm2 R C (mPl R m) x2 (-2) from z2)] at q; exact q
    · rw [decide_eq_false z1] at q; exact q σ fr.id
  · rw [z] at q; exact q σ fr.id
theorem c62 (hd : 10 ≤ d) {a : Nat} {x1 : Int32} (hX : cX σ μ R C) (h1 : x1 = nI a) (ha : a < gN R 9) (q : ∀ σ', fr fRn σ σ' → Q (some (vi (wth R C a))) σ') : CL L xs d 62 [vr 8 0, vi x1] σ Q := by
  subst h1
  refine cl_at p62 (by omega) (w62_0 hC ?_)
  have hA := hX.ok.cA.1
  have hM := hX.ok.cM.1
  have hP := hX.ok.cP.1
  have hmu := hX.mu
  obtain ⟨⟨hm, em⟩, ⟨hs, es⟩, -⟩ := hX.ok.ask ha
  obtain ⟨hp, ep⟩ := hX.ok.man hm
  have k := hX.ask a ha
  rw [nI_clamp (by omega), hX.r8, k.1, k.2.1]
  refine ix_k (by omega) (by omega) (ix_k (by omega) (by omega) ?_)
  unfold wth at q
  refine c61 (by omega) hX em hm es hs (fun σ1 f1 => ⟨_, rfl, ?_⟩)
  have X1 := hX.fr fRn_k f1
  refine if_b (fun z => ?_) (fun z => ?_)
  · have q := q σ1 f1
    by_cases e : C (gN R (160 + 3 * a + 1)) = true
    · rw [if_pos e] at q; exact q
    · rw [if_neg e] at q
      have e' : C (gN R (160 + 3 * a + 1)) = false := by cases h : C (gN R (160 + 3 * a + 1)) <;> simp_all
      rw [e'] at z
      rw [if_neg (by rw [show mayH R C (gN R (160 + 3 * a)) (R (160 + 3 * a + 1)) = false from z]; decide)] at q
      exact q
  have z0 : C (gN R (160 + 3 * a + 1)) = false ∧ mayH R C (gN R (160 + 3 * a)) (R (160 + 3 * a + 1)) = true := by
    simp only [Bool.and_eq_true, Bool.not_eq_true'] at z
    exact z
  rw [if_neg (by rw [z0.1]; decide), if_pos z0.2] at q
  have fin : ∀ y0 : Int32, (∀ σ', fr fRn σ σ' → Q (some (vi (y0 + R 2 * hm2 R C (mPl R (gN R (160 + 3 * a))) (R (160 + 3 * a + 1)) (-2)))) σ') → g62_58 L xs (CL L xs (d - 1)) Q (R (160 + 3 * a)) (R (160 + 3 * a + 1)) y0 σ1 := by
    intro y0 q
    refine w62_58 hC ?_
    rw [em, nI_clamp (by omega), X1.r8, (X1.man _ hm).2, ep, nI_clamp (by omega)]
    refine ix_k (by omega) (by omega) (ix_k (by omega) (by omega) ?_)
    refine c59 (by omega) X1 (X1.pln _ hp) (by omega) ((hX.ok.pl hp).up (by omega)) (Or.inr ⟨_, hs, es⟩) isC_2 (fun σ2 f2 => ⟨_, rfl, ?_⟩)
    rw [X1.five.2.2.1]
    exact q σ2 (f1.trans f2)
  have em2 : (R (160 + 3 * a)).toNatClampNeg = gN R (160 + 3 * a) := rfl
  rw [em2, X1.r8, (X1.man _ hm).1, (X1.ask a ha).2.2]
  have ix : ∀ {K : Prop}, K → dm_ix (R (160 + 3 * a)) 4 K := fun k => by rw [em]; exact ix_k (by omega) (by omega) k
  refine ix (if_c (fun z2 => fin _ ?_) (fun z2 => ix_k (by omega) (by omega) (fin _ ?_)))
  · rw [if_pos z2] at q; exact q
  · rw [if_neg z2] at q; exact q
theorem o124 (hd : 11 ≤ d) {a : Int32} (hX : cX σ μ R C) (q : ∀ σ', cG σ σ' (a_worth R C a).2 → Q (some (vi (a_worth R C a).1)) σ') : CL L xs d 124 [vr 12 0, vi a] σ Q := by
  refine cl_at p124 (by omega) (w124_0 hC ?_)
  refine c85 (s := 7) (by omega) rfl (by omega) hX hX.cnt.2.2.2.2.2.2.1 ⟨_, rfl, ?_⟩
  unfold a_worth at q
  refine if_b (fun z => ?_) (fun z => ?_)
  · rw [if_neg (by rw [z]; decide)] at q
    exact c81 (by omega) fr.id q
  rw [if_pos z] at q
  obtain ⟨ha, ea⟩ := inn_k hX.ok.cA.2 (by have := hX.ok.cA.1; omega) z
  exact c62 (by omega) hX ea ha (fun σ1 f1 => ⟨_, rfl, c83 (by omega) (f1.weak fRn_O) q⟩)
theorem c250 (hd : 4 ≤ d) {m : Nat} {x1 : Int32} (hX : mX σ R C) (h1 : x1 = nI m) (hm : m < gN R 8) (q : Q (some (vi (R (152 + 2 * m + 1)))) σ) : CL L xs d 250 [vr 13 0, vi x1] σ Q := by
  subst h1
  have hM := hX.1.cM.1
  refine cl_at p250 (by omega) (w250_0 hC ?_)
  rw [l152, l2, nI_mul, nI_add, nI_1, nI_clamp (by omega), hX.2.1]
  exact ix_k (by omega) (by omega) q
theorem c251 (hd : 8 ≤ d) {m s : Nat} {x1 x2 : Int32} (hX : mX σ R C) (h1 : x1 = nI m) (hm : m < gN R 8) (h2 : x2 = nI s) (hs : s < gN R 7) (q : ∀ σ', fr gRn σ σ' → Q (some (vi (bI (mayH R C m x2)))) σ') : CL L xs d 251 [vr 13 0, vi x1, vi x2] σ Q := by
  have hM := hX.1.cM.1
  obtain ⟨hp, ep⟩ := hX.1.man hm
  refine cl_at p251 (by omega) (w251_0 hC ?_)
  have e : 152 + 2 * x1 = nI (152 + 2 * m) := by rw [h1, l152, l2, nI_mul, nI_add]
  rw [e, nI_clamp (by omega), hX.2.1]
  refine ix_k (by omega) (by omega) ?_
  unfold mayH at q
  refine if_c (fun z1 => ?_) (fun z1 => ?_)
  · rw [decide_eq_true z1] at q
    refine c250 (by omega) hX h1 hm ⟨_, rfl, ?_⟩
    refine c209 (by omega) hX ep hp (Or.inr ⟨s, hs, h2⟩) isC_2 (fun σ1 f1 => ⟨_, rfl, ?_⟩)
    rw [(hX.fr (fun _ => ⟨rfl, rfl⟩) f1).2.1]
    have q := q σ1 f1
    refine if_c (fun z2 => ?_) (fun z2 => ?_)
    · rw [decide_eq_true (show R 3 < hm2 R C (mPl R m) x2 (-2) from z2)] at q; exact q
    · rw [decide_eq_false (show ¬ R 3 < hm2 R C (mPl R m) x2 (-2) from z2)] at q; exact q
  · rw [decide_eq_false z1] at q; exact q σ fr.id
theorem c252 (hd : 9 ≤ d) {a : Nat} {x1 : Int32} (hX : mX σ R C) (h1 : x1 = nI a) (ha : a < gN R 9) (q : ∀ σ', fr gRn σ σ' → Q (some (vi (wth R C a))) σ') : CL L xs d 252 [vr 13 0, vi x1] σ Q := by
  subst h1
  have hA := hX.1.cA.1
  have hM := hX.1.cM.1
  have hS := hX.1.cS.1
  obtain ⟨⟨hm, em⟩, ⟨hs, es⟩, -⟩ := hX.1.ask ha
  obtain ⟨hp, ep⟩ := hX.1.man hm
  have K : ∀ {σ1 : M2}, fr gRn σ σ1 → mX σ1 R C := fun f => hX.fr (fun _ => ⟨rfl, rfl⟩) f
  refine cl_at p252 (by omega) (w252_0 hC ?_)
  have e0 : 160 + 3 * nI a = nI (160 + 3 * a) := by rw [l160, l3, nI_mul, nI_add]
  rw [e0, nI_1, l2, nI_add, nI_clamp (n := 160 + 3 * a) (by omega), nI_clamp (n := 160 + 3 * a + 1) (by omega), nI_clamp (n := 160 + 3 * a + 2) (by omega), hX.2.1, hX.2.1]
  refine ix_k (by omega) (by omega) (ix_k (by omega) (by omega) ?_)
  unfold wth at q
  refine c197 (by omega) es hX (by omega) ⟨_, rfl, ?_⟩
  refine if_b (fun z => ?_) (fun z => ?_)
  · rw [if_neg (by rw [z]; decide)] at q
    refine c251 (by omega) hX em hm es hs (fun σ1 f1 => ⟨_, rfl, ?_⟩)
    refine if_b (fun z1 => ?_) (fun z1 => ?_)
    · rw [if_neg (by rw [z1]; decide)] at q; exact q σ1 f1
    rw [if_pos z1] at q
    have X1 := K f1
    have e2 : (152 : Int32) + nI 2 * R (160 + 3 * a) = nI (152 + 2 * gN R (160 + 3 * a)) := by rw [em, l152, nI_mul, nI_add]
    rw [e2, nI_clamp (n := 152 + 2 * gN R (160 + 3 * a)) (by omega), X1.2.1, X1.2.1, X1.2.1]
    refine ix_k (by omega) (by omega) (if_c (fun z2 => ?_) (fun z2 => ix_k (by omega) (by omega) ?_))
    · have z2 : R (152 + 2 * gN R (160 + 3 * a)) = 2 := z2
      rw [if_pos z2] at q
      refine c250 (by omega) X1 em hm ⟨_, rfl, ?_⟩
      exact c209 (by omega) X1 ep hp (Or.inr ⟨_, hs, es⟩) isC_2 (fun σ2 f2 => ⟨_, rfl, q σ2 (f1.trans f2)⟩)
    · have z2 : ¬ R (152 + 2 * gN R (160 + 3 * a)) = 2 := z2
      rw [if_neg z2] at q
      refine c250 (by omega) X1 em hm ⟨_, rfl, ?_⟩
      exact c209 (by omega) X1 ep hp (Or.inr ⟨_, hs, es⟩) isC_2 (fun σ2 f2 => ⟨_, rfl, q σ2 (f1.trans f2)⟩)
  · rw [if_pos z] at q; exact q σ fr.id
theorem o253 (hd : 10 ≤ d) {a : Int32} (hY : mY σ R C h) (q : ∀ σ', mG σ σ' (a_worth R C a).2 → Q (some (vi (a_worth R C a).1)) σ') : CL L xs d 253 [vr 13 0, vi a] σ Q := by
  refine cl_at p253 (by omega) (w253_0 hC ?_)
  refine c150 (by omega) (fun σ1 g1 => ⟨rfl, ?_⟩)
  have Y1 := mY_o hY g1.1
  unfold a_worth at q
  refine c195 (by omega) Y1 ⟨_, rfl, ?_⟩
  refine if_b (fun z => ?_) (fun z => ?_)
  · rw [if_neg (by rw [z]; decide)] at q
    exact c151 (by omega) g1 q
  rw [if_pos z] at q
  obtain ⟨ha, ea⟩ := inn_k hY.1.1.cA.2 (by have := hY.1.1.cA.1; omega) z
  exact c252 (by omega) Y1.1 ea ha (fun σ2 f2 => ⟨_, rfl, q σ2 (g1.rn f2)⟩)
end OP11
/-! the search -/
def updT (tr : Nat → Int32) (a : Nat) (x : Int32) : Nat → Int32 := fun i => if i = a then x else tr i
def okA (R : Nat → Int32) (C : Nat → Bool) (a : Nat) : Bool := !(decide (wth R C a = -2))
def wN (R : Nat → Int32) (C : Nat → Bool) (a : Nat) : Nat := (wth R C a).toNatClampNeg
def cbF (R : Nat → Int32) (a wk : Nat) (tr : Nat → Int32) (k : Nat) : Bool := !(decide (tr k = nI wk)) || (!(decide (R (160 + 3 * k) = R (160 + 3 * a))) && !(decide (R (160 + 3 * k + 1) = R (160 + 3 * a + 1))))
def cbA (R : Nat → Int32) (C : Nat → Bool) (a wk : Nat) (tr : Nat → Int32) : Bool := okA R C a && al (cbF R a wk tr) a
def mdl (R : Nat → Int32) (C : Nat → Bool) : Nat → Nat → Nat → (Nat → Int32) → Nat × (Nat → Int32) → Nat × (Nat → Int32)
  | 0, _, sum, tr, st => if sum < st.1 then st else (sum + 1, tr)
  | m + 1, a, sum, tr, st => mdl R C m (a + 1) sum (updT tr a (-2)) (ff (fun wk st => if cbA R C a wk tr = true then mdl R C m (a + 1) (sum + wN R C a) (updT tr a (nI wk)) st else st) (gN R 0) 0 st)
def stl (R : Nat → Int32) (C : Nat → Bool) : Nat → Nat → Nat
  | 0, _ => 0
  | m + 1, a => stl R C m (a + 1) + (if okA R C a = true then wN R C a else 0)
theorem ff_fix {α : Type} {f : Nat → α → α} {a : α} (h : ∀ k, f k a = a) : ∀ m k, ff f m k a = a
  | 0, _ => rfl
  | m + 1, k => by unfold ff; rw [h, ff_fix h]
theorem mdl_cut {R : Nat → Int32} {C : Nat → Bool} : ∀ (m a sum : Nat) (tr : Nat → Int32) (st : Nat × (Nat → Int32)), sum + stl R C m a < st.1 → mdl R C m a sum tr st = st
  | 0, a, sum, tr, st, h => by
    unfold mdl
    exact if_pos h
  | m + 1, a, sum, tr, st, h => by
    unfold stl at h
    unfold mdl
    rw [ff_fix (a := st)]
    · exact mdl_cut m (a + 1) sum _ st (by omega)
    · intro k
      show (if cbA R C a k tr = true then _ else st) = st
      split
      · rename_i z
        unfold cbA at z
        simp only [Bool.and_eq_true] at z
        rw [if_pos z.1] at h
        exact mdl_cut m (a + 1) _ _ st (by omega)
      · rfl
theorem ff_p {α : Type} {f : Nat → α → α} {P : α → Prop} (h : ∀ k a, P a → P (f k a)) : ∀ m k a, P a → P (ff f m k a)
  | 0, _, _, p => p
  | m + 1, k, a, p => ff_p h m (k + 1) _ (h k a p)
theorem mdl_b {R : Nat → Int32} {C : Nat → Bool} (hw : ∀ a, a < gN R 9 → okA R C a = true → wN R C a ≤ 8000) : ∀ (m a sum : Nat) (tr : Nat → Int32) (st : Nat × (Nat → Int32)), a + m = gN R 9 → gN R 9 ≤ 7 → sum ≤ 8000 * a → st.1 ≤ 56001 → (mdl R C m a sum tr st).1 ≤ 56001
  | 0, a, sum, tr, st, h1, h2, h3, h4 => by
    unfold mdl
    split
    · exact h4
    · show sum + 1 ≤ 56001; omega
  | m + 1, a, sum, tr, st, h1, h2, h3, h4 => by
    unfold mdl
    refine mdl_b hw m (a + 1) sum _ _ (by omega) h2 (by omega) (ff_p (P := fun st : Nat × (Nat → Int32) => st.1 ≤ 56001) (fun k st p => ?_) _ _ _ h4)
    show (if cbA R C a k tr = true then _ else st).1 ≤ 56001
    split
    · rename_i z
      unfold cbA at z
      simp only [Bool.and_eq_true] at z
      have := hw a (by omega) z.1
      exact mdl_b hw m (a + 1) _ _ _ (by omega) h2 (by omega) p
    · exact p
theorem mdl_1 {R : Nat → Int32} {C : Nat → Bool} : ∀ (m a sum : Nat) (tr : Nat → Int32) (st : Nat × (Nat → Int32)), 1 ≤ (mdl R C m a sum tr st).1
  | 0, a, sum, tr, st => by
    unfold mdl
    split
    · omega
    · show 1 ≤ sum + 1; omega
  | m + 1, a, sum, tr, st => by
    unfold mdl
    exact mdl_1 m _ _ _ _
theorem okA_w {R : Nat → Int32} (hR : okR R) {C : Nat → Bool} {a : Nat} (ha : a < gN R 9) (h : okA R C a = true) : wN R C a ≤ 8000 ∧ wth R C a = nI (wN R C a) := by
  unfold okA at h
  rcases wth_b hR C ha with e | ⟨j, hj, e⟩
  · rw [e] at h; cases h
  · unfold wN
    rw [e, nI_clamp (by omega)]
    exact ⟨hj, rfl⟩
theorem okA_n {R : Nat → Int32} {C : Nat → Bool} {a : Nat} (h : okA R C a = false) : wth R C a = -2 := by
  unfold okA at h
  simp only [Bool.not_eq_false', decide_eq_true_eq] at h
  exact h
def k_lend (R : Nat → Int32) (C : Nat → Bool) : Nat × (Nat → Int32) := mdl R C (gN R 9) 0 0 (fun _ => 0) (0, fun _ => 0)
def a_lend (R : Nat → Int32) (C : Nat → Bool) (h : Bool) : Int32 × Int32 := if h = true then (nI (k_lend R C).1 - 1, 0) else no1
def a_weekOf (R : Nat → Int32) (C : Nat → Bool) (a : Int32) : Int32 × Int32 := if inn a (R 9) = true then ((k_lend R C).2 a.toNatClampNeg, 0) else no1
theorem stl_b {R : Nat → Int32} (hR : okR R) {C : Nat → Bool} : ∀ m a, a + m = gN R 9 → stl R C m a ≤ 8000 * m
  | 0, _, _ => Nat.zero_le _
  | m + 1, a, h => by
    unfold stl
    have := stl_b hR (C := C) m (a + 1) (by omega)
    split
    · rename_i z
      have := (okA_w hR (by omega) z).1
      omega
    · omega
