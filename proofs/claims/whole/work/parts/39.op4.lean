/-! CALLS: which, whichNone, likeliest -/
def eCode (R : Nat → Int32) : Int32 := fo (fun t a => a * 10 + R (181 + 1 + t)) 0 (gN R 4)
def ePl (R : Nat → Int32) : Pl := plR R (gN R 181 - 1)
def mayb (R : Nat → Int32) (C : Nat → Bool) (x : Int32) : Bool := (decide (x = -2) || fit R C (ePl R) x.toNatClampNeg) && decide (en2 R C (ePl R) x (-2) = eCode R)
def a_why (R : Nat → Int32) (h : Bool) : Int32 := if h = false then 1 else if R 181 = 0 then 6 else 0
def a_which (R : Nat → Int32) (C : Nat → Bool) (h : Bool) : Int32 × Int32 := if a_why R h = 0 then (ff (fun s a => if mayb R C (nI s) = true then a ||| bt s else a) (gN R 7) 0 0, 0) else (-1, a_why R h)
def a_whichN (R : Nat → Int32) (C : Nat → Bool) (h : Bool) : Int32 × Int32 := if a_why R h = 0 then (bI (mayb R C (-2)), 0) else (-1, a_why R h)
def likF (R : Nat → Int32) (C : Nat → Bool) : Nat → Int32 × Int32 → Int32 × Int32 := fun s a => if mayb R C (nI s) = true then (if a.2 < R (124 + 4 * s + 3) then (nI s, R (124 + 4 * s + 3)) else a) else a
def a_lik (R : Nat → Int32) (C : Nat → Bool) (h : Bool) : Int32 × Int32 := if a_why R h = 0 then ((ff (likF R C) (gN R 7) 0 (if mayb R C (-2) = true then (-2, 5) else (-3, 0))).1, 0) else (-1, a_why R h)
section OP4
variable {L : Nat} {xs : Nat → Int32} {d : Nat} {Q : Option dm_V → M2 → Prop} {σ : M2} {μ : Nat} {R : Nat → Int32} {C : Nat → Bool} {h : Bool}
theorem ends_in (hR : okR R) (hz : R 181 ≠ 0) : gN R 181 - 1 < gN R 6 ∧ R 181 - 1 = nI (gN R 181 - 1) ∧ gN R 181 - 1 < 4 := by
  obtain ⟨a, b⟩ := gn_in hR.2.1.2.2.2.2
  have hP := hR.cP.1
  have h1 : 1 ≤ gN R 181 := by
    rcases Nat.eq_zero_or_pos (gN R 181) with z | z
    · rw [z] at b; exact absurd b hz
    · exact z
  refine ⟨by omega, ?_, by omega⟩
  rw [b, nI_s1 h1]
theorem why_z (hw : a_why R h = 0) : h = true ∧ R 181 ≠ 0 := by
  unfold a_why at hw
  cases h
  · rw [if_pos rfl] at hw; exact absurd hw (by decide)
  · rw [if_neg (by decide)] at hw
    refine ⟨rfl, fun z => ?_⟩
    rw [if_pos z] at hw; exact absurd hw (by decide)
theorem c108 (hd : 5 ≤ d) (hX : cX σ μ R C) (ho : σ.1 12 0 5 = bI h) (q : a_why R h = 0 → Q (some (vi 1)) σ) (q' : a_why R h ≠ 0 → ∀ σ', cG σ σ' (a_why R h) → Q (some (vi 0)) σ') : CL L xs d 108 [vr 12 0] σ Q := by
  refine cl_at p108 (by omega) (w108_0 hC ?_)
  rw [ho, hX.r12, hX.cnt.2.2.2.2.2.2.2]
  unfold a_why at q q'
  refine if_b (fun z => ?_) (fun z => ?_)
  · rw [if_pos z] at q'
    refine cl_at p82 (by omega) (w82_0 hC ⟨_, rfl, ?_⟩)
    exact q' (by decide) _ ⟨fr.id.w rfl, wI_same⟩
  rw [if_neg (by rw [z]; decide)] at q q'
  by_cases e : R 181 = 0
  · rw [if_pos e] at q'
    rw [if_pos e]
    refine if_y rfl (cl_at p82 (by omega) (w82_0 hC ⟨_, rfl, ?_⟩))
    exact q' (by decide) _ ⟨fr.id.w rfl, wI_same⟩
  · rw [if_neg e] at q
    rw [if_neg e]
    exact if_n (by decide) (q rfl)
theorem c109 (hd : 9 ≤ d) {x : Int32} (hX : cX σ μ R C) (hz : R 181 ≠ 0) (hx : isC R x) (q : ∀ σ', fr fRn σ σ' → Q (some (vi (bI (mayb R C x)))) σ') : CL L xs d 109 [vr 12 0, vi x] σ Q := by
  refine cl_at p109 (by omega) (w109_0 hC ?_)
  obtain ⟨h1, h2, h3⟩ := ends_in hX.ok hz
  have hv := hX.pln _ h1
  have hp := (hX.ok.pl h1).up (m' := 8) (by omega)
  have hm := hX.mu
  rw [hX.r12, (hX.end hz).1, h2, nI_clamp (by omega)]
  refine ix_k h3 (by omega) ?_
  have fin : (decide (x = -2) || fit R C (ePl R) x.toNatClampNeg) = true → g109_34 L xs (CL L xs (d - 1)) Q x (4 * μ + (gN R 181 - 1)) σ := by
    intro hb
    refine w109_34 hC ?_
    refine c58 (by omega) hX hv (by omega) hp hx isC_2 (fun σ1 f1 => ⟨_, rfl, ?_⟩)
    have X1 := hX.fr fRn_k f1
    rw [X1.r12, (X1.end hz).2]
    have q := q σ1 f1
    unfold mayb at q
    rw [hb, Bool.true_and] at q
    refine if_c (fun z => ?_) (fun z => ?_)
    · rw [decide_eq_true (show en2 R C (ePl R) x (-2) = eCode R from z)] at q; exact q
    · rw [decide_eq_false (show ¬ en2 R C (ePl R) x (-2) = eCode R from z)] at q; exact q
  refine if_c (fun z => fin (by rw [decide_eq_true z]; rfl)) (fun z => ?_)
  rcases hx with hx | ⟨s, hs, hx⟩
  · exact absurd hx z
  have hS := hX.ok.cS.1
  have ex : x.toNatClampNeg = s := by rw [hx]; exact nI_clamp (by omega)
  refine c53 (by omega) hx hX hv (hp.up (by omega)) hs ⟨_, rfl, ?_⟩
  refine if_b (fun zz => ?_) (fun zz => ?_)
  · have q := q σ fr.id
    unfold mayb fit at q
    rw [decide_eq_false z, ex] at q
    rw [show (stp R C (ePl R) s).isSome = false from zz] at q
    exact q
  · refine fin ?_
    unfold fit
    rw [ex, show (stp R C (ePl R) s).isSome = true from zz, Bool.or_true]
theorem o105 (hd : 10 ≤ d) (hX : cX σ μ R C) (ho : σ.1 12 0 5 = bI h) (q : ∀ σ', cG σ σ' (a_which R C h).2 → Q (some (vi (a_which R C h).1)) σ') : CL L xs d 105 [vr 12 0] σ Q := by
  refine cl_at p105 (by omega) (w105_0 hC ?_)
  unfold a_which at q
  have hS := hX.ok.cS
  refine c108 (by omega) hX ho (fun hw => ⟨_, rfl, ?_⟩) (fun hw σ1 g1 => ⟨_, rfl, ?_⟩)
  · rw [if_pos hw] at q
    refine if_n (by decide) ?_
    obtain ⟨-, hz⟩ := why_z hw
    refine dm_ff (n := gN R 7) (fun s a => if mayb R C (nI s) = true then a ||| bt s else a) (fun k a σ => g105_13 L xs (CL L xs (d - 1)) Q a (nI k) σ) (fun σ' => fr fO σ σ') ?_ _ 0 0 σ (Nat.zero_add _) fr.id ?_
    · intro k a σ' hk hf ih
      have hX' := hX.fr fO_k hf
      refine w105_13 hC ?_
      rw [hX'.r12, hX'.cnt.2.2.2.2.1, hS.2, nI_1]
      refine if_lt hk (by omega) ?_
      refine c109 (by omega) hX' hz (isC_s hk) (fun σ2 f2 => ⟨_, rfl, ?_⟩)
      have ih := ih σ2 (frO hf f2)
      refine if_b (fun z => ?_) (fun z => ?_)
      · rw [if_neg (by rw [z]; decide)] at ih; exact ih
      · rw [if_pos z] at ih; exact ih
    · intro σ' hf
      have hX' := hX.fr fO_k hf
      refine w105_13 hC ?_
      rw [hX'.r12, hX'.cnt.2.2.2.2.1, hS.2]
      exact if_nlt (Nat.le_refl _) (by omega) (c83 (by omega) hf q)
  · rw [if_neg hw] at q
    exact if_y rfl (q σ1 g1)
theorem o106 (hd : 10 ≤ d) (hX : cX σ μ R C) (ho : σ.1 12 0 5 = bI h) (q : ∀ σ', cG σ σ' (a_whichN R C h).2 → Q (some (vi (a_whichN R C h).1)) σ') : CL L xs d 106 [vr 12 0] σ Q := by
  refine cl_at p106 (by omega) (w106_0 hC ?_)
  unfold a_whichN at q
  refine c108 (by omega) hX ho (fun hw => ⟨_, rfl, ?_⟩) (fun hw σ1 g1 => ⟨_, rfl, ?_⟩)
  · rw [if_pos hw] at q
    refine if_n (by decide) ?_
    obtain ⟨-, hz⟩ := why_z hw
    refine c109 (by omega) hX hz isC_2 (fun σ2 f2 => ⟨_, rfl, ?_⟩)
    refine if_b (fun z => ?_) (fun z => ?_)
    · rw [z] at q; exact c83 (by omega) (f2.weak fRn_O) q
    · rw [z] at q; exact c83 (by omega) (f2.weak fRn_O) q
  · rw [if_neg hw] at q
    exact if_y rfl (q σ1 g1)
theorem o107 (hd : 10 ≤ d) (hX : cX σ μ R C) (ho : σ.1 12 0 5 = bI h) (q : ∀ σ', cG σ σ' (a_lik R C h).2 → Q (some (vi (a_lik R C h).1)) σ') : CL L xs d 107 [vr 12 0] σ Q := by
  refine cl_at p107 (by omega) (w107_0 hC ?_)
  unfold a_lik at q
  have hS := hX.ok.cS
  refine c108 (by omega) hX ho (fun hw => ⟨_, rfl, ?_⟩) (fun hw σ1 g1 => ⟨_, rfl, ?_⟩)
  · rw [if_pos hw] at q
    refine if_n (by decide) ?_
    obtain ⟨-, hz⟩ := why_z hw
    refine c109 (by omega) hX hz isC_2 (fun σ2 f2 => ⟨_, rfl, ?_⟩)
    have loop : ∀ a0 : Int32 × Int32, a0 = (if mayb R C (-2) = true then (-2, 5) else (-3, 0)) → g107_41 L xs (CL L xs (d - 1)) Q a0.1 a0.2 (nI 0) σ2 := by
      rintro a0 rfl
      refine dm_ff (n := gN R 7) (likF R C) (fun k a σ => g107_41 L xs (CL L xs (d - 1)) Q a.1 a.2 (nI k) σ) (fun σ' => fr fO σ σ') ?_ _ 0 _ σ2 (Nat.zero_add _) (f2.weak fRn_O) ?_
      · intro k a σ' hk hf ih
        have hX' := hX.fr fO_k hf
        refine w107_41 hC ?_
        rw [hX'.r12, hX'.cnt.2.2.2.2.1, hS.2, nI_1, nI_clamp (n := k) (by omega), (hX'.slp k hk).2.2.2]
        refine if_lt hk (by omega) (ix_k (by omega) (by omega) ?_)
        unfold likF at ih
        refine if_c (fun z => ?_) (fun z => ?_)
        · refine c109 (by omega) hX' hz (isC_s hk) (fun σ3 f3 => ⟨_, rfl, ?_⟩)
          have X3 := hX'.fr fRn_k f3
          have ih := ih σ3 (frO hf f3)
          refine if_b (fun z1 => ?_) (fun z1 => ?_)
          · rw [if_neg (by rw [z1]; decide)] at ih; exact ih
          · rw [if_pos z1, if_pos z] at ih
            rw [X3.r12, (X3.slp k hk).2.2.2]
            exact ix_k (by omega) (by omega) ih
        · have ih := ih σ' hf
          by_cases z1 : mayb R C (nI k) = true
          · rw [if_pos z1, if_neg z] at ih; exact ih
          · rw [if_neg z1] at ih; exact ih
      · intro σ' hf
        have hX' := hX.fr fO_k hf
        refine w107_41 hC ?_
        rw [hX'.r12, hX'.cnt.2.2.2.2.1, hS.2]
        exact if_nlt (Nat.le_refl _) (by omega) (c83 (by omega) hf q)
    refine if_b (fun z => if_b (fun _ => ?_) (fun z' => ?_)) (fun z => if_b (fun z' => ?_) (fun _ => ?_))
    · exact loop (-3, 0) (by rw [if_neg (by rw [z]; decide)])
    · rw [z] at z'; cases z'
    · rw [z] at z'; cases z'
    · exact loop (-2, 5) (by rw [if_pos z])
  · rw [if_neg hw] at q
    exact if_y rfl (q σ1 g1)
theorem c226 (hd : 4 ≤ d) (hX : mX σ R C) (q : Q (some (vi (eCode R))) σ) : CL L xs d 226 [vr 13 0] σ Q := by
  refine cl_at p226 (by omega) (w226_0 hC ?_)
  have hT := hX.1.cT
  refine dm_for (n := gN R 4) (fun k σ => g226_4 L xs (CL L xs (d - 1)) Q (fo (fun t a => a * 10 + R (181 + 1 + t)) 0 k) (nI k) σ) (fun _ σ1 => σ1 = σ) ?_ ?_ 0 _ (Nat.zero_le _) rfl
  · rintro k σ1 hk rfl ih
    refine w226_4 hC ?_
    have e : 182 + nI k = nI (181 + 1 + k) := by rw [show (182 : Int32) = nI 182 from rfl, nI_add]
    rw [e, hX.2.1, hT.2, nI_clamp (n := 181 + 1 + k) (by omega), nI_1, hX.2.1, Int32.mul_comm]
    exact if_lt hk (by omega) (ix_k (by omega) (by omega) (ih _ rfl))
  · rintro σ1 rfl
    refine w226_4 hC ?_
    rw [hX.2.1, hT.2]
    exact if_nlt (Nat.le_refl _) (by omega) q
theorem c227 (hd : 4 ≤ d) (hY : mY σ R C h) (q : Q (some (vi (a_why R h))) σ) : CL L xs d 227 [vr 13 0] σ Q := by
  refine cl_at p227 (by omega) (w227_0 hC ?_)
  rw [hY.2.1, hY.1.2.1]
  unfold a_why at q
  refine if_b (fun z => ?_) (fun z => ?_)
  · rw [if_pos z] at q; exact q
  rw [if_neg (by rw [z]; decide)] at q
  refine if_c (fun z => ?_) (fun z => ?_)
  · rw [if_pos z] at q; exact q
  · rw [if_neg z] at q; exact q
theorem c228 (hd : 8 ≤ d) {x : Int32} (hX : mX σ R C) (hz : R 181 ≠ 0) (hx : isC R x) (q : ∀ σ', fr gRn σ σ' → Q (some (vi (bI (mayb R C x)))) σ') : CL L xs d 228 [vr 13 0, vi x] σ Q := by
  refine cl_at p228 (by omega) (w228_0 hC ?_)
  obtain ⟨h1, h2, h3⟩ := ends_in hX.1 hz
  have c225 : ∀ {σ1 : M2} {Q' : Option dm_V → M2 → Prop}, mX σ1 R C → Q' (some (vi (R 181 - 1))) σ1 → CL L xs (d - 1) 225 [vr 13 0] σ1 Q' := fun X1 q1 => cl_at p225 (by omega) (w225_0 hC (by rw [X1.2.1]; exact q1))
  have K : ∀ {σ1 : M2}, fr gRn σ σ1 → mX σ1 R C := fun f => hX.fr (fun _ => ⟨rfl, rfl⟩) f
  refine if_c (fun z => ?_) (fun z => ?_)
  · refine c225 hX ⟨_, rfl, ?_⟩
    refine c210 (by omega) hX h2 h1 hx isC_2 (fun σ1 f1 _ _ => ⟨_, rfl, ?_⟩)
    refine c226 (by omega) (K f1) ⟨_, rfl, ?_⟩
    have q := q σ1 f1
    unfold mayb at q
    rw [decide_eq_true z, Bool.true_or, Bool.true_and] at q
    refine if_c (fun z => ?_) (fun z => ?_)
    · rw [decide_eq_true (show en2 R C (ePl R) x (-2) = eCode R from z)] at q; exact q
    · rw [decide_eq_false (show ¬ en2 R C (ePl R) x (-2) = eCode R from z)] at q; exact q
  · rcases id hx with hx' | ⟨s, hs, hx'⟩
    · exact absurd hx' z
    have hS := hX.1.cS.1
    have ex : x.toNatClampNeg = s := by rw [hx']; exact nI_clamp (by omega)
    refine c225 hX ⟨_, rfl, ?_⟩
    refine c212 (by omega) hX h2 h1 hx' hs (fun σ1 f1 => ⟨_, rfl, ?_⟩)
    unfold mayb fit at q
    rw [decide_eq_false z, ex, Bool.false_or] at q
    refine if_b (fun zz => ?_) (fun zz => ?_)
    · rw [show (stp R C (ePl R) s).isSome = false from zz] at q
      exact q σ1 f1
    rw [show (stp R C (ePl R) s).isSome = true from zz, Bool.true_and] at q
    refine c225 (K f1) ⟨_, rfl, ?_⟩
    refine c210 (by omega) (K f1) h2 h1 hx isC_2 (fun σ2 f2 _ _ => ⟨_, rfl, ?_⟩)
    have f2 := f1.trans f2
    refine c226 (by omega) (K f2) ⟨_, rfl, ?_⟩
    have q := q σ2 f2
    refine if_c (fun z => ?_) (fun z => ?_)
    · rw [decide_eq_true (show en2 R C (ePl R) x (-2) = eCode R from z)] at q; exact q
    · rw [decide_eq_false (show ¬ en2 R C (ePl R) x (-2) = eCode R from z)] at q; exact q
theorem o229 (hd : 9 ≤ d) (hY : mY σ R C h) (q : ∀ σ', mG σ σ' (a_which R C h).2 → Q (some (vi (a_which R C h).1)) σ') : CL L xs d 229 [vr 13 0] σ Q := by
  refine cl_at p229 (by omega) (w229_0 hC ?_)
  refine c150 (by omega) (fun σ1 g1 => ⟨rfl, ?_⟩)
  have Y1 := mY_o hY g1.1
  unfold a_which at q
  have hS := hY.1.1.cS
  refine c227 (by omega) Y1 ⟨_, rfl, ?_⟩
  refine if_c (fun hw => ?_) (fun hw => ?_)
  · rw [if_pos hw] at q
    obtain ⟨-, hz⟩ := why_z hw
    refine dm_ff (n := gN R 7) (fun s a => if mayb R C (nI s) = true then a ||| bt s else a) (fun k a σ => g229_23 L xs (CL L xs (d - 1)) Q a (nI k) σ) (fun σ' => mG σ σ' 0) ?_ _ 0 0 σ1 (Nat.zero_add _) g1 ?_
    · intro k a σ' hk hf ih
      have Y' := mY_o hY hf.1
      refine w229_23 hC ?_
      rw [Y'.1.2.1, hS.2, nI_1]
      refine if_lt hk (by omega) ?_
      refine c228 (by omega) Y'.1 hz (isC_s hk) (fun σ3 f3 => ⟨_, rfl, ?_⟩)
      have ih := ih σ3 (hf.rn f3)
      refine if_b (fun z => ?_) (fun z => ?_)
      · rw [if_neg (by rw [z]; decide)] at ih; rw [Int32.or_zero]; exact ih
      · rw [if_pos z] at ih; exact ih
    · intro σ' hf
      have Y' := mY_o hY hf.1
      refine w229_23 hC ?_
      rw [Y'.1.2.1, hS.2]
      exact if_nlt (Nat.le_refl _) (by omega) (q σ' hf)
  · rw [if_neg hw] at q
    exact c151 (by omega) g1 q
theorem o230 (hd : 9 ≤ d) (hY : mY σ R C h) (q : ∀ σ', mG σ σ' (a_whichN R C h).2 → Q (some (vi (a_whichN R C h).1)) σ') : CL L xs d 230 [vr 13 0] σ Q := by
  refine cl_at p230 (by omega) (w230_0 hC ?_)
  refine c150 (by omega) (fun σ1 g1 => ⟨rfl, ?_⟩)
  have Y1 := mY_o hY g1.1
  unfold a_whichN at q
  refine c227 (by omega) Y1 ⟨_, rfl, ?_⟩
  refine if_c (fun hw => ?_) (fun hw => ?_)
  · rw [if_pos hw] at q
    obtain ⟨-, hz⟩ := why_z hw
    refine c228 (by omega) Y1.1 hz isC_2 (fun σ3 f3 => ⟨_, rfl, ?_⟩)
    have q := q σ3 (g1.rn f3)
    exact bI_pass rfl q
  · rw [if_neg hw] at q
    exact c151 (by omega) g1 q
theorem o231 (hd : 9 ≤ d) (hY : mY σ R C h) (q : ∀ σ', mG σ σ' (a_lik R C h).2 → Q (some (vi (a_lik R C h).1)) σ') : CL L xs d 231 [vr 13 0] σ Q := by
  refine cl_at p231 (by omega) (w231_0 hC ?_)
  refine c150 (by omega) (fun σ1 g1 => ⟨rfl, ?_⟩)
  have Y1 := mY_o hY g1.1
  unfold a_lik at q
  have hS := hY.1.1.cS
  refine c227 (by omega) Y1 ⟨_, rfl, ?_⟩
  refine if_c (fun hw => ?_) (fun hw => ?_)
  · rw [if_pos hw] at q
    obtain ⟨-, hz⟩ := why_z hw
    refine c228 (by omega) Y1.1 hz isC_2 (fun σ3 f3 => ⟨_, rfl, ?_⟩)
    have loop : ∀ a0 : Int32 × Int32, a0 = (if mayb R C (-2) = true then (-2, 5) else (-3, 0)) → g231_51 L xs (CL L xs (d - 1)) Q a0.1 a0.2 (nI 0) σ3 := by
      rintro a0 rfl
      refine dm_ff (n := gN R 7) (likF R C) (fun k a σ => g231_51 L xs (CL L xs (d - 1)) Q a.1 a.2 (nI k) σ) (fun σ' => mG σ σ' 0) ?_ _ 0 _ σ3 (Nat.zero_add _) (g1.rn f3) ?_
      · intro k a σ' hk hf ih
        have Y' := mY_o hY hf.1
        refine w231_51 hC ?_
        rw [Y'.1.2.1, hS.2, nI_1]
        refine if_lt hk (by omega) ?_
        unfold likF at ih
        refine c228 (by omega) Y'.1 hz (isC_s hk) (fun σ4 f4 => ⟨_, rfl, ?_⟩)
        have g4 := hf.rn f4
        have X4 := (mY_o hY g4.1).1
        have ih := ih σ4 g4
        refine if_b (fun z1 => ?_) (fun z1 => ?_)
        · rw [if_neg (by rw [z1]; decide)] at ih; exact ih
        · rw [if_pos z1] at ih
          refine c196 (w := 3) (by omega) rfl rfl X4 (by omega) (by omega) ⟨_, rfl, ?_⟩
          refine if_c (fun z => ?_) (fun z => ?_)
          · rw [if_pos z] at ih
            exact c196 (w := 3) (by omega) rfl rfl X4 (by omega) (by omega) ⟨_, rfl, ih⟩
          · rw [if_neg z] at ih; exact ih
      · intro σ' hf
        have Y' := mY_o hY hf.1
        refine w231_51 hC ?_
        rw [Y'.1.2.1, hS.2]
        exact if_nlt (Nat.le_refl _) (by omega) (q σ' hf)
    refine if_b (fun z => w231_35 hC (if_n (by decide) ?_)) (fun z => w231_35 hC (if_y rfl ?_))
    · exact loop (-3, 0) (by rw [if_neg (by rw [z]; decide)])
    · exact loop (-2, 5) (by rw [if_pos z])
  · rw [if_neg hw] at q
    exact c151 (by omega) g1 q
end OP4
