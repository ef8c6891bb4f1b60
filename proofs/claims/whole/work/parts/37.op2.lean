/-! CALLS: fits, harmless, good, extreme, cancels, cancel, worstTwo -/
def ff {α : Type} (f : Nat → α → α) : Nat → Nat → α → α
  | 0, _, a => a
  | m + 1, k, a => ff f m (k + 1) (f k a)
def fx {α β : Type} (f : Nat → α → α ⊕ β) : Nat → Nat → α → α ⊕ β
  | 0, _, a => .inl a
  | m + 1, k, a => match f k a with
    | .inl a' => fx f m (k + 1) a'
    | .inr b => .inr b
theorem dm_ff {α : Type} {n : Nat} (f : Nat → α → α) (G : Nat → α → M2 → Prop) (I : M2 → Prop) (hs : ∀ k a σ, k < n → I σ → (∀ σ', I σ' → G (k + 1) (f k a) σ') → G k a σ) : ∀ m k a σ, k + m = n → I σ → (∀ σ', I σ' → G n (ff f m k a) σ') → G k a σ := by
  intro m
  induction m with
  | zero => intro k a σ h hi he; have : k = n := h; subst this; exact he σ hi
  | succ m ih => intro k a σ h hi he; exact hs k a σ (by omega) hi (fun σ' h' => ih (k + 1) _ σ' (by omega) h' he)
theorem dm_fx {α β : Type} {n : Nat} (f : Nat → α → α ⊕ β) (G : Nat → α → M2 → Prop) (Z : β → M2 → Prop) (I : M2 → Prop) (J : Nat → α → Prop) (hJ : ∀ k a a', k < n → J k a → f k a = .inl a' → J (k + 1) a')
    (hs : ∀ k a σ, k < n → J k a → I σ → (∀ a' σ', f k a = .inl a' → I σ' → G (k + 1) a' σ') → (∀ b σ', f k a = .inr b → I σ' → Z b σ') → G k a σ) : ∀ m k a σ, k + m = n → J k a → I σ → (∀ a' σ', fx f m k a = .inl a' → J n a' → I σ' → G n a' σ') → (∀ b σ', fx f m k a = .inr b → I σ' → Z b σ') → G k a σ := by
  intro m
  induction m with
  | zero => intro k a σ h hj hi he hz; have : k = n := h; subst this; exact he a σ rfl hj hi
  | succ m ih =>
    intro k a σ h hj hi he hz
    refine hs k a σ (by omega) hj hi (fun a' σ' e h' => ?_) (fun b σ' e h' => ?_)
    · refine ih (k + 1) a' σ' (by omega) (hJ k a a' (by omega) hj e) h' ?_ ?_
      · intro a'' σ'' e2; exact he a'' σ'' (by unfold fx; rw [e]; exact e2)
      · intro b σ'' e2; exact hz b σ'' (by unfold fx; rw [e]; exact e2)
    · exact hz b σ' (by unfold fx; rw [e]) h'
theorem ff_id {α : Type} {f : Nat → α → α} (h : ∀ k a, f k a = a) : ∀ m k a, ff f m k a = a
  | 0, _, _ => rfl
  | m + 1, k, a => by
    unfold ff
    rw [h, ff_id h]
theorem fx_J {α β : Type} {n : Nat} {f : Nat → α → α ⊕ β} {J : Nat → α → Prop} (hJ : ∀ k a a', k < n → J k a → f k a = .inl a' → J (k + 1) a') : ∀ m k a a', k + m = n → J k a → fx f m k a = .inl a' → J n a'
  | 0, k, a, a', h, hj, e => by cases e; have : k = n := h; subst this; exact hj
  | m + 1, k, a, a', h, hj, e => by
    unfold fx at e
    split at e
    · exact fx_J hJ m (k + 1) _ a' (by omega) (hJ k a _ (by omega) hj ‹_›) e
    · cases e
def bt (k : Nat) : Int32 := 1 <<< (nI k &&& 31)
def fit (R : Nat → Int32) (C : Nat → Bool) (P : Pl) (s : Nat) : Bool := (stp R C P s).isSome
def s_fits (R : Nat → Int32) (C : Nat → Bool) (s : Nat) : Int32 := ff (fun p a => if fit R C (plR R p) s = true then a ||| bt p else a) (gN R 6) 0 0
def a_fits (R : Nat → Int32) (C : Nat → Bool) (s : Int32) : Int32 × Int32 := if inn s (R 7) = true then (s_fits R C s.toNatClampNeg, 0) else no1
def s_upF (R : Nat → Int32) (C : Nat → Bool) (P : Pl) (lim : Int32) : Nat → Int32 → Int32 := fun s a => if fit R C P s = true then (if lim < hm2 R C P (nI s) (-2) then a else a ||| bt s) else a
def s_upto (R : Nat → Int32) (C : Nat → Bool) (P : Pl) (lim : Int32) : Int32 := ff (s_upF R C P lim) (gN R 7) 0 0
def a_hless (R : Nat → Int32) (C : Nat → Bool) (p : Int32) : Int32 × Int32 := if inn p (R 6) = true then (s_upto R C (plR R p.toNatClampNeg) (hm2 R C (plR R p.toNatClampNeg) (-2) (-2) + 0), 0) else no1
def a_good (R : Nat → Int32) (C : Nat → Bool) (p : Int32) : Int32 × Int32 := if inn p (R 6) = true then (s_upto R C (plR R p.toNatClampNeg) (hm2 R C (plR R p.toNatClampNeg) (-2) (-2) + (-1)), 0) else no1
def s_exF (R : Nat → Int32) (C : Nat → Bool) (P : Pl) (w : Int32) : Nat → Int32 × Int32 → Int32 × Int32 := fun s a => if fit R C P s = true then (if a.1 = -2 then (nI s, hm2 R C P (nI s) (-2)) else if w = 0 then (if hm2 R C P (nI s) (-2) < a.2 then (nI s, hm2 R C P (nI s) (-2)) else a) else (if a.2 < hm2 R C P (nI s) (-2) then (nI s, hm2 R C P (nI s) (-2)) else a)) else a
def a_extr (R : Nat → Int32) (C : Nat → Bool) (p w : Int32) : Int32 × Int32 := if inn p (R 6) = true then ((ff (s_exF R C (plR R p.toNatClampNeg) w) (gN R 7) 0 (-2, 0)).1, 0) else no1
def chg (R : Nat → Int32) (C : Nat → Bool) (P : Pl) (s : Nat) : Bool := fit R C P s && !(decide (en2 R C P (nI s) (-2) = en2 R C P (-2) (-2)))
def canc (R : Nat → Int32) (C : Nat → Bool) (P : Pl) (s o : Nat) : Bool := chg R C P s && (chg R C P o && decide (en2 R C P (nI s) (nI o) = en2 R C P (-2) (-2)))
def cnI (R : Nat → Int32) (C : Nat → Bool) (P : Pl) (i : Int32) (s : Nat) : Nat → Nat → Nat ⊕ Int32 := fun o n => if canc R C P s o = true then (if nI n = i then .inr (10 * nI s + nI o) else .inl (n + 1)) else .inl n
def cnO (R : Nat → Int32) (C : Nat → Bool) (P : Pl) (i : Int32) : Nat → Nat → Nat ⊕ Int32 := fun s n => fx (cnI R C P i s) (gN R 7 - (s + 1)) (s + 1) n
def k_canc (R : Nat → Int32) (C : Nat → Bool) (P : Pl) (i : Int32) : Nat ⊕ Int32 := fx (cnO R C P i) (gN R 7) 0 0
def a_cancels (R : Nat → Int32) (C : Nat → Bool) (p : Int32) : Int32 × Int32 := if inn p (R 6) = true then (match k_canc R C (plR R p.toNatClampNeg) (-1) with
  | .inl n => (nI n, 0)
  | .inr _ => no1) else no1
def a_cancel (R : Nat → Int32) (C : Nat → Bool) (p i : Int32) : Int32 × Int32 := if inn p (R 6) = true then (match k_canc R C (plR R p.toNatClampNeg) i with
  | .inl _ => no1
  | .inr v => (v, 0)) else no1
def w2I (R : Nat → Int32) (C : Nat → Bool) (P : Pl) (s : Nat) : Nat → Int32 → Int32 := fun o a => if fit R C P o = true then (if a < hm2 R C P (nI s) (nI o) then hm2 R C P (nI s) (nI o) else a) else a
def w2O (R : Nat → Int32) (C : Nat → Bool) (P : Pl) : Nat → Int32 → Int32 := fun s a => if fit R C P s = true then ff (w2I R C P s) (gN R 7) 0 a else a
def a_worst (R : Nat → Int32) (C : Nat → Bool) (p : Int32) : Int32 × Int32 := if inn p (R 6) = true then (if ff (w2O R C (plR R p.toNatClampNeg)) (gN R 7) 0 (-1) < 0 then hm2 R C (plR R p.toNatClampNeg) (-2) (-2) else ff (w2O R C (plR R p.toNatClampNeg)) (gN R 7) 0 (-1), 0) else no1
theorem fo_b {f : Nat → Int32 → Int32} {n : Nat} (hf : ∀ k j, k < n → ∃ i, i ≤ j + 99 ∧ f k (nI j) = nI i) {a : Nat} : ∀ m, m ≤ n → ∃ j, j ≤ a + 99 * m ∧ fo f (nI a) m = nI j
  | 0, _ => ⟨a, by omega, rfl⟩
  | m + 1, h => by
    obtain ⟨j, hj, e⟩ := fo_b (a := a) hf m (by omega)
    obtain ⟨i, hi, e2⟩ := hf m j (by omega)
    exact ⟨i, by omega, by show f m (fo f (nI a) m) = _; rw [e, e2]⟩
theorem hm_b {R : Nat → Int32} (hR : okR R) (p : Pl) : ∃ j, j < 800 ∧ hm R p = nI j := by
  have hH := hR.cH.1
  have h1 : ∃ a, a ≤ 99 ∧ hmB R (run R p 12).2 = nI a := by
    cases (run R p 12).2 with
    | none => exact ⟨0, by omega, rfl⟩
    | some k => have := gn_in hR.2.1.2.1; exact ⟨gN R 1, by omega, this.2⟩
  obtain ⟨a, ha, e⟩ := h1
  obtain ⟨j, hj, e2⟩ := fo_b (f := hmH R (run R p 12).1) (n := gN R 10) (a := a) (by
    intro k j hk
    have q := gn_in (hR.2.2.2.1 k hk).2
    unfold hmH
    by_cases c : soo (run R p 12).1 (gN R (16 + 4 * k)) (R (16 + 4 * k + 1)) (R (16 + 4 * k + 2)) = true
    · rw [if_pos c, q.2, nI_add]; exact ⟨_, by omega, rfl⟩
    · rw [if_neg c]; exact ⟨j, by omega, rfl⟩) (gN R 10) (Nat.le_refl _)
  refine ⟨j, by omega, ?_⟩
  unfold hm hmm
  rw [e, e2]
theorem hm2_b {R : Nat → Int32} (hR : okR R) (C : Nat → Bool) (p : Pl) (x y : Int32) : ∃ j, j < 800 ∧ hm2 R C p x y = nI j := hm_b hR _
section OP2
variable {L : Nat} {xs : Nat → Int32} {d : Nat} {Q : Option dm_V → M2 → Prop} {σ : M2} {μ : Nat} {R : Nat → Int32} {C : Nat → Bool} {h : Bool}
theorem vS_O {σ σ' : M2} {o : Nat} {p : Pl} (ho : o < 8) (hf : fr fO σ σ') (hv : vS σ.1 o p) : vS σ'.1 o p := vS_fr hf (fun k => ⟨by simp [fO]; omega, by simp [fO]; omega, by simp [fO]; omega⟩) hv
theorem frO {σ σ1 σ2 : M2} (h1 : fr fO σ σ1) (h2 : fr fRn σ1 σ2) : fr fO σ σ2 := h1.trans (h2.weak fRn_O)
theorem o95 (hd : 9 ≤ d) {x : Int32} (hX : cX σ μ R C) (q : ∀ σ', cG σ σ' (a_fits R C x).2 → Q (some (vi (a_fits R C x).1)) σ') : CL L xs d 95 [vr 12 0, vi x] σ Q := by
  refine cl_at p95 (by omega) (w95_0 hC ?_)
  refine c85 (s := 5) (by omega) rfl (by omega) hX hX.cnt.2.2.2.2.1 ⟨_, rfl, ?_⟩
  unfold a_fits at q
  refine if_b (fun z => ?_) (fun z => ?_)
  · rw [if_neg (by rw [z]; decide)] at q
    exact c81 (by omega) fr.id q
  rw [if_pos z] at q
  obtain ⟨hs, es⟩ := inn_k hX.ok.cS.2 (by have := hX.ok.cS.1; omega) z
  have hP := hX.ok.cP
  refine dm_ff (n := gN R 6) (fun p a => if fit R C (plR R p) x.toNatClampNeg = true then a ||| bt p else a) (fun k a σ => g95_19 L xs (CL L xs (d - 1)) Q x a (nI k) σ) (fun σ' => fr fO σ σ') ?_ _ 0 0 σ (Nat.zero_add _) fr.id ?_
  · intro k a σ' hk hf ih
    have hX' := hX.fr fO_k hf
    refine w95_19 hC ?_
    rw [hX'.r12, hX'.cnt.2.2.2.1, hP.2, nI_clamp (n := k) (by omega), nI_1]
    refine if_lt hk (by omega) (ix_k (by omega) (by omega) ?_)
    refine c53 (by omega) es hX' (hX'.pln k hk) ((hX.ok.pl hk).up (by omega)) hs ⟨_, rfl, ?_⟩
    have ih := ih σ' hf
    refine if_b (fun z => ?_) (fun z => ?_)
    · rw [if_neg (by unfold fit; rw [z]; decide)] at ih; exact ih
    · rw [if_pos (by unfold fit; exact z)] at ih; exact ih
  · intro σ' hf
    have hX' := hX.fr fO_k hf
    refine w95_19 hC ?_
    rw [hX'.r12, hX'.cnt.2.2.2.1, hP.2]
    exact if_nlt (Nat.le_refl _) (by omega) (c83 (by omega) hf q)
theorem o217 (hd : 9 ≤ d) {x : Int32} (hY : mY σ R C h) (q : ∀ σ', mG σ σ' (a_fits R C x).2 → Q (some (vi (a_fits R C x).1)) σ') : CL L xs d 217 [vr 13 0, vi x] σ Q := by
  refine cl_at p217 (by omega) (w217_0 hC ?_)
  refine c150 (by omega) (fun σ1 g1 => ⟨rfl, ?_⟩)
  have Y1 := mY_o hY g1.1
  unfold a_fits at q
  refine c191 (by omega) Y1 ⟨_, rfl, ?_⟩
  refine if_b (fun z => ?_) (fun z => ?_)
  · rw [if_neg (by rw [z]; decide)] at q
    exact c151 (by omega) g1 q
  rw [if_pos z] at q
  obtain ⟨hs, es⟩ := inn_k hY.1.1.cS.2 (by have := hY.1.1.cS.1; omega) z
  have hP := hY.1.1.cP
  refine dm_ff (n := gN R 6) (fun p a => if fit R C (plR R p) x.toNatClampNeg = true then a ||| bt p else a) (fun k a σ => g217_22 L xs (CL L xs (d - 1)) Q x a (nI k) σ) (fun σ' => mG σ σ' 0) ?_ _ 0 0 σ1 (Nat.zero_add _) g1 ?_
  · intro k a σ' hk hf ih
    have Y' := mY_o hY hf.1
    refine w217_22 hC ?_
    rw [Y'.1.2.1, hP.2, nI_1]
    refine if_lt hk (by omega) ?_
    refine c212 (by omega) Y'.1 rfl hk es hs (fun σ2 f2 => ⟨_, rfl, ?_⟩)
    have ih := ih σ2 (hf.rn f2)
    refine if_b (fun z => ?_) (fun z => ?_)
    · rw [if_neg (by unfold fit; rw [z]; decide)] at ih; rw [Int32.or_zero]; exact ih
    · rw [if_pos (by unfold fit; exact z)] at ih; exact ih
  · intro σ' hf
    have Y' := mY_o hY hf.1
    refine w217_22 hC ?_
    rw [Y'.1.2.1, hP.2]
    exact if_nlt (Nat.le_refl _) (by omega) (q σ' hf)
theorem c98 (hd : 9 ≤ d) {o : Nat} {P : Pl} {x2 : Int32} (hX : cX σ μ R C) (ho : o < 8) (hv : vS σ.1 o P) (hp : okP R 8 P) (q : ∀ σ', fr fO σ σ' → Q (some (vi (s_upto R C P (hm2 R C P (-2) (-2) + x2)))) σ') : CL L xs d 98 [vr 12 0, vr 10 o, vi x2] σ Q := by
  refine cl_at p98 (by omega) (w98_0 hC ?_)
  have hS := hX.ok.cS
  refine c59 (by omega) hX hv (by omega) hp isC_2 isC_2 (fun σ1 f1 => ⟨_, rfl, ?_⟩)
  refine dm_ff (n := gN R 7) (s_upF R C P (hm2 R C P (-2) (-2) + x2)) (fun k a σ => g98_19 L xs (CL L xs (d - 1)) Q o x2 (hm2 R C P (-2) (-2)) a (nI k) σ) (fun σ' => fr fO σ σ') ?_ _ 0 0 σ1 (Nat.zero_add _) (f1.weak fRn_O) ?_
  · intro k a σ' hk hf ih
    have hX' := hX.fr fO_k hf
    have hv' := vS_O ho hf hv
    refine w98_19 hC ?_
    rw [hX'.r12, hX'.cnt.2.2.2.2.1, hS.2, nI_1]
    refine if_lt hk (by omega) ?_
    refine c53 (by omega) rfl hX' hv' (hp.up (by omega)) hk ⟨_, rfl, ?_⟩
    unfold s_upF at ih
    refine if_b (fun z => ?_) (fun z => ?_)
    · rw [if_neg (by unfold fit; rw [z]; decide)] at ih; exact ih σ' hf
    · rw [if_pos (by unfold fit; exact z)] at ih
      refine c59 (by omega) hX' hv' (by omega) hp (isC_s hk) isC_2 (fun σ2 f2 => ⟨_, rfl, ?_⟩)
      have ih := ih σ2 (frO hf f2)
      refine if_c (fun z => ?_) (fun z => ?_)
      · rw [if_pos z] at ih; exact ih
      · rw [if_neg z] at ih; exact ih
  · intro σ' hf
    have hX' := hX.fr fO_k hf
    refine w98_19 hC ?_
    rw [hX'.r12, hX'.cnt.2.2.2.2.1, hS.2]
    exact if_nlt (Nat.le_refl _) (by omega) (q σ' hf)
/-- a plan of the class by its number -/
theorem pl_in (hX : cX σ μ R C) {p : Int32} (z : inn p (R 6) = true) : p.toNatClampNeg < gN R 6 ∧ p = nI p.toNatClampNeg ∧ p.toNatClampNeg < 4 ∧ 4 * μ + p.toNatClampNeg < 8 ∧ vS σ.1 (4 * μ + p.toNatClampNeg) (plR R p.toNatClampNeg) ∧ okP R 8 (plR R p.toNatClampNeg) := by
  have hP := hX.ok.cP
  obtain ⟨hp, ep⟩ := inn_k hP.2 (by omega) z
  have := hX.mu
  exact ⟨hp, ep, by omega, by omega, hX.pln _ hp, (hX.ok.pl hp).up (by omega)⟩
theorem pl_im (hR : okR R) {p : Int32} (z : inn p (R 6) = true) : p.toNatClampNeg < gN R 6 ∧ p = nI p.toNatClampNeg ∧ p.toNatClampNeg < 4 := by
  have hP := hR.cP
  obtain ⟨hp, ep⟩ := inn_k hP.2 (by omega) z
  exact ⟨hp, ep, by omega⟩
theorem o96 (hd : 10 ≤ d) {p : Int32} (hX : cX σ μ R C) (q : ∀ σ', cG σ σ' (a_hless R C p).2 → Q (some (vi (a_hless R C p).1)) σ') : CL L xs d 96 [vr 12 0, vi p] σ Q := by
  refine cl_at p96 (by omega) (w96_0 hC ?_)
  refine c85 (s := 4) (by omega) rfl (by omega) hX hX.cnt.2.2.2.1 ⟨_, rfl, ?_⟩
  unfold a_hless at q
  refine if_b (fun z => ?_) (fun z => ?_)
  · rw [if_neg (by rw [z]; decide)] at q
    exact c81 (by omega) fr.id q
  rw [if_pos z] at q
  obtain ⟨hp, ep, hp4, ho, hv, hk⟩ := pl_in hX z
  refine ix_x hp4 ep (by omega) ?_
  rw [hX.r12]
  exact c98 (by omega) hX ho hv hk (fun σ1 f1 => ⟨_, rfl, c83 (by omega) f1 q⟩)
theorem o97 (hd : 10 ≤ d) {p : Int32} (hX : cX σ μ R C) (q : ∀ σ', cG σ σ' (a_good R C p).2 → Q (some (vi (a_good R C p).1)) σ') : CL L xs d 97 [vr 12 0, vi p] σ Q := by
  refine cl_at p97 (by omega) (w97_0 hC ?_)
  refine c85 (s := 4) (by omega) rfl (by omega) hX hX.cnt.2.2.2.1 ⟨_, rfl, ?_⟩
  unfold a_good at q
  refine if_b (fun z => ?_) (fun z => ?_)
  · rw [if_neg (by rw [z]; decide)] at q
    exact c81 (by omega) fr.id q
  rw [if_pos z] at q
  obtain ⟨hp, ep, hp4, ho, hv, hk⟩ := pl_in hX z
  refine ix_x hp4 ep (by omega) ?_
  rw [hX.r12]
  exact c98 (by omega) hX ho hv hk (fun σ1 f1 => ⟨_, rfl, c83 (by omega) f1 q⟩)
theorem o218 (hd : 9 ≤ d) {p : Int32} (hY : mY σ R C h) (q : ∀ σ', mG σ σ' (a_hless R C p).2 → Q (some (vi (a_hless R C p).1)) σ') : CL L xs d 218 [vr 13 0, vi p] σ Q := by
  refine cl_at p218 (by omega) (w218_0 hC ?_)
  refine c150 (by omega) (fun σ1 g1 => ⟨rfl, ?_⟩)
  have Y1 := mY_o hY g1.1
  unfold a_hless at q
  refine c190 (by omega) Y1 ⟨_, rfl, ?_⟩
  refine if_b (fun z => ?_) (fun z => ?_)
  · rw [if_neg (by rw [z]; decide)] at q
    exact c151 (by omega) g1 q
  rw [if_pos z, Int32.add_zero] at q
  obtain ⟨hp, ep, hp4⟩ := pl_im hY.1.1 z
  have hS := hY.1.1.cS
  refine c209 (by omega) Y1.1 ep hp isC_2 isC_2 (fun σ2 f2 => ⟨_, rfl, ?_⟩)
  refine dm_ff (n := gN R 7) (s_upF R C (plR R p.toNatClampNeg) (hm2 R C (plR R p.toNatClampNeg) (-2) (-2))) (fun k a σ => g218_33 L xs (CL L xs (d - 1)) Q p (hm2 R C (plR R p.toNatClampNeg) (-2) (-2)) a (nI k) σ) (fun σ' => mG σ σ' 0) ?_ _ 0 0 σ2 (Nat.zero_add _) (g1.rn f2) ?_
  · intro k a σ' hk hf ih
    have Y' := mY_o hY hf.1
    refine w218_33 hC ?_
    rw [Y'.1.2.1, hS.2, nI_1]
    refine if_lt hk (by omega) ?_
    unfold s_upF at ih
    refine c212 (by omega) Y'.1 ep hp rfl hk (fun σ3 f3 => ⟨_, rfl, ?_⟩)
    have g3 := hf.rn f3
    refine if_b (fun z => ?_) (fun z => ?_)
    · rw [if_neg (by unfold fit; rw [z]; decide)] at ih; rw [Int32.or_zero]; exact ih σ3 g3
    · rw [if_pos (by unfold fit; exact z)] at ih
      refine c209 (by omega) (mY_o hY g3.1).1 ep hp (isC_s hk) isC_2 (fun σ4 f4 => ⟨_, rfl, ?_⟩)
      have ih := ih σ4 (g3.rn f4)
      refine if_c (fun z => ?_) (fun z => ?_)
      · rw [if_pos z] at ih; rw [Int32.or_zero]; exact ih
      · rw [if_neg z] at ih; exact ih
  · intro σ' hf
    have Y' := mY_o hY hf.1
    refine w218_33 hC ?_
    rw [Y'.1.2.1, hS.2]
    exact if_nlt (Nat.le_refl _) (by omega) (q σ' hf)
theorem o219 (hd : 9 ≤ d) {p : Int32} (hY : mY σ R C h) (q : ∀ σ', mG σ σ' (a_good R C p).2 → Q (some (vi (a_good R C p).1)) σ') : CL L xs d 219 [vr 13 0, vi p] σ Q := by
  refine cl_at p219 (by omega) (w219_0 hC ?_)
  refine c150 (by omega) (fun σ1 g1 => ⟨rfl, ?_⟩)
  have Y1 := mY_o hY g1.1
  unfold a_good at q
  refine c190 (by omega) Y1 ⟨_, rfl, ?_⟩
  refine if_b (fun z => ?_) (fun z => ?_)
  · rw [if_neg (by rw [z]; decide)] at q
    exact c151 (by omega) g1 q
  rw [if_pos z] at q
  obtain ⟨hp, ep, hp4⟩ := pl_im hY.1.1 z
  have hS := hY.1.1.cS
  obtain ⟨j, hj, ej⟩ := hm2_b hY.1.1 C (plR R p.toNatClampNeg) (-2) (-2)
  refine c209 (by omega) Y1.1 ep hp isC_2 isC_2 (fun σ2 f2 => ⟨_, rfl, ?_⟩)
  refine dm_ff (n := gN R 7) (s_upF R C (plR R p.toNatClampNeg) (hm2 R C (plR R p.toNatClampNeg) (-2) (-2) + (-1))) (fun k a σ => g219_33 L xs (CL L xs (d - 1)) Q p (hm2 R C (plR R p.toNatClampNeg) (-2) (-2)) a (nI k) σ) (fun σ' => mG σ σ' 0) ?_ _ 0 0 σ2 (Nat.zero_add _) (g1.rn f2) ?_
  · intro k a σ' hk hf ih
    have Y' := mY_o hY hf.1
    refine w219_33 hC ?_
    rw [Y'.1.2.1, hS.2, nI_1]
    refine if_lt hk (by omega) ?_
    unfold s_upF at ih
    refine c212 (by omega) Y'.1 ep hp rfl hk (fun σ3 f3 => ⟨_, rfl, ?_⟩)
    have g3 := hf.rn f3
    refine if_b (fun z => ?_) (fun z => ?_)
    · rw [if_neg (by unfold fit; rw [z]; decide)] at ih; rw [Int32.or_zero]; exact ih σ3 g3
    · rw [if_pos (by unfold fit; exact z)] at ih
      refine c209 (by omega) (mY_o hY g3.1).1 ep hp (isC_s hk) isC_2 (fun σ4 f4 => ⟨_, rfl, ?_⟩)
      have ih := ih σ4 (g3.rn f4)
      have key : hm2 R C (plR R p.toNatClampNeg) (-2) (-2) + (-1) < hm2 R C (plR R p.toNatClampNeg) (nI k) (-2) ↔ ¬ hm2 R C (plR R p.toNatClampNeg) (nI k) (-2) < hm2 R C (plR R p.toNatClampNeg) (-2) (-2) := by
        rw [ej, ← s1_lt (by omega)]
        have : nI j + -1 = nI j - 1 := by rw [Int32.sub_eq_add_neg]
        rw [this]
      refine if_c (fun z => ?_) (fun z => ?_)
      · rw [if_neg (fun e => (key.mp e) z)] at ih; exact ih
      · rw [if_pos (key.mpr z)] at ih; rw [Int32.or_zero]; exact ih
  · intro σ' hf
    have Y' := mY_o hY hf.1
    refine w219_33 hC ?_
    rw [Y'.1.2.1, hS.2]
    exact if_nlt (Nat.le_refl _) (by omega) (q σ' hf)
theorem o99 (hd : 10 ≤ d) {p w : Int32} (hX : cX σ μ R C) (q : ∀ σ', cG σ σ' (a_extr R C p w).2 → Q (some (vi (a_extr R C p w).1)) σ') : CL L xs d 99 [vr 12 0, vi p, vi w] σ Q := by
  refine cl_at p99 (by omega) (w99_0 hC ?_)
  refine c85 (s := 4) (by omega) rfl (by omega) hX hX.cnt.2.2.2.1 ⟨_, rfl, ?_⟩
  unfold a_extr at q
  refine if_b (fun z => ?_) (fun z => ?_)
  · rw [if_neg (by rw [z]; decide)] at q
    exact c81 (by omega) fr.id q
  rw [if_pos z] at q
  obtain ⟨hp, ep, hp4, ho, hv, hk8⟩ := pl_in hX z
  refine ix_x hp4 ep (by omega) ?_
  rw [hX.r12]
  have hS := hX.ok.cS
  refine dm_ff (n := gN R 7) (s_exF R C (plR R p.toNatClampNeg) w) (fun k a σ => g99_35 L xs (CL L xs (d - 1)) Q w (4 * μ + p.toNatClampNeg) a.1 a.2 (nI k) σ) (fun σ' => fr fO σ σ') ?_ _ 0 (-2, 0) σ (Nat.zero_add _) fr.id ?_
  · intro k a σ' hk hf ih
    have hX' := hX.fr fO_k hf
    have hv' := vS_O ho hf hv
    refine w99_35 hC ?_
    rw [hX'.r12, hX'.cnt.2.2.2.2.1, hS.2, nI_1]
    refine if_lt hk (by omega) ?_
    refine c53 (by omega) rfl hX' hv' (hk8.up (by omega)) hk ⟨_, rfl, ?_⟩
    unfold s_exF at ih
    refine if_b (fun z => ?_) (fun z => ?_)
    · rw [if_neg (by unfold fit; rw [z]; decide)] at ih; exact ih σ' hf
    · rw [if_pos (by unfold fit; exact z)] at ih
      refine c59 (by omega) hX' hv' (by omega) hk8 (isC_s hk) isC_2 (fun σ2 f2 => ⟨_, rfl, ?_⟩)
      have ih := ih σ2 (frO hf f2)
      refine if_c (fun z => ?_) (fun z => ?_)
      · rw [if_pos z] at ih; exact ih
      rw [if_neg z] at ih
      refine if_c (fun z => ?_) (fun z => ?_)
      · rw [if_pos z] at ih
        refine if_c (fun z => ?_) (fun z => ?_)
        · rw [if_pos z] at ih; exact ih
        · rw [if_neg z] at ih; exact ih
      · rw [if_neg z] at ih
        refine if_c (fun z => ?_) (fun z => ?_)
        · rw [if_pos z] at ih; exact ih
        · rw [if_neg z] at ih; exact ih
  · intro σ' hf
    have hX' := hX.fr fO_k hf
    refine w99_35 hC ?_
    rw [hX'.r12, hX'.cnt.2.2.2.2.1, hS.2]
    exact if_nlt (Nat.le_refl _) (by omega) (c83 (by omega) hf q)
theorem o220 (hd : 9 ≤ d) {p w : Int32} (hY : mY σ R C h) (q : ∀ σ', mG σ σ' (a_extr R C p w).2 → Q (some (vi (a_extr R C p w).1)) σ') : CL L xs d 220 [vr 13 0, vi p, vi w] σ Q := by
  refine cl_at p220 (by omega) (w220_0 hC ?_)
  refine c150 (by omega) (fun σ1 g1 => ⟨rfl, ?_⟩)
  have Y1 := mY_o hY g1.1
  unfold a_extr at q
  refine c190 (by omega) Y1 ⟨_, rfl, ?_⟩
  refine if_b (fun z => ?_) (fun z => ?_)
  · rw [if_neg (by rw [z]; decide)] at q
    exact c151 (by omega) g1 q
  rw [if_pos z] at q
  obtain ⟨hp, ep, hp4⟩ := pl_im hY.1.1 z
  have hS := hY.1.1.cS
  refine dm_ff (n := gN R 7) (s_exF R C (plR R p.toNatClampNeg) w) (fun k a σ => g220_27 L xs (CL L xs (d - 1)) Q p w a.1 a.2 (nI k) σ) (fun σ' => mG σ σ' 0) ?_ _ 0 (-2, 0) σ1 (Nat.zero_add _) g1 ?_
  · intro k a σ' hk hf ih
    have Y' := mY_o hY hf.1
    refine w220_27 hC ?_
    rw [Y'.1.2.1, hS.2, nI_1]
    refine if_lt hk (by omega) ?_
    unfold s_exF at ih
    refine c212 (by omega) Y'.1 ep hp rfl hk (fun σ3 f3 => ⟨_, rfl, ?_⟩)
    have g3 := hf.rn f3
    refine if_b (fun z => ?_) (fun z => ?_)
    · rw [if_neg (by unfold fit; rw [z]; decide)] at ih; exact ih σ3 g3
    · rw [if_pos (by unfold fit; exact z)] at ih
      refine c209 (by omega) (mY_o hY g3.1).1 ep hp (isC_s hk) isC_2 (fun σ4 f4 => ⟨_, rfl, ?_⟩)
      have ih := ih σ4 (g3.rn f4)
      refine if_c (fun z => ?_) (fun z => ?_)
      · rw [if_pos z] at ih; exact ih
      rw [if_neg z] at ih
      refine if_c (fun z => ?_) (fun z => ?_)
      · rw [if_pos z] at ih
        refine if_c (fun z => ?_) (fun z => ?_)
        · rw [if_pos z] at ih; exact ih
        · rw [if_neg z] at ih; exact ih
      · rw [if_neg z] at ih
        refine if_c (fun z => ?_) (fun z => ?_)
        · rw [if_pos z] at ih; exact ih
        · rw [if_neg z] at ih; exact ih
  · intro σ' hf
    have Y' := mY_o hY hf.1
    refine w220_27 hC ?_
    rw [Y'.1.2.1, hS.2]
    exact if_nlt (Nat.le_refl _) (by omega) (q σ' hf)
end OP2
