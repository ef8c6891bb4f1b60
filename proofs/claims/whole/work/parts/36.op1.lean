/-! CALLS: slip, step, person, end, level, breaks, harm -/
def no1 : Int32 × Int32 := (-1, 1)
def a_slip (R : Nat → Int32) (C : Nat → Bool) (k w : Int32) : Int32 × Int32 := if inn k (R 7) = true then (if inn w 5 = true then (if w = 4 then bI (C k.toNatClampNeg) else R (124 + 4 * k.toNatClampNeg + w.toNatClampNeg), 0) else no1) else no1
def a_step (R : Nat → Int32) (p i : Int32) : Int32 × Int32 := if inn p (R 6) = true then (if inn i (R (96 + 7 * p.toNatClampNeg)) = true then (R (96 + 7 * p.toNatClampNeg + 1 + i.toNatClampNeg), 0) else no1) else no1
def a_pers (R : Nat → Int32) (p w : Int32) : Int32 × Int32 := if inn p (R 8) = true then (if inn w 2 = true then (R (152 + 2 * p.toNatClampNeg + w.toNatClampNeg), 0) else no1) else no1
def a_run (R : Nat → Int32) (p x y : Int32) : Bool := inn p (R 6) && (isCb R x && isCb R y)
def a_end (R : Nat → Int32) (C : Nat → Bool) (p x y t : Int32) : Int32 × Int32 := if a_run R p x y = true then (if inn t (R 4) = true then ((run R (mkc R C (mkc R C (plR R p.toNatClampNeg) x) y) 12).1 t.toNatClampNeg, 0) else no1) else no1
def a_lev (R : Nat → Int32) (C : Nat → Bool) (p x s t : Int32) : Int32 × Int32 := if a_run R p x (-2) = true then (if inn t (R 4) = true then (if inc s 0 (R (96 + 7 * p.toNatClampNeg)) = true then ((run R (mkc R C (plR R p.toNatClampNeg) x) s.toNatClampNeg).1 t.toNatClampNeg, 0) else (-1, 2)) else no1) else no1
def a_brk (R : Nat → Int32) (C : Nat → Bool) (p x y : Int32) : Int32 × Int32 := if a_run R p x y = true then (oI (run R (mkc R C (mkc R C (plR R p.toNatClampNeg) x) y) 12).2 (-2), 0) else no1
def a_harm (R : Nat → Int32) (C : Nat → Bool) (p x y : Int32) : Int32 × Int32 := if a_run R p x y = true then (hm2 R C (plR R p.toNatClampNeg) x y, 0) else no1
section OP1
variable {L : Nat} {xs : Nat → Int32} {d : Nat} {Q : Option dm_V → M2 → Prop} {σ : M2} {μ : Nat} {R : Nat → Int32} {C : Nat → Bool} {h : Bool}
theorem ix_x {x : Int32} {n : Nat} {K : Prop} (h : x.toNatClampNeg < n) (e : x = nI x.toNatClampNeg) (hn : n < 2 ^ 31) (q : K) : dm_ix x n K := by
  rw [e]
  exact ix_k h hn q
theorem c5 (hd : 4 ≤ d) {s : Nat} {x : Int32} (hx : x = nI s) (hs : s < 7) {o : Nat} (hc : cC (σ.1 1 o 2) C) (q : Q (some (vi (bI (C s)))) σ) : CL L xs d 5 [vr 1 o, vi x] σ Q := by
  subst hx
  refine cl_at p5 hd (w5_0 hC ?_)
  rw [hc s hs]
  exact bI_pass rfl q
theorem inn5 {w : Int32} : inn w 5 = true → w = 0 ∨ w = 1 ∨ w = 2 ∨ w = 3 ∨ w = 4 := by
  intro h
  obtain ⟨a, b⟩ := inn_n (n := 5) (by omega) h
  generalize w.toNatClampNeg = j at *
  subst b
  match j, a with
  | 0, _ => exact Or.inl rfl
  | 1, _ => exact Or.inr (Or.inl rfl)
  | 2, _ => exact Or.inr (Or.inr (Or.inl rfl))
  | 3, _ => exact Or.inr (Or.inr (Or.inr (Or.inl rfl)))
  | 4, _ => exact Or.inr (Or.inr (Or.inr (Or.inr rfl)))
theorem o87 (hd : 6 ≤ d) {x w : Int32} (hX : cX σ μ R C) (q : ∀ σ', cG σ σ' (a_slip R C x w).2 → Q (some (vi (a_slip R C x w).1)) σ') : CL L xs d 87 [vr 12 0, vi x, vi w] σ Q := by
  refine cl_at p87 (by omega) (w87_0 hC ?_)
  refine c85 (s := 5) (by omega) rfl (by omega) hX hX.cnt.2.2.2.2.1 ⟨_, rfl, ?_⟩
  have hS := hX.ok.cS
  unfold a_slip at q
  refine if_b (fun z => ?_) (fun z => ?_)
  · rw [if_neg (by rw [z]; decide)] at q
    exact c81 (by omega) fr.id q
  rw [if_pos z] at q
  obtain ⟨hs, es⟩ := inn_k hS.2 (by omega) z
  have e := hX.slp x.toNatClampNeg hs
  have hx7 : x.toNatClampNeg < 7 := by have : x.toNatClampNeg < gN R 7 := hs; omega
  refine ix_x hx7 es (by omega) ?_
  rw [hX.r12, e.1, e.2.1, e.2.2.1, e.2.2.2]
  by_cases hw : inn w 5 = true
  · rw [if_pos hw] at q
    rcases inn5 hw with rfl | rfl | rfl | rfl | rfl
    · exact if_y rfl (c83 (by omega) fr.id q)
    · exact if_n (by decide) (if_y rfl (c83 (by omega) fr.id q))
    · exact if_n (by decide) (if_n (by decide) (if_y rfl (c83 (by omega) fr.id q)))
    · exact if_n (by decide) (if_n (by decide) (if_n (by decide) (if_y rfl (c83 (by omega) fr.id q))))
    · refine if_n (by decide) (if_n (by decide) (if_n (by decide) (if_n (by decide) (if_y rfl ?_))))
      refine c5 (by omega) es hx7 hX.cln ⟨_, rfl, ?_⟩
      rw [if_pos rfl] at q
      refine if_b (fun z => ?_) (fun z => ?_)
      · rw [z] at q; exact c83 (by omega) fr.id q
      · rw [z] at q; exact c83 (by omega) fr.id q
  · rw [if_neg hw] at q
    refine if_n ?_ (if_n ?_ (if_n ?_ (if_n ?_ (if_n ?_ (c81 (by omega) fr.id q)))))
    all_goals (intro e; subst e; exact hw (by decide))
theorem o199 (hd : 8 ≤ d) {x w : Int32} (hY : mY σ R C h) (q : ∀ σ', mG σ σ' (a_slip R C x w).2 → Q (some (vi (a_slip R C x w).1)) σ') : CL L xs d 199 [vr 13 0, vi x, vi w] σ Q := by
  refine cl_at p199 (by omega) (w199_0 hC ?_)
  refine c150 (by omega) (fun σ1 g1 => ⟨rfl, ?_⟩)
  have Y1 := mY_o hY g1.1
  unfold a_slip at q
  refine c191 (by omega) Y1 ⟨_, rfl, ?_⟩
  refine if_b (fun z => ?_) (fun z => ?_)
  · rw [if_neg (by rw [z]; decide)] at q
    exact c151 (by omega) g1 q
  rw [if_pos z] at q
  have hS := hY.1.1.cS
  obtain ⟨hs, es⟩ := inn_k hS.2 (by omega) z
  have hx7 : x.toNatClampNeg < 7 := by have : x.toNatClampNeg < gN R 7 := hs; omega
  refine c153 (by omega) ⟨_, rfl, ?_⟩
  have e5 : inc w 0 4 = inn w 5 := inc_s1 (n := 5) (by omega)
  rw [e5]
  refine if_b (fun z' => ?_) (fun z' => ?_)
  · rw [if_neg (by rw [z']; decide)] at q
    exact c151 (by omega) g1 q
  rw [if_pos z'] at q
  refine if_c (fun z4 => ?_) (fun z4 => ?_)
  · rw [if_pos z4] at q
    exact c197 (by omega) es Y1.1 hx7 ⟨_, rfl, bI_pass rfl (q _ g1)⟩
  · rw [if_neg z4] at q
    obtain ⟨hw, ew⟩ := inn_n (n := 5) (by omega) z'
    have hw4 : w.toNatClampNeg < 4 := by
      have : w.toNatClampNeg ≠ 4 := fun e => z4 (by rw [ew]; show nI w.toNatClampNeg = 4; rw [e]; rfl)
      have : w.toNatClampNeg < 5 := hw
      omega
    exact c196 (by omega) es ew Y1.1 hx7 hw4 ⟨_, rfl, q _ g1⟩
theorem o88 (hd : 6 ≤ d) {p i : Int32} (hX : cX σ μ R C) (q : ∀ σ', cG σ σ' (a_step R p i).2 → Q (some (vi (a_step R p i).1)) σ') : CL L xs d 88 [vr 12 0, vi p, vi i] σ Q := by
  refine cl_at p88 (by omega) (w88_0 hC ?_)
  refine c85 (s := 4) (by omega) rfl (by omega) hX hX.cnt.2.2.2.1 ⟨_, rfl, ?_⟩
  have hP := hX.ok.cP
  unfold a_step at q
  refine if_b (fun z => ?_) (fun z => ?_)
  · rw [if_neg (by rw [z]; decide)] at q
    exact c81 (by omega) fr.id q
  rw [if_pos z] at q
  obtain ⟨hp, ep⟩ := inn_k hP.2 (by omega) z
  have hp4 : p.toNatClampNeg < 4 := by have : p.toNatClampNeg < gN R 6 := hp; omega
  have v := hX.pln p.toNatClampNeg hp
  have hpl := hX.ok.2.2.2.2.2.1 p.toNatClampNeg hp
  have e96 := gn_in hpl.1
  have e0 : σ.1 10 (4 * μ + p.toNatClampNeg) 0 = R (96 + 7 * p.toNatClampNeg) := v.1.trans e96.2.symm
  refine if_c (fun z1 => ?_) (fun z1 => ?_)
  · rw [if_neg (by unfold inn; simp [z1])] at q
    exact c81 (by omega) fr.id q
  rw [hX.r12, e0]
  refine ix_x hp4 ep (by omega) ?_
  refine if_c (fun z2 => ?_) (fun z2 => ?_)
  · have zi : inn i (R (96 + 7 * p.toNatClampNeg)) = true := by unfold inn; rw [decide_eq_true z1, decide_eq_true z2]; rfl
    rw [if_pos zi] at q
    obtain ⟨hi, ei⟩ := inn_k e96.2 (by omega) zi
    have hi12 : i.toNatClampNeg < 12 := by have : i.toNatClampNeg < gN R (96 + 7 * p.toNatClampNeg) := hi; omega
    refine ix_x hp4 ep (by omega) ?_
    refine ix_x hi12 ei (by omega) ?_
    have ed : σ.1 52 (4 * μ + p.toNatClampNeg) i.toNatClampNeg = R (96 + 7 * p.toNatClampNeg + 1 + i.toNatClampNeg) := by
      refine (v.2 i.toNatClampNeg hi).1.trans ?_
      show nI (2 * gN R (96 + 7 * p.toNatClampNeg + 1 + i.toNatClampNeg) / 2) = _
      rw [Nat.mul_div_cancel_left _ (by omega), ← (gn_in (hpl.2 i.toNatClampNeg hi)).2]
    rw [ed]
    exact c83 (by omega) fr.id q
  · rw [if_neg (by unfold inn; simp [z2])] at q
    exact c81 (by omega) fr.id q
theorem o200 (hd : 8 ≤ d) {p i : Int32} (hY : mY σ R C h) (q : ∀ σ', mG σ σ' (a_step R p i).2 → Q (some (vi (a_step R p i).1)) σ') : CL L xs d 200 [vr 13 0, vi p, vi i] σ Q := by
  refine cl_at p200 (by omega) (w200_0 hC ?_)
  refine c150 (by omega) (fun σ1 g1 => ⟨rfl, ?_⟩)
  have Y1 := mY_o hY g1.1
  unfold a_step at q
  refine c190 (by omega) Y1 ⟨_, rfl, ?_⟩
  refine if_b (fun z => ?_) (fun z => ?_)
  · rw [if_neg (by rw [z]; decide)] at q
    exact c151 (by omega) g1 q
  rw [if_pos z] at q
  have hP := hY.1.1.cP
  obtain ⟨hp, ep⟩ := inn_k hP.2 (by omega) z
  have hp4 : p.toNatClampNeg < 4 := by have : p.toNatClampNeg < gN R 6 := hp; omega
  have e96 := gn_in (hY.1.1.2.2.2.2.2.1 p.toNatClampNeg hp).1
  refine c198 (by omega) ep Y1.1 hp ⟨_, rfl, ?_⟩
  refine c153 (by omega) ⟨_, rfl, ?_⟩
  rw [inc_s1 (by omega), ← e96.2]
  refine if_b (fun z' => ?_) (fun z' => ?_)
  · rw [if_neg (by rw [z']; decide)] at q
    exact c151 (by omega) g1 q
  rw [if_pos z'] at q
  obtain ⟨hi, ei⟩ := inn_k e96.2 (by omega) z'
  have hi12 : i.toNatClampNeg < 7 := by have : i.toNatClampNeg < gN R (96 + 7 * p.toNatClampNeg) := hi; omega
  have e : (96 + 7 * p) + 1 + i = nI (96 + 7 * p.toNatClampNeg + 1 + i.toNatClampNeg) := by
    rw [ep, ei]
    show 96 + 7 * nI p.toNatClampNeg + 1 + nI i.toNatClampNeg = nI (96 + 7 * (nI p.toNatClampNeg).toNatClampNeg + 1 + (nI i.toNatClampNeg).toNatClampNeg)
    rw [l96, l7, nI_mul, nI_add, nI_1, nI_add, nI_clamp (by omega), nI_clamp (by omega)]
  rw [e, nI_clamp (by omega), Y1.1.2.1]
  exact ix_k (by omega) (by omega) (q _ g1)
theorem o89 (hd : 6 ≤ d) {p w : Int32} (hX : cX σ μ R C) (q : ∀ σ', cG σ σ' (a_pers R p w).2 → Q (some (vi (a_pers R p w).1)) σ') : CL L xs d 89 [vr 12 0, vi p, vi w] σ Q := by
  refine cl_at p89 (by omega) (w89_0 hC ?_)
  refine c85 (s := 6) (by omega) rfl (by omega) hX hX.cnt.2.2.2.2.2.1 ⟨_, rfl, ?_⟩
  have hM := hX.ok.cM
  unfold a_pers at q
  refine if_b (fun z => ?_) (fun z => ?_)
  · rw [if_neg (by rw [z]; decide)] at q
    exact c81 (by omega) fr.id q
  rw [if_pos z] at q
  obtain ⟨hp, ep⟩ := inn_k hM.2 (by omega) z
  have hp4 : p.toNatClampNeg < 4 := by have : p.toNatClampNeg < gN R 8 := hp; omega
  have e := hX.man p.toNatClampNeg hp
  have e2 : inc w 0 1 = inn w 2 := inc_s1 (n := 2) (by omega)
  rw [← e2] at q
  unfold inc at q
  refine if_c (fun z1 => ?_) (fun z1 => ?_)
  · rw [if_neg (by simp [z1])] at q
    exact c81 (by omega) fr.id q
  refine if_c (fun z2 => ?_) (fun z2 => ?_)
  · rw [if_neg (by simp [z2])] at q
    exact c81 (by omega) fr.id q
  rw [decide_eq_true z1, decide_eq_true z2, Bool.and_true, if_pos rfl] at q
  rw [hX.r12, e.1, e.2]
  have zz : inn w 2 = true := by rw [← e2]; unfold inc; rw [decide_eq_true z1, decide_eq_true z2]; rfl
  obtain ⟨hw, ew⟩ := inn_n (n := 2) (by omega) zz
  refine if_c (fun z3 => ?_) (fun z3 => ?_)
  · refine ix_x hp4 ep (by omega) ?_
    subst z3
    exact c83 (by omega) fr.id q
  · refine ix_x hp4 ep (by omega) ?_
    have : w.toNatClampNeg = 1 := by
      have h0 : w.toNatClampNeg ≠ 0 := fun e => z3 (by rw [ew]; show nI w.toNatClampNeg = 0; rw [e]; rfl)
      have : w.toNatClampNeg < 2 := hw
      omega
    rw [this] at q
    exact c83 (by omega) fr.id q
theorem o201 (hd : 8 ≤ d) {p w : Int32} (hY : mY σ R C h) (q : ∀ σ', mG σ σ' (a_pers R p w).2 → Q (some (vi (a_pers R p w).1)) σ') : CL L xs d 201 [vr 13 0, vi p, vi w] σ Q := by
  refine cl_at p201 (by omega) (w201_0 hC ?_)
  refine c150 (by omega) (fun σ1 g1 => ⟨rfl, ?_⟩)
  have Y1 := mY_o hY g1.1
  unfold a_pers at q
  refine c193 (by omega) Y1 ⟨_, rfl, ?_⟩
  refine if_b (fun z => ?_) (fun z => ?_)
  · rw [if_neg (by rw [z]; decide)] at q
    exact c151 (by omega) g1 q
  rw [if_pos z] at q
  obtain ⟨hp, ep⟩ := inn_k hY.1.1.cM.2 (by have := hY.1.1.cM.1; omega) z
  have hp4 : p.toNatClampNeg < 4 := by have : p.toNatClampNeg < gN R 8 := hp; have := hY.1.1.cM.1; omega
  refine c153 (by omega) ⟨_, rfl, ?_⟩
  rw [show inc w 0 1 = inn w 2 from inc_s1 (n := 2) (by omega)]
  refine if_b (fun z' => ?_) (fun z' => ?_)
  · rw [if_neg (by rw [z']; decide)] at q
    exact c151 (by omega) g1 q
  rw [if_pos z'] at q
  obtain ⟨hw, ew⟩ := inn_n (n := 2) (by omega) z'
  have hw : w.toNatClampNeg < 2 := hw
  have e : (152 + 2 * p) + w = nI (152 + 2 * p.toNatClampNeg + w.toNatClampNeg) := by
    rw [ep, ew]
    show 152 + 2 * nI p.toNatClampNeg + nI w.toNatClampNeg = nI (152 + 2 * (nI p.toNatClampNeg).toNatClampNeg + (nI w.toNatClampNeg).toNatClampNeg)
    rw [l152, l2, nI_mul, nI_add, nI_add, nI_clamp (by omega), nI_clamp (by omega)]
  rw [e, nI_clamp (by omega), Y1.1.2.1]
  exact ix_k (by omega) (by omega) (q _ g1)
/-- what a good run says -/
theorem a_run_t (hR : okR R) {p x y : Int32} (z : a_run R p x y = true) : p.toNatClampNeg < gN R 6 ∧ p = nI p.toNatClampNeg ∧ p.toNatClampNeg < 4 ∧ isC R x ∧ isC R y := by
  unfold a_run at z
  simp only [Bool.and_eq_true] at z
  have hP := hR.cP
  obtain ⟨hp, ep⟩ := inn_k hP.2 (by omega) z.1
  refine ⟨hp, ep, ?_, isCb_t hR z.2.1, isCb_t hR z.2.2⟩
  have : p.toNatClampNeg < gN R 6 := hp
  omega
theorem o90 (hd : 9 ≤ d) {p x y t : Int32} (hX : cX σ μ R C) (q : ∀ σ', cG σ σ' (a_end R C p x y t).2 → Q (some (vi (a_end R C p x y t).1)) σ') : CL L xs d 90 [vr 12 0, vi p, vi x, vi y, vi t] σ Q := by
  refine cl_at p90 (by omega) (w90_0 hC ?_)
  refine c94 (by omega) hX ⟨_, rfl, ?_⟩
  unfold a_end at q
  refine if_b (fun z => ?_) (fun z => ?_)
  · rw [if_neg (by unfold a_run; simp [z])] at q
    exact c81 (by omega) fr.id q
  have z : a_run R p x y = true := z
  rw [if_pos z] at q
  obtain ⟨hp, ep, hp4, hx, hy⟩ := a_run_t hX.ok z
  refine c85 (s := 1) (by omega) rfl (by omega) hX hX.cnt.1 ⟨_, rfl, ?_⟩
  refine if_b (fun z => ?_) (fun z => ?_)
  · rw [if_neg (by rw [z]; decide)] at q
    exact c81 (by omega) fr.id q
  rw [if_pos z] at q
  obtain ⟨ht, et⟩ := inn_k hX.ok.cT.2 (by have := hX.ok.cT.1; omega) z
  have ht5 : t.toNatClampNeg < 5 := by have : t.toNatClampNeg < gN R 4 := ht; have := hX.ok.cT.1; omega
  refine ix_x hp4 ep (by omega) ?_
  rw [hX.r12]
  refine c56 (most := 12) (by omega) hX (hX.pln p.toNatClampNeg hp) (by have := hX.mu; omega) ((hX.ok.pl hp).up (by omega)) hx hy rfl (by omega) (fun σ1 f1 l1 _ _ => ⟨rfl, ?_⟩)
  refine ix_x ht5 et (by omega) ?_
  rw [l1 t.toNatClampNeg ht]
  exact c83 (by omega) (f1.weak fRn_O) q
theorem o213 (hd : 9 ≤ d) {p x y t : Int32} (hY : mY σ R C h) (q : ∀ σ', mG σ σ' (a_end R C p x y t).2 → Q (some (vi (a_end R C p x y t).1)) σ') : CL L xs d 213 [vr 13 0, vi p, vi x, vi y, vi t] σ Q := by
  refine cl_at p213 (by omega) (w213_0 hC ?_)
  refine c150 (by omega) (fun σ1 g1 => ⟨rfl, ?_⟩)
  have Y1 := mY_o hY g1.1
  unfold a_end at q
  refine c190 (by omega) Y1 ⟨_, rfl, ?_⟩
  refine if_b (fun z => ?_) (fun z => ?_)
  · rw [if_neg (by unfold a_run; simp [z])] at q
    exact c151 (by omega) g1 q
  have hh := mY_opn hY (by omega) (by omega) z
  refine c192 (by omega) Y1 hh ⟨_, rfl, ?_⟩
  refine if_b (fun z1 => ?_) (fun z1 => ?_)
  · rw [if_neg (by unfold a_run; simp [z, z1])] at q
    exact c151 (by omega) g1 q
  refine c192 (by omega) Y1 hh ⟨_, rfl, ?_⟩
  refine if_b (fun z2 => ?_) (fun z2 => ?_)
  · rw [if_neg (by unfold a_run; simp [z, z1, z2])] at q
    exact c151 (by omega) g1 q
  have zr : a_run R p x y = true := by unfold a_run; rw [z, z1, z2]; rfl
  rw [if_pos zr] at q
  refine c194 (by omega) Y1 ⟨_, rfl, ?_⟩
  refine if_b (fun z3 => ?_) (fun z3 => ?_)
  · rw [if_neg (by rw [z3]; decide)] at q
    exact c151 (by omega) g1 q
  rw [if_pos z3] at q
  obtain ⟨hp, ep, hp4, hx, hy⟩ := a_run_t hY.1.1 zr
  obtain ⟨ht, et⟩ := inn_k hY.1.1.cT.2 (by have := hY.1.1.cT.1; omega) z3
  have ht5 : t.toNatClampNeg < 5 := by have : t.toNatClampNeg < gN R 4 := ht; have := hY.1.1.cT.1; omega
  refine c210 (by omega) Y1.1 ep hp hx hy (fun σ2 f2 l2 b2 => ⟨_, rfl, ?_⟩)
  refine ix_x ht5 et (by omega) ?_
  rw [l2 t.toNatClampNeg ht]
  exact q σ2 (g1.rn f2)
theorem o91 (hd : 9 ≤ d) {p x s t : Int32} (hX : cX σ μ R C) (q : ∀ σ', cG σ σ' (a_lev R C p x s t).2 → Q (some (vi (a_lev R C p x s t).1)) σ') : CL L xs d 91 [vr 12 0, vi p, vi x, vi s, vi t] σ Q := by
  refine cl_at p91 (by omega) (w91_0 hC ?_)
  refine c94 (by omega) hX ⟨_, rfl, ?_⟩
  unfold a_lev at q
  refine if_b (fun z => ?_) (fun z => ?_)
  · rw [if_neg (by unfold a_run; simp [z])] at q
    exact c81 (by omega) fr.id q
  have z : a_run R p x (-2) = true := z
  rw [if_pos z] at q
  obtain ⟨hp, ep, hp4, hx, hy⟩ := a_run_t hX.ok z
  refine c85 (s := 1) (by omega) rfl (by omega) hX hX.cnt.1 ⟨_, rfl, ?_⟩
  refine if_b (fun z => ?_) (fun z => ?_)
  · rw [if_neg (by rw [z]; decide)] at q
    exact c81 (by omega) fr.id q
  rw [if_pos z] at q
  obtain ⟨ht, et⟩ := inn_k hX.ok.cT.2 (by have := hX.ok.cT.1; omega) z
  have ht5 : t.toNatClampNeg < 5 := by have : t.toNatClampNeg < gN R 4 := ht; have := hX.ok.cT.1; omega
  have v := hX.pln p.toNatClampNeg hp
  have e96 := gn_in (hX.ok.2.2.2.2.2.1 p.toNatClampNeg hp).1
  have e0 : σ.1 10 (4 * μ + p.toNatClampNeg) 0 = R (96 + 7 * p.toNatClampNeg) := v.1.trans e96.2.symm
  rw [hX.r12, e0]
  unfold inc at q
  refine if_c (fun z1 => ?_) (fun z1 => ?_)
  · rw [if_neg (by simp [z1])] at q
    exact c81 (by omega) fr.id q
  refine ix_x hp4 ep (by omega) ?_
  refine if_c (fun z2 => ?_) (fun z2 => ?_)
  · rw [if_neg (by simp [z2])] at q
    exact c81 (by omega) fr.id q
  rw [decide_eq_true z1, decide_eq_true z2, Bool.and_true, if_pos rfl] at q
  refine ix_x hp4 ep (by omega) ?_
  have hsb : s.toNatClampNeg < 2 ^ 31 := by
    obtain ⟨j, hj, rfl⟩ := nI_of z1
    show (nI j).toNatClampNeg < _
    rw [nI_clamp hj]; exact hj
  refine c56 (most := s.toNatClampNeg) (by omega) hX v (by have := hX.mu; omega) ((hX.ok.pl hp).up (by omega)) hx isC_2 (nI_tn z1).symm hsb (fun σ1 f1 l1 _ _ => ⟨rfl, ?_⟩)
  refine ix_x ht5 et (by omega) ?_
  rw [l1 t.toNatClampNeg ht]
  exact c83 (by omega) (f1.weak fRn_O) q
theorem o214 (hd : 9 ≤ d) {p x s t : Int32} (hY : mY σ R C h) (q : ∀ σ', mG σ σ' (a_lev R C p x s t).2 → Q (some (vi (a_lev R C p x s t).1)) σ') : CL L xs d 214 [vr 13 0, vi p, vi x, vi s, vi t] σ Q := by
  refine cl_at p214 (by omega) (w214_0 hC ?_)
  refine c150 (by omega) (fun σ1 g1 => ⟨rfl, ?_⟩)
  have Y1 := mY_o hY g1.1
  unfold a_lev at q
  have c2 : isCb R (-2) = true := by unfold isCb; rw [decide_eq_true rfl]; rfl
  refine c190 (by omega) Y1 ⟨_, rfl, ?_⟩
  refine if_b (fun z => ?_) (fun z => ?_)
  · rw [if_neg (by unfold a_run; simp [z])] at q
    exact c151 (by omega) g1 q
  have hh := mY_opn hY (by omega) (by omega) z
  refine c192 (by omega) Y1 hh ⟨_, rfl, ?_⟩
  refine if_b (fun z1 => ?_) (fun z1 => ?_)
  · rw [if_neg (by unfold a_run; simp [z, z1])] at q
    exact c151 (by omega) g1 q
  have zr : a_run R p x (-2) = true := by unfold a_run; rw [z, z1, c2]; rfl
  rw [if_pos zr] at q
  refine c194 (by omega) Y1 ⟨_, rfl, ?_⟩
  refine if_b (fun z3 => ?_) (fun z3 => ?_)
  · rw [if_neg (by rw [z3]; decide)] at q
    exact c151 (by omega) g1 q
  rw [if_pos z3] at q
  obtain ⟨hp, ep, hp4, hx, hy⟩ := a_run_t hY.1.1 zr
  obtain ⟨ht, et⟩ := inn_k hY.1.1.cT.2 (by have := hY.1.1.cT.1; omega) z3
  have ht5 : t.toNatClampNeg < 5 := by have : t.toNatClampNeg < gN R 4 := ht; have := hY.1.1.cT.1; omega
  have e96 := gn_in (hY.1.1.2.2.2.2.2.1 p.toNatClampNeg hp).1
  refine c198 (by omega) ep Y1.1 hp ⟨_, rfl, ?_⟩
  refine c153 (by omega) ⟨_, rfl, ?_⟩
  rw [show nI (gN R (96 + 7 * p.toNatClampNeg)) = R (96 + 7 * p.toNatClampNeg) from e96.2.symm]
  refine if_b (fun z4 => ?_) (fun z4 => ?_)
  · rw [if_neg (by rw [z4]; decide)] at q
    exact c151 (by omega) g1 q
  rw [if_pos z4] at q
  have z1' : ¬ s < 0 := by
    unfold inc at z4
    simp only [Bool.and_eq_true, decide_eq_true_eq] at z4
    exact z4.1
  have hsb : s.toNatClampNeg < 2 ^ 31 := by
    obtain ⟨j, hj, rfl⟩ := nI_of z1'
    show (nI j).toNatClampNeg < _
    rw [nI_clamp hj]; exact hj
  have k := hY.1.1.pl hp
  refine c202 (by omega) ep Y1.1 hp (fun σ2 f2 v2 => ⟨rfl, ?_⟩)
  have X2 := Y1.1.fr (fun _ => ⟨rfl, rfl⟩) f2
  refine c205 (by omega) hx X2 v2 (k.up (by omega)) (fun σ3 f3 v3 => ⟨rfl, ?_⟩)
  have X3 := X2.fr (fun _ => ⟨rfl, rfl⟩) f3
  refine c206 (most := s.toNatClampNeg) (by omega) (nI_tn z1').symm hsb X3 v3 ((okP_mkc hY.1.1 k hx).up (by omega)) (fun σ4 f4 l4 b4 => ⟨rfl, ?_⟩)
  refine ix_x ht5 et (by omega) ?_
  rw [l4 t.toNatClampNeg ht]
  exact q σ4 (g1.rn (((f2.trans f3).weak gSt_Rn).trans (f4.weak gLv_Rn)))
theorem o92 (hd : 9 ≤ d) {p x y : Int32} (hX : cX σ μ R C) (q : ∀ σ', cG σ σ' (a_brk R C p x y).2 → Q (some (vi (a_brk R C p x y).1)) σ') : CL L xs d 92 [vr 12 0, vi p, vi x, vi y] σ Q := by
  refine cl_at p92 (by omega) (w92_0 hC ?_)
  refine c94 (by omega) hX ⟨_, rfl, ?_⟩
  unfold a_brk at q
  refine if_b (fun z => ?_) (fun z => ?_)
  · rw [if_neg (by unfold a_run; simp [z])] at q
    exact c81 (by omega) fr.id q
  have z : a_run R p x y = true := z
  rw [if_pos z] at q
  obtain ⟨hp, ep, hp4, hx, hy⟩ := a_run_t hX.ok z
  refine ix_x hp4 ep (by omega) ?_
  rw [hX.r12]
  refine c56 (most := 12) (by omega) hX (hX.pln p.toNatClampNeg hp) (by have := hX.mu; omega) ((hX.ok.pl hp).up (by omega)) hx hy rfl (by omega) (fun σ1 f1 _ b1 _ => ⟨rfl, ?_⟩)
  rw [b1]
  exact c83 (by omega) (f1.weak fRn_O) q
theorem a_chk (hd : 7 ≤ d) {p x y : Int32} {σ0 : M2} {K : Prop} {Q' : Option dm_V → M2 → Prop} (hY : mY σ R C h) (no : a_run R p x y = false → CL L xs d 151 [vr 13 0, vi 1] σ Q') (yes : a_run R p x y = true → K) :
    CL L xs d 190 [vr 13 0, vi p] σ (fun r σ2 => ∃ v3 : Int32, r = some (vi v3) ∧ (if v3 = 0 then CL L xs d 151 [vr 13 0, vi 1] σ2 Q' else CL L xs d 192 [vr 13 0, vi x] σ2 (fun r σ6 => ∃ v7 : Int32, r = some (vi v7) ∧ (if v7 = 0 then CL L xs d 151 [vr 13 0, vi 1] σ6 Q' else CL L xs d 192 [vr 13 0, vi y] σ6 (fun r σ10 => ∃ v11 : Int32, r = some (vi v11) ∧ (if v11 = 0 then CL L xs d 151 [vr 13 0, vi 1] σ10 Q' else σ10 = σ ∧ K)))))) := by
  refine c190 (by omega) hY ⟨_, rfl, ?_⟩
  refine if_b (fun z => ?_) (fun z => ?_)
  · exact no (by unfold a_run; rw [z]; rfl)
  have hh := mY_opn hY (by omega) (by omega) z
  refine c192 (by omega) hY hh ⟨_, rfl, ?_⟩
  refine if_b (fun z1 => ?_) (fun z1 => ?_)
  · exact no (by unfold a_run; rw [z, z1]; rfl)
  refine c192 (by omega) hY hh ⟨_, rfl, ?_⟩
  refine if_b (fun z2 => ?_) (fun z2 => ?_)
  · exact no (by unfold a_run; rw [z, z1, z2]; rfl)
  · exact ⟨rfl, yes (by unfold a_run; rw [z, z1, z2]; rfl)⟩
theorem o215 (hd : 9 ≤ d) {p x y : Int32} (hY : mY σ R C h) (q : ∀ σ', mG σ σ' (a_brk R C p x y).2 → Q (some (vi (a_brk R C p x y).1)) σ') : CL L xs d 215 [vr 13 0, vi p, vi x, vi y] σ Q := by
  refine cl_at p215 (by omega) (w215_0 hC ?_)
  refine c150 (by omega) (fun σ1 g1 => ⟨rfl, ?_⟩)
  have Y1 := mY_o hY g1.1
  unfold a_brk at q
  refine c190 (by omega) Y1 ⟨_, rfl, ?_⟩
  refine if_b (fun z => ?_) (fun z => ?_)
  · rw [if_neg (by unfold a_run; simp [z])] at q
    exact c151 (by omega) g1 q
  have hh := mY_opn hY (by omega) (by omega) z
  refine c192 (by omega) Y1 hh ⟨_, rfl, ?_⟩
  refine if_b (fun z1 => ?_) (fun z1 => ?_)
  · rw [if_neg (by unfold a_run; simp [z, z1])] at q
    exact c151 (by omega) g1 q
  refine c192 (by omega) Y1 hh ⟨_, rfl, ?_⟩
  refine if_b (fun z2 => ?_) (fun z2 => ?_)
  · rw [if_neg (by unfold a_run; simp [z, z1, z2])] at q
    exact c151 (by omega) g1 q
  have zr : a_run R p x y = true := by unfold a_run; rw [z, z1, z2]; rfl
  rw [if_pos zr] at q
  obtain ⟨hp, ep, hp4, hx, hy⟩ := a_run_t hY.1.1 zr
  refine c210 (by omega) Y1.1 ep hp hx hy (fun σ2 f2 l2 b2 => ⟨_, rfl, ?_⟩)
  rw [b2]
  have q := q σ2 (g1.rn f2)
  have hbb : ∀ k, (run R (mkc R C (mkc R C (plR R p.toNatClampNeg) x) y) 12).2 = some k → k < 2 ^ 31 := fun k hk => by
    have := run_lt hk
    have := (okP_mkc hY.1.1 (C := C) (okP_mkc hY.1.1 (C := C) (hY.1.1.pl hp) hx) hy).1
    omega
  generalize run R (mkc R C (mkc R C (plR R p.toNatClampNeg) x) y) 12 = w at *
  cases hw : w.2 with
  | none => rw [hw] at q; exact if_y (by decide) q
  | some k => rw [hw] at q; exact if_n (nI_pos (hbb k hw)) q
theorem o93 (hd : 9 ≤ d) {p x y : Int32} (hX : cX σ μ R C) (q : ∀ σ', cG σ σ' (a_harm R C p x y).2 → Q (some (vi (a_harm R C p x y).1)) σ') : CL L xs d 93 [vr 12 0, vi p, vi x, vi y] σ Q := by
  refine cl_at p93 (by omega) (w93_0 hC ?_)
  refine c94 (by omega) hX ⟨_, rfl, ?_⟩
  unfold a_harm at q
  refine if_b (fun z => ?_) (fun z => ?_)
  · rw [if_neg (by unfold a_run; simp [z])] at q
    exact c81 (by omega) fr.id q
  have z : a_run R p x y = true := z
  rw [if_pos z] at q
  obtain ⟨hp, ep, hp4, hx, hy⟩ := a_run_t hX.ok z
  refine ix_x hp4 ep (by omega) ?_
  rw [hX.r12]
  refine c59 (by omega) hX (hX.pln p.toNatClampNeg hp) (by have := hX.mu; omega) ((hX.ok.pl hp).up (by omega)) hx hy (fun σ1 f1 => ⟨_, rfl, ?_⟩)
  exact c83 (by omega) (f1.weak fRn_O) q
theorem o216 (hd : 9 ≤ d) {p x y : Int32} (hY : mY σ R C h) (q : ∀ σ', mG σ σ' (a_harm R C p x y).2 → Q (some (vi (a_harm R C p x y).1)) σ') : CL L xs d 216 [vr 13 0, vi p, vi x, vi y] σ Q := by
  refine cl_at p216 (by omega) (w216_0 hC ?_)
  refine c150 (by omega) (fun σ1 g1 => ⟨rfl, ?_⟩)
  have Y1 := mY_o hY g1.1
  unfold a_harm at q
  refine c190 (by omega) Y1 ⟨_, rfl, ?_⟩
  refine if_b (fun z => ?_) (fun z => ?_)
  · rw [if_neg (by unfold a_run; simp [z])] at q
    exact c151 (by omega) g1 q
  have hh := mY_opn hY (by omega) (by omega) z
  refine c192 (by omega) Y1 hh ⟨_, rfl, ?_⟩
  refine if_b (fun z1 => ?_) (fun z1 => ?_)
  · rw [if_neg (by unfold a_run; simp [z, z1])] at q
    exact c151 (by omega) g1 q
  refine c192 (by omega) Y1 hh ⟨_, rfl, ?_⟩
  refine if_b (fun z2 => ?_) (fun z2 => ?_)
  · rw [if_neg (by unfold a_run; simp [z, z1, z2])] at q
    exact c151 (by omega) g1 q
  have zr : a_run R p x y = true := by unfold a_run; rw [z, z1, z2]; rfl
  rw [if_pos zr] at q
  obtain ⟨hp, ep, hp4, hx, hy⟩ := a_run_t hY.1.1 zr
  exact c209 (by omega) Y1.1 ep hp hx hy (fun σ2 f2 => ⟨_, rfl, q σ2 (g1.rn f2)⟩)
end OP1
