/-! FRAMES of the calls, refusals, what is within bounds -/
def fO : Nat → Nat → Nat → Bool := fun t i k => t == 51 || t == 8 || t == 55 || t == 56 || ((t == 10 || t == 52 || t == 53) && decide (8 ≤ i)) || (t == 12 && (k == 12 || k == 13))
def gO : Nat → Nat → Nat → Bool := fun t _ k => (decide (67 ≤ t) && decide (t ≤ 75)) || (t == 13 && (k == 0 || k == 11 || k == 24 || k == 25 || k == 27 || k == 29 || k == 35 || k == 36))
theorem fO_k : ∀ t i k, kpX t i = true → fO t i k = false := by
  intro t i k h
  unfold kpX at h
  unfold fO
  simp only [Bool.or_eq_true, Bool.and_eq_true, beq_iff_eq, decide_eq_true_eq] at h
  simp only [Bool.or_eq_false_iff, Bool.and_eq_false_iff, beq_eq_false_iff_ne, ne_eq, decide_eq_false_iff_not]
  omega
theorem fRn_O : ∀ t i k, fRn t i k = true → fO t i k = true := by
  intro t i k h
  unfold fRn at h
  unfold fO
  simp only [Bool.or_eq_true, Bool.and_eq_true, beq_iff_eq, decide_eq_true_eq] at *
  omega
theorem gRn_O : ∀ t i k, gRn t i k = true → gO t i k = true := by
  intro t i k h
  unfold gRn at h
  unfold gO
  simp only [Bool.or_eq_true, Bool.and_eq_true, beq_iff_eq, decide_eq_true_eq] at *
  omega
def cG (σ σ' : M2) (tr : Int32) : Prop := fr fO σ σ' ∧ σ'.1 12 0 13 = tr
def mG (σ σ' : M2) (tr : Int32) : Prop := fr gO σ σ' ∧ σ'.1 13 0 11 = tr ∧ σ'.1 13 0 0 = 0
theorem mG.rn {σ σ1 σ2 : M2} {tr : Int32} (h : mG σ σ1 tr) (hf : fr gRn σ1 σ2) : mG σ σ2 tr := ⟨h.1.trans (hf.weak gRn_O), by rw [hf.1 _ _ _ rfl]; exact h.2.1, by rw [hf.1 _ _ _ rfl]; exact h.2.2⟩
theorem mG.o {A : Nat → Nat → Nat → Bool} (hA : ∀ t i k, A t i k = true → gO t i k = true) (h0 : A 13 0 0 = false) (h1 : A 13 0 11 = false) {σ σ1 σ2 : M2} {tr : Int32} (h : mG σ σ1 tr) (hf : fr A σ1 σ2) : mG σ σ2 tr := ⟨h.1.trans (hf.weak hA), by rw [hf.1 _ _ _ h1]; exact h.2.1, by rw [hf.1 _ _ _ h0]; exact h.2.2⟩
def mY (σ : M2) (R : Nat → Int32) (C : Nat → Bool) (h : Bool) : Prop := mX σ R C ∧ σ.1 13 0 14 = bI h ∧ (h = false → (∀ k, 4 ≤ k → k ≤ 10 → R k = 0) ∧ R 181 = 0)
theorem mY.fr {A : Nat → Nat → Nat → Bool} (hA : ∀ k, A 62 0 k = false ∧ A 64 0 k = false) (h14 : A 13 0 14 = false) {σ σ' : M2} {R : Nat → Int32} {C : Nat → Bool} {h : Bool} (hY : mY σ R C h) (hf : fr A σ σ') : mY σ' R C h := ⟨hY.1.fr hA hf, by rw [hf.1 _ _ _ h14]; exact hY.2.1, hY.2.2⟩
theorem mY_o {σ σ' : M2} {R : Nat → Int32} {C : Nat → Bool} {h : Bool} (hY : mY σ R C h) (hf : fr gO σ σ') : mY σ' R C h := hY.fr (fun _ => ⟨rfl, rfl⟩) rfl hf
def inn (x n : Int32) : Bool := decide (¬ x < 0) && decide (x < n)
theorem inn_k {R : Nat → Int32} {k : Nat} {x : Int32} (hR : R k = nI (gN R k)) (hb : gN R k < 2 ^ 31) (h : inn x (R k) = true) : x.toNatClampNeg < gN R k ∧ x = nI x.toNatClampNeg := by
  unfold inn at h
  simp only [Bool.and_eq_true, decide_eq_true_eq] at h
  obtain ⟨j, hj, rfl⟩ := nI_of h.1
  rw [nI_clamp hj]
  refine ⟨?_, rfl⟩
  have h2 := h.2
  rw [hR, nI_ltI hj hb] at h2
  exact h2
theorem inn_n {n : Nat} {x : Int32} (hb : n < 2 ^ 31) (h : inn x (nI n) = true) : x.toNatClampNeg < n ∧ x = nI x.toNatClampNeg := by
  unfold inn at h
  simp only [Bool.and_eq_true, decide_eq_true_eq] at h
  obtain ⟨j, hj, rfl⟩ := nI_of h.1
  rw [nI_clamp hj]
  refine ⟨?_, rfl⟩
  have h2 := h.2
  rw [nI_ltI hj hb] at h2
  exact h2
theorem inn_0 {x : Int32} : inn x 0 = false := by
  unfold inn
  by_cases h : x < 0
  · simp [h]
  · simp [h]
theorem s1_lt {n : Nat} {x : Int32} (hb : n < 2 ^ 31) : nI n - 1 < x ↔ ¬ x < nI n := by
  rw [Int32.lt_iff_toInt_lt, Int32.lt_iff_toInt_lt, nI_toInt hb]
  have e : (nI n - 1).toInt = (n : Int) - 1 := by
    rw [Int32.toInt_sub, nI_toInt hb]
    have : (1 : Int32).toInt = 1 := rfl
    rw [this, Int.bmod_eq_of_le (by omega) (by omega)]
  rw [e]
  omega
section ANS
variable {L : Nat} {xs : Nat → Int32} {d : Nat} {Q : Option dm_V → M2 → Prop} {σ σ0 : M2} {μ : Nat} {R : Nat → Int32} {C : Nat → Bool} {h : Bool}
theorem c81 (hd : 4 ≤ d) {w : Int32} (hf : fr fO σ0 σ) (q : ∀ σ', cG σ0 σ' w → Q (some (vi (-1))) σ') : CL L xs d 81 [vr 12 0, vi w] σ (fun r σ' => ∃ v : Int32, r = some (vi v) ∧ Q (some (vi v)) σ') := by
  refine cl_at p81 hd (w81_0 hC ?_)
  exact ⟨_, rfl, q _ ⟨hf.w rfl, wI_same⟩⟩
theorem c82 (hd : 4 ≤ d) {w : Int32} (hf : fr fO σ0 σ) (q : ∀ σ', cG σ0 σ' w → Q (some (vi 0)) σ') : CL L xs d 82 [vr 12 0, vi w] σ (fun r σ' => ∃ v : Int32, r = some (vi v) ∧ Q (some (vi v)) σ') := by
  refine cl_at p82 hd (w82_0 hC ?_)
  exact ⟨_, rfl, q _ ⟨hf.w rfl, wI_same⟩⟩
theorem c83 (hd : 4 ≤ d) {w : Int32} (hf : fr fO σ0 σ) (q : ∀ σ', cG σ0 σ' 0 → Q (some (vi w)) σ') : CL L xs d 83 [vr 12 0, vi w] σ (fun r σ' => ∃ v : Int32, r = some (vi v) ∧ Q (some (vi v)) σ') := by
  refine cl_at p83 hd (w83_0 hC ?_)
  exact ⟨_, rfl, q _ ⟨hf.w rfl, wI_same⟩⟩
theorem c85 (hd : 4 ≤ d) {s : Nat} {x1 x n : Int32} (h1 : x1 = nI s) (hs : s < 9) (hX : cX σ μ R C) (hn : σ.1 36 μ s = n) (q : Q (some (vi (bI (inn x n)))) σ) : CL L xs d 85 [vr 12 0, vi x1, vi x] σ Q := by
  subst h1
  refine cl_at p85 hd (w85_0 hC ?_)
  rw [nI_clamp (by omega), hX.r12, hn]
  unfold inn at q
  refine if_c (fun z => ?_) (fun z => ix_k hs (by omega) (if_c (fun z' => ?_) (fun z' => ?_)))
  · rw [decide_eq_false (fun e => e z)] at q; exact q
  · rw [decide_eq_true z, decide_eq_true z'] at q; exact q
  · rw [decide_eq_false z'] at q; rw [Bool.and_false] at q; exact q
def isCb (R : Nat → Int32) (x : Int32) : Bool := decide (x = -2) || inn x (R 7)
theorem isCb_t (hR : okR R) {x : Int32} (h : isCb R x = true) : isC R x := by
  unfold isCb at h
  simp only [Bool.or_eq_true, decide_eq_true_eq] at h
  rcases h with h | h
  · exact Or.inl h
  · have := inn_k hR.cS.2 (by have := hR.cS.1; omega) h
    exact Or.inr ⟨_, this.1, this.2⟩
theorem isC_2 : isC R (-2) := Or.inl rfl
theorem isC_s {s : Nat} (hs : s < gN R 7) : isC R (nI s) := Or.inr ⟨s, hs, rfl⟩
theorem bI_pass {b : Bool} {c : Bool} (h : b = c) (q : Q (some (vi (bI c))) σ) : (if bI b = 0 then Q (some (vi 0)) σ else Q (some (vi 1)) σ) := by
  subst h
  cases b
  · exact if_y rfl q
  · exact if_n (by decide) q
theorem c86 (hd : 5 ≤ d) {x : Int32} (hX : cX σ μ R C) (q : Q (some (vi (bI (isCb R x)))) σ) : CL L xs d 86 [vr 12 0, vi x] σ Q := by
  refine cl_at p86 (by omega) (w86_0 hC ?_)
  unfold isCb at q
  refine if_c (fun z => ?_) (fun z => ?_)
  · rw [decide_eq_true z] at q; exact q
  · rw [decide_eq_false z, Bool.false_or] at q
    exact c85 (s := 5) (by omega) rfl (by omega) hX hX.cnt.2.2.2.2.1 ⟨_, rfl, bI_pass rfl q⟩
theorem c94 (hd : 6 ≤ d) {x y p : Int32} (hX : cX σ μ R C) (q : Q (some (vi (bI (inn p (R 6) && (isCb R x && isCb R y))))) σ) : CL L xs d 94 [vr 12 0, vi p, vi x, vi y] σ Q := by
  refine cl_at p94 (by omega) (w94_0 hC ?_)
  refine c85 (s := 4) (by omega) rfl (by omega) hX hX.cnt.2.2.2.1 ⟨_, rfl, ?_⟩
  refine if_b (fun z => ?_) (fun z => ?_)
  · rw [z] at q; exact q
  refine c86 (by omega) hX ⟨_, rfl, ?_⟩
  refine if_b (fun z' => ?_) (fun z' => ?_)
  · rw [z, z'] at q; exact q
  refine c86 (by omega) hX ⟨_, rfl, ?_⟩
  exact bI_pass (by rw [z, z']; rfl) q
theorem c150 (hd : 4 ≤ d) (q : ∀ σ', mG σ σ' 0 → Q none σ') : CL L xs d 150 [vr 13 0] σ Q := by
  refine cl_at p150 hd (w150_0 hC ?_)
  exact q _ ⟨(fr.id.w rfl).w rfl, wI_same, by rw [wI_k (by decide), wI_same]⟩
theorem c151 (hd : 4 ≤ d) {w t : Int32} (hf : mG σ0 σ t) (q : ∀ σ', mG σ0 σ' w → Q (some (vi (-1))) σ') : CL L xs d 151 [vr 13 0, vi w] σ (fun r σ' => ∃ v : Int32, r = some (vi v) ∧ Q (some (vi v)) σ') := by
  refine cl_at p151 hd (w151_0 hC ?_)
  exact ⟨_, rfl, q _ ⟨hf.1.w rfl, wI_same, by rw [wI_k (by decide)]; exact hf.2.2⟩⟩
theorem c152 (hd : 4 ≤ d) {w t : Int32} (hf : mG σ0 σ t) (q : ∀ σ', mG σ0 σ' w → Q (some (vi 0)) σ') : CL L xs d 152 [vr 13 0, vi w] σ (fun r σ' => ∃ v : Int32, r = some (vi v) ∧ Q (some (vi v)) σ') := by
  refine cl_at p152 hd (w152_0 hC ?_)
  exact ⟨_, rfl, q _ ⟨hf.1.w rfl, wI_same, by rw [wI_k (by decide)]; exact hf.2.2⟩⟩
def inc (x a b : Int32) : Bool := decide (¬ x < a) && decide (¬ b < x)
theorem c153 (hd : 4 ≤ d) {x a b : Int32} (q : Q (some (vi (bI (inc x a b)))) σ) : CL L xs d 153 [vi x, vi a, vi b] σ Q := by
  refine cl_at p153 hd (w153_0 hC ?_)
  unfold inc at q
  refine if_c (fun z => ?_) (fun z => if_c (fun z' => ?_) (fun z' => ?_))
  · rw [decide_eq_false (fun e => e z)] at q; exact q
  · rw [decide_eq_false (p := ¬ b < x) (fun e => e z'), Bool.and_false] at q; exact q
  · rw [decide_eq_true z, decide_eq_true z'] at q; exact q
theorem inc_s1 {n : Nat} {x : Int32} (hb : n < 2 ^ 31) : inc x 0 (nI n - 1) = inn x (nI n) := by
  unfold inc inn
  congr 1
  apply decide_eq_decide.mpr
  rw [s1_lt hb]
  exact Decidable.not_not
theorem isX {n : Nat} {x : Int32} {k : Nat} (hd : 4 ≤ d) (hY : mY σ R C h) (hk : 4 ≤ k) (hk' : k ≤ 10) (hR : R k = nI (gN R k)) (hb : gN R k < 2 ^ 31) (q : Q (some (vi (bI (inn x (R k))))) σ) :
    (if σ.1 13 0 14 = 0 then Q (some (vi 0)) σ else CL L xs d 153 [vi x, vi 0, vi (σ.1 62 0 k - 1)] σ (fun r σ1 => ∃ v2 : Int32, r = some (vi v2) ∧ (if v2 = 0 then Q (some (vi 0)) σ1 else Q (some (vi 1)) σ1))) := by
  rw [hY.2.1]
  refine if_b (fun z => ?_) (fun z => ?_)
  · rw [(hY.2.2 z).1 k hk hk', inn_0] at q; exact q
  · refine c153 hd ⟨_, rfl, bI_pass ?_ q⟩
    rw [hY.1.2.1, hR, inc_s1 hb]
theorem c190 (hd : 5 ≤ d) {x : Int32} (hY : mY σ R C h) (q : Q (some (vi (bI (inn x (R 6))))) σ) : CL L xs d 190 [vr 13 0, vi x] σ Q :=
  cl_at p190 (by omega) (w190_0 hC (isX (n := 0) (by omega) hY (by omega) (by omega) hY.1.1.cP.2 (by have := hY.1.1.cP.1; omega) q))
theorem c191 (hd : 5 ≤ d) {x : Int32} (hY : mY σ R C h) (q : Q (some (vi (bI (inn x (R 7))))) σ) : CL L xs d 191 [vr 13 0, vi x] σ Q :=
  cl_at p191 (by omega) (w191_0 hC (isX (n := 0) (by omega) hY (by omega) (by omega) hY.1.1.cS.2 (by have := hY.1.1.cS.1; omega) q))
theorem c193 (hd : 5 ≤ d) {x : Int32} (hY : mY σ R C h) (q : Q (some (vi (bI (inn x (R 8))))) σ) : CL L xs d 193 [vr 13 0, vi x] σ Q :=
  cl_at p193 (by omega) (w193_0 hC (isX (n := 0) (by omega) hY (by omega) (by omega) hY.1.1.cM.2 (by have := hY.1.1.cM.1; omega) q))
theorem c194 (hd : 5 ≤ d) {x : Int32} (hY : mY σ R C h) (q : Q (some (vi (bI (inn x (R 4))))) σ) : CL L xs d 194 [vr 13 0, vi x] σ Q :=
  cl_at p194 (by omega) (w194_0 hC (isX (n := 0) (by omega) hY (by omega) (by omega) hY.1.1.cT.2 (by have := hY.1.1.cT.1; omega) q))
theorem c195 (hd : 5 ≤ d) {x : Int32} (hY : mY σ R C h) (q : Q (some (vi (bI (inn x (R 9))))) σ) : CL L xs d 195 [vr 13 0, vi x] σ Q :=
  cl_at p195 (by omega) (w195_0 hC (isX (n := 0) (by omega) hY (by omega) (by omega) hY.1.1.cA.2 (by have := hY.1.1.cA.1; omega) q))
theorem c192 (hd : 6 ≤ d) {x : Int32} (hY : mY σ R C h) (hh : h = true) (q : Q (some (vi (bI (isCb R x)))) σ) : CL L xs d 192 [vr 13 0, vi x] σ Q := by
  refine cl_at p192 (by omega) (w192_0 hC ?_)
  rw [hY.2.1, hh]
  unfold isCb at q
  refine if_n (by decide) (if_c (fun z => ?_) (fun z => ?_))
  · rw [decide_eq_true z] at q; exact q
  · rw [decide_eq_false z, Bool.false_or] at q
    exact c191 (by omega) hY ⟨_, rfl, bI_pass rfl q⟩
theorem mY_opn {σ : M2} {R : Nat → Int32} {C : Nat → Bool} {h : Bool} (hY : mY σ R C h) {x : Int32} {k : Nat} (hk : 4 ≤ k) (hk' : k ≤ 10) (hx : inn x (R k) = true) : h = true := by
  cases h
  · rw [(hY.2.2 rfl).1 k hk hk', inn_0] at hx; cases hx
  · rfl
end ANS
