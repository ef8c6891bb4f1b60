/-! CALLS: apart, copies -/
def eT (R : Nat → Int32) (C : Nat → Bool) (p a : Nat) : Int32 := en2 R C (plR R p) (if a = 0 then -2 else nI (a - 1)) (-2)
def neA (R : Nat → Int32) (C : Nat → Bool) (a b p : Nat) : Bool := !(decide (eT R C p a = eT R C p b))
theorem neA_sym {R : Nat → Int32} {C : Nat → Bool} {a b : Nat} : neA R C a b = neA R C b a := by
  funext p
  unfold neA
  congr 1
  exact decide_eq_decide.mpr ⟨fun h => h.symm, fun h => h.symm⟩
def an (f : Nat → Bool) : Nat → Nat → Bool
  | 0, _ => false
  | m + 1, k => if f k = true then true else an f m (k + 1)
def dff (e : Nat → Bool) (m P : Nat) : Bool := an (fun p => m.testBit p && e p) P 0
def tAf (e : Nat → Bool) (P : Nat) : Int32 := ff (fun p a => if e p = true then a ||| bt p else a) P 0 0
theorem an_congr {f g : Nat → Bool} : ∀ m k, (∀ i, k ≤ i → i < k + m → f i = g i) → an f m k = an g m k
  | 0, _, _ => rfl
  | m + 1, k, h => by
    unfold an
    rw [h k (Nat.le_refl _) (by omega), an_congr m (k + 1) (fun i h1 h2 => h i (by omega) (by omega))]
theorem tAf_and : ∀ P, P < 5 → ∀ m, m < 16 → ∀ b0 b1 b2 b3 : Bool, (decide ((tAf (fun p => cond (p == 0) b0 (cond (p == 1) b1 (cond (p == 2) b2 b3))) P &&& nI m) = 0) = !(dff (fun p => cond (p == 0) b0 (cond (p == 1) b1 (cond (p == 2) b2 b3))) m P)) := by decide +kernel
theorem tAf_0 : ∀ P, P < 5 → ∀ b0 b1 b2 b3 : Bool, (decide (tAf (fun p => cond (p == 0) b0 (cond (p == 1) b1 (cond (p == 2) b2 b3))) P = 0) = !(dff (fun p => cond (p == 0) b0 (cond (p == 1) b1 (cond (p == 2) b2 b3))) (2 ^ P - 1) P)) := by decide +kernel
theorem ff_congr {α : Type} {f g : Nat → α → α} : ∀ m k a, (∀ i a, k ≤ i → i < k + m → f i a = g i a) → ff f m k a = ff g m k a
  | 0, _, _, _ => rfl
  | m + 1, k, a, h => by
    unfold ff
    rw [h k a (Nat.le_refl _) (by omega), ff_congr m (k + 1) _ (fun i a h1 h2 => h i a (by omega) (by omega))]
theorem four {e : Nat → Bool} : ∀ i, i < 4 → cond (i == 0) (e 0) (cond (i == 1) (e 1) (cond (i == 2) (e 2) (e 3))) = e i := by
  intro i hi
  match i, hi with
  | 0, _ => rfl
  | 1, _ => rfl
  | 2, _ => rfl
  | 3, _ => rfl
theorem tAf_e {e : Nat → Bool} {P : Nat} (hP : P < 5) : tAf (fun p => cond (p == 0) (e 0) (cond (p == 1) (e 1) (cond (p == 2) (e 2) (e 3)))) P = tAf e P := by
  unfold tAf
  exact ff_congr _ _ _ (fun i a _ h => by simp only [four i (show i < 4 by omega)])
theorem dff_e {e : Nat → Bool} {m P : Nat} (hP : P < 5) : dff (fun p => cond (p == 0) (e 0) (cond (p == 1) (e 1) (cond (p == 2) (e 2) (e 3)))) m P = dff e m P := by
  unfold dff
  exact an_congr _ _ (fun i _ h => by dsimp only; rw [four i (by omega)])
theorem tA_and {e : Nat → Bool} {m P : Nat} (hP : P < 5) (hm : m < 16) : (tAf e P &&& nI m) = 0 ↔ dff e m P = false := by
  have h := tAf_and P hP m hm (e 0) (e 1) (e 2) (e 3)
  rw [tAf_e hP, dff_e hP] at h
  cases hd : dff e m P
  · rw [hd] at h; exact ⟨fun _ => rfl, fun _ => of_decide_eq_true h⟩
  · rw [hd] at h; exact ⟨fun z => absurd z (of_decide_eq_false h), fun z => by cases z⟩
theorem tA_0 {e : Nat → Bool} {P : Nat} (hP : P < 5) : tAf e P = 0 ↔ dff e (2 ^ P - 1) P = false := by
  have h := tAf_0 P hP (e 0) (e 1) (e 2) (e 3)
  rw [tAf_e hP, dff_e hP] at h
  cases hd : dff e (2 ^ P - 1) P
  · rw [hd] at h; exact ⟨fun _ => rfl, fun _ => of_decide_eq_true h⟩
  · rw [hd] at h; exact ⟨fun z => absurd z (of_decide_eq_false h), fun z => by cases z⟩
def al (f : Nat → Bool) : Nat → Bool
  | 0 => true
  | n + 1 => al f n && f n
theorem al_f {f : Nat → Bool} : ∀ {n k : Nat}, k < n → f k = false → al f n = false
  | 0, _, h, _ => absurd h (Nat.not_lt_zero _)
  | n + 1, k, h, hk => by
    unfold al
    rcases Nat.lt_or_ge k n with z | z
    · rw [al_f z hk]; rfl
    · obtain rfl : k = n := by omega
      rw [hk, Bool.and_false]
def gdA (R : Nat → Int32) (C : Nat → Bool) (m a b : Nat) : Bool := !(dff (neA R C b a) (2 ^ gN R 6 - 1) (gN R 6)) || dff (neA R C b a) m (gN R 6)
def okS (R : Nat → Int32) (C : Nat → Bool) (m : Nat) : Bool := al (fun a => al (gdA R C m a) a) (gN R 7 + 1)
def pop (m : Nat) : Nat := m % 2 + m / 2 % 2 + m / 4 % 2 + m / 8 % 2
def dn {α : Type} (f : Nat → α → α) : Nat → α → α
  | 0, a => a
  | k + 1, a => dn f k (f k a)
def mF (ok : Nat → Bool) : Nat → Nat → Nat := fun s b => if (decide (pop s < pop b) && ok s) = true then s else b
def cF (ok : Nat → Bool) : Nat → Nat → Nat := fun s b => if (decide (pop s ≤ pop b) && ok s) = true then s else b
theorem pop_all : ∀ P, P < 5 → ∀ s, s < 2 ^ P - 1 → pop s < pop (2 ^ P - 1) := by decide +kernel
def bst (ok : Nat → Bool) (A lo hi b : Nat) : Prop := (b = A ∨ (lo ≤ b ∧ b < hi ∧ b < A ∧ ok b = true)) ∧ ∀ s, lo ≤ s → s < hi → s < A → ok s = true → pop b < pop s ∨ (pop b = pop s ∧ b ≤ s)
theorem bst_m {ok : Nat → Bool} {A : Nat} (hA : ∀ s, s < A → pop s < pop A) : ∀ m k b, k + m = A + 1 → bst ok A 0 k b → bst ok A 0 (A + 1) (ff (mF ok) m k b)
  | 0, k, b, h, hb => by have : k = A + 1 := h; subst this; exact hb
  | m + 1, k, b, h, hb => by
    refine bst_m hA m (k + 1) (mF ok k b) (by omega) ?_
    unfold mF
    by_cases z : (decide (pop k < pop b) && ok k) = true
    · rw [if_pos z]
      simp only [Bool.and_eq_true, decide_eq_true_eq] at z
      refine ⟨?_, fun s _ h2 h3 h4 => ?_⟩
      · rcases Nat.eq_or_lt_of_le (show k ≤ A by omega) with e | e
        · exact Or.inl e
        · exact Or.inr ⟨by omega, by omega, e, z.2⟩
      · rcases Nat.lt_or_ge s k with e | e
        · rcases hb.2 s (by omega) e h3 h4 with w | w <;> left <;> omega
        · obtain rfl : s = k := by omega
          exact Or.inr ⟨rfl, Nat.le_refl _⟩
    · rw [if_neg z]
      refine ⟨?_, fun s _ h2 h3 h4 => ?_⟩
      · rcases hb.1 with e | e
        · exact Or.inl e
        · exact Or.inr ⟨by omega, by omega, e.2.2⟩
      · rcases Nat.lt_or_ge s k with e | e
        · exact hb.2 s (by omega) e h3 h4
        · obtain rfl : s = k := by omega
          have z : ¬ pop s < pop b := fun w => z (by rw [decide_eq_true w, h4]; rfl)
          rcases hb.1 with e | e
          · subst e; have := hA s h3; omega
          · rcases Nat.lt_or_ge (pop b) (pop s) with w | w
            · exact Or.inl w
            · exact Or.inr ⟨by omega, by omega⟩
theorem bst_c {ok : Nat → Bool} {A : Nat} : ∀ k b, k ≤ A → bst ok A k A b → bst ok A 0 A (dn (cF ok) k b)
  | 0, b, _, hb => hb
  | k + 1, b, h, hb => by
    refine bst_c k (cF ok k b) (by omega) ?_
    unfold cF
    by_cases z : (decide (pop k ≤ pop b) && ok k) = true
    · rw [if_pos z]
      simp only [Bool.and_eq_true, decide_eq_true_eq] at z
      refine ⟨Or.inr ⟨Nat.le_refl _, by omega, by omega, z.2⟩, fun s h1 h2 h3 h4 => ?_⟩
      rcases Nat.eq_or_lt_of_le h1 with e | e
      · subst e; exact Or.inr ⟨rfl, Nat.le_refl _⟩
      · rcases hb.2 s (by omega) h2 h3 h4 with w | w
        · left; omega
        · rcases Nat.lt_or_ge (pop k) (pop s) with y | y
          · exact Or.inl y
          · exact Or.inr ⟨by omega, by omega⟩
    · rw [if_neg z]
      refine ⟨?_, fun s h1 h2 h3 h4 => ?_⟩
      · rcases hb.1 with e | e
        · exact Or.inl e
        · exact Or.inr ⟨by omega, e.2⟩
      · rcases Nat.eq_or_lt_of_le h1 with e | e
        · subst e
          have z : ¬ pop k ≤ pop b := fun w => z (by rw [decide_eq_true w, h4]; rfl)
          left; omega
        · exact hb.2 s (by omega) h2 h3 h4
theorem bst_u {ok : Nat → Bool} {A : Nat} (hA : ∀ s, s < A → pop s < pop A) {b c : Nat} (hb : bst ok A 0 (A + 1) b) (hc : bst ok A 0 A c) : b = c := by
  rcases hb.1 with e | e <;> rcases hc.1 with e2 | e2
  · rw [e, e2]
  · rcases hb.2 c (by omega) (by omega) e2.2.2.1 e2.2.2.2 with w | w
    · subst e; have := hA c e2.2.2.1; omega
    · omega
  · rcases hc.2 b (by omega) e.2.2.1 e.2.2.1 e.2.2.2 with w | w
    · subst e2; have := hA b e.2.2.1; omega
    · omega
  · have h1 := hb.2 c (by omega) (by omega) e2.2.2.1 e2.2.2.2
    have h2 := hc.2 b (by omega) e.2.2.1 e.2.2.1 e.2.2.2
    omega
def k_apart (R : Nat → Int32) (C : Nat → Bool) : Nat := ff (mF (okS R C)) (2 ^ gN R 6) 0 (2 ^ gN R 6 - 1)
theorem k_apart_eq {R : Nat → Int32} {C : Nat → Bool} (hP : gN R 6 < 5) : k_apart R C = dn (cF (okS R C)) (2 ^ gN R 6 - 1) (2 ^ gN R 6 - 1) := by
  have h0 : 1 ≤ 2 ^ gN R 6 := Nat.one_le_two_pow
  have hA := pop_all _ hP
  unfold k_apart
  have e : 2 ^ gN R 6 = (2 ^ gN R 6 - 1) + 1 := by omega
  refine bst_u (ok := okS R C) (A := 2 ^ gN R 6 - 1) hA ?_ (bst_c _ _ (Nat.le_refl _) ⟨Or.inl rfl, fun s h1 h2 => by omega⟩)
  exact bst_m hA _ 0 _ (by omega) ⟨Or.inl rfl, fun s _ h2 => by omega⟩
theorem k_apart_lt {R : Nat → Int32} {C : Nat → Bool} (hP : gN R 6 < 5) : ∀ m k b, k + m ≤ 2 ^ gN R 6 → b < 2 ^ gN R 6 → ff (mF (okS R C)) m k b < 2 ^ gN R 6
  | 0, _, _, _, h => h
  | m + 1, k, b, h1, h => by
    refine k_apart_lt hP m (k + 1) _ (by omega) ?_
    unfold mF
    split
    · omega
    · exact h
def a_apart (R : Nat → Int32) (C : Nat → Bool) (h : Bool) : Int32 × Int32 := if h = true then (nI (k_apart R C), 0) else no1
def cpF (R : Nat → Int32) (C : Nat → Bool) : Nat → Int32 → Int32 := fun s a => ff (fun o a => if dff (neA R C (o + 1) (s + 1)) (2 ^ gN R 6 - 1) (gN R 6) = false then a ||| bt s else a) s 0 a
def a_copies (R : Nat → Int32) (C : Nat → Bool) (h : Bool) : Int32 × Int32 := if h = true then (ff (cpF R C) (gN R 7) 0 0, 0) else no1
theorem shl_P : ∀ P, P < 5 → (1 : Int32) <<< (nI P &&& 31) = nI (2 ^ P) := by decide +kernel
theorem tb_16 : ∀ m, m < 16 → ∀ p, p < 4 → (nI m >>> (nI p &&& 31)) &&& 1 = bI (m.testBit p) := by decide +kernel
def onesF (x : Int32) : Int32 := ff (fun j a => a + ((x >>> (nI j &&& 31)) &&& 1)) 8 0 0
theorem ones_16 : ∀ m, m < 16 → onesF (nI m) = nI (pop m) := by decide +kernel
theorem pow5 : ∀ P, P < 5 → 2 ^ P ≤ 16 := by decide
theorem pop_4 : ∀ m, m < 16 → pop m < 5 := by decide
section OP9
variable {L : Nat} {xs : Nat → Int32} {d : Nat} {Q : Option dm_V → M2 → Prop} {σ : M2} {μ : Nat} {R : Nat → Int32} {C : Nat → Bool} {h : Bool}
theorem c279 (hd : 4 ≤ d) {m : Nat} (hm : m < 16) (q : Q (some (vi (nI (pop m)))) σ) : CL L xs d 279 [vi (nI m)] σ Q := by
  refine cl_at p279 hd (w279_0 hC ?_)
  match m, hm, q with
  | 0, _, q => exact q
  | 1, _, q => exact q
  | 2, _, q => exact q
  | 3, _, q => exact q
  | 4, _, q => exact q
  | 5, _, q => exact q
  | 6, _, q => exact q
  | 7, _, q => exact q
  | 8, _, q => exact q
  | 9, _, q => exact q
  | 10, _, q => exact q
  | 11, _, q => exact q
  | 12, _, q => exact q
  | 13, _, q => exact q
  | 14, _, q => exact q
  | 15, _, q => exact q
  | n + 16, hm, _ => exact absurd hm (by omega)
theorem c154 (hd : 4 ≤ d) {m : Nat} (hm : m < 16) (q : Q (some (vi (nI (pop m)))) σ) : CL L xs d 154 [vi (nI m)] σ Q := by
  refine cl_at p154 hd (w154_0 hC ?_)
  rw [← ones_16 m hm] at q
  unfold onesF at q
  refine dm_ff (n := 8) (fun j a => a + ((nI m >>> (nI j &&& 31)) &&& 1)) (fun k a σ => g154_4 L xs (CL L xs (d - 1)) Q (nI m) a (nI k) σ) (fun σ' => σ' = σ) ?_ 8 0 0 σ rfl rfl ?_
  · rintro k a σ' hk rfl ih
    refine w154_4 hC ?_
    rw [nI_1]
    exact if_y (nI_lt (b := 8) hk (by omega)) (ih _ rfl)
  · rintro σ' rfl
    exact w154_4 hC (if_n (by decide) q)
/-- the ends as the class and the model lay them -/
def tE (g : Nat → Nat → Nat → Int32) (t : Nat) (R : Nat → Int32) (C : Nat → Bool) (n : Nat) : Prop := ∀ p, p < n → ∀ a, a ≤ gN R 7 → g t 0 (8 * p + a) = eT R C p a
def f55 : Nat → Nat → Nat → Bool := fun t i k => fRn t i k || t == 55
theorem fRn_55 : ∀ t i k, fRn t i k = true → f55 t i k = true := fun t i k h => by unfold f55; rw [h]; rfl
theorem f55_O : ∀ t i k, f55 t i k = true → fO t i k = true := by
  intro t i k h
  unfold f55 at h
  rcases Bool.or_eq_true_iff.mp h with h | h
  · exact fRn_O t i k h
  · unfold fO; simp only [beq_iff_eq] at h; simp [h]
theorem r8 : (m2_room.getD 5 0) + 1 = nI 8 := by decide
theorem f55_k : ∀ t i k, kpX t i = true → f55 t i k = false := fun t i k h => by
  cases e : f55 t i k
  · rfl
  · have := fO_k t i k h
    rw [f55_O t i k e] at this; cases this
theorem c121 (hd : 9 ≤ d) (hX : cX σ μ R C) (q : ∀ σ', fr fO σ σ' → tE σ'.1 55 R C (gN R 6) → Q none σ') : CL L xs d 121 [vr 12 0] σ Q := by
  refine cl_at p121 (by omega) (w121_0 hC ?_)
  have hP := hX.ok.cP
  have hS := hX.ok.cS
  have hmu := hX.mu
  refine dm_for (n := gN R 6) (fun k σ => g121_2 L xs (CL L xs (d - 1)) Q (nI k) σ) (fun k σ' => fr f55 σ σ' ∧ tE σ'.1 55 R C k) ?_ ?_ 0 _ (Nat.zero_le _) ⟨fr.id, fun p hp => absurd hp (Nat.not_lt_zero p)⟩
  · rintro k σ1 hk ⟨g1, t1⟩ ih
    have X1 := hX.fr f55_k g1
    refine w121_2 hC ?_
    have e8 : nI k * ((m2_room.getD 5 0) + 1) = nI (8 * k) := by rw [r8, nI_mul, Nat.mul_comm]
    rw [X1.r12, X1.cnt.2.2.2.1, hP.2, nI_clamp (n := k) (by omega), e8, nI_clamp (n := 8 * k) (by omega)]
    have hv := (hX.ok.pl hk).up (m' := 8) (by omega)
    refine if_lt hk (by omega) (ix_k (by omega) (by omega) ?_)
    refine c58 (by omega) X1 (X1.pln k hk) (by omega) hv isC_2 isC_2 (fun σ2 g2 => ⟨_, rfl, ?_⟩)
    refine ix_k (by omega) (by omega) ?_
    have key : ∀ σ3, fr f55 σ σ3 → tE σ3.1 55 R C k → σ3.1 55 0 (8 * k) = eT R C k 0 → g121_53 L xs (CL L xs (d - 1)) Q (nI k) (nI (8 * k)) (nI 0) σ3 := by
      intro σ3 g3 t3 z3
      refine dm_for (n := gN R 7) (fun s σ => g121_53 L xs (CL L xs (d - 1)) Q (nI k) (nI (8 * k)) (nI s) σ) (fun s σ' => fr f55 σ σ' ∧ tE σ'.1 55 R C k ∧ ∀ a, a ≤ s → σ'.1 55 0 (8 * k + a) = eT R C k a) ?_ ?_ 0 _ (Nat.zero_le _) ⟨g3, t3, fun a ha => by
        obtain rfl : a = 0 := by omega
        exact z3⟩
      · rintro s σ4 hs ⟨g4, t4, z4⟩ ih2
        have X4 := hX.fr f55_k g4
        refine w121_53 hC ?_
        have e9 : nI (8 * k) + nI s + 1 = nI (8 * k + s + 1) := by rw [nI_add, nI_1]
        rw [X4.r12, X4.cnt.2.2.2.2.1, hS.2, nI_clamp (n := k) (by omega), nI_1 s, e9, nI_clamp (n := 8 * k + s + 1) (by omega)]
        refine if_lt hs (by omega) (ix_k (by omega) (by omega) ?_)
        refine c58 (by omega) X4 (X4.pln k hk) (by omega) hv (isC_s hs) isC_2 (fun σ5 g5 => ⟨_, rfl, ?_⟩)
        refine ix_k (by omega) (by omega) (ih2 _ ⟨(g4.trans (g5.weak fRn_55)).w rfl, fun p hp a ha => ?_, fun a ha => ?_⟩)
        · rw [wI_k (by omega), g5.1 _ _ _ rfl]; exact t4 p hp a ha
        · by_cases e : a = s + 1
          · subst e
            rw [show 8 * k + (s + 1) = 8 * k + s + 1 by omega, wI_same]
            unfold eT
            rw [if_neg (by omega), Nat.add_sub_cancel]
          · rw [wI_k (by omega), g5.1 _ _ _ rfl]; exact z4 a (by omega)
      · rintro σ4 ⟨g4, t4, z4⟩
        have X4 := hX.fr f55_k g4
        refine w121_53 hC ?_
        rw [X4.r12, X4.cnt.2.2.2.2.1, hS.2, nI_1 k]
        refine if_nlt (Nat.le_refl _) (by omega) (ih σ4 ⟨g4, fun p hp a ha => ?_⟩)
        rcases Nat.lt_or_ge p k with e | e
        · exact t4 p e a ha
        · obtain rfl : p = k := by omega
          exact z4 a ha
    refine key _ ((g1.trans (g2.weak fRn_55)).w rfl) (fun p hp a ha => ?_) wI_same
    rw [wI_k (by omega), g2.1 _ _ _ rfl]; exact t1 p hp a ha
  · rintro σ1 ⟨g1, t1⟩
    have X1 := hX.fr f55_k g1
    refine w121_2 hC ?_
    rw [X1.r12, X1.cnt.2.2.2.1, hP.2]
    exact if_nlt (Nat.le_refl _) (by omega) (q σ1 (g1.weak f55_O) t1)
theorem c123 (hd : 4 ≤ d) {a b m : Nat} (hX : cX σ μ R C) (ht : tE σ.1 55 R C (gN R 6)) (ha : a ≤ gN R 7) (hb : b ≤ gN R 7) (hm : m < 16) (q : Q (some (vi (bI (dff (neA R C a b) m (gN R 6))))) σ) : CL L xs d 123 [vr 12 0, vi (nI a), vi (nI b), vi (nI m)] σ Q := by
  refine cl_at p123 (by omega) (w123_0 hC ?_)
  have hP := hX.ok.cP
  have hS := hX.ok.cS
  unfold dff at q
  have loop : ∀ n k, k + n = gN R 6 → Q (some (vi (bI (an (fun p => m.testBit p && neA R C a b p) n k)))) σ → g123_3 L xs (CL L xs (d - 1)) Q (nI a) (nI b) (nI m) (nI k) σ := by
    intro n
    induction n with
    | zero =>
      intro k hk q
      refine w123_3 hC ?_
      rw [hX.r12, hX.cnt.2.2.2.1, hP.2]
      exact if_nlt (by omega) (by omega) q
    | succ n ih =>
      intro k hk q
      refine w123_3 hC ?_
      have e8 : nI k * ((m2_room.getD 5 0) + 1) = nI (8 * k) := by rw [r8, nI_mul, Nat.mul_comm]
      rw [hX.r12, hX.cnt.2.2.2.1, hP.2, tb_16 m hm k (by omega), e8, nI_add, nI_add, nI_clamp (n := 8 * k + a) (by omega), nI_clamp (n := 8 * k + b) (by omega), ht k (by omega) a ha, ht k (by omega) b hb, nI_1]
      refine if_lt (by omega) (by omega) ?_
      unfold an at q
      refine if_b (fun z => ?_) (fun z => ?_)
      · rw [if_neg (by rw [z]; simp)] at q
        exact ih (k + 1) (by omega) q
      refine ix_k (by omega) (by omega) (ix_k (by omega) (by omega) ?_)
      refine if_c (fun z1 => ?_) (fun z1 => ?_)
      · rw [if_neg (by unfold neA; rw [z, decide_eq_true z1]; decide)] at q
        exact ih (k + 1) (by omega) q
      · rw [if_pos (by unfold neA; rw [z, decide_eq_false z1]; rfl)] at q
        exact q
  exact loop _ 0 (Nat.zero_add _) q
theorem c122 (hd : 5 ≤ d) {m : Nat} (hX : cX σ μ R C) (ht : tE σ.1 55 R C (gN R 6)) (hm : m < 16) (q : Q (some (vi (bI (okS R C m)))) σ) : CL L xs d 122 [vr 12 0, vi (nI m)] σ Q := by
  refine cl_at p122 (by omega) (w122_0 hC ?_)
  have hP := hX.ok.cP
  have hS := hX.ok.cS
  have p16 := pow5 _ hP.1
  have p1 : 1 ≤ 2 ^ gN R 6 := Nat.one_le_two_pow
  rw [hX.r12, hX.cnt.2.2.2.1, hP.2, shl_P _ hP.1, nI_s1 p1]
  refine dm_for (n := gN R 7 + 1) (fun a σ => g122_16 L xs (CL L xs (d - 1)) Q (nI m) (nI (2 ^ gN R 6 - 1)) (nI a) σ) (fun a σ' => σ' = σ ∧ al (fun a => al (gdA R C m a) a) a = true) ?_ ?_ 1 σ (by omega) ⟨rfl, rfl⟩
  · rintro a σ' ha ⟨rfl, h1⟩ ih
    refine w122_16 hC ?_
    rw [hX.r12, hX.cnt.2.2.2.2.1, hS.2]
    refine if_nlt (by omega) (by omega) ?_
    refine dm_for (n := a) (fun b σ => g122_32 L xs (CL L xs (d - 1)) Q (nI m) (nI (2 ^ gN R 6 - 1)) (nI a) (nI b) σ) (fun b σ2 => σ2 = σ' ∧ al (gdA R C m a) b = true) ?_ ?_ 0 σ' (Nat.zero_le _) ⟨rfl, rfl⟩
    · rintro b σ2 hb ⟨rfl, h2⟩ ih2
      refine w122_32 hC ?_
      rw [nI_1 b]
      refine if_lt hb (by omega) ?_
      refine c123 (by omega) hX ht (by omega) (by omega) (by omega) ⟨_, rfl, ?_⟩
      refine if_b (fun z => ?_) (fun z => ?_)
      · refine ih2 _ ⟨rfl, ?_⟩
        unfold al
        rw [h2]
        unfold gdA
        rw [z]; rfl
      refine c123 (by omega) hX ht (by omega) (by omega) hm ⟨_, rfl, ?_⟩
      refine if_b (fun z1 => ?_) (fun z1 => ?_)
      · have e : gdA R C m a b = false := by unfold gdA; rw [z, z1]; rfl
        have e2 : okS R C m = false := al_f (k := a) (by omega) (al_f hb e)
        rw [e2] at q; exact q
      · refine ih2 _ ⟨rfl, ?_⟩
        unfold al
        rw [h2]
        unfold gdA
        rw [z1, Bool.or_true]; rfl
    · rintro σ2 ⟨rfl, h2⟩
      refine w122_32 hC ?_
      rw [nI_1 a]
      refine if_nlt (Nat.le_refl _) (by omega) (ih _ ⟨rfl, ?_⟩)
      unfold al
      rw [h1, h2]; rfl
  · rintro σ' ⟨rfl, h1⟩
    refine w122_16 hC ?_
    rw [hX.r12, hX.cnt.2.2.2.2.1, hS.2]
    have e : okS R C m = true := h1
    rw [e] at q
    exact if_lt (by omega) (by omega) q
theorem o119 (hd : 10 ≤ d) (hX : cX σ μ R C) (ho : σ.1 12 0 5 = bI h) (q : ∀ σ', cG σ σ' (a_apart R C h).2 → Q (some (vi (a_apart R C h).1)) σ') : CL L xs d 119 [vr 12 0] σ Q := by
  refine cl_at p119 (by omega) (w119_0 hC ?_)
  rw [ho]
  unfold a_apart at q
  have hP := hX.ok.cP
  have p16 := pow5 _ hP.1
  have p1 : 1 ≤ 2 ^ gN R 6 := Nat.one_le_two_pow
  refine if_b (fun z => ?_) (fun z => ?_)
  · rw [if_neg (by rw [z]; decide)] at q
    exact c81 (by omega) fr.id q
  rw [if_pos z, k_apart_eq hP.1] at q
  refine c121 (by omega) hX (fun σ1 g1 t1 => ⟨rfl, ?_⟩)
  have X1 := hX.fr fO_k g1
  rw [X1.r12, X1.cnt.2.2.2.1, hP.2, shl_P _ hP.1, nI_s1 p1]
  have loop : ∀ k b, k ≤ 2 ^ gN R 6 - 1 → b < 16 → (∀ σ', cG σ σ' 0 → Q (some (vi (nI (dn (cF (okS R C)) k b)))) σ') → g119_37 L xs (CL L xs (d - 1)) Q (nI b) (nI k + (-1)) σ1 := by
    intro k
    induction k with
    | zero =>
      intro b _ hb q
      refine w119_37 hC ?_
      exact if_y (by decide) (c83 (by omega) g1 q)
    | succ k ih =>
      intro b hk hb q
      have e : nI (k + 1) + (-1) = nI k := nI_dec (by omega)
      rw [e]
      refine w119_37 hC ?_
      refine if_n (nI_pos (by omega)) ?_
      refine c279 (by omega) (by omega) ⟨_, rfl, ?_⟩
      refine c279 (by omega) hb ⟨_, rfl, ?_⟩
      have q : ∀ σ', cG σ σ' 0 → Q (some (vi (nI (dn (cF (okS R C)) k (cF (okS R C) k b))))) σ' := q
      unfold cF at q
      have hpk := pop_4 k (by omega)
      have hpb := pop_4 b hb
      refine if_c (fun z => ?_) (fun z => ?_)
      · have z := (nI_ltI (by omega) (by omega)).mp z
        rw [if_neg (by rw [decide_eq_false (by omega)]; simp)] at q
        exact ih b (by omega) hb q
      have z : pop k ≤ pop b := by
        rcases Nat.lt_or_ge (pop b) (pop k) with w | w
        · exact absurd (nI_lt w (by omega)) z
        · exact w
      refine c122 (by omega) X1 t1 (by omega) ⟨_, rfl, ?_⟩
      refine if_b (fun z1 => ?_) (fun z1 => ?_)
      · rw [if_neg (by rw [z1, Bool.and_false]; decide)] at q
        exact ih b (by omega) hb q
      · rw [if_pos (by rw [z1, decide_eq_true z]; rfl)] at q
        exact ih k (by omega) (by omega) q
  have := loop (2 ^ gN R 6 - 1) (2 ^ gN R 6 - 1) (Nat.le_refl _) (by omega) q
  rw [Int32.sub_eq_add_neg]
  exact this
theorem o120 (hd : 10 ≤ d) (hX : cX σ μ R C) (ho : σ.1 12 0 5 = bI h) (q : ∀ σ', cG σ σ' (a_copies R C h).2 → Q (some (vi (a_copies R C h).1)) σ') : CL L xs d 120 [vr 12 0] σ Q := by
  refine cl_at p120 (by omega) (w120_0 hC ?_)
  rw [ho]
  unfold a_copies at q
  have hP := hX.ok.cP
  have hS := hX.ok.cS
  have p16 := pow5 _ hP.1
  have p1 : 1 ≤ 2 ^ gN R 6 := Nat.one_le_two_pow
  refine if_b (fun z => ?_) (fun z => ?_)
  · rw [if_neg (by rw [z]; decide)] at q
    exact c81 (by omega) fr.id q
  rw [if_pos z] at q
  refine c121 (by omega) hX (fun σ1 g1 t1 => ⟨rfl, ?_⟩)
  have X1 := hX.fr fO_k g1
  rw [X1.r12, X1.cnt.2.2.2.1, hP.2, shl_P _ hP.1, nI_s1 p1]
  have stop : ∀ a s, gN R 7 ≤ s → s < 100 → Q (some (vi a)) = Q (some (vi a)) → (∀ σ', cG σ σ' 0 → Q (some (vi a)) σ') → g120_35 L xs (CL L xs (d - 1)) Q (nI (2 ^ gN R 6 - 1)) a (nI (s + 1)) σ1 := by
    intro a s h1 h2 _ q
    refine w120_35 hC ?_
    rw [X1.r12, X1.cnt.2.2.2.2.1, hS.2]
    exact if_lt (by omega) (by omega) (c83 (by omega) g1 q)
  rcases Nat.eq_zero_or_pos (gN R 7) with e0 | e0
  · rw [e0] at q
    exact stop 0 1 (by omega) (by omega) rfl q
  have e1 : ff (cpF R C) (gN R 7) 0 0 = ff (cpF R C) (gN R 7 - 1) 1 0 := by
    obtain ⟨n, hn⟩ : ∃ n, gN R 7 = n + 1 := ⟨gN R 7 - 1, by omega⟩
    rw [hn]; rfl
  rw [e1] at q
  refine dm_ff (n := gN R 7) (cpF R C) (fun s a σ => g120_35 L xs (CL L xs (d - 1)) Q (nI (2 ^ gN R 6 - 1)) a (nI (s + 1)) σ) (fun σ' => σ' = σ1) ?_ (gN R 7 - 1) 1 0 σ1 (by omega) rfl ?_
  · rintro s a σ2 hs rfl ih
    refine w120_35 hC ?_
    rw [X1.r12, X1.cnt.2.2.2.2.1, hS.2]
    refine if_nlt (by omega) (by omega) ?_
    unfold cpF at ih
    refine dm_ff (n := s) (fun o a => if dff (neA R C (o + 1) (s + 1)) (2 ^ gN R 6 - 1) (gN R 6) = false then a ||| bt s else a) (fun o a σ => g120_51 L xs (CL L xs (d - 1)) Q (nI (2 ^ gN R 6 - 1)) a (nI (s + 1)) (nI (o + 1)) σ) (fun σ' => σ' = σ2) ?_ s 0 a σ2 (Nat.zero_add _) rfl ?_
    · rintro o a σ3 ho rfl ih2
      refine w120_51 hC ?_
      rw [nI_s1 (a := s + 1) (by omega), Nat.add_sub_cancel, nI_1 (o + 1)]
      refine if_lt (by omega) (by omega) ?_
      refine c123 (by omega) X1 t1 (by omega) (by omega) (by omega) ⟨_, rfl, ?_⟩
      have ih2 := ih2 _ rfl
      refine if_b (fun z => ?_) (fun z => ?_)
      · rw [if_pos z] at ih2; exact ih2
      · rw [if_neg (by rw [z]; decide)] at ih2; exact ih2
    · rintro σ3 rfl
      refine w120_51 hC ?_
      rw [nI_1 (s + 1)]
      exact if_nlt (Nat.le_refl _) (by omega) (ih _ rfl)
  · rintro σ2 rfl
    exact stop _ _ (Nat.le_refl _) (by omega) rfl q
end OP9
