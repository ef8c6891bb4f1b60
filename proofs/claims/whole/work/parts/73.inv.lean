/-! BETWEEN TWO STEPS of the law's loop: what class and model hold, and that they hold the same -/
def kC (t i k : Nat) : Bool := kpX t i || (t == 1 || (t == 22 || (t == 23 || (t == 2 || ((t == 12 && (k == 1 || (k == 5 || (k == 14 || k == 15)))) || (t == 54 || (t == 32 || (t == 33 || (t == 34 || (t == 35 || ((t == 3 && (k == 0 || k == 7)) || (t == 31 || (t == 28 || t == 29)))))))))))))
def kM (t k : Nat) : Bool := (t == 13 && (k == 2 || (k == 9 || (k == 10 || (k == 14 || (k == 20 || k == 21)))))) || (t == 60 || (t == 62 || (t == 64 || (t == 65 || t == 66))))
def PI (b fd n m : Nat) (h : Bool) (R r : Nat → Int32) (H I : Nat → Nat → Int32) : Prop := (b < 128) ∧ (∀ s, s < 7 → r (2 + 3 * s + 2) = bI (b.testBit s)) ∧ (fd ≤ 1000) ∧ (h = true → okD R r ∧ (∀ j, j < n → okD R (H j)) ∧ ∀ j, j < m → okD R (I j)) ∧ (h = false → n = 0 ∧ m = 0 ∧ b = 0 ∧ (∀ k, k ≤ 10 → R k = 0) ∧ r 0 = 0 ∧ r 1 = 0) ∧ (gN R 4 = 0 → gN R 6 = 0)
theorem PI.hb {b fd n m : Nat} {h : Bool} {R r : Nat → Int32} {H I : Nat → Nat → Int32} (c : PI b fd n m h R r H I) : b < 128 := c.1
theorem PI.rb {b fd n m : Nat} {h : Bool} {R r : Nat → Int32} {H I : Nat → Nat → Int32} (c : PI b fd n m h R r H I) : ∀ s, s < 7 → r (2 + 3 * s + 2) = bI (b.testBit s) := c.2.1
theorem PI.fd {b fd n m : Nat} {h : Bool} {R r : Nat → Int32} {H I : Nat → Nat → Int32} (c : PI b fd n m h R r H I) : fd ≤ 1000 := c.2.2.1
theorem PI.ok {b fd n m : Nat} {h : Bool} {R r : Nat → Int32} {H I : Nat → Nat → Int32} (c : PI b fd n m h R r H I) : h = true → okD R r ∧ (∀ j, j < n → okD R (H j)) ∧ ∀ j, j < m → okD R (I j) := c.2.2.2.1
theorem PI.nz {b fd n m : Nat} {h : Bool} {R r : Nat → Int32} {H I : Nat → Nat → Int32} (c : PI b fd n m h R r H I) : h = false → n = 0 ∧ m = 0 ∧ b = 0 ∧ (∀ k, k ≤ 10 → R k = 0) ∧ r 0 = 0 ∧ r 1 = 0 := c.2.2.2.2.1
theorem PI.r46 {b fd n m : Nat} {h : Bool} {R r : Nat → Int32} {H I : Nat → Nat → Int32} (c : PI b fd n m h R r H I) : gN R 4 = 0 → gN R 6 = 0 := c.2.2.2.2.2
def CI (σ : M2) (μ b fd n m : Nat) (h : Bool) (R r : Nat → Int32) (H I : Nat → Nat → Int32) (T : Nat → Nat) (tr fa pl : Int32) : Prop := (cX σ μ R (fun s => b.testBit s)) ∧ (σ.1 1 0 2 = nI b) ∧ (σ.1 12 0 5 = bI h) ∧ (σ.2.2 7 0 5 = 1 - μ) ∧ (σ.1 12 0 1 = nI fd) ∧ (∀ i, i < fd → T i < 256 ∧ σ.1 54 0 i = sb (T i)) ∧ (∀ o, o < 10 → σ.2.1 48 0 o = Int64.ofNat (kw o)) ∧ (h = true → dkS σ.1 0 r) ∧ (σ.1 1 0 3 = r 0 ∧ σ.1 1 0 4 = r 1) ∧ (hC' σ n H) ∧ (iC' σ m I) ∧ (∀ p b', p < gN R 6 → b' < 128 → σ.1 32 0 p = nI b' → mkH σ p (mkd R (fun s => b'.testBit s) (plR R p))) ∧ (∀ b', b' < 128 → σ.1 3 0 0 = nI b' → ldH σ R (fun s => b'.testBit s)) ∧ (∀ k, k < 3 → σ.1 28 0 k = 0 ∧ σ.1 29 0 k = 0) ∧ (σ.1 12 0 13 = tr) ∧ (σ.1 12 0 14 = fa) ∧ (tr = 4 → σ.1 12 0 15 = pl)
theorem CI.x {σ : M2} {μ b fd n m : Nat} {h : Bool} {R r : Nat → Int32} {H I : Nat → Nat → Int32} {T : Nat → Nat} {tr fa pl : Int32} (c : CI σ μ b fd n m h R r H I T tr fa pl) : cX σ μ R (fun s => b.testBit s) := c.1
theorem CI.eb {σ : M2} {μ b fd n m : Nat} {h : Bool} {R r : Nat → Int32} {H I : Nat → Nat → Int32} {T : Nat → Nat} {tr fa pl : Int32} (c : CI σ μ b fd n m h R r H I T tr fa pl) : σ.1 1 0 2 = nI b := c.2.1
theorem CI.eh {σ : M2} {μ b fd n m : Nat} {h : Bool} {R r : Nat → Int32} {H I : Nat → Nat → Int32} {T : Nat → Nat} {tr fa pl : Int32} (c : CI σ μ b fd n m h R r H I T tr fa pl) : σ.1 12 0 5 = bI h := c.2.2.1
theorem CI.rd {σ : M2} {μ b fd n m : Nat} {h : Bool} {R r : Nat → Int32} {H I : Nat → Nat → Int32} {T : Nat → Nat} {tr fa pl : Int32} (c : CI σ μ b fd n m h R r H I T tr fa pl) : σ.2.2 7 0 5 = 1 - μ := c.2.2.2.1
theorem CI.cfd {σ : M2} {μ b fd n m : Nat} {h : Bool} {R r : Nat → Int32} {H I : Nat → Nat → Int32} {T : Nat → Nat} {tr fa pl : Int32} (c : CI σ μ b fd n m h R r H I T tr fa pl) : σ.1 12 0 1 = nI fd := c.2.2.2.2.1
theorem CI.tx {σ : M2} {μ b fd n m : Nat} {h : Bool} {R r : Nat → Int32} {H I : Nat → Nat → Int32} {T : Nat → Nat} {tr fa pl : Int32} (c : CI σ μ b fd n m h R r H I T tr fa pl) : ∀ i, i < fd → T i < 256 ∧ σ.1 54 0 i = sb (T i) := c.2.2.2.2.2.1
theorem CI.kws {σ : M2} {μ b fd n m : Nat} {h : Bool} {R r : Nat → Int32} {H I : Nat → Nat → Int32} {T : Nat → Nat} {tr fa pl : Int32} (c : CI σ μ b fd n m h R r H I T tr fa pl) : ∀ o, o < 10 → σ.2.1 48 0 o = Int64.ofNat (kw o) := c.2.2.2.2.2.2.1
theorem CI.dk {σ : M2} {μ b fd n m : Nat} {h : Bool} {R r : Nat → Int32} {H I : Nat → Nat → Int32} {T : Nat → Nat} {tr fa pl : Int32} (c : CI σ μ b fd n m h R r H I T tr fa pl) : h = true → dkS σ.1 0 r := c.2.2.2.2.2.2.2.1
theorem CI.d0 {σ : M2} {μ b fd n m : Nat} {h : Bool} {R r : Nat → Int32} {H I : Nat → Nat → Int32} {T : Nat → Nat} {tr fa pl : Int32} (c : CI σ μ b fd n m h R r H I T tr fa pl) : σ.1 1 0 3 = r 0 ∧ σ.1 1 0 4 = r 1 := c.2.2.2.2.2.2.2.2.1
theorem CI.hc {σ : M2} {μ b fd n m : Nat} {h : Bool} {R r : Nat → Int32} {H I : Nat → Nat → Int32} {T : Nat → Nat} {tr fa pl : Int32} (c : CI σ μ b fd n m h R r H I T tr fa pl) : hC' σ n H := c.2.2.2.2.2.2.2.2.2.1
theorem CI.ic {σ : M2} {μ b fd n m : Nat} {h : Bool} {R r : Nat → Int32} {H I : Nat → Nat → Int32} {T : Nat → Nat} {tr fa pl : Int32} (c : CI σ μ b fd n m h R r H I T tr fa pl) : iC' σ m I := c.2.2.2.2.2.2.2.2.2.2.1
theorem CI.mk {σ : M2} {μ b fd n m : Nat} {h : Bool} {R r : Nat → Int32} {H I : Nat → Nat → Int32} {T : Nat → Nat} {tr fa pl : Int32} (c : CI σ μ b fd n m h R r H I T tr fa pl) : ∀ p b', p < gN R 6 → b' < 128 → σ.1 32 0 p = nI b' → mkH σ p (mkd R (fun s => b'.testBit s) (plR R p)) := c.2.2.2.2.2.2.2.2.2.2.2.1
theorem CI.ld {σ : M2} {μ b fd n m : Nat} {h : Bool} {R r : Nat → Int32} {H I : Nat → Nat → Int32} {T : Nat → Nat} {tr fa pl : Int32} (c : CI σ μ b fd n m h R r H I T tr fa pl) : ∀ b', b' < 128 → σ.1 3 0 0 = nI b' → ldH σ R (fun s => b'.testBit s) := c.2.2.2.2.2.2.2.2.2.2.2.2.1
theorem CI.z2 {σ : M2} {μ b fd n m : Nat} {h : Bool} {R r : Nat → Int32} {H I : Nat → Nat → Int32} {T : Nat → Nat} {tr fa pl : Int32} (c : CI σ μ b fd n m h R r H I T tr fa pl) : ∀ k, k < 3 → σ.1 28 0 k = 0 ∧ σ.1 29 0 k = 0 := c.2.2.2.2.2.2.2.2.2.2.2.2.2.1
theorem CI.tr {σ : M2} {μ b fd n m : Nat} {h : Bool} {R r : Nat → Int32} {H I : Nat → Nat → Int32} {T : Nat → Nat} {tr fa pl : Int32} (c : CI σ μ b fd n m h R r H I T tr fa pl) : σ.1 12 0 13 = tr := c.2.2.2.2.2.2.2.2.2.2.2.2.2.2.1
theorem CI.fa {σ : M2} {μ b fd n m : Nat} {h : Bool} {R r : Nat → Int32} {H I : Nat → Nat → Int32} {T : Nat → Nat} {tr fa pl : Int32} (c : CI σ μ b fd n m h R r H I T tr fa pl) : σ.1 12 0 14 = fa := c.2.2.2.2.2.2.2.2.2.2.2.2.2.2.2.1
theorem CI.pl {σ : M2} {μ b fd n m : Nat} {h : Bool} {R r : Nat → Int32} {H I : Nat → Nat → Int32} {T : Nat → Nat} {tr fa pl : Int32} (c : CI σ μ b fd n m h R r H I T tr fa pl) : tr = 4 → σ.1 12 0 15 = pl := c.2.2.2.2.2.2.2.2.2.2.2.2.2.2.2.2
def MI (σ : M2) (b fd n m : Nat) (h : Bool) (R r : Nat → Int32) (H I : Nat → Nat → Int32) (T : Nat → Nat) (tr fa pl : Int32) : Prop := (mY σ R (fun s => b.testBit s) h) ∧ (σ.1 13 0 2 = nI fd) ∧ (∀ i, i < fd → σ.1 60 0 i = nI (T i)) ∧ (mRow σ r) ∧ (hM σ n H) ∧ (iM σ m I) ∧ (σ.1 13 0 11 = tr) ∧ (σ.1 13 0 9 = fa) ∧ (tr = 4 → σ.1 13 0 10 = pl)
theorem MI.y {σ : M2} {b fd n m : Nat} {h : Bool} {R r : Nat → Int32} {H I : Nat → Nat → Int32} {T : Nat → Nat} {tr fa pl : Int32} (c : MI σ b fd n m h R r H I T tr fa pl) : mY σ R (fun s => b.testBit s) h := c.1
theorem MI.mfd {σ : M2} {b fd n m : Nat} {h : Bool} {R r : Nat → Int32} {H I : Nat → Nat → Int32} {T : Nat → Nat} {tr fa pl : Int32} (c : MI σ b fd n m h R r H I T tr fa pl) : σ.1 13 0 2 = nI fd := c.2.1
theorem MI.tx {σ : M2} {b fd n m : Nat} {h : Bool} {R r : Nat → Int32} {H I : Nat → Nat → Int32} {T : Nat → Nat} {tr fa pl : Int32} (c : MI σ b fd n m h R r H I T tr fa pl) : ∀ i, i < fd → σ.1 60 0 i = nI (T i) := c.2.2.1
theorem MI.rw {σ : M2} {b fd n m : Nat} {h : Bool} {R r : Nat → Int32} {H I : Nat → Nat → Int32} {T : Nat → Nat} {tr fa pl : Int32} (c : MI σ b fd n m h R r H I T tr fa pl) : mRow σ r := c.2.2.2.1
theorem MI.hm {σ : M2} {b fd n m : Nat} {h : Bool} {R r : Nat → Int32} {H I : Nat → Nat → Int32} {T : Nat → Nat} {tr fa pl : Int32} (c : MI σ b fd n m h R r H I T tr fa pl) : hM σ n H := c.2.2.2.2.1
theorem MI.im {σ : M2} {b fd n m : Nat} {h : Bool} {R r : Nat → Int32} {H I : Nat → Nat → Int32} {T : Nat → Nat} {tr fa pl : Int32} (c : MI σ b fd n m h R r H I T tr fa pl) : iM σ m I := c.2.2.2.2.2.1
theorem MI.tr {σ : M2} {b fd n m : Nat} {h : Bool} {R r : Nat → Int32} {H I : Nat → Nat → Int32} {T : Nat → Nat} {tr fa pl : Int32} (c : MI σ b fd n m h R r H I T tr fa pl) : σ.1 13 0 11 = tr := c.2.2.2.2.2.2.1
theorem MI.fa {σ : M2} {b fd n m : Nat} {h : Bool} {R r : Nat → Int32} {H I : Nat → Nat → Int32} {T : Nat → Nat} {tr fa pl : Int32} (c : MI σ b fd n m h R r H I T tr fa pl) : σ.1 13 0 9 = fa := c.2.2.2.2.2.2.2.1
theorem MI.pl {σ : M2} {b fd n m : Nat} {h : Bool} {R r : Nat → Int32} {H I : Nat → Nat → Int32} {T : Nat → Nat} {tr fa pl : Int32} (c : MI σ b fd n m h R r H I T tr fa pl) : tr = 4 → σ.1 13 0 10 = pl := c.2.2.2.2.2.2.2.2
section INV
variable {σ σ' σ1 : M2} {μ b fd n m : Nat} {h : Bool} {R r : Nat → Int32} {H I : Nat → Nat → Int32} {T : Nat → Nat} {tr tr' fa pl : Int32}
theorem dkS.kc {o : Nat} (e : ∀ t i k, kC t i k = true → σ'.1 t i k = σ.1 t i k) (h : dkS σ.1 o r) : dkS σ'.1 o r :=
  h.eq ⟨fun s _ => ⟨e _ _ _ (by simp [kC]), e _ _ _ (by simp [kC])⟩, e _ _ _ (by simp [kC]), e _ _ _ (by simp [kC]), e _ _ _ (by simp [kC])⟩
theorem cX.kc {C : Nat → Bool} (e : ∀ t i k, kpX t i = true → σ'.1 t i k = σ.1 t i k) (e2 : σ'.2.2 = σ.2.2) (h : cX σ μ R C) : cX σ' μ R C := by
  have e : msk σ'.1 = msk σ.1 := by
    funext t i k
    unfold msk
    cases hk : kpX t i
    · rfl
    · exact e t i k hk
  unfold cX at *
  rw [e, e2]
  exact h
theorem CI.kc (e : ∀ t i k, kC t i k = true → σ'.1 t i k = σ.1 t i k) (e2 : σ'.2.2 = σ.2.2) (e3 : ∀ k, k < 10 → σ'.2.1 48 0 k = σ.2.1 48 0 k) (et : σ'.1 12 0 13 = tr') (hp : tr' = 4 → tr = 4) (c : CI σ μ b fd n m h R r H I T tr fa pl) : CI σ' μ b fd n m h R r H I T tr' fa pl := by
  refine ⟨?_, ?_, ?_, ?_, ?_, ?_, ?_, ?_, ?_, ?_, ?_, ?_, ?_, ?_, ?_, ?_, ?_⟩
  · exact c.x.kc (fun t i k w => e t i k (by unfold kC; rw [w]; rfl)) e2
  · exact (e 1 0 2 rfl).trans c.eb
  · exact (e 12 0 5 rfl).trans c.eh
  · exact by rw [e2]; exact c.rd
  · exact (e 12 0 1 rfl).trans c.cfd
  · exact fun i hi => ⟨(c.tx i hi).1, (e 54 0 i rfl).trans (c.tx i hi).2⟩
  · exact fun o ho => (e3 o ho).trans (c.kws o ho)
  · exact fun w => (c.dk w).kc e
  · exact ⟨(e 1 0 3 rfl).trans c.d0.1, (e 1 0 4 rfl).trans c.d0.2⟩
  · obtain ⟨a1, a2, w, hw, a3, a4⟩ := c.hc
    exact ⟨a1, (e 2 0 2 rfl).trans a2, w, hw, (e 2 0 1 rfl).trans a3, fun j hj => (a4 j hj).kc e⟩
  · exact ⟨c.ic.1, (e 2 0 4 rfl).trans c.ic.2.1, fun j hj => (c.ic.2.2 j hj).kc e⟩
  · intro p b' hp hb w
    obtain ⟨k1, k2, k3⟩ := c.mk p b' hp hb ((e 32 0 p rfl).symm.trans w)
    exact ⟨(e 33 0 p rfl).trans k1, fun w => (e 34 0 p rfl).trans (k2 w), fun w => (e 35 0 p rfl).trans (k3 w)⟩
  · intro b' hb w
    obtain ⟨k1, k2⟩ := c.ld b' hb ((e 3 0 0 rfl).symm.trans w)
    exact ⟨(e 3 0 7 rfl).trans k1, fun i hi => (e 31 0 i rfl).trans (k2 i hi)⟩
  · exact fun k hk => ⟨(e 28 0 k rfl).trans (c.z2 k hk).1, (e 29 0 k rfl).trans (c.z2 k hk).2⟩
  · exact et
  · exact (e 12 0 14 rfl).trans c.fa
  · exact fun w => (e 12 0 15 rfl).trans (c.pl (hp w))
theorem MI.km (e : ∀ t i k, kM t k = true → σ'.1 t i k = σ.1 t i k) (et : σ'.1 13 0 11 = tr') (hp : tr' = 4 → tr = 4) (c : MI σ b fd n m h R r H I T tr fa pl) : MI σ' b fd n m h R r H I T tr' fa pl := by
  refine ⟨?_, ?_, ?_, ?_, ?_, ?_, ?_, ?_, ?_⟩
  · exact ⟨⟨c.y.1.1, fun k => (e 62 0 k rfl).trans (c.y.1.2.1 k), fun s hs => by rw [e 64 0 _ rfl]; exact c.y.1.2.2 s hs⟩, (e 13 0 14 rfl).trans c.y.2.1, c.y.2.2⟩
  · exact (e 13 0 2 rfl).trans c.mfd
  · exact fun i hi => (e 60 0 i rfl).trans (c.tx i hi)
  · exact fun k hk => (e 64 0 k rfl).trans (c.rw k hk)
  · exact ⟨c.hm.1, (e 13 0 20 rfl).trans c.hm.2.1, fun j hj k hk => (e 65 0 _ rfl).trans (c.hm.2.2 j hj k hk)⟩
  · exact ⟨c.im.1, (e 13 0 21 rfl).trans c.im.2.1, fun j hj k hk => (e 66 0 _ rfl).trans (c.im.2.2 j hj k hk)⟩
  · exact et
  · exact (e 13 0 9 rfl).trans c.fa
  · exact fun w => (e 13 0 10 rfl).trans (c.pl (hp w))
/-- what touches the class only leaves the model, and the other way round -/
def onC (A : Nat → Nat → Nat → Bool) : Prop := ∀ t i k, A t i k = true → t ≠ 13 ∧ t < 60
def onM (A : Nat → Nat → Nat → Bool) : Prop := ∀ t i k, A t i k = true → t = 13 ∨ 60 ≤ t
theorem onC.f {A : Nat → Nat → Nat → Bool} (hA : onC A) {t i k : Nat} (h : t = 13 ∨ 60 ≤ t) : A t i k = false := by
  cases w : A t i k
  · rfl
  · have := hA t i k w; omega
theorem onM.f {A : Nat → Nat → Nat → Bool} (hA : onM A) {t i k : Nat} (h : t ≠ 13 ∧ t < 60) : A t i k = false := by
  cases w : A t i k
  · rfl
  · have := hA t i k w; omega
theorem kM_t {t k : Nat} (h : kM t k = true) : t = 13 ∨ 60 ≤ t := by
  unfold kM at h
  simp only [Bool.or_eq_true, Bool.and_eq_true, beq_iff_eq] at h
  omega
theorem kC_t {t i k : Nat} (h : kC t i k = true) : t ≠ 13 ∧ t < 60 := by
  unfold kC kpX at h
  simp only [Bool.or_eq_true, Bool.and_eq_true, beq_iff_eq, decide_eq_true_eq] at h
  omega
theorem MI.oc {A : Nat → Nat → Nat → Bool} (hA : onC A) (e : ∀ t i k, A t i k = false → σ'.1 t i k = σ.1 t i k) (c : MI σ b fd n m h R r H I T tr fa pl) : MI σ' b fd n m h R r H I T tr fa pl :=
  c.km (fun t i k w => e t i k (hA.f (kM_t w))) ((e 13 0 11 (hA.f (Or.inl rfl))).trans c.tr) id
theorem CI.om {A : Nat → Nat → Nat → Bool} (hA : onM A) (f : fr A σ σ') (c : CI σ μ b fd n m h R r H I T tr fa pl) : CI σ' μ b fd n m h R r H I T tr fa pl :=
  c.kc (fun t i k w => f.1 t i k (hA.f (kC_t w))) (by rw [f.2]) (fun k _ => by rw [f.2]) ((f.1 12 0 13 (hA.f (by omega))).trans c.tr) id
theorem fO_kC {t i k : Nat} (h : kC t i k = true) : fO t i k = false := by
  unfold kC kpX at h
  unfold fO
  simp only [Bool.or_eq_true, Bool.and_eq_true, beq_iff_eq, decide_eq_true_eq] at h
  simp only [Bool.or_eq_false_iff, Bool.and_eq_false_iff, beq_eq_false_iff_ne, ne_eq, decide_eq_false_iff_not]
  omega
theorem gO_kM {t i k : Nat} (h : kM t k = true) : gO t i k = false := by
  unfold kM at h
  unfold gO
  simp only [Bool.or_eq_true, Bool.and_eq_true, beq_iff_eq] at h
  simp only [Bool.or_eq_false_iff, Bool.and_eq_false_iff, beq_eq_false_iff_ne, ne_eq, decide_eq_false_iff_not]
  omega
theorem fO_on : onC fO := fun t i k h => by
  unfold fO at h
  simp only [Bool.or_eq_true, Bool.and_eq_true, beq_iff_eq, decide_eq_true_eq] at h
  omega
theorem gO_on : onM gO := fun t i k h => by
  unfold gO at h
  simp only [Bool.or_eq_true, Bool.and_eq_true, beq_iff_eq, decide_eq_true_eq] at h
  omega
theorem CI.q (c : CI σ μ b fd n m h R r H I T tr fa pl) (g : cG σ σ' tr') (h4 : tr' ≠ 4) : CI σ' μ b fd n m h R r H I T tr' fa pl :=
  c.kc (fun t i k w => g.1.1 t i k (fO_kC w)) (by rw [g.1.2]) (fun k _ => by rw [g.1.2]) g.2 (fun w => absurd w h4)
theorem MI.q (c : MI σ b fd n m h R r H I T tr fa pl) (g : mG σ σ' tr') (h4 : tr' ≠ 4) : MI σ' b fd n m h R r H I T tr' fa pl :=
  c.km (fun t i k w => g.1.1 t i k (gO_kM w)) g.2.1 (fun w => absurd w h4)
end INV
def IN (σ : M2) : Prop := ∃ μ b fd n m h R r H I T tr fa pl, CI σ μ b fd n m h R r H I T tr fa pl ∧ MI σ b fd n m h R r H I T tr fa pl ∧ PI b fd n m h R r H I
/-- one step of the law: class and model are asked, they answer alike -/
def OP (L : Nat) (xs : Nat → Int32) (d y : Nat) (as : List dm_V) (y' : Nat) (as' : List dm_V) (σ : M2) : Prop := ∀ K : Int32 → M2 → Int32 → M2 → Prop, (∀ v σ1 σ2, IN σ2 → K v σ1 v σ2) → CL L xs d y as σ (fun r σ1 => ∃ v, r = some (vi v) ∧ CL L xs d y' as' σ1 (fun r' σ2 => ∃ v', r' = some (vi v') ∧ K v σ1 v' σ2))
section OPQ
variable {L : Nat} {xs : Nat → Int32} {d : Nat} {σ : M2}
/-- a question -/
theorem op_q {y y' : Nat} {as as' : List dm_V} (hI : IN σ) (hq : ∀ μ b fd n m h R r H I T tr fa pl, CI σ μ b fd n m h R r H I T tr fa pl → MI σ b fd n m h R r H I T tr fa pl → PI b fd n m h R r H I → ∃ a : Int32 × Int32, a.2 ≠ 4 ∧ (∀ Q : Option dm_V → M2 → Prop, (∀ σ', cG σ σ' a.2 → Q (some (vi a.1)) σ') → CL L xs d y as σ Q) ∧ (∀ (σ1 : M2) (Q : Option dm_V → M2 → Prop), MI σ1 b fd n m h R r H I T tr fa pl → (∀ σ', mG σ1 σ' a.2 → Q (some (vi a.1)) σ') → CL L xs d y' as' σ1 Q)) : OP L xs d y as y' as' σ := by
  intro K hK
  obtain ⟨μ, b, fd, n, m, h, R, r, H, I, T, tr, fa, pl, c, mi, p⟩ := hI
  obtain ⟨a, h4, qc, qm⟩ := hq μ b fd n m h R r H I T tr fa pl c mi p
  refine qc _ (fun σ1 g1 => ⟨_, rfl, ?_⟩)
  have m1 := mi.oc fO_on g1.1.1
  refine qm σ1 _ m1 (fun σ2 g2 => ⟨_, rfl, ?_⟩)
  exact hK _ _ _ ⟨μ, b, fd, n, m, h, R, r, H, I, T, _, fa, pl, (c.q g1 h4).om gO_on g2.1, m1.q g2 h4, p⟩
theorem if4 {c : Prop} [Decidable c] {x y : Int32 × Int32} (hx : x.2 ≠ 4) (hy : y.2 ≠ 4) : (if c then x else y).2 ≠ 4 := by split <;> assumption
theorem n4 : no1.2 ≠ 4 := by decide
theorem z4 {v : Int32} : ((v, 0) : Int32 × Int32).2 ≠ 4 := by show (0 : Int32) ≠ 4; decide
theorem t4 {v : Int32} : ((v, 2) : Int32 × Int32).2 ≠ 4 := by show (2 : Int32) ≠ 4; decide
theorem s4 {v : Int32} : ((v, 6) : Int32 × Int32).2 ≠ 4 := by show (6 : Int32) ≠ 4; decide
theorem w4 {R : Nat → Int32} {h : Bool} {v : Int32} : ((v, a_why R h) : Int32 × Int32).2 ≠ 4 := by
  show a_why R h ≠ 4
  unfold a_why
  split
  · decide
  · split <;> decide
theorem op_slip {x w : Int32} (hd : 20 ≤ d) (hI : IN σ) : OP L xs d 87 [vr 12 0, vi x, vi w] 199 [vr 13 0, vi x, vi w] σ := op_q hI fun _ b _ _ _ _ R _ _ _ _ _ _ _ c _ _ => ⟨a_slip R (fun s => b.testBit s) x w, if4 (if4 z4 n4) n4, fun _ q => o87 (by omega) c.x q, fun _ _ mi q => o199 (by omega) mi.y q⟩
theorem op_step {x w : Int32} (hd : 20 ≤ d) (hI : IN σ) : OP L xs d 88 [vr 12 0, vi x, vi w] 200 [vr 13 0, vi x, vi w] σ := op_q hI fun _ b _ _ _ h R r _ _ _ _ _ _ c _ p => ⟨a_step R x w, if4 (if4 z4 n4) n4, fun _ q => o88 (by omega) c.x q, fun _ _ mi q => o200 (by omega) mi.y q⟩
theorem op_pers {x w : Int32} (hd : 20 ≤ d) (hI : IN σ) : OP L xs d 89 [vr 12 0, vi x, vi w] 201 [vr 13 0, vi x, vi w] σ := op_q hI fun _ b _ _ _ h R r _ _ _ _ _ _ c _ p => ⟨a_pers R x w, if4 (if4 z4 n4) n4, fun _ q => o89 (by omega) c.x q, fun _ _ mi q => o201 (by omega) mi.y q⟩
theorem op_end {x w y t : Int32} (hd : 20 ≤ d) (hI : IN σ) : OP L xs d 90 [vr 12 0, vi x, vi w, vi y, vi t] 213 [vr 13 0, vi x, vi w, vi y, vi t] σ := op_q hI fun _ b _ _ _ h R r _ _ _ _ _ _ c _ p => ⟨a_end R (fun s => b.testBit s) x w y t, if4 (if4 z4 n4) n4, fun _ q => o90 (by omega) c.x q, fun _ _ mi q => o213 (by omega) mi.y q⟩
theorem op_lev {x w y t : Int32} (hd : 20 ≤ d) (hI : IN σ) : OP L xs d 91 [vr 12 0, vi x, vi w, vi y, vi t] 214 [vr 13 0, vi x, vi w, vi y, vi t] σ := op_q hI fun _ b _ _ _ h R r _ _ _ _ _ _ c _ p => ⟨a_lev R (fun s => b.testBit s) x w y t, if4 (if4 (if4 z4 t4) n4) n4, fun _ q => o91 (by omega) c.x q, fun _ _ mi q => o214 (by omega) mi.y q⟩
theorem op_brk {x w y : Int32} (hd : 20 ≤ d) (hI : IN σ) : OP L xs d 92 [vr 12 0, vi x, vi w, vi y] 215 [vr 13 0, vi x, vi w, vi y] σ := op_q hI fun _ b _ _ _ h R r _ _ _ _ _ _ c _ p => ⟨a_brk R (fun s => b.testBit s) x w y, if4 z4 n4, fun _ q => o92 (by omega) c.x q, fun _ _ mi q => o215 (by omega) mi.y q⟩
theorem op_harm {x w y : Int32} (hd : 20 ≤ d) (hI : IN σ) : OP L xs d 93 [vr 12 0, vi x, vi w, vi y] 216 [vr 13 0, vi x, vi w, vi y] σ := op_q hI fun _ b _ _ _ h R r _ _ _ _ _ _ c _ p => ⟨a_harm R (fun s => b.testBit s) x w y, if4 z4 n4, fun _ q => o93 (by omega) c.x q, fun _ _ mi q => o216 (by omega) mi.y q⟩
theorem op_fits {x : Int32} (hd : 20 ≤ d) (hI : IN σ) : OP L xs d 95 [vr 12 0, vi x] 217 [vr 13 0, vi x] σ := op_q hI fun _ b _ _ _ h R r _ _ _ _ _ _ c _ p => ⟨a_fits R (fun s => b.testBit s) x, if4 z4 n4, fun _ q => o95 (by omega) c.x q, fun _ _ mi q => o217 (by omega) mi.y q⟩
theorem op_hless {x : Int32} (hd : 20 ≤ d) (hI : IN σ) : OP L xs d 96 [vr 12 0, vi x] 218 [vr 13 0, vi x] σ := op_q hI fun _ b _ _ _ h R r _ _ _ _ _ _ c _ p => ⟨a_hless R (fun s => b.testBit s) x, if4 z4 n4, fun _ q => o96 (by omega) c.x q, fun _ _ mi q => o218 (by omega) mi.y q⟩
theorem op_good {x : Int32} (hd : 20 ≤ d) (hI : IN σ) : OP L xs d 97 [vr 12 0, vi x] 219 [vr 13 0, vi x] σ := op_q hI fun _ b _ _ _ h R r _ _ _ _ _ _ c _ p => ⟨a_good R (fun s => b.testBit s) x, if4 z4 n4, fun _ q => o97 (by omega) c.x q, fun _ _ mi q => o219 (by omega) mi.y q⟩
theorem op_extr {x w : Int32} (hd : 20 ≤ d) (hI : IN σ) : OP L xs d 99 [vr 12 0, vi x, vi w] 220 [vr 13 0, vi x, vi w] σ := op_q hI fun _ b _ _ _ h R r _ _ _ _ _ _ c _ p => ⟨a_extr R (fun s => b.testBit s) x w, if4 z4 n4, fun _ q => o99 (by omega) c.x q, fun _ _ mi q => o220 (by omega) mi.y q⟩
theorem op_cancels {x : Int32} (hd : 20 ≤ d) (hI : IN σ) : OP L xs d 100 [vr 12 0, vi x] 222 [vr 13 0, vi x] σ := op_q hI fun _ b _ _ _ h R r _ _ _ _ _ _ c _ p => ⟨a_cancels R (fun s => b.testBit s) x, by unfold a_cancels; split; (split <;> first | exact z4 | exact n4); exact n4, fun _ q => o100 (by omega) c.x q (fun P b' => k_canc_neg c.x.ok (by decide) b'), fun _ _ mi q => o222 (by omega) mi.y q⟩
theorem op_cancel {x w : Int32} (hd : 20 ≤ d) (hI : IN σ) : OP L xs d 101 [vr 12 0, vi x, vi w] 223 [vr 13 0, vi x, vi w] σ := op_q hI fun _ b _ _ _ h R r _ _ _ _ _ _ c _ p => ⟨a_cancel R (fun s => b.testBit s) x w, by unfold a_cancel; split; (split <;> first | exact z4 | exact n4); exact n4, fun _ q => o101 (by omega) c.x q (fun P b' => k_canc_pos c.x.ok b'), fun _ _ mi q => o223 (by omega) mi.y q⟩
theorem op_worst {x : Int32} (hd : 20 ≤ d) (hI : IN σ) : OP L xs d 104 [vr 12 0, vi x] 224 [vr 13 0, vi x] σ := op_q hI fun _ b _ _ _ h R r _ _ _ _ _ _ c _ p => ⟨a_worst R (fun s => b.testBit s) x, if4 z4 n4, fun _ q => o104 (by omega) c.x q, fun _ _ mi q => o224 (by omega) mi.y q⟩
theorem op_which (hd : 20 ≤ d) (hI : IN σ) : OP L xs d 105 [vr 12 0] 229 [vr 13 0] σ := op_q hI fun _ b _ _ _ h R r _ _ _ _ _ _ c _ p => ⟨a_which R (fun s => b.testBit s) h , if4 z4 w4, fun _ q => o105 (by omega) c.x c.eh q, fun _ _ mi q => o229 (by omega) mi.y q⟩
theorem op_whichN (hd : 20 ≤ d) (hI : IN σ) : OP L xs d 106 [vr 12 0] 230 [vr 13 0] σ := op_q hI fun _ b _ _ _ h R r _ _ _ _ _ _ c _ p => ⟨a_whichN R (fun s => b.testBit s) h , if4 z4 w4, fun _ q => o106 (by omega) c.x c.eh q, fun _ _ mi q => o230 (by omega) mi.y q⟩
theorem op_lik (hd : 20 ≤ d) (hI : IN σ) : OP L xs d 107 [vr 12 0] 231 [vr 13 0] σ := op_q hI fun _ b _ _ _ h R r _ _ _ _ _ _ c _ p => ⟨a_lik R (fun s => b.testBit s) h , if4 z4 w4, fun _ q => o107 (by omega) c.x c.eh q, fun _ _ mi q => o231 (by omega) mi.y q⟩
theorem op_look {x : Int32} (hd : 20 ≤ d) (hI : IN σ) : OP L xs d 110 [vr 12 0, vi x] 234 [vr 13 0, vi x] σ := op_q hI fun _ b _ _ _ h R r _ _ _ _ _ _ c _ p => ⟨a_look R (fun s => b.testBit s) x, if4 z4 n4, fun _ q => o110 (by omega) c.x (fun w => by have k := (inn_k c.x.ok.cP.2 (by have := c.x.ok.cP.1; omega) w).1; have := p.r46; omega) q, fun _ _ mi q => o234 (by omega) mi.y q⟩
theorem op_lookM {x : Int32} (hd : 20 ≤ d) (hI : IN σ) : OP L xs d 111 [vr 12 0, vi x] 235 [vr 13 0, vi x] σ := op_q hI fun _ b _ _ _ h R r _ _ _ _ _ _ c _ p => ⟨a_lookM R (fun s => b.testBit s) x, if4 z4 n4, fun _ q => o111 (by omega) c.x (fun w => by have k := (inn_k c.x.ok.cP.2 (by have := c.x.ok.cP.1; omega) w).1; have := p.r46; omega) q, fun _ _ mi q => o235 (by omega) mi.y q⟩
theorem op_bears {x : Int32} (hd : 20 ≤ d) (hI : IN σ) : OP L xs d 116 [vr 12 0, vi x] 241 [vr 13 0, vi x] σ := op_q hI fun _ b _ _ _ h R r _ _ _ _ _ _ c _ p => ⟨a_bears R (fun s => b.testBit s) x, if4 z4 n4, fun _ q => o116 (by omega) c.x q, fun _ _ mi q => o241 (by omega) mi.y q⟩
theorem op_apart (hd : 20 ≤ d) (hI : IN σ) : OP L xs d 119 [vr 12 0] 248 [vr 13 0] σ := op_q hI fun _ b _ _ _ h R r _ _ _ _ _ _ c _ p => ⟨a_apart R (fun s => b.testBit s) h , if4 z4 n4, fun _ q => o119 (by omega) c.x c.eh q, fun _ _ mi q => o248 (by omega) mi.y q⟩
theorem op_copies (hd : 20 ≤ d) (hI : IN σ) : OP L xs d 120 [vr 12 0] 249 [vr 13 0] σ := op_q hI fun _ b _ _ _ h R r _ _ _ _ _ _ c _ p => ⟨a_copies R (fun s => b.testBit s) h , if4 z4 n4, fun _ q => o120 (by omega) c.x c.eh q, fun _ _ mi q => o249 (by omega) mi.y q⟩
theorem op_worth {x : Int32} (hd : 20 ≤ d) (hI : IN σ) : OP L xs d 124 [vr 12 0, vi x] 253 [vr 13 0, vi x] σ := op_q hI fun _ b _ _ _ h R r _ _ _ _ _ _ c _ p => ⟨a_worth R (fun s => b.testBit s) x, if4 z4 n4, fun _ q => o124 (by omega) c.x q, fun _ _ mi q => o253 (by omega) mi.y q⟩
theorem op_rests {x w : Int32} (hd : 20 ≤ d) (hI : IN σ) : OP L xs d 127 [vr 12 0, vi x, vi w] 262 [vr 13 0, vi x, vi w] σ := op_q hI fun _ b _ _ _ h R r _ _ _ _ _ _ c _ p => ⟨a_rests R (fun s => b.testBit s) x w, if4 z4 n4, fun _ q => o127 (by omega) c.x q, fun _ _ mi q => o262 (by omega) mi.y q⟩
theorem op_rest {x w : Int32} (hd : 20 ≤ d) (hI : IN σ) : OP L xs d 128 [vr 12 0, vi x, vi w] 263 [vr 13 0, vi x, vi w] σ := op_q hI fun _ b _ _ _ h R r _ _ _ _ _ _ c _ p => ⟨a_rest R (fun s => b.testBit s) x w, if4 z4 n4, fun _ q => o128 (by omega) c.x q, fun _ _ mi q => o263 (by omega) mi.y q⟩
theorem op_dec {x w : Int32} (hd : 20 ≤ d) (hI : IN σ) : OP L xs d 134 [vr 12 0, vi x, vi w] 264 [vr 13 0, vi x, vi w] σ := op_q hI fun _ b _ _ _ h R r _ _ _ _ _ _ c _ p => ⟨a_dec R (fun s => b.testBit s) h x w, if4 (if4 s4 (if4 s4 (if4 (if4 z4 t4) t4))) n4, fun _ q => o134 (by omega) c.x c.eh q, fun _ _ mi q => o264 (by omega) mi.y q⟩
theorem op_who {x : Int32} (hd : 20 ≤ d) (hI : IN σ) : OP L xs d 136 [vr 12 0, vi x] 265 [vr 13 0, vi x] σ := op_q hI fun _ b _ _ _ h R r _ _ _ _ _ _ c mi0 p => ⟨a_who R r x, if4 z4 n4, fun _ q => o136 (by omega) c.x (fun w => c.dk (mY_opn mi0.y (by omega) (by omega) w)) q, fun _ _ mi q => o265 (by omega) mi.y mi.rw q⟩
theorem op_over (hd : 20 ≤ d) (hI : IN σ) : OP L xs d 137 [vr 12 0] 267 [vr 13 0] σ := op_q hI fun _ b _ _ _ h R r _ _ _ _ _ _ c _ p => ⟨a_over R r h, if4 z4 n4, fun _ q => o137 (by omega) c.x c.eh (fun w => ⟨c.dk w, (p.ok w).1⟩) q, fun _ _ mi q => o267 (by omega) mi.y mi.rw (fun w => (p.ok w).1) q⟩
end OPQ
