/-! STEPS that keep a memory: made, lending -/
section OPM
variable {L : Nat} {xs : Nat → Int32} {d : Nat} {Q : Option dm_V → M2 → Prop} {σ σ' σ1 : M2} {μ b b' fd n n' m m' : Nat} {h : Bool} {R r r' : Nat → Int32} {H H' I I' : Nat → Nat → Int32} {T : Nat → Nat} {tr tr' fa pl : Int32} {C : Nat → Bool}
theorem nI_inj7 (ha : b < 128) (hb : b' < 128) (e : nI b = nI b') : b = b' := (nI_eq (by omega) (by omega)).mp e
theorem fMk_kC2 {p t i k : Nat} (w : kC2 t i k = true) : (fO t i k || fMk p t i k) = false := by
  unfold kC2 kpX at w
  unfold fO fMk fRn
  simp only [Bool.or_eq_true, Bool.and_eq_true, beq_iff_eq, decide_eq_true_eq] at w
  simp only [Bool.or_eq_false_iff, Bool.and_eq_false_iff, beq_eq_false_iff_ne, ne_eq, decide_eq_false_iff_not]
  omega
theorem fLn_kC2 {t i k : Nat} (w : kC2 t i k = true) : (fO t i k || fLn t i k) = false := by
  unfold kC2 kpX at w
  unfold fO fLn fRn
  simp only [Bool.or_eq_true, Bool.and_eq_true, beq_iff_eq, decide_eq_true_eq] at w
  simp only [Bool.or_eq_false_iff, Bool.and_eq_false_iff, beq_eq_false_iff_ne, ne_eq, decide_eq_false_iff_not]
  omega
theorem fMk_on {p : Nat} : onC (fun t i k => fO t i k || fMk p t i k) := fun t i k w => by
  unfold fO fMk fRn at w
  simp only [Bool.or_eq_true, Bool.and_eq_true, beq_iff_eq, decide_eq_true_eq] at w
  omega
theorem fLn_on : onC (fun t i k => fO t i k || fLn t i k) := fun t i k w => by
  unfold fO fLn fRn at w
  simp only [Bool.or_eq_true, Bool.and_eq_true, beq_iff_eq, decide_eq_true_eq] at w
  omega
theorem o117n (hd : 12 ≤ d) {p : Int32} (hX : cX σ μ R C) (z : inn p (R 6) = false) (q : ∀ σ', cG σ σ' 1 → Q (some (vi (-1))) σ') : CL L xs d 117 [vr 12 0, vi p] σ Q := by
  refine cl_at p117 (by omega) (w117_0 hC ?_)
  refine c85 (s := 4) (by omega) rfl (by omega) hX hX.cnt.2.2.2.1 ⟨_, rfl, ?_⟩
  rw [z]
  exact if_y rfl (c81 (by omega) fr.id q)
theorem o118n (hd : 12 ≤ d) {p i : Int32} (hX : cX σ μ R C) (z : inn p (R 6) = false) (q : ∀ σ', cG σ σ' 1 → Q (some (vi (-1))) σ') : CL L xs d 118 [vr 12 0, vi p, vi i] σ Q := by
  refine cl_at p118 (by omega) (w118_0 hC ?_)
  refine c85 (s := 4) (by omega) rfl (by omega) hX hX.cnt.2.2.2.1 ⟨_, rfl, ?_⟩
  rw [z]
  exact if_y rfl (c81 (by omega) fr.id q)
theorem CI.made {p : Nat} (c : CI σ μ b fd n m h R r H I T tr fa pl) (hb : b < 128) (g : cGm p σ σ' tr') (h4 : tr' ≠ 4) (k : σ'.1 32 0 p = σ.1 1 0 2 ∧ mkH σ' p (mkd R (fun s => b.testBit s) (plR R p))) : CI σ' μ b fd n m h R r H I T tr' fa pl := by
  have fz : ∀ t i k, (t = 31 ∨ t = 3 ∨ t = 28 ∨ t = 29 ∨ ((t = 32 ∨ t = 33 ∨ t = 34 ∨ t = 35) ∧ k ≠ p)) → σ'.1 t i k = σ.1 t i k := by
    intro t i k ht
    refine g.1.1 t i k ?_
    unfold fO fMk fRn
    simp only [Bool.or_eq_false_iff, Bool.and_eq_false_iff, beq_eq_false_iff_ne, ne_eq, decide_eq_false_iff_not]
    omega
  refine c.kc2 (fun t i k w => g.1.1 t i k (fMk_kC2 w)) (by rw [g.1.2]) (fun k _ => by rw [g.1.2]) g.2 (fun w => absurd w h4) (fun p' b' hp hb' w => ?_) (fun b' hb' w => ?_) (fun k hk => ?_)
  · by_cases e : p' = p
    · subst e
      have e2 : b' = b := nI_inj7 hb' hb (w.symm.trans (k.1.trans c.eb))
      rw [e2]; exact k.2
    · rw [fz 32 0 p' (by omega)] at w
      obtain ⟨k1, k2, k3⟩ := c.mk p' b' hp hb' w
      exact ⟨(fz 33 0 p' (by omega)).trans k1, fun w => (fz 34 0 p' (by omega)).trans (k2 w), fun w => (fz 35 0 p' (by omega)).trans (k3 w)⟩
  · rw [fz 3 0 0 (by omega)] at w
    obtain ⟨k1, k2⟩ := c.ld b' hb' w
    exact ⟨(fz 3 0 7 (by omega)).trans k1, fun i hi => (fz 31 0 i (by omega)).trans (k2 i hi)⟩
  · exact ⟨(fz 28 0 k (by omega)).trans (c.z2 k hk).1, (fz 29 0 k (by omega)).trans (c.z2 k hk).2⟩
theorem CI.hm (c : CI σ μ b fd n m h R r H I T tr fa pl) (hb : b < 128) {p : Int32} : inn p (R 6) = true → σ.1 32 0 p.toNatClampNeg = σ.1 1 0 2 → mkH σ p.toNatClampNeg (mkd R (fun s => b.testBit s) (plR R p.toNatClampNeg)) := fun z w =>
  c.mk _ b (inn_k c.x.ok.cP.2 (by have := c.x.ok.cP.1; omega) z).1 hb (w.trans c.eb)
theorem op_made {x : Int32} (hd : 20 ≤ d) (hI : IN σ) : OP L xs d 117 [vr 12 0, vi x] 244 [vr 13 0, vi x] σ := by
  intro K hK
  obtain ⟨μ, b, fd, n, m, h, R, r, H, I, T, tr, fa, pl, c, mi, p⟩ := hI
  have h4 : (a_made R (fun s => b.testBit s) x).2 ≠ 4 := if4 z4 n4
  cases z : inn x (R 6)
  · have ea : a_made R (fun s => b.testBit s) x = no1 := if_neg (by rw [z]; decide)
    refine o117n (by omega) c.x z (fun σ1 g1 => ⟨_, rfl, ?_⟩)
    have m1 := mi.oc fO_on g1.1.1
    refine o244 (by omega) m1.y (fun σ2 g2 => ⟨_, rfl, ?_⟩)
    rw [ea] at g2 ⊢
    exact hK _ _ _ ⟨μ, b, fd, n, m, h, R, r, H, I, T, _, fa, pl, (c.q g1 (by decide)).om gO_on g2.1, m1.q g2 (by decide), p⟩
  · refine o117 (by omega) c.x (c.hm p.hb) (fun σ1 g1 k1 => ⟨_, rfl, ?_⟩)
    have m1 := mi.oc fMk_on g1.1.1
    refine o244 (by omega) m1.y (fun σ2 g2 => ⟨_, rfl, ?_⟩)
    exact hK _ _ _ ⟨μ, b, fd, n, m, h, R, r, H, I, T, _, fa, pl, (c.made p.hb g1 h4 (k1 z)).om gO_on g2.1, m1.q g2 h4, p⟩
theorem op_madeAt {x w : Int32} (hd : 20 ≤ d) (hI : IN σ) : OP L xs d 118 [vr 12 0, vi x, vi w] 245 [vr 13 0, vi x, vi w] σ := by
  intro K hK
  obtain ⟨μ, b, fd, n, m, h, R, r, H, I, T, tr, fa, pl, c, mi, p⟩ := hI
  have h4 : (a_madeAt R (fun s => b.testBit s) x w).2 ≠ 4 := if4 (if4 z4 n4) n4
  cases z : inn x (R 6)
  · have ea : a_madeAt R (fun s => b.testBit s) x w = no1 := if_neg (by rw [z]; decide)
    refine o118n (by omega) c.x z (fun σ1 g1 => ⟨_, rfl, ?_⟩)
    have m1 := mi.oc fO_on g1.1.1
    refine o245 (by omega) m1.y (fun σ2 g2 => ⟨_, rfl, ?_⟩)
    rw [ea] at g2 ⊢
    exact hK _ _ _ ⟨μ, b, fd, n, m, h, R, r, H, I, T, _, fa, pl, (c.q g1 (by decide)).om gO_on g2.1, m1.q g2 (by decide), p⟩
  · refine o118 (by omega) c.x (c.hm p.hb) (fun σ1 g1 k1 => ⟨_, rfl, ?_⟩)
    have m1 := mi.oc fMk_on g1.1.1
    refine o245 (by omega) m1.y (fun σ2 g2 => ⟨_, rfl, ?_⟩)
    exact hK _ _ _ ⟨μ, b, fd, n, m, h, R, r, H, I, T, _, fa, pl, (c.made p.hb g1 h4 (k1 z)).om gO_on g2.1, m1.q g2 h4, p⟩
theorem CI.lent (c : CI σ μ b fd n m h R r H I T tr fa pl) (hb : b < 128) (g : cGl σ σ' tr') (h4 : tr' ≠ 4) (k : ldK σ σ' R (fun s => b.testBit s)) : CI σ' μ b fd n m h R r H I T tr' fa pl := by
  have fz : ∀ t i k, (t = 32 ∨ t = 33 ∨ t = 34 ∨ t = 35) → σ'.1 t i k = σ.1 t i k := by
    intro t i k ht
    refine g.1.1 t i k ?_
    unfold fO fLn fRn
    simp only [Bool.or_eq_false_iff, Bool.and_eq_false_iff, beq_eq_false_iff_ne, ne_eq, decide_eq_false_iff_not]
    omega
  refine c.kc2 (fun t i k w => g.1.1 t i k (fLn_kC2 w)) (by rw [g.1.2]) (fun k _ => by rw [g.1.2]) g.2 (fun w => absurd w h4) (fun p' b' hp hb' w => ?_) (fun b' hb' w => ?_) k.1
  · rw [fz 32 0 p' (by omega)] at w
    obtain ⟨k1, k2, k3⟩ := c.mk p' b' hp hb' w
    exact ⟨(fz 33 0 p' (by omega)).trans k1, fun w => (fz 34 0 p' (by omega)).trans (k2 w), fun w => (fz 35 0 p' (by omega)).trans (k3 w)⟩
  · rcases k.2 with ⟨e1, e2⟩ | ⟨e1, e2, e3⟩
    · have : b' = b := nI_inj7 hb' hb (w.symm.trans (e1.trans c.eb))
      rw [this]; exact e2
    · obtain ⟨k1, k2⟩ := c.ld b' hb' (e1.symm.trans w)
      exact ⟨e2.trans k1, fun i hi => (e3 i).trans (k2 i hi)⟩
theorem op_lending (hd : 20 ≤ d) (hI : IN σ) : OP L xs d 125 [vr 12 0] 257 [vr 13 0] σ := by
  intro K hK
  obtain ⟨μ, b, fd, n, m, h, R, r, H, I, T, tr, fa, pl, c, mi, p⟩ := hI
  have h4 : (a_lend R (fun s => b.testBit s) h).2 ≠ 4 := if4 z4 n4
  refine o125 (by omega) c.x c.eh c.z2 (fun w => c.ld b p.hb (w.trans c.eb)) (fun σ1 g1 k1 => ⟨_, rfl, ?_⟩)
  have m1 := mi.oc fLn_on g1.1.1
  refine o257 (by omega) m1.y (fun σ2 g2 => ⟨_, rfl, ?_⟩)
  exact hK _ _ _ ⟨μ, b, fd, n, m, h, R, r, H, I, T, _, fa, pl, (c.lent p.hb g1 h4 k1).om gO_on g2.1, m1.q g2 h4, p⟩
theorem op_weekOf {x : Int32} (hd : 20 ≤ d) (hI : IN σ) : OP L xs d 126 [vr 12 0, vi x] 258 [vr 13 0, vi x] σ := by
  intro K hK
  obtain ⟨μ, b, fd, n, m, h, R, r, H, I, T, tr, fa, pl, c, mi, p⟩ := hI
  have h4 : (a_weekOf R (fun s => b.testBit s) x).2 ≠ 4 := if4 z4 n4
  refine o126 (by omega) c.x c.z2 (fun w => c.ld b p.hb (w.trans c.eb)) (fun σ1 g1 k1 => ⟨_, rfl, ?_⟩)
  have m1 := mi.oc fLn_on g1.1.1
  refine o258 (by omega) m1.y (fun σ2 g2 => ⟨_, rfl, ?_⟩)
  exact hK _ _ _ ⟨μ, b, fd, n, m, h, R, r, H, I, T, _, fa, pl, (c.lent p.hb g1 h4 k1).om gO_on g2.1, m1.q g2 h4, p⟩
end OPM
