/-! STEPS that act at the desk -/
section OPA
variable {L : Nat} {xs : Nat → Int32} {d : Nat} {Q : Option dm_V → M2 → Prop} {σ σ' σ1 : M2} {μ b b' fd n n' m m' : Nat} {h : Bool} {R r r' : Nat → Int32} {H H' I I' : Nat → Nat → Int32} {T : Nat → Nat} {tr tr' fa pl : Int32} {C : Nat → Bool}
/-- what a museum holds lies outside the desk -/
theorem cM_1 {g g' : Nat → Nat → Nat → Int32} (hR : okR R) (hμ : μ < 2) (hg : ∀ t i k, kpX t i = true → t ≠ 1 → g' t i k = g t i k) (h : cM g μ R) : cM g' μ R := by
  obtain ⟨hB, hC', hT, hH, hE, hP, hS, hN, hK, hZ⟩ := h
  have kp : ∀ t, (t = 10 ∨ t = 52 ∨ t = 53) → ∀ x, x < 4 → kpX t (4 * μ + x) = true := by
    intro t ht x hx
    have : 4 * μ + x < 8 := by omega
    rcases ht with rfl | rfl | rfl <;> simp [kpX, this]
  refine ⟨?_, ?_, rT.cg hR.1 (fun k => hg 37 μ k rfl (by decide)) (fun _ _ _ => rfl) rfl hT, rH.cg hR.1 (fun x k _ => hg 6 _ k rfl (by decide)) (fun k => hg 39 μ k rfl (by decide)) (fun _ _ _ => rfl) rfl hH, rE.cg hR.1 (fun x k _ => ⟨hg 0 _ k rfl (by decide), hg 20 _ k rfl (by decide), hg 21 _ k rfl (by decide), hg 6 _ k rfl (by decide)⟩) (fun _ _ _ => rfl) rfl hE, rP.cg hR.1 hR.2.2.2.2.2.1 (fun x k hx => ⟨hg 10 _ k (kp 10 (by omega) x hx) (by decide), hg 52 _ k (kp 52 (by omega) x hx) (by decide), hg 53 _ k (kp 53 (by omega) x hx) (by decide)⟩) (fun _ _ _ => rfl) rfl hP, rS.cg hR.1 (fun x k _ => hg 9 _ k rfl (by decide)) (fun _ _ _ => rfl) rfl hS, rN.cg hR.1 (fun k => ⟨hg 43 μ k rfl (by decide), hg 44 μ k rfl (by decide)⟩) (fun _ _ _ => rfl) rfl hN, rK.cg hR.1 (fun k => ⟨hg 45 μ k rfl (by decide), hg 46 μ k rfl (by decide), hg 47 μ k rfl (by decide)⟩) (fun _ _ _ => rfl) rfl hK, rZ.cg hR.1 ⟨hg 5 μ 16 rfl (by decide), hg 5 μ 17 rfl (by decide)⟩ (fun _ _ _ => rfl) rfl hZ⟩
  · rw [hg 36 μ 1 rfl (by decide), hg 36 μ 2 rfl (by decide), hg 36 μ 3 rfl (by decide), hg 36 μ 4 rfl (by decide), hg 36 μ 5 rfl (by decide), hg 36 μ 6 rfl (by decide), hg 36 μ 7 rfl (by decide), hg 36 μ 8 rfl (by decide)]
    exact hB
  · rw [hg 5 μ 1 rfl (by decide), hg 5 μ 2 rfl (by decide), hg 5 μ 3 rfl (by decide), hg 5 μ 4 rfl (by decide)]
    exact hC'
theorem fAc_on : onC fAc := fun t i k w => by
  unfold fAc fO at w
  simp only [Bool.or_eq_true, Bool.and_eq_true, beq_iff_eq, decide_eq_true_eq] at w
  omega
theorem gAc_on : onM gAc := fun t i k w => by
  unfold gAc gO at w
  simp only [Bool.or_eq_true, Bool.and_eq_true, beq_iff_eq, decide_eq_true_eq] at w
  omega
/-- behind an act the class holds the new row -/
theorem CI.act (c : CI σ μ b fd n m h R r H I T tr fa pl) (g : cA σ σ') (D : dkS σ'.1 0 r') (hH : hC' σ' n' H') : ∃ b', b' < 128 ∧ (∀ s, s < 7 → r' (2 + 3 * s + 2) = bI (b'.testBit s)) ∧ CI σ' μ b' fd n' m h R r' H' I T 0 fa pl := by
  obtain ⟨b', hb', eb', hr'⟩ := D.2.2.1
  refine ⟨b', hb', hr', ?_⟩
  have e : ∀ t i k, ¬ ((t = 22 ∨ t = 23 ∨ t = 1) ∧ i ≤ 12) → ¬ (t = 2 ∧ (k = 1 ∨ k = 2)) → fO t i k = false → σ'.1 t i k = σ.1 t i k := by
    intro t i k h1 h2 h3
    refine g.1.1 t i k ?_
    unfold fAc
    rw [h3, Bool.false_or]
    simp only [Bool.or_eq_false_iff, Bool.and_eq_false_iff, beq_eq_false_iff_ne, ne_eq, decide_eq_false_iff_not]
    omega
  have kt : ∀ t i k, kpX t i = true → t ≠ 1 → σ'.1 t i k = σ.1 t i k := fun t i k w w1 => e t i k (by
    unfold kpX at w
    simp only [Bool.or_eq_true, Bool.and_eq_true, beq_iff_eq, decide_eq_true_eq] at w
    omega) (by
    unfold kpX at w
    simp only [Bool.or_eq_true, Bool.and_eq_true, beq_iff_eq, decide_eq_true_eq] at w
    omega) (fO_k t i k w)
  have k1 : msk σ'.1 1 0 2 = σ'.1 1 0 2 := rfl
  have cm : cM (msk σ'.1) μ R := cM_1 c.x.ok c.x.mu (fun t i k w w1 => by unfold msk; rw [w]; exact kt t i k w w1) c.x.m
  refine ⟨⟨by rw [g.1.2]; exact c.x.r8, by rw [g.1.2]; exact c.x.r12, c.x.mu, c.x.ok, cm, fun s hs => by rw [k1, eb']; exact tb7 b' hb' s hs⟩, eb', (e 12 0 5 (by omega) (by omega) rfl).trans c.eh, by rw [g.1.2]; exact c.rd, (e 12 0 1 (by omega) (by omega) rfl).trans c.cfd, fun i hi => ⟨(c.tx i hi).1, (e 54 0 i (by omega) (by omega) rfl).trans (c.tx i hi).2⟩, fun o ho => by rw [g.1.2]; exact c.kws o ho, fun _ => D, ⟨D.1, D.2.1⟩, hH, ⟨c.ic.1, (e 2 0 4 (by omega) (by omega) rfl).trans c.ic.2.1, fun j hj => (c.ic.2.2 j hj).eq ⟨fun s _ => ⟨e _ _ _ (by omega) (by omega) rfl, e _ _ _ (by omega) (by omega) rfl⟩, e _ _ _ (by omega) (by omega) rfl, e _ _ _ (by omega) (by omega) rfl, e _ _ _ (by omega) (by omega) rfl⟩⟩, fun p b' hp hb w => ?_, fun b' hb w => ?_, fun k hk => ⟨(e 28 0 k (by omega) (by omega) rfl).trans (c.z2 k hk).1, (e 29 0 k (by omega) (by omega) rfl).trans (c.z2 k hk).2⟩, g.2, (e 12 0 14 (by omega) (by omega) rfl).trans c.fa, fun w => absurd w (by decide)⟩
  · obtain ⟨k1, k2, k3⟩ := c.mk p b' hp hb ((e 32 0 p (by omega) (by omega) rfl).symm.trans w)
    exact ⟨(e 33 0 p (by omega) (by omega) rfl).trans k1, fun w => (e 34 0 p (by omega) (by omega) rfl).trans (k2 w), fun w => (e 35 0 p (by omega) (by omega) rfl).trans (k3 w)⟩
  · obtain ⟨k1, k2⟩ := c.ld b' hb ((e 3 0 0 (by omega) (by omega) rfl).symm.trans w)
    exact ⟨(e 3 0 7 (by omega) (by omega) rfl).trans k1, fun i hi => (e 31 0 i (by omega) (by omega) rfl).trans (k2 i hi)⟩
theorem bI_1 {x : Bool} : bI x = 1 ↔ x = true := by cases x <;> decide
theorem MI.act (c : MI σ b fd n m h R r H I T tr fa pl) (g : mA σ σ') (D : mRow σ' r') (rb : ∀ s, s < 7 → r' (2 + 3 * s + 2) = bI (b'.testBit s)) (hH : hM σ' n' H') : MI σ' b' fd n' m h R r' H' I T 0 fa pl := by
  have e : ∀ t i k, (t = 13 ∧ (k = 2 ∨ k = 9 ∨ k = 10 ∨ k = 14 ∨ k = 21)) ∨ (t = 60 ∨ t = 62 ∨ t = 66) → σ'.1 t i k = σ.1 t i k := by
    intro t i k ht
    refine g.1.1 t i k ?_
    unfold gAc gO
    simp only [Bool.or_eq_false_iff, Bool.and_eq_false_iff, beq_eq_false_iff_ne, ne_eq, decide_eq_false_iff_not]
    omega
  refine ⟨⟨⟨c.y.1.1, fun k => (e 62 0 k (by omega)).trans (c.y.1.2.1 k), fun s hs => ?_⟩, (e 13 0 14 (by omega)).trans c.y.2.1, c.y.2.2⟩, (e 13 0 2 (by omega)).trans c.mfd, fun i hi => (e 60 0 i (by omega)).trans (c.tx i hi), D, hH, ⟨c.im.1, (e 13 0 21 (by omega)).trans c.im.2.1, fun j hj k hk => (e 66 0 _ (by omega)).trans (c.im.2.2 j hj k hk)⟩, g.2.1, (e 13 0 9 (by omega)).trans c.fa, fun w => absurd w (by decide)⟩
  rw [D _ (by omega), rb s hs]; exact bI_1
theorem PI.act (p : PI b fd n m h R r H I) (hh : h = true) (hb : b' < 128) (rb : ∀ s, s < 7 → r' (2 + 3 * s + 2) = bI (b'.testBit s)) (ok : okD R r') (hH : ∀ j, j < n' → okD R (H' j)) : PI b' fd n' m h R r' H' I :=
  ⟨hb, rb, p.fd, fun w => ⟨ok, hH, (p.ok w).2.2⟩, fun w => absurd (hh.symm.trans w) (by decide), p.r46⟩
theorem PI.psh (p : PI b fd n m h R r H I) (hh : h = true) : ∀ j, j < pn n → okD R (psh r H j) := by
  intro j hj
  match j, hj with
  | 0, _ => exact (p.ok hh).1
  | j + 1, hj => exact (p.ok hh).2.1 j (by unfold pn at hj; omega)
/-- an act done on both sides -/
theorem act2 {K : Prop} (c : CI σ μ b fd n m h R r H I T tr fa pl) (mi : MI σ b fd n m h R r H I T tr fa pl) (p : PI b fd n m h R r H I) (hh : h = true) (g : cA σ σ1) (D : dkS σ1.1 0 r') (hH : hC' σ1 n' H') (g2 : mA σ1 σ') (D2 : mRow σ' r') (hH2 : hM σ' n' H') (ok : okD R r') (okH : ∀ j, j < n' → okD R (H' j)) (hK : IN σ' → K) : K := by
  obtain ⟨b', hb', rb', c'⟩ := c.act g D hH
  exact hK ⟨μ, b', fd, n', m, h, R, r', H', I, T, 0, fa, pl, c'.om gAc_on g2.1, (mi.oc fAc_on g.1.1).act g2 D2 rb' hH2, p.act hh hb' rb' ok okH⟩
theorem deny {K : Prop} (c : CI σ μ b fd n m h R r H I T tr fa pl) (mi : MI σ b fd n m h R r H I T tr fa pl) (p : PI b fd n m h R r H I) (g : cG σ σ1 tr') (g2 : mG σ1 σ' tr') (h4 : tr' ≠ 4) (hK : IN σ' → K) : K :=
  hK ⟨μ, b, fd, n, m, h, R, r, H, I, T, _, fa, pl, (c.q g h4).om gO_on g2.1, (mi.oc fO_on g.1.1).q g2 h4, p⟩
theorem okD_eq (h : okD R r) (e : ∀ s, s < 7 → r' (2 + 3 * s) = r (2 + 3 * s)) : okD R r' := fun s hs => by rw [e s hs]; exact h s hs
theorem okD_lend (hR : okR R) (h : okD R r) {s p : Nat} (hs : s < gN R 7) (hp : p < gN R 8) : okD R (rLend r s p) := by
  intro k hk
  have := hR.cM.1
  unfold rLend
  rw [updR_ne (by omega)]
  by_cases e : k = s
  · subst e
    rw [updR_eq]
    exact ⟨vpn (by omega) (by omega), fun w => by omega⟩
  · rw [updR_ne (by omega)]; exact h k hk
theorem okD_brng (hR : okR R) (h : okD R r) {s : Nat} {y : Int32} : okD R (rBrng r s y) := by
  intro k hk
  unfold rBrng
  rw [updR_ne (by omega), updR_ne (by omega)]
  by_cases e : k = s
  · subst e
    rw [updR_eq]
    exact ⟨vpn (a := 0) (by omega) (by have := hR.cM.1; omega), fun _ => rfl⟩
  · rw [updR_ne (by omega)]; exact h k hk
theorem op_lend {x w : Int32} (hd : 20 ≤ d) (hI : IN σ) : OP L xs d 138 [vr 12 0, vi x, vi w] 269 [vr 13 0, vi x, vi w] σ := by
  intro K hK
  obtain ⟨μ, b, fd, n, m, h, R, r, H, I, T, tr, fa, pl, c, mi, p⟩ := hI
  have op : inn x (R 7) = true → h = true := fun w => mY_opn mi.y (by omega) (by omega) w
  have bb : ∀ {a b : Bool}, (a && b) = true → a = true ∧ b = true := fun {a b} w => by simpa using w
  refine o138 (by omega) c.x (fun w => ⟨c.dk (op w), (p.ok (op w)).1, c.hc⟩) (fun z σ1 g1 => ⟨_, rfl, ?_⟩) (fun z z2 σ1 g1 => ⟨_, rfl, ?_⟩) (fun z z2 σ1 g1 D hH => ⟨_, rfl, ?_⟩)
  · have m1 := mi.oc fO_on g1.1.1
    refine o269 (by omega) m1.y m1.rw (fun w => ⟨(p.ok (op w)).1, m1.hm⟩) (fun _ σ2 g2 => ⟨_, rfl, deny c mi p g1 g2 (by decide) (hK _ _ _)⟩) (fun w => ?_) (fun w => ?_)
    all_goals rw [z] at w; cases w
  · have m1 := mi.oc fO_on g1.1.1
    refine o269 (by omega) m1.y m1.rw (fun w => ⟨(p.ok (op w)).1, m1.hm⟩) (fun w => ?_) (fun _ _ σ2 g2 => ⟨_, rfl, deny c mi p g1 g2 (by decide) (hK _ _ _)⟩) (fun _ w => ?_)
    · rw [z] at w; cases w
    · rw [z2] at w; cases w
  · have m1 := mi.oc fAc_on g1.1.1
    have zz := bb z
    have hh := op zz.1
    refine o269 (by omega) m1.y m1.rw (fun w => ⟨(p.ok (op w)).1, m1.hm⟩) (fun w => ?_) (fun _ w => ?_) (fun _ _ σ2 g2 D2 hH2 => ⟨_, rfl, act2 c mi p hh g1 D hH g2 D2 hH2 (okD_lend c.x.ok (p.ok hh).1 ?_ ?_) (p.psh hh) (hK _ _ _)⟩)
    · rw [z] at w; cases w
    · rw [z2] at w; cases w
    · exact (inn_k c.x.ok.cS.2 (by have := c.x.ok.cS.1; omega) zz.1).1
    · exact (inn_k c.x.ok.cM.2 (by have := c.x.ok.cM.1; omega) zz.2).1
theorem op_bring {x w : Int32} (hd : 20 ≤ d) (hI : IN σ) : OP L xs d 139 [vr 12 0, vi x, vi w] 270 [vr 13 0, vi x, vi w] σ := by
  intro K hK
  obtain ⟨μ, b, fd, n, m, h, R, r, H, I, T, tr, fa, pl, c, mi, p⟩ := hI
  have op : inn x (R 7) = true → h = true := fun w => mY_opn mi.y (by omega) (by omega) w
  refine o139 (by omega) c.x (fun w => ⟨c.dk (op w), (p.ok (op w)).1, c.hc⟩) (fun z σ1 g1 => ⟨_, rfl, ?_⟩) (fun z z2 σ1 g1 => ⟨_, rfl, ?_⟩) (fun z z2 σ1 g1 D hH => ⟨_, rfl, ?_⟩)
  · have m1 := mi.oc fO_on g1.1.1
    refine o270 (by omega) m1.y m1.rw (fun w => ⟨(p.ok (op w)).1, m1.hm⟩) (fun _ σ2 g2 => ⟨_, rfl, deny c mi p g1 g2 (by decide) (hK _ _ _)⟩) (fun w => ?_) (fun w => ?_)
    all_goals rw [z] at w; cases w
  · have m1 := mi.oc fO_on g1.1.1
    refine o270 (by omega) m1.y m1.rw (fun w => ⟨(p.ok (op w)).1, m1.hm⟩) (fun w => ?_) (fun _ _ σ2 g2 => ⟨_, rfl, deny c mi p g1 g2 (by decide) (hK _ _ _)⟩) (fun _ w => ?_)
    · rw [z] at w; cases w
    · rw [z2] at w; cases w
  · have m1 := mi.oc fAc_on g1.1.1
    have hh := op z
    refine o270 (by omega) m1.y m1.rw (fun w => ⟨(p.ok (op w)).1, m1.hm⟩) (fun w => ?_) (fun _ w => ?_) (fun _ _ σ2 g2 D2 hH2 => ⟨_, rfl, act2 c mi p hh g1 D hH g2 D2 hH2 (okD_brng c.x.ok (p.ok hh).1) (p.psh hh) (hK _ _ _)⟩)
    · rw [z] at w; cases w
    · rw [z2] at w; cases w
theorem op_clean {x : Int32} (hd : 20 ≤ d) (hI : IN σ) : OP L xs d 140 [vr 12 0, vi x] 271 [vr 13 0, vi x] σ := by
  intro K hK
  obtain ⟨μ, b, fd, n, m, h, R, r, H, I, T, tr, fa, pl, c, mi, p⟩ := hI
  have op : inn x (R 7) = true → h = true := fun w => mY_opn mi.y (by omega) (by omega) w
  refine o140 (by omega) c.x (fun w => ⟨c.dk (op w), (p.ok (op w)).1, c.hc⟩) (fun z σ1 g1 => ⟨_, rfl, ?_⟩) (fun z z2 σ1 g1 => ⟨_, rfl, ?_⟩) (fun z z2 σ1 g1 D hH => ⟨_, rfl, ?_⟩)
  · have m1 := mi.oc fO_on g1.1.1
    refine o271 (by omega) m1.y m1.rw (fun w => ⟨(p.ok (op w)).1, m1.hm⟩) (fun _ σ2 g2 => ⟨_, rfl, deny c mi p g1 g2 (by decide) (hK _ _ _)⟩) (fun w => ?_) (fun w => ?_)
    all_goals rw [z] at w; cases w
  · have m1 := mi.oc fO_on g1.1.1
    refine o271 (by omega) m1.y m1.rw (fun w => ⟨(p.ok (op w)).1, m1.hm⟩) (fun w => ?_) (fun _ _ σ2 g2 => ⟨_, rfl, deny c mi p g1 g2 (by decide) (hK _ _ _)⟩) (fun _ w => ?_)
    · rw [z] at w; cases w
    · rw [z2] at w; cases w
  · have m1 := mi.oc fAc_on g1.1.1
    have hh := op z
    refine o271 (by omega) m1.y m1.rw (fun w => ⟨(p.ok (op w)).1, m1.hm⟩) (fun w => ?_) (fun _ w => ?_) (fun _ _ σ2 g2 D2 hH2 => ⟨_, rfl, act2 c mi p hh g1 D hH g2 D2 hH2 (okD_eq (p.ok hh).1 (fun s hs => updR_ne (by omega))) (p.psh hh) (hK _ _ _)⟩)
    · rw [z] at w; cases w
    · rw [z2] at w; cases w
theorem op_week (hd : 20 ≤ d) (hI : IN σ) : OP L xs d 141 [vr 12 0] 272 [vr 13 0] σ := by
  intro K hK
  obtain ⟨μ, b, fd, n, m, h, R, r, H, I, T, tr, fa, pl, c, mi, p⟩ := hI
  refine o141 (by omega) c.eh (fun w => ⟨c.dk w, c.hc⟩) (fun z σ1 g1 => ⟨_, rfl, ?_⟩) (fun z σ1 g1 D hH => ⟨_, rfl, ?_⟩)
  · have m1 := mi.oc fO_on g1.1.1
    refine o272 (by omega) m1.y m1.rw (fun w => m1.hm) (fun _ σ2 g2 => ⟨_, rfl, deny c mi p g1 g2 (by decide) (hK _ _ _)⟩) (fun w => ?_)
    rw [z] at w; cases w
  · have m1 := mi.oc fAc_on g1.1.1
    refine o272 (by omega) m1.y m1.rw (fun w => m1.hm) (fun w => ?_) (fun _ σ2 g2 D2 hH2 => ⟨_, rfl, act2 c mi p z g1 D hH g2 D2 hH2 (okD_eq (p.ok z).1 (fun s hs => updR_ne (by omega))) (p.psh z) (hK _ _ _)⟩)
    rw [z] at w; cases w
theorem op_undo (hd : 20 ≤ d) (hI : IN σ) : OP L xs d 142 [vr 12 0] 273 [vr 13 0] σ := by
  intro K hK
  obtain ⟨μ, b, fd, n, m, h, R, r, H, I, T, tr, fa, pl, c, mi, p⟩ := hI
  refine o142 (by omega) c.hc (fun z σ1 g1 => ⟨_, rfl, ?_⟩) (fun z σ1 g1 D hH => ⟨_, rfl, ?_⟩)
  · have m1 := mi.oc fO_on g1.1.1
    exact o273 (by omega) m1.hm (fun _ σ2 g2 => ⟨_, rfl, deny c mi p g1 g2 (by decide) (hK _ _ _)⟩) (fun w => absurd z w)
  · have m1 := mi.oc fAc_on g1.1.1
    have hh : h = true := by
      cases e : h
      · exact absurd (p.nz e).1 z
      · rfl
    have o := (p.ok hh).2.1
    exact o273 (by omega) m1.hm (fun w => absurd w z) (fun _ σ2 g2 D2 hH2 => ⟨_, rfl, act2 c mi p hh g1 D hH g2 D2 hH2 (o 0 (by omega)) (fun j hj => o (j + 1) (by omega)) (hK _ _ _)⟩)
theorem op_back {x : Int32} (hd : 20 ≤ d) (hI : IN σ) : OP L xs d 144 [vr 12 0, vi x] 275 [vr 13 0, vi x] σ := by
  intro K hK
  obtain ⟨μ, b, fd, n, m, h, R, r, H, I, T, tr, fa, pl, c, mi, p⟩ := hI
  refine o144 (by omega) c.ic (fun z σ1 g1 => ⟨_, rfl, ?_⟩) (fun z σ1 g1 D e1 e2 => ⟨_, rfl, ?_⟩)
  · have m1 := mi.oc fO_on g1.1.1
    refine o275 (by omega) m1.im (fun _ σ2 g2 => ⟨_, rfl, deny c mi p g1 g2 (by decide) (hK _ _ _)⟩) (fun w => ?_)
    rw [z] at w; cases w
  · have m1 := mi.oc fAc_on g1.1.1
    have hm := c.ic.1
    have hx := (inn_n (by omega) z).1
    have hh : h = true := by
      cases e : h
      · have := (p.nz e).2.1; omega
      · rfl
    obtain ⟨w, hw, a3, -⟩ := c.hc.2.2
    have hH : hC' σ1 0 H := ⟨by omega, e1, w, hw, e2.trans a3, fun j hj => absurd hj (Nat.not_lt_zero j)⟩
    refine o275 (by omega) m1.im (fun w => ?_) (fun _ σ2 g2 D2 e3 => ⟨_, rfl, act2 c mi p hh g1 D hH g2 D2 ⟨by omega, e3, fun j hj => absurd hj (Nat.not_lt_zero j)⟩ ((p.ok hh).2.2 _ hx) (fun j hj => absurd hj (Nat.not_lt_zero j)) (hK _ _ _)⟩)
    rw [z] at w; cases w
end OPA
