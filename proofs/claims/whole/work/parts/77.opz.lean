/-! STEPS: image, feed, museum; the beginning -/
section OPZ
variable {L : Nat} {xs : Nat → Int32} {d : Nat} {Q : Option dm_V → M2 → Prop} {σ σ' σ1 : M2} {μ b b' fd n n' m m' : Nat} {h : Bool} {R r r' : Nat → Int32} {H H' I I' : Nat → Nat → Int32} {T : Nat → Nat} {tr tr' fa pl : Int32} {C : Nat → Bool}
theorem CI.img (c : CI σ μ b fd n m h R r H I T tr fa pl) (f : fr (fun t i k => fIm t i k || (t == 12 && k == 13)) σ σ') (et : σ'.1 12 0 13 = 0) (hi : iC' σ' m' I') : CI σ' μ b fd n m' h R r H I' T 0 fa pl := by
  have e : ∀ t i k, ¬ ((t = 22 ∨ t = 23 ∨ t = 1) ∧ 13 ≤ i) → ¬ (t = 2 ∧ k = 4) → ¬ (t = 12 ∧ k = 13) → σ'.1 t i k = σ.1 t i k := by
    intro t i k h1 h2 h3
    refine f.1 t i k ?_
    unfold fIm
    simp only [Bool.or_eq_false_iff, Bool.and_eq_false_iff, beq_eq_false_iff_ne, ne_eq, decide_eq_false_iff_not]
    omega
  have kx : ∀ t i k, kpX t i = true → σ'.1 t i k = σ.1 t i k := fun t i k w => by
    unfold kpX at w
    simp only [Bool.or_eq_true, Bool.and_eq_true, beq_iff_eq, decide_eq_true_eq] at w
    exact e t i k (by omega) (by omega) (by omega)
  have dd : ∀ o r, o < 13 → dkS σ.1 o r → dkS σ'.1 o r := fun o r ho D => D.eq ⟨fun s _ => ⟨e _ _ _ (by omega) (by omega) (by omega), e _ _ _ (by omega) (by omega) (by omega)⟩, e _ _ _ (by omega) (by omega) (by omega), e _ _ _ (by omega) (by omega) (by omega), e _ _ _ (by omega) (by omega) (by omega)⟩
  refine ⟨c.x.kc kx (by rw [f.2]), (e 1 0 2 (by omega) (by omega) (by omega)).trans c.eb, (e 12 0 5 (by omega) (by omega) (by omega)).trans c.eh, by rw [f.2]; exact c.rd, (e 12 0 1 (by omega) (by omega) (by omega)).trans c.cfd, fun i hi => ⟨(c.tx i hi).1, (e 54 0 i (by omega) (by omega) (by omega)).trans (c.tx i hi).2⟩, fun o ho => by rw [f.2]; exact c.kws o ho, fun w => dd 0 _ (by omega) (c.dk w), ⟨(e 1 0 3 (by omega) (by omega) (by omega)).trans c.d0.1, (e 1 0 4 (by omega) (by omega) (by omega)).trans c.d0.2⟩, ?_, hi, fun p b' hp hb w => ?_, fun b' hb w => ?_, fun k hk => ⟨(e 28 0 k (by omega) (by omega) (by omega)).trans (c.z2 k hk).1, (e 29 0 k (by omega) (by omega) (by omega)).trans (c.z2 k hk).2⟩, et, (e 12 0 14 (by omega) (by omega) (by omega)).trans c.fa, fun w => absurd w (by decide)⟩
  · obtain ⟨a1, a2, w, hw, a3, a4⟩ := c.hc
    exact ⟨a1, (e 2 0 2 (by omega) (by omega) (by omega)).trans a2, w, hw, (e 2 0 1 (by omega) (by omega) (by omega)).trans a3, fun j hj => dd _ _ (by omega) (a4 j hj)⟩
  · obtain ⟨k1, k2, k3⟩ := c.mk p b' hp hb ((e 32 0 p (by omega) (by omega) (by omega)).symm.trans w)
    exact ⟨(e 33 0 p (by omega) (by omega) (by omega)).trans k1, fun w => (e 34 0 p (by omega) (by omega) (by omega)).trans (k2 w), fun w => (e 35 0 p (by omega) (by omega) (by omega)).trans (k3 w)⟩
  · obtain ⟨k1, k2⟩ := c.ld b' hb ((e 3 0 0 (by omega) (by omega) (by omega)).symm.trans w)
    exact ⟨(e 3 0 7 (by omega) (by omega) (by omega)).trans k1, fun i hi => (e 31 0 i (by omega) (by omega) (by omega)).trans (k2 i hi)⟩
theorem MI.img (c : MI σ b fd n m h R r H I T tr fa pl) (f : fr (fun t i k => gO t i k || (t == 66 || (t == 13 && k == 21))) σ σ') (et : σ'.1 13 0 11 = 0) (hi : iM σ' m' I') : MI σ' b fd n m' h R r H I' T 0 fa pl := by
  have e : ∀ t i k, (t = 13 ∧ (k = 2 ∨ k = 9 ∨ k = 10 ∨ k = 14 ∨ k = 20)) ∨ (t = 60 ∨ t = 62 ∨ t = 64 ∨ t = 65) → σ'.1 t i k = σ.1 t i k := by
    intro t i k ht
    refine f.1 t i k ?_
    unfold gO
    simp only [Bool.or_eq_false_iff, Bool.and_eq_false_iff, beq_eq_false_iff_ne, ne_eq, decide_eq_false_iff_not]
    omega
  exact ⟨⟨⟨c.y.1.1, fun k => (e 62 0 k (by omega)).trans (c.y.1.2.1 k), fun s hs => by rw [e 64 0 _ (by omega)]; exact c.y.1.2.2 s hs⟩, (e 13 0 14 (by omega)).trans c.y.2.1, c.y.2.2⟩, (e 13 0 2 (by omega)).trans c.mfd, fun i hi => (e 60 0 i (by omega)).trans (c.tx i hi), fun k hk => (e 64 0 k (by omega)).trans (c.rw k hk), ⟨c.hm.1, (e 13 0 20 (by omega)).trans c.hm.2.1, fun j hj k hk => (e 65 0 _ (by omega)).trans (c.hm.2.2 j hj k hk)⟩, hi, et, (e 13 0 9 (by omega)).trans c.fa, fun w => absurd w (by decide)⟩
theorem op_image (hd : 20 ≤ d) (hI : IN σ) : OP L xs d 143 [vr 12 0] 274 [vr 13 0] σ := by
  intro K hK
  obtain ⟨μ, b, fd, n, m, h, R, r, H, I, T, tr, fa, pl, c, mi, p⟩ := hI
  refine o143 (by omega) c.eh (fun w => ⟨c.dk w, c.ic⟩) (fun z σ1 g1 => ⟨_, rfl, ?_⟩) (fun z z2 σ1 g1 => ⟨_, rfl, ?_⟩) (fun z z2 σ1 g1 e1 hi => ⟨_, rfl, ?_⟩)
  · have m1 := mi.oc fO_on g1.1.1
    refine o274 (by omega) m1.y m1.rw m1.im (fun _ σ2 g2 => ⟨_, rfl, deny c mi p g1 g2 (by decide) (hK _ _ _)⟩) (fun w => ?_) (fun w => ?_)
    all_goals rw [z] at w; cases w
  · have m1 := mi.oc fO_on g1.1.1
    refine o274 (by omega) m1.y m1.rw m1.im (fun w => ?_) (fun _ _ σ2 g2 => ⟨_, rfl, deny c mi p g1 g2 (by decide) (hK _ _ _)⟩) (fun _ w => absurd z2 w)
    rw [z] at w; cases w
  · have on1 : onC (fun t i k => fIm t i k || (t == 12 && k == 13)) := fun t i k w => by
      unfold fIm at w
      simp only [Bool.or_eq_true, Bool.and_eq_true, beq_iff_eq, decide_eq_true_eq] at w
      omega
    have on2 : onM (fun t i k => gO t i k || (t == 66 || (t == 13 && k == 21))) := fun t i k w => by
      unfold gO at w
      simp only [Bool.or_eq_true, Bool.and_eq_true, beq_iff_eq, decide_eq_true_eq] at w
      omega
    have m1 := mi.oc on1 g1.1
    refine o274 (by omega) m1.y m1.rw m1.im (fun w => ?_) (fun _ w => absurd w z2) (fun _ _ σ2 g2 e2 hi2 => ⟨_, rfl, ?_⟩)
    · rw [z] at w; cases w
    refine hK _ _ _ ⟨μ, b, fd, n, m + 1, h, R, r, H, fun j => if j = m then r else I j, T, 0, fa, pl, (c.img g1 e1 hi).om on2 g2, m1.img g2 e2.1 hi2, p.hb, p.rb, p.fd, fun w => ⟨(p.ok w).1, (p.ok w).2.1, fun j hj => ?_⟩, fun w => absurd (z.symm.trans w) (by decide), p.r46⟩
    show okD R (if j = m then r else I j)
    by_cases e : j = m
    · rw [if_pos e]; exact (p.ok w).1
    · rw [if_neg e]; exact (p.ok w).2.2 j (by omega)
theorem op_feed {x y z v w : Int32} (hd : 20 ≤ d) (hI : IN σ) : OP L xs d 76 [vr 12 0, vi x, vi y, vi z, vi v, vi w] 156 [vr 13 0, vi x, vi y, vi z, vi v, vi w] σ := by
  intro K hK
  obtain ⟨μ, b, fd, n, m, h, R, r, H, I, T, tr, fa, pl, c, mi, p⟩ := hI
  have hM : ∀ {σ σ' : M2} {fd' : Nat} {T' : Nat → Nat}, MI σ b fd n m h R r H I T tr fa pl → fr gFd σ σ' → σ'.1 13 0 2 = nI fd' → (∀ i, i < fd' → σ'.1 60 0 i = nI (T' i)) → MI σ' b fd' n m h R r H I T' tr fa pl := by
    intro σ σ' fd' T' c f e2 t
    have e : ∀ t i k, (t = 13 ∧ (k = 9 ∨ k = 10 ∨ k = 11 ∨ k = 14 ∨ k = 20 ∨ k = 21)) ∨ (t = 62 ∨ t = 64 ∨ t = 65 ∨ t = 66) → σ'.1 t i k = σ.1 t i k := by
      intro t i k ht
      refine f.1 t i k ?_
      unfold gFd
      simp only [Bool.or_eq_false_iff, Bool.and_eq_false_iff, beq_eq_false_iff_ne, ne_eq]
      omega
    exact ⟨⟨⟨c.y.1.1, fun k => (e 62 0 k (by omega)).trans (c.y.1.2.1 k), fun s hs => by rw [e 64 0 _ (by omega)]; exact c.y.1.2.2 s hs⟩, (e 13 0 14 (by omega)).trans c.y.2.1, c.y.2.2⟩, e2, t, fun k hk => (e 64 0 k (by omega)).trans (c.rw k hk), ⟨c.hm.1, (e 13 0 20 (by omega)).trans c.hm.2.1, fun j hj k hk => (e 65 0 _ (by omega)).trans (c.hm.2.2 j hj k hk)⟩, ⟨c.im.1, (e 13 0 21 (by omega)).trans c.im.2.1, fun j hj k hk => (e 66 0 _ (by omega)).trans (c.im.2.2 j hj k hk)⟩, (e 13 0 11 (by omega)).trans c.tr, (e 13 0 9 (by omega)).trans c.fa, fun w => (e 13 0 10 (by omega)).trans (c.pl w)⟩
  have on2 : onM gFd := fun t i k w => by
    unfold gFd at w
    simp only [Bool.or_eq_true, Bool.and_eq_true, beq_iff_eq, decide_eq_true_eq] at w
    omega
  have on1 : onC fFd := fun t i k w => by
    unfold fFd at w
    simp only [Bool.or_eq_true, Bool.and_eq_true, beq_iff_eq, decide_eq_true_eq] at w
    omega
  refine o76 (by omega) p.fd c.cfd (fun z1 => ⟨_, rfl, ?_⟩) (fun z1 σ1 f1 e1 t1 k1 => ⟨_, rfl, ?_⟩)
  · refine o156 (by omega) p.fd mi.mfd (fun _ σ2 f2 e2 k2 _ => ⟨_, rfl, ?_⟩) (fun w => by omega)
    exact hK _ _ _ ⟨μ, b, fd, n, m, h, R, r, H, I, T, tr, fa, pl, c.om on2 f2, hM mi f2 e2 (fun i hi => (k2 i).trans (mi.tx i hi)), p⟩
  · have m1 := mi.oc on1 f1.1
    refine o156 (by omega) p.fd m1.mfd (fun w => by omega) (fun _ σ2 f2 e2 t2 k2 _ => ⟨_, rfl, ?_⟩)
    have e : ∀ t i k, ¬ (t = 54 ∧ i = 0) → ¬ (t = 12 ∧ k = 1) → σ1.1 t i k = σ.1 t i k := by
      intro t i k h1 h2
      refine f1.1 t i k ?_
      unfold fFd
      simp only [Bool.or_eq_false_iff, Bool.and_eq_false_iff, beq_eq_false_iff_ne, ne_eq]
      omega
    have kx : ∀ t i k, kpX t i = true → σ1.1 t i k = σ.1 t i k := fun t i k w => by
      unfold kpX at w
      simp only [Bool.or_eq_true, Bool.and_eq_true, beq_iff_eq, decide_eq_true_eq] at w
      exact e t i k (by omega) (by omega)
    have dd : ∀ o r, dkS σ.1 o r → dkS σ1.1 o r := fun o r D => D.eq ⟨fun s _ => ⟨e _ _ _ (by omega) (by omega), e _ _ _ (by omega) (by omega)⟩, e _ _ _ (by omega) (by omega), e _ _ _ (by omega) (by omega), e _ _ _ (by omega) (by omega)⟩
    have c1 : CI σ1 μ b (fd + 20) n m h R r H I (fun i => if i < fd then T i else fdB x y z v w (i - fd)) tr fa pl := by
      refine ⟨c.x.kc kx (by rw [f1.2]), (e 1 0 2 (by omega) (by omega)).trans c.eb, (e 12 0 5 (by omega) (by omega)).trans c.eh, by rw [f1.2]; exact c.rd, e1, fun i hi => ?_, fun o ho => by rw [f1.2]; exact c.kws o ho, fun w => dd 0 _ (c.dk w), ⟨(e 1 0 3 (by omega) (by omega)).trans c.d0.1, (e 1 0 4 (by omega) (by omega)).trans c.d0.2⟩, ?_, ⟨c.ic.1, (e 2 0 4 (by omega) (by omega)).trans c.ic.2.1, fun j hj => dd _ _ (c.ic.2.2 j hj)⟩, fun p b' hp hb w => ?_, fun b' hb w => ?_, fun k hk => ⟨(e 28 0 k (by omega) (by omega)).trans (c.z2 k hk).1, (e 29 0 k (by omega) (by omega)).trans (c.z2 k hk).2⟩, (e 12 0 13 (by omega) (by omega)).trans c.tr, (e 12 0 14 (by omega) (by omega)).trans c.fa, fun w => (e 12 0 15 (by omega) (by omega)).trans (c.pl w)⟩
      · show (if i < fd then T i else fdB x y z v w (i - fd)) < 256 ∧ σ1.1 54 0 i = sb (if i < fd then T i else fdB x y z v w (i - fd))
        by_cases hi' : i < fd
        · rw [if_pos hi', k1 i hi']; exact c.tx i hi'
        · rw [if_neg hi']
          have := t1 (i - fd) (by omega)
          rw [show fd + (i - fd) = i by omega] at this
          exact ⟨byt_lt _, this⟩
      · obtain ⟨a1, a2, w, hw, a3, a4⟩ := c.hc
        exact ⟨a1, (e 2 0 2 (by omega) (by omega)).trans a2, w, hw, (e 2 0 1 (by omega) (by omega)).trans a3, fun j hj => dd _ _ (a4 j hj)⟩
      · obtain ⟨k1, k2, k3⟩ := c.mk p b' hp hb ((e 32 0 p (by omega) (by omega)).symm.trans w)
        exact ⟨(e 33 0 p (by omega) (by omega)).trans k1, fun w => (e 34 0 p (by omega) (by omega)).trans (k2 w), fun w => (e 35 0 p (by omega) (by omega)).trans (k3 w)⟩
      · obtain ⟨k1, k2⟩ := c.ld b' hb ((e 3 0 0 (by omega) (by omega)).symm.trans w)
        exact ⟨(e 3 0 7 (by omega) (by omega)).trans k1, fun i hi => (e 31 0 i (by omega) (by omega)).trans (k2 i hi)⟩
    refine hK _ _ _ ⟨μ, b, fd + 20, n, m, h, R, r, H, I, _, tr, fa, pl, c1.om on2 f2, hM m1 f2 e2 (fun i hi => ?_), p.hb, p.rb, z1, p.ok, p.nz, p.r46⟩
    show σ2.1 60 0 i = nI (if i < fd then T i else fdB x y z v w (i - fd))
    by_cases hi' : i < fd
    · rw [if_pos hi', k2 i hi']; exact m1.tx i hi'
    · rw [if_neg hi']
      have := t2 (i - fd) (by omega)
      rw [show fd + (i - fd) = i by omega] at this
      exact this
theorem fMf_f {ν t i k : Nat} (h1 : fMu ν t i k = false) (h2 : t ≠ 7 ∧ t ≠ 11 ∧ t ≠ 49 ∧ t ≠ 50) (h3 : ¬ (t = 12 ∧ (k = 1 ∨ k = 13 ∨ k = 14 ∨ k = 15))) : fMf ν t i k = false := by
  unfold fMf fBg fRd fMl
  rw [h1]
  simp only [Bool.or_eq_false_iff, Bool.and_eq_false_iff, beq_eq_false_iff_ne, ne_eq, and_true]
  omega
theorem fMu_f {ν t i k : Nat} (h : t = 1 ∨ t = 22 ∨ t = 23 ∨ t = 2 ∨ t = 12 ∨ t = 54 ∨ t = 32 ∨ t = 33 ∨ t = 34 ∨ t = 35 ∨ t = 3 ∨ t = 31 ∨ t = 28 ∨ t = 29) : fMu ν t i k = false := by
  unfold fMu
  simp only [Bool.or_eq_false_iff, Bool.and_eq_false_iff, beq_eq_false_iff_ne, ne_eq, decide_eq_false_iff_not]
  omega
/-- a museum that is at fault -/
theorem CI.musf {ν f p : Nat} (c : CI σ μ b fd n m h R r H I T tr fa pl) (hν : ν = 1 - μ) (g : fz (fMf ν) σ σ') (r2 : ∀ t i k, t ≠ 11 → σ'.2.2 t i k = σ.2.2 t i k) (e1 : σ'.1 12 0 1 = 0) (e14 : σ'.1 12 0 14 = nI f) (e15 : σ'.1 12 0 15 = nI p) (e13 : σ'.1 12 0 13 = 4) : CI σ' μ b 0 n m h R r H I T 4 (nI f) (nI p) := by
  have hμ := c.x.mu
  have e : ∀ t i k, (t = 1 ∨ t = 22 ∨ t = 23 ∨ t = 2 ∨ (t = 12 ∧ k = 5) ∨ t = 54 ∨ t = 32 ∨ t = 33 ∨ t = 34 ∨ t = 35 ∨ t = 3 ∨ t = 31 ∨ t = 28 ∨ t = 29) → σ'.1 t i k = σ.1 t i k := fun t i k ht => g.1 t i k (fMf_f (fMu_f (by omega)) (by omega) (by omega))
  have dd : ∀ o r, dkS σ.1 o r → dkS σ'.1 o r := fun o r D => D.eq ⟨fun s _ => ⟨e _ _ _ (by omega), e _ _ _ (by omega)⟩, e _ _ _ (by omega), e _ _ _ (by omega), e _ _ _ (by omega)⟩
  have cm : cM (msk σ'.1) μ R := cM_o (ν := ν) c.x.ok hμ (by omega) (by omega) (fun t i k w => by
    unfold msk
    cases kk : kpX t i
    · rfl
    · refine g.1 t i k (fMf_f w ?_ ?_)
      all_goals
        unfold kpX at kk
        simp only [Bool.or_eq_true, Bool.and_eq_true, beq_iff_eq, decide_eq_true_eq] at kk
        omega) c.x.m
  have k1 : msk σ'.1 1 0 2 = msk σ.1 1 0 2 := e 1 0 2 (by omega)
  refine ⟨⟨(r2 8 0 0 (by decide)).trans c.x.r8, (r2 12 0 4 (by decide)).trans c.x.r12, hμ, c.x.ok, cm, by rw [k1]; exact c.x.cln⟩, (e 1 0 2 (by omega)).trans c.eb, (e 12 0 5 (by omega)).trans c.eh, (r2 7 0 5 (by decide)).trans c.rd, e1, fun i hi => absurd hi (Nat.not_lt_zero i), fun o ho => (g.2 o ho).trans (c.kws o ho), fun w => dd 0 _ (c.dk w), ⟨(e 1 0 3 (by omega)).trans c.d0.1, (e 1 0 4 (by omega)).trans c.d0.2⟩, ?_, ⟨c.ic.1, (e 2 0 4 (by omega)).trans c.ic.2.1, fun j hj => dd _ _ (c.ic.2.2 j hj)⟩, fun p b' hp hb w => ?_, fun b' hb w => ?_, fun k hk => ⟨(e 28 0 k (by omega)).trans (c.z2 k hk).1, (e 29 0 k (by omega)).trans (c.z2 k hk).2⟩, e13, e14, fun _ => e15⟩
  · obtain ⟨a1, a2, w, hw, a3, a4⟩ := c.hc
    exact ⟨a1, (e 2 0 2 (by omega)).trans a2, w, hw, (e 2 0 1 (by omega)).trans a3, fun j hj => dd _ _ (a4 j hj)⟩
  · obtain ⟨k1, k2, k3⟩ := c.mk p b' hp hb ((e 32 0 p (by omega)).symm.trans w)
    exact ⟨(e 33 0 p (by omega)).trans k1, fun w => (e 34 0 p (by omega)).trans (k2 w), fun w => (e 35 0 p (by omega)).trans (k3 w)⟩
  · obtain ⟨k1, k2⟩ := c.ld b' hb ((e 3 0 0 (by omega)).symm.trans w)
    exact ⟨(e 3 0 7 (by omega)).trans k1, fun i hi => (e 31 0 i (by omega)).trans (k2 i hi)⟩
theorem MI.musf {f p : Nat} (c : MI σ b fd n m h R r H I T tr fa pl) (g : fr gMu σ σ') (e2 : σ'.1 13 0 2 = 0) (e9 : σ'.1 13 0 9 = nI f) (e10 : σ'.1 13 0 10 = nI p) (e11 : σ'.1 13 0 11 = 4) : MI σ' b 0 n m h R r H I T 4 (nI f) (nI p) := by
  have e : ∀ t i k, (t = 13 ∧ (k = 14 ∨ k = 20 ∨ k = 21)) ∨ (t = 62 ∨ t = 64 ∨ t = 65 ∨ t = 66) → σ'.1 t i k = σ.1 t i k := by
    intro t i k ht
    refine g.1 t i k ?_
    unfold gMu gRd
    simp only [Bool.or_eq_false_iff, Bool.and_eq_false_iff, beq_eq_false_iff_ne, ne_eq]
    omega
  exact ⟨⟨⟨c.y.1.1, fun k => (e 62 0 k (by omega)).trans (c.y.1.2.1 k), fun s hs => by rw [e 64 0 _ (by omega)]; exact c.y.1.2.2 s hs⟩, (e 13 0 14 (by omega)).trans c.y.2.1, c.y.2.2⟩, e2, fun i hi => absurd hi (Nat.not_lt_zero i), fun k hk => (e 64 0 k (by omega)).trans (c.rw k hk), ⟨c.hm.1, (e 13 0 20 (by omega)).trans c.hm.2.1, fun j hj k hk => (e 65 0 _ (by omega)).trans (c.hm.2.2 j hj k hk)⟩, ⟨c.im.1, (e 13 0 21 (by omega)).trans c.im.2.1, fun j hj k hk => (e 66 0 _ (by omega)).trans (c.im.2.2 j hj k hk)⟩, e11, e9, fun _ => e10⟩
theorem gMu_on : onM gMu := fun t i k w => by
  unfold gMu gRd at w
  simp only [Bool.or_eq_true, Bool.and_eq_true, beq_iff_eq] at w
  omega
theorem gMt_on : onM gMt := fun t i k w => by
  unfold gMt gMu gRd at w
  simp only [Bool.or_eq_true, Bool.and_eq_true, beq_iff_eq] at w
  omega
theorem fMf_on {ν : Nat} : onC (fMf ν) := fun t i k w => by
  unfold fMf fBg fRd fMl fMu at w
  simp only [Bool.or_eq_true, Bool.and_eq_true, beq_iff_eq, decide_eq_true_eq] at w
  omega
theorem fMs_on {ν : Nat} : onC (fMs ν) := fun t i k w => by
  unfold fMs fMf fBg fRd fMl fMu fD at w
  simp only [Bool.or_eq_true, Bool.and_eq_true, beq_iff_eq, decide_eq_true_eq] at w
  omega
theorem nI_m1 (hb : b < 128) : (-1 : Int32) ≠ nI b := by
  have : ∀ b, b < 128 → (-1 : Int32) ≠ nI b := by decide +kernel
  exact this b hb
theorem op_museum {x : Int32} (hd : 20 ≤ d) (hI : IN σ) : OP L xs d 78 [vr 12 0, vi x] 175 [vr 13 0, vi x] σ := by
  intro K hK
  obtain ⟨μ, b, fd, n, m, h, R, r, H, I, T, tr, fa, pl, c, mi, p⟩ := hI
  have hμ := c.x.mu
  refine o78 (by omega) p.fd c.cfd c.tx c.rd (by omega) c.kws (fun z σ1 g1 => ⟨_, rfl, ?_⟩) (fun z f pp σ1 E hf g1 r1 e1 e14 e15 e13 => ⟨_, rfl, ?_⟩) (fun z c' F' N' σ1 E g1 r12 r7 r8 e1 e14 e13 e5 M P h0 D eb e22 e24 e32 e3 => ⟨_, rfl, ?_⟩)
  · have m1 := mi.oc fO_on g1.1.1
    refine o175 (T := T) (by omega) p.fd m1.mfd (fun i hi => ⟨(c.tx i hi).1, m1.tx i hi⟩) (fun _ σ2 g2 => ⟨_, rfl, deny c mi p g1 g2 (by decide) (hK _ _ _)⟩) (fun w => ?_) (fun w => ?_)
    all_goals rw [z] at w; cases w
  · have m1 := mi.oc fMf_on g1.1
    refine o175 (T := T) (by omega) p.fd m1.mfd (fun i hi => ⟨(c.tx i hi).1, m1.tx i hi⟩) (fun w => ?_) (fun _ f2 p2 σ2 E2 hf2 g2 e0 e2 e9 e10 e11 => ⟨_, rfl, ?_⟩) (fun _ c2 F2 N2 σ2 E2 => ?_)
    · rw [z] at w; cases w
    · rw [E] at E2
      cases E2
      exact hK _ _ _ ⟨μ, b, 0, n, m, h, R, r, H, I, T, 4, nI f, nI pp, (c.musf rfl g1 r1 e1 e14 e15 e13).om gMu_on g2, m1.musf g2 e2 e9 e10 e11, p.hb, p.rb, Nat.zero_le _, p.ok, p.nz, p.r46⟩
    · rw [E] at E2; cases E2
  · have m1 := mi.oc fMs_on g1.1
    refine o175 (T := T) (by omega) p.fd m1.mfd (fun i hi => ⟨(c.tx i hi).1, m1.tx i hi⟩) (fun w => ?_) (fun _ f2 p2 σ2 E2 => ?_) (fun _ c2 F2 N2 σ2 E2 g2 q0 q2 q9 q11 q62 q64 q14 q20 q21 => ⟨_, rfl, ?_⟩)
    · rw [z] at w; cases w
    · rw [E] at E2; cases E2
    rw [E] at E2
    cases E2
    have oR : okR (fun k => σ2.1 62 0 k) := okR_of P.1 q62
    have gE : ∀ k, k < 187 → gN (fun k => σ2.1 62 0 k) k = gN F' k := fun k hk => gN_eq (q62 k hk)
    have cm : cM (msk σ1.1) (1 - μ) (fun k => σ2.1 62 0 k) := cM_of P.1 (by omega) h0 q62 (fun t i k w => by unfold msk; rw [w]; rfl) M
    have e28 : ∀ t k, t = 28 ∨ t = 29 ∨ (t = 2 ∧ k = 1) → σ1.1 t 0 k = σ.1 t 0 k := fun t k ht => g1.1 t 0 k (by
      unfold fMs fD
      rw [fMf_f (fMu_f (by omega)) (by omega) (by omega), Bool.false_or]
      simp only [Bool.or_eq_false_iff, Bool.and_eq_false_iff, beq_eq_false_iff_ne, ne_eq]
      omega)
    obtain ⟨w, hw, a3, -⟩ := c.hc.2.2
    have c1 : CI σ1 (1 - μ) 0 0 0 0 true (fun k => σ2.1 62 0 k) (fun _ => 0) H I T 0 0 0 := by
      refine ⟨⟨r8, r12, by omega, oR, cm, fun s hs => ?_⟩, eb, e5, by rw [r7, c.x.r12]; omega, e1, fun i hi => absurd hi (Nat.not_lt_zero i), fun o ho => (g1.2 o ho).trans (c.kws o ho), fun _ => D, ⟨D.1, D.2.1⟩, ⟨by omega, e22, w, hw, (e28 2 1 (by omega)).trans a3, fun j hj => absurd hj (Nat.not_lt_zero j)⟩, ⟨by omega, e24, fun j hj => absurd hj (Nat.not_lt_zero j)⟩, fun p b' hp hb w => ?_, fun b' hb w => ?_, fun k hk => ⟨(e28 28 k (by omega)).trans (c.z2 k hk).1, (e28 29 k (by omega)).trans (c.z2 k hk).2⟩, e13, e14, fun w => absurd w (by decide)⟩
      · have k1 : msk σ1.1 1 0 2 = σ1.1 1 0 2 := rfl
        rw [k1, eb]; exact tb7 0 (by omega) s hs
      · rw [gE 6 (by omega)] at hp
        rw [e32 p (by have := P.1.cP.1; omega)] at w
        exact absurd w (nI_m1 hb)
      · rw [e3] at w
        exact absurd w (nI_m1 hb)
    refine hK _ _ _ ⟨1 - μ, 0, 0, 0, 0, true, fun k => σ2.1 62 0 k, fun _ => 0, H, I, T, 0, 0, 0, c1.om gMt_on g2, ⟨⟨⟨oR, fun k => rfl, fun s hs => ?_⟩, q14, fun w => absurd w (by decide)⟩, q2, fun i hi => absurd hi (Nat.not_lt_zero i), fun k hk => q64 k hk, ⟨by omega, q20, fun j hj => absurd hj (Nat.not_lt_zero j)⟩, ⟨by omega, q21, fun j hj => absurd hj (Nat.not_lt_zero j)⟩, q11, q9, fun w => absurd w (by decide)⟩, by omega, fun s _ => by rw [Nat.zero_testBit]; rfl, by omega, fun _ => ⟨fun s _ => ⟨vpn (a := 0) (by omega) (by have := oR.cM.1; omega), fun _ => rfl⟩, fun j hj => absurd hj (Nat.not_lt_zero j), fun j hj => absurd hj (Nat.not_lt_zero j)⟩, fun w => absurd w (by decide), fun w => ?_⟩
    · show _ ↔ Nat.testBit 0 s = true
      rw [q64 _ (by omega), Nat.zero_testBit]; decide
    · rw [gE 4 (by omega)] at w
      rw [gE 6 (by omega)]
      exact P.2.2.2.2 (P.2.2.2.1 w)
/-- the beginning -/
theorem IN_0 : IN m2_0 := by
  have no : ∀ x k, ¬ x < gN (fun _ => 0) k := fun x k => Nat.not_lt_zero x
  have nz : ∀ {j : Nat}, ¬ j < 0 := fun {j} => Nat.not_lt_zero j
  have kk : ∀ o, o < 10 → m2_names0.getD o 0 = Int64.ofNat (kw o) := by decide +kernel
  have tb : ∀ s, Nat.testBit 0 s = false := fun s => Nat.zero_testBit s
  refine ⟨0, 0, 0, 0, 0, false, fun _ => 0, fun _ => 0, fun _ _ => 0, fun _ _ => 0, fun _ => 0, 0, 0, 0, ?_, ?_, ?_⟩
  · refine ⟨⟨rfl, rfl, by omega, PV_0.1, ?_, fun s hs => ?_⟩, rfl, rfl, rfl, rfl, fun i hi => absurd hi nz, kk, fun w => absurd w (by decide), ⟨rfl, rfl⟩, ⟨by omega, rfl, 0, by omega, rfl, fun j hj => absurd hj nz⟩, ⟨by omega, rfl, fun j hj => absurd hj nz⟩, fun p b' hp => absurd hp (no p 6), fun b' hb w => absurd w (nI_m1 hb), fun k _ => ⟨rfl, rfl⟩, rfl, rfl, fun w => absurd w (by decide)⟩
    · exact ⟨⟨rfl, rfl, rfl, rfl, rfl, rfl, rfl, rfl⟩, ⟨rfl, rfl, rfl, rfl⟩, fun x w => absurd w (no x 4), fun x w => absurd w (no x 10), fun x w => absurd w (no x 5), fun x w => absurd w (no x 6), fun x w => absurd w (no x 7), fun x w => absurd w (no x 8), fun x w => absurd w (no x 9), fun w => absurd rfl w⟩
    · exact tb7 0 (by omega) s hs
  · refine ⟨⟨⟨PV_0.1, fun k => rfl, fun s hs => ?_⟩, rfl, fun _ => ⟨fun k _ _ => rfl, rfl⟩⟩, rfl, fun i hi => absurd hi nz, fun k _ => rfl, ⟨by omega, rfl, fun j hj => absurd hj nz⟩, ⟨by omega, rfl, fun j hj => absurd hj nz⟩, rfl, rfl, fun w => absurd w (by decide)⟩
    show (0 : Int32) = 1 ↔ Nat.testBit 0 s = true
    rw [tb]; decide
  · exact ⟨by omega, fun s _ => by rw [tb]; rfl, by omega, fun w => absurd w (by decide), fun _ => ⟨rfl, rfl, rfl, fun _ _ => rfl, rfl, rfl⟩, fun _ => rfl⟩
end OPZ
