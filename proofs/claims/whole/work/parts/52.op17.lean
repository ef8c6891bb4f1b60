/-! CALLS of the desk in the class: who, overdue, lend, bring, clean, week, undo, image, back -/
theorem u_ne {r : Nat → Int32} {k i : Nat} {v : Int32} (h : i ≠ k) : updR r k v i = r i := if_neg h
def a_who (R r : Nat → Int32) (s : Int32) : Int32 × Int32 := if inn s (R 7) = true then (if r (2 + 3 * s.toNatClampNeg) = 0 then -2 else r (2 + 3 * s.toNatClampNeg) - 1, 0) else no1
def ovF (R r : Nat → Int32) : Nat → Int32 → Int32 := fun s a => if out r s = true then (if R 0 < r 0 - r (2 + 3 * s + 1) then a ||| bt s else a) else a
def a_over (R r : Nat → Int32) (h : Bool) : Int32 × Int32 := if h = true then (ff (ovF R r) (gN R 7) 0 0, 0) else no1
def canL (R : Nat → Int32) (C : Nat → Bool) (r : Nat → Int32) (s p : Nat) : Bool := !(out r s) && (nh r p (gN R 7) && (!(C s) && mayH R C p (nI s)))
def rLend (r : Nat → Int32) (s p : Nat) : Nat → Int32 := updR (updR r (2 + 3 * s) (nI (p + 1))) (2 + 3 * s + 1) (r 0)
def rBrng (r : Nat → Int32) (s : Nat) (y : Int32) : Nat → Int32 := updR (updR (updR r (2 + 3 * s) 0) (2 + 3 * s + 1) 0) 1 (r 1 + y)
def rCln (r : Nat → Int32) (s : Nat) : Nat → Int32 := updR r (2 + 3 * s + 2) 1
def rWeek (r : Nat → Int32) : Nat → Int32 := updR r 0 (r 0 + 1)
def hold (r : Nat → Int32) (s : Nat) : Nat := (r (2 + 3 * s) - 1).toNatClampNeg
def brC (R : Nat → Int32) (C : Nat → Bool) (r : Nat → Int32) (s : Nat) (m : Int32) : Int32 := if m = 0 then 0 else hm2 R C (mPl R (hold r s)) (nI s) (-2)
def fAc : Nat → Nat → Nat → Bool := fun t i k => fO t i k || (((t == 22 || (t == 23 || t == 1)) && decide (i ≤ 12)) || (t == 2 && (k == 1 || k == 2)))
def cA (σ σ' : M2) : Prop := fr fAc σ σ' ∧ σ'.1 12 0 13 = 0
theorem fHs_A : ∀ t i k, fHs t i k = true → fAc t i k = true := by
  intro t i k h
  unfold fHs at h
  unfold fAc
  simp only [Bool.or_eq_true, Bool.and_eq_true, beq_iff_eq, decide_eq_true_eq] at *
  omega
theorem fTk_A : ∀ t i k, fTk t i k = true → fAc t i k = true := by
  intro t i k h
  unfold fTk at h
  unfold fAc
  simp only [Bool.or_eq_true, Bool.and_eq_true, beq_iff_eq, decide_eq_true_eq] at *
  omega
theorem fRn_A : ∀ t i k, fRn t i k = true → fAc t i k = true := fun t i k h => by unfold fAc; rw [fRn_O t i k h]; rfl
theorem dkS.w {σ : M2} {o : Nat} {r : Nat → Int32} (h : dkS σ.1 o r) {t i k : Nat} {v : Int32} (ht : 1 ≠ t) (ht2 : 22 ≠ t) (ht3 : 23 ≠ t) : dkS (m2_wI σ t i k v).1 o r :=
  h.eq ⟨fun s _ => ⟨wI_t ht2, wI_t ht3⟩, wI_t ht, wI_t ht, wI_t ht⟩
theorem hC'.w {σ : M2} {n : Nat} {H : Nat → Nat → Int32} (h : hC' σ n H) {t k : Nat} {v : Int32} (ht : t ≠ 2) : hC' (m2_wI σ t 0 k v) n H := by
  obtain ⟨a, b, w, hw, e, kk⟩ := h
  refine ⟨a, by rw [wI_t (Ne.symm ht)]; exact b, w, hw, by rw [wI_t (Ne.symm ht)]; exact e, fun j hj => (kk j hj).eq ⟨fun s _ => ⟨wI_i (by omega), wI_i (by omega)⟩, wI_i (by omega), wI_i (by omega), wI_i (by omega)⟩⟩
theorem tb7 : ∀ b, b < 128 → ∀ s, s < 7 → (nI b >>> (nI s &&& 31)) &&& 1 = bI (b.testBit s) := by decide +kernel
theorem dk_lend {σ : M2} {r : Nat → Int32} (hk : dkS σ.1 0 r) {s p : Nat} (hs : s < 7) (hp : p < 2 ^ 30) : dkS (m2_wI (m2_wI σ 22 0 s (nI p)) 23 0 s (r 0)).1 0 (rLend r s p) := by
  unfold rLend
  refine ⟨?_, ?_, ?_, fun t ht => ?_⟩
  · rw [wI_t (by decide), wI_t (by decide), u_ne (by omega), u_ne (by omega)]; exact hk.1
  · rw [wI_t (by decide), wI_t (by decide), u_ne (by omega), u_ne (by omega)]; exact hk.2.1
  · obtain ⟨b, hb, e1, e2⟩ := hk.2.2.1
    refine ⟨b, hb, by rw [wI_t (by decide), wI_t (by decide)]; exact e1, fun t ht => ?_⟩
    rw [u_ne (by omega), u_ne (by omega)]; exact e2 t ht
  · by_cases e : t = s
    · subst e
      rw [u_ne (by omega), updR_eq]
      refine ⟨fun w => ?_, fun _ => ⟨?_, ?_⟩⟩
      · have := (nI_eq (b := 0) (by omega) (by omega)).mp w; omega
      · rw [wI_t (by decide), wI_same]; exact (nI_sub (a := p + 1) (b := 1) (by omega)).symm
      · rw [wI_same, updR_eq]
    · rw [u_ne (by omega), u_ne (by omega), u_ne (by omega), u_ne (by omega), wI_t (by decide), wI_k e, wI_k e, wI_t (by decide)]
      exact hk.2.2.2 t ht
theorem dk_brng {σ : M2} {r : Nat → Int32} (hk : dkS σ.1 0 r) {s : Nat} {y : Int32} (hs : s < 7) : dkS (m2_wI (m2_wI σ 22 0 s (-2)) 1 0 4 (r 1 + y)).1 0 (rBrng r s y) := by
  unfold rBrng
  refine ⟨?_, ?_, ?_, fun t ht => ?_⟩
  · rw [wI_k (by decide), wI_t (by decide), u_ne (by omega), u_ne (by omega), u_ne (by omega)]; exact hk.1
  · rw [wI_same, updR_eq]
  · obtain ⟨b, hb, e1, e2⟩ := hk.2.2.1
    refine ⟨b, hb, by rw [wI_k (by decide), wI_t (by decide)]; exact e1, fun t ht => ?_⟩
    rw [u_ne (by omega), u_ne (by omega), u_ne (by omega)]; exact e2 t ht
  · by_cases e : t = s
    · subst e
      rw [u_ne (by omega), u_ne (by omega), updR_eq]
      exact ⟨fun _ => by rw [wI_t (by decide), wI_same], fun w => absurd rfl w⟩
    · rw [u_ne (by omega), u_ne (by omega), u_ne (by omega), u_ne (by omega), u_ne (by omega), u_ne (by omega), wI_t (by decide), wI_k e, wI_t (by decide), wI_t (by decide)]
      exact hk.2.2.2 t ht
theorem dk_cln {σ : M2} {r : Nat → Int32} (hk : dkS σ.1 0 r) {s : Nat} (hs : s < 7) : dkS (m2_wI σ 1 0 2 (σ.1 1 0 2 ||| (1 <<< (nI s &&& 31)))).1 0 (rCln r s) := by
  unfold rCln
  refine ⟨?_, ?_, ?_, fun t ht => ?_⟩
  · rw [wI_k (by decide), u_ne (by omega)]; exact hk.1
  · rw [wI_k (by decide), u_ne (by omega)]; exact hk.2.1
  · obtain ⟨b, hb, e1, e2⟩ := hk.2.2.1
    refine ⟨b ||| 2 ^ s, (b_or b hb s hs).2, by rw [wI_same, e1]; exact (b_or b hb s hs).1, fun t ht => ?_⟩
    rw [b_orb b hb s hs t ht]
    by_cases e : t = s
    · subst e
      rw [updR_eq, decide_eq_true rfl, Bool.or_true]; rfl
    · rw [u_ne (by omega), decide_eq_false (fun w => e w.symm), Bool.or_false]; exact e2 t ht
  · rw [u_ne (by omega), u_ne (by omega), wI_t (by decide), wI_t (by decide)]
    exact hk.2.2.2 t ht
theorem dk_week {σ : M2} {r : Nat → Int32} (hk : dkS σ.1 0 r) : dkS (m2_wI σ 1 0 3 (r 0 + 1)).1 0 (rWeek r) := by
  unfold rWeek
  refine ⟨?_, ?_, ?_, fun t ht => ?_⟩
  · rw [wI_same, updR_eq]
  · rw [wI_k (by decide), u_ne (by omega)]; exact hk.2.1
  · obtain ⟨b, hb, e1, e2⟩ := hk.2.2.1
    exact ⟨b, hb, by rw [wI_k (by decide)]; exact e1, fun t ht => by rw [u_ne (by omega)]; exact e2 t ht⟩
  · rw [u_ne (by omega), u_ne (by omega), wI_t (by decide), wI_t (by decide)]
    exact hk.2.2.2 t ht
section OP17
variable {L : Nat} {xs : Nat → Int32} {d : Nat} {Q : Option dm_V → M2 → Prop} {σ σ0 : M2} {μ : Nat} {R : Nat → Int32} {C : Nat → Bool} {h : Bool} {r : Nat → Int32} {n m : Nat} {H I : Nat → Nat → Int32}
theorem c82r (hd : 4 ≤ d) {w : Int32} (hf : fr fO σ0 σ) (q : ∀ σ', cG σ0 σ' w → Q (some (vi 0)) σ') : CL L xs d 82 [vr 12 0, vi w] σ Q := cl_at p82 hd (w82_0 hC (q _ ⟨hf.w rfl, wI_same⟩))
theorem c84r (hd : 4 ≤ d) (q : Q (some (vi 1)) (m2_wI σ 12 0 13 0)) : CL L xs d 84 [vr 12 0] σ Q := cl_at p84 hd (w84_0 hC q)
theorem c83r (hd : 4 ≤ d) {w : Int32} (q : Q (some (vi w)) (m2_wI σ 12 0 13 0)) : CL L xs d 83 [vr 12 0, vi w] σ Q := cl_at p83 hd (w83_0 hC q)
theorem c81r (hd : 4 ≤ d) {w : Int32} (q : Q (some (vi (-1))) (m2_wI σ 12 0 13 w)) : CL L xs d 81 [vr 12 0, vi w] σ Q := cl_at p81 hd (w81_0 hC q)
theorem o136 (hd : 6 ≤ d) {s : Int32} (hX : cX σ μ R C) (hk : inn s (R 7) = true → dkS σ.1 0 r) (q : ∀ σ', cG σ σ' (a_who R r s).2 → Q (some (vi (a_who R r s).1)) σ') : CL L xs d 136 [vr 12 0, vi s] σ Q := by
  refine cl_at p136 (by omega) (w136_0 hC ?_)
  refine c85 (s := 5) (by omega) rfl (by omega) hX hX.cnt.2.2.2.2.1 ⟨_, rfl, ?_⟩
  have hS := hX.ok.cS
  unfold a_who at q
  refine if_b (fun z => ?_) (fun z => ?_)
  · rw [if_neg (by rw [z]; decide)] at q
    exact c81 (by omega) fr.id q
  rw [if_pos z] at q
  obtain ⟨hs, es⟩ := inn_k hS.2 (by omega) z
  have hs7 : s.toNatClampNeg < 7 := by have : s.toNatClampNeg < gN R 7 := hs; omega
  refine ix_x hs7 es (by omega) ?_
  have k := (hk z).2.2.2 _ hs7
  by_cases e : r (2 + 3 * s.toNatClampNeg) = 0
  · rw [if_pos e] at q
    rw [k.1 e]
    exact c83 (by omega) fr.id q
  · rw [if_neg e] at q
    rw [(k.2 e).1]
    exact c83 (by omega) fr.id q
theorem o137 (hd : 6 ≤ d) (hX : cX σ μ R C) (ho : σ.1 12 0 5 = bI h) (hk : h = true → dkS σ.1 0 r ∧ okD R r) (q : ∀ σ', cG σ σ' (a_over R r h).2 → Q (some (vi (a_over R r h).1)) σ') : CL L xs d 137 [vr 12 0] σ Q := by
  refine cl_at p137 (by omega) (w137_0 hC ?_)
  unfold a_over at q
  rw [ho]
  have hS := hX.ok.cS
  refine if_b (fun z => ?_) (fun z => ?_)
  · rw [if_neg (by rw [z]; decide)] at q; exact c81 (by omega) fr.id q
  rw [if_pos z] at q
  obtain ⟨k, kr⟩ := hk z
  refine dm_ff (n := gN R 7) (ovF R r) (fun s a σ => g137_17 L xs (CL L xs (d - 1)) Q a (nI s) σ) (fun σ' => σ' = σ) ?_ _ 0 0 σ (Nat.zero_add _) rfl ?_
  · rintro s a σ2 hs rfl ih
    replace ih := ih σ2 rfl
    refine w137_17 hC ?_
    rw [hX.r12, hX.cnt.2.2.2.2.1, hS.2, nI_1, nI_clamp (by omega)]
    refine if_y (nI_lt hs (by omega)) ?_
    refine c6 (by omega) hX.ok kr rfl k (by omega) ⟨_, rfl, ?_⟩
    unfold ovF at ih
    refine if_b (fun z => ?_) (fun z => ?_)
    · rw [if_neg (by rw [z]; decide)] at ih; exact ih
    rw [if_pos z] at ih
    refine ix_k (by omega) (by omega) ?_
    obtain ⟨j, hj, _, _, e4⟩ := dk_out hX.ok kr k (by omega) z
    rw [hX.r12, hX.five.1, k.1, e4]
    refine if_c (fun z' => ?_) (fun z' => ?_)
    · rw [if_pos z'] at ih; exact ih
    · rw [if_neg z'] at ih; exact ih
  · rintro σ2 rfl
    refine w137_17 hC ?_
    rw [hX.r12, hX.cnt.2.2.2.2.1, hS.2]
    exact if_n (nI_nlt (Nat.le_refl _) (by omega)) (c83 (by omega) fr.id q)
theorem o138 (hd : 11 ≤ d) {s p : Int32} (hX : cX σ μ R C) (hk : inn s (R 7) = true → dkS σ.1 0 r ∧ okD R r ∧ hC' σ n H)
    (q1 : (inn s (R 7) && inn p (R 8)) = false → ∀ σ', cG σ σ' 1 → Q (some (vi 0)) σ')
    (q5 : (inn s (R 7) && inn p (R 8)) = true → canL R C r s.toNatClampNeg p.toNatClampNeg = false → ∀ σ', cG σ σ' 5 → Q (some (vi 0)) σ')
    (qs : (inn s (R 7) && inn p (R 8)) = true → canL R C r s.toNatClampNeg p.toNatClampNeg = true → ∀ σ', cA σ σ' → dkS σ'.1 0 (rLend r s.toNatClampNeg p.toNatClampNeg) → hC' σ' (pn n) (psh r H) → Q (some (vi 1)) σ') : CL L xs d 138 [vr 12 0, vi s, vi p] σ Q := by
  refine cl_at p138 (by omega) (w138_0 hC ?_)
  have hS := hX.ok.cS
  have hM := hX.ok.cM
  refine c85 (s := 5) (by omega) rfl (by omega) hX hX.cnt.2.2.2.2.1 ⟨_, rfl, ?_⟩
  refine if_b (fun z => ?_) (fun z => ?_)
  · exact c82r (by omega) fr.id (fun σ' g => ⟨_, rfl, q1 (by rw [z]; rfl) σ' g⟩)
  refine c85 (s := 6) (by omega) rfl (by omega) hX hX.cnt.2.2.2.2.2.1 ⟨_, rfl, ?_⟩
  refine if_b (fun z1 => ?_) (fun z1 => ?_)
  · exact c82r (by omega) fr.id (fun σ' g => ⟨_, rfl, q1 (by rw [z, z1]; rfl) σ' g⟩)
  have zz : (inn s (R 7) && inn p (R 8)) = true := by rw [z, z1]; rfl
  obtain ⟨k, kr, kh⟩ := hk z
  obtain ⟨hs, es⟩ := inn_k hS.2 (by omega) z
  obtain ⟨hp, ep⟩ := inn_k hM.2 (by omega) z1
  replace hs : s.toNatClampNeg < gN R 7 := hs
  replace hp : p.toNatClampNeg < gN R 8 := hp
  replace q5 := q5 zz
  replace qs := qs zz
  clear q1 zz z z1 hk
  generalize s.toNatClampNeg = s' at *
  generalize p.toNatClampNeg = p' at *
  subst es ep
  unfold canL at q5 qs
  refine c6 (by omega) hX.ok kr rfl k (by omega) ⟨_, rfl, ?_⟩
  refine if_b (fun z => ?_) (fun z => ?_)
  rotate_left
  · exact c82r (by omega) fr.id (fun σ' g => ⟨_, rfl, q5 (by rw [z]; rfl) σ' g⟩)
  refine c7 (by omega) hX.ok kr rfl hp k ⟨_, rfl, ?_⟩
  refine if_b (fun z1 => ?_) (fun z1 => ?_)
  rotate_left
  · exact c82r (by omega) fr.id (fun σ' g => ⟨_, rfl, q5 (by rw [Bool.not_eq_true'] at z1; rw [z, z1]; rfl) σ' g⟩)
  rw [Bool.not_eq_false'] at z1
  refine c61 (by omega) hX rfl hp rfl hs (fun σ1 f1 => ⟨_, rfl, ?_⟩)
  refine if_b (fun z2 => ?_) (fun z2 => ?_)
  · exact c82r (by omega) (f1.weak fRn_O) (fun σ' g => ⟨_, rfl, q5 (by rw [z, z1, z2]; rfl) σ' g⟩)
  have k1 : dkS σ1.1 0 r := k.fr (fun k => ⟨rfl, rfl, rfl⟩) f1
  have h1 : hC' σ1 n H := kh.fr (fun i k _ _ => ⟨rfl, rfl, rfl⟩) rfl rfl f1
  refine c10 (by omega) k1 h1 (fun σ2 f2 h2 => ⟨rfl, ?_⟩)
  have k2 : dkS σ2.1 0 r := k1.fr (fun k => ⟨rfl, rfl, rfl⟩) f2
  refine ix_k (by omega) (by omega) (ix_k (by omega) (by omega) ?_)
  show CL L xs (d - 1) 84 [vr 12 0] (m2_wI (m2_wI σ2 22 0 s' (nI p')) 23 0 s' ((m2_wI σ2 22 0 s' (nI p')).1 1 0 3)) _
  rw [wI_t (by decide), k2.1]
  refine c84r (by omega) ⟨_, rfl, ?_⟩
  refine qs (by rw [z, z1, z2]; rfl) _ ⟨((((f1.weak fRn_A).trans (f2.weak fHs_A)).w rfl).w rfl).w rfl, wI_same⟩ ((dk_lend k2 (by omega) (by omega)).w (by decide) (by decide) (by decide)) (((h2.w (by decide)).w (by decide)).w (by decide))
theorem o139 (hd : 11 ≤ d) {s : Int32} {mm : Int32} (hX : cX σ μ R C) (hk : inn s (R 7) = true → dkS σ.1 0 r ∧ okD R r ∧ hC' σ n H)
    (q1 : inn s (R 7) = false → ∀ σ', cG σ σ' 1 → Q (some (vi (-1))) σ')
    (q5 : inn s (R 7) = true → out r s.toNatClampNeg = false → ∀ σ', cG σ σ' 5 → Q (some (vi (-1))) σ')
    (qs : inn s (R 7) = true → out r s.toNatClampNeg = true → ∀ σ', cA σ σ' → dkS σ'.1 0 (rBrng r s.toNatClampNeg (brC R C r s.toNatClampNeg mm)) → hC' σ' (pn n) (psh r H) → Q (some (vi (brC R C r s.toNatClampNeg mm))) σ') : CL L xs d 139 [vr 12 0, vi s, vi mm] σ Q := by
  refine cl_at p139 (by omega) (w139_0 hC ?_)
  have hS := hX.ok.cS
  have hM := hX.ok.cM
  have hP := hX.ok.cP
  have hmu := hX.mu
  refine c85 (s := 5) (by omega) rfl (by omega) hX hX.cnt.2.2.2.2.1 ⟨_, rfl, ?_⟩
  refine if_b (fun z => ?_) (fun z => ?_)
  · exact c81 (by omega) fr.id (q1 z)
  obtain ⟨k, kr, kh⟩ := hk z
  obtain ⟨hs, es⟩ := inn_k hS.2 (by omega) z
  replace hs : s.toNatClampNeg < gN R 7 := hs
  replace q5 := q5 z
  replace qs := qs z
  clear q1 z hk
  generalize s.toNatClampNeg = s' at *
  subst es
  refine c6 (by omega) hX.ok kr rfl k (by omega) ⟨_, rfl, ?_⟩
  refine if_b (fun z => ?_) (fun z => ?_)
  · exact c81 (by omega) fr.id (q5 z)
  replace qs := qs z
  have fin : ∀ y0 σ1, y0 = brC R C r s' mm → fr fRn σ σ1 → g139_63 L xs (CL L xs (d - 1)) Q (nI s') y0 σ1 := by
    intro y0 σ1 ey f1
    rw [← ey] at qs
    have k1 : dkS σ1.1 0 r := k.fr (fun k => ⟨rfl, rfl, rfl⟩) f1
    have h1 : hC' σ1 n H := kh.fr (fun i k _ _ => ⟨rfl, rfl, rfl⟩) rfl rfl f1
    refine w139_63 hC ?_
    refine c10 (by omega) k1 h1 (fun σ2 f2 h2 => ⟨rfl, ?_⟩)
    have k2 : dkS σ2.1 0 r := k1.fr (fun k => ⟨rfl, rfl, rfl⟩) f2
    rw [nI_clamp (by omega)]
    refine ix_k (by omega) (by omega) ?_
    show CL L xs (d - 1) 83 [vr 12 0, vi y0] (m2_wI (m2_wI σ2 22 0 s' (-2)) 1 0 4 ((m2_wI σ2 22 0 s' (-2)).1 1 0 4 + y0)) _
    rw [wI_t (by decide), k2.2.1]
    refine c83r (by omega) ⟨_, rfl, ?_⟩
    exact qs _ ⟨((((f1.weak fRn_A).trans (f2.weak fHs_A)).w rfl).w rfl).w rfl, wI_same⟩ ((dk_brng k2 (by omega)).w (by decide) (by decide) (by decide)) (((h2.w (by decide)).w (by decide)).w (by decide))
  refine if_c (fun zm => ?_) (fun zm => ?_)
  · exact fin _ _ (by unfold brC; rw [if_pos zm]) fr.id
  refine ix_k (by omega) (by omega) ?_
  obtain ⟨j, hj, e1, e2, e3⟩ := dk_out hX.ok kr k (by omega) z
  have eh : hold r s' = j := by
    unfold hold
    rw [e1, show nI (j + 1) - 1 = nI j from nI_sub (a := j + 1) (b := 1) (by omega), nI_clamp (by omega)]
  obtain ⟨hp, ep⟩ := hX.ok.man hj
  refine c130 (by omega) e2 hX hj ⟨_, rfl, ?_⟩
  refine c59 (by omega) hX (hX.pln _ hp) (by omega) ((hX.ok.pl hp).up (by omega)) (isC_s hs) isC_2 (fun σ1 f1 => ⟨_, rfl, ?_⟩)
  exact fin _ _ (by unfold brC; rw [if_neg zm, eh]; rfl) f1
theorem o140 (hd : 7 ≤ d) {s : Int32} (hX : cX σ μ R C) (hk : inn s (R 7) = true → dkS σ.1 0 r ∧ okD R r ∧ hC' σ n H)
    (q1 : inn s (R 7) = false → ∀ σ', cG σ σ' 1 → Q (some (vi 0)) σ')
    (q5 : inn s (R 7) = true → (C s.toNatClampNeg || out r s.toNatClampNeg) = true → ∀ σ', cG σ σ' 5 → Q (some (vi 0)) σ')
    (qs : inn s (R 7) = true → (C s.toNatClampNeg || out r s.toNatClampNeg) = false → ∀ σ', cA σ σ' → dkS σ'.1 0 (rCln r s.toNatClampNeg) → hC' σ' (pn n) (psh r H) → Q (some (vi 1)) σ') : CL L xs d 140 [vr 12 0, vi s] σ Q := by
  refine cl_at p140 (by omega) (w140_0 hC ?_)
  have hS := hX.ok.cS
  refine c85 (s := 5) (by omega) rfl (by omega) hX hX.cnt.2.2.2.2.1 ⟨_, rfl, ?_⟩
  refine if_b (fun z => ?_) (fun z => ?_)
  · exact c82r (by omega) fr.id (fun σ' g => ⟨_, rfl, q1 z σ' g⟩)
  obtain ⟨k, kr, kh⟩ := hk z
  obtain ⟨hs, es⟩ := inn_k hS.2 (by omega) z
  replace hs : s.toNatClampNeg < gN R 7 := hs
  replace q5 := q5 z
  replace qs := qs z
  clear q1 z hk
  generalize s.toNatClampNeg = s' at *
  subst es
  refine c5 (by omega) rfl (by omega) hX.cln ⟨_, rfl, ?_⟩
  refine if_b (fun z => ?_) (fun z => ?_)
  rotate_left
  · exact c82r (by omega) fr.id (fun σ' g => ⟨_, rfl, q5 (by rw [z]; rfl) σ' g⟩)
  refine c6 (by omega) hX.ok kr rfl k (by omega) ⟨_, rfl, ?_⟩
  refine if_b (fun z1 => ?_) (fun z1 => ?_)
  rotate_left
  · exact c82r (by omega) fr.id (fun σ' g => ⟨_, rfl, q5 (by rw [z, z1]; rfl) σ' g⟩)
  refine c10 (by omega) k kh (fun σ2 f2 h2 => ⟨rfl, ?_⟩)
  have k2 : dkS σ2.1 0 r := k.fr (fun k => ⟨rfl, rfl, rfl⟩) f2
  refine c84r (by omega) ⟨_, rfl, ?_⟩
  exact qs (by rw [z, z1]; rfl) _ ⟨((f2.weak fHs_A).w rfl).w rfl, wI_same⟩ ((dk_cln k2 (by omega)).w (by decide) (by decide) (by decide)) ((h2.w (by decide)).w (by decide))
theorem o141 (hd : 7 ≤ d) (ho : σ.1 12 0 5 = bI h) (hk : h = true → dkS σ.1 0 r ∧ hC' σ n H)
    (q1 : h = false → ∀ σ', cG σ σ' 1 → Q (some (vi (-1))) σ')
    (qs : h = true → ∀ σ', cA σ σ' → dkS σ'.1 0 (rWeek r) → hC' σ' (pn n) (psh r H) → Q (some (vi (r 0 + 1))) σ') : CL L xs d 141 [vr 12 0] σ Q := by
  refine cl_at p141 (by omega) (w141_0 hC ?_)
  rw [ho]
  refine if_b (fun z => ?_) (fun z => ?_)
  · exact c81 (by omega) fr.id (q1 z)
  obtain ⟨k, kh⟩ := hk z
  refine c10 (by omega) k kh (fun σ2 f2 h2 => ⟨rfl, ?_⟩)
  have k2 : dkS σ2.1 0 r := k.fr (fun k => ⟨rfl, rfl, rfl⟩) f2
  show CL L xs (d - 1) 83 [vr 12 0, vi ((m2_wI σ2 1 0 3 (σ2.1 1 0 3 + 1)).1 1 0 3)] (m2_wI σ2 1 0 3 (σ2.1 1 0 3 + 1)) _
  rw [wI_same, k2.1]
  refine c83r (by omega) ⟨_, rfl, ?_⟩
  exact qs z _ ⟨((f2.weak fHs_A).w rfl).w rfl, wI_same⟩ ((dk_week k2).w (by decide) (by decide) (by decide)) ((h2.w (by decide)).w (by decide))
theorem o142 (hd : 7 ≤ d) (hh : hC' σ n H) (q6 : n = 0 → ∀ σ', cG σ σ' 6 → Q (some (vi 0)) σ') (qs : n ≠ 0 → ∀ σ', cA σ σ' → dkS σ'.1 0 (H 0) → hC' σ' (n - 1) (fun j => H (j + 1)) → Q (some (vi 1)) σ') : CL L xs d 142 [vr 12 0] σ Q := by
  refine cl_at p142 (by omega) (w142_0 hC ?_)
  refine c11 (by omega) hh (fun z => ⟨_, rfl, ?_⟩) (fun z σ1 f1 k1 h1 => ⟨_, rfl, ?_⟩)
  · exact if_y rfl (c82r (by omega) fr.id (fun σ' g => ⟨_, rfl, q6 z σ' g⟩))
  · refine if_n (by decide) (c84r (by omega) ⟨_, rfl, ?_⟩)
    exact qs z _ ⟨(f1.weak fTk_A).w rfl, wI_same⟩ (k1.w (by decide) (by decide) (by decide)) (h1.w (by decide))
theorem o143 (hd : 7 ≤ d) (ho : σ.1 12 0 5 = bI h) (hk : h = true → dkS σ.1 0 r ∧ iC' σ m I)
    (q1 : h = false → ∀ σ', cG σ σ' 1 → Q (some (vi (-1))) σ') (q3 : h = true → m = 3 → ∀ σ', cG σ σ' 3 → Q (some (vi (-1))) σ')
    (qs : h = true → m ≠ 3 → ∀ σ', fr (fun t i k => fIm t i k || (t == 12 && k == 13)) σ σ' → σ'.1 12 0 13 = 0 → iC' σ' (m + 1) (fun j => if j = m then r else I j) → Q (some (vi (nI m))) σ') : CL L xs d 143 [vr 12 0] σ Q := by
  refine cl_at p143 (by omega) (w143_0 hC ?_)
  rw [ho]
  refine if_b (fun z => ?_) (fun z => ?_)
  · exact c81 (by omega) fr.id (q1 z)
  obtain ⟨k, ki⟩ := hk z
  refine c12 (by omega) k ki (fun z3 => ⟨_, rfl, ?_⟩) (fun z3 σ1 f1 i1 => ⟨_, rfl, ?_⟩)
  · exact if_y (by decide) (c81 (by omega) fr.id (q3 z z3))
  · refine if_n (nI_pos (by have := ki.1; omega)) (c83r (by omega) ⟨_, rfl, ?_⟩)
    refine qs z z3 _ ((f1.weak (fun t i k w => by show (fIm t i k || _) = true; rw [w]; rfl)).w rfl) wI_same ⟨i1.1, by rw [wI_t (by decide)]; exact i1.2.1, fun j hj => (i1.2.2 j hj).w (by decide) (by decide) (by decide)⟩
theorem o144 (hd : 7 ≤ d) {x : Int32} (hi : iC' σ m I) (q1 : inn x (nI m) = false → ∀ σ', cG σ σ' 1 → Q (some (vi 0)) σ') (qs : inn x (nI m) = true → ∀ σ', cA σ σ' → dkS σ'.1 0 (I x.toNatClampNeg) → σ'.1 2 0 2 = 0 → σ'.1 2 0 1 = σ.1 2 0 1 → Q (some (vi 1)) σ') : CL L xs d 144 [vr 12 0, vi x] σ Q := by
  refine cl_at p144 (by omega) (w144_0 hC ?_)
  refine c13 (by omega) hi (fun z => ⟨_, rfl, ?_⟩) (fun z σ1 f1 k1 e1 e2 => ⟨_, rfl, ?_⟩)
  · exact if_y rfl (c82r (by omega) fr.id (fun σ' g => ⟨_, rfl, q1 z σ' g⟩))
  · refine if_n (by decide) (c84r (by omega) ⟨_, rfl, ?_⟩)
    exact qs z _ ⟨(f1.weak fTk_A).w rfl, wI_same⟩ (k1.w (by decide) (by decide) (by decide)) (by rw [wI_t (by decide)]; exact e1) (by rw [wI_t (by decide)]; exact e2)
end OP17
