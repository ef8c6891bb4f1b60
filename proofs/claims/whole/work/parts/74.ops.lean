/-! THE OTHER STEPS of the law -/
def kC2 (t i k : Nat) : Bool := kpX t i || (t == 1 || (t == 22 || (t == 23 || (t == 2 || ((t == 12 && (k == 1 || (k == 5 || (k == 14 || k == 15)))) || t == 54)))))
section OPS
variable {L : Nat} {xs : Nat → Int32} {d : Nat} {σ σ' σ1 : M2} {μ b b' fd n n' m m' : Nat} {h : Bool} {R r r' : Nat → Int32} {H H' I I' : Nat → Nat → Int32} {T : Nat → Nat} {tr tr' fa pl : Int32}
theorem dkS.kc2 {o : Nat} (e : ∀ t i k, kC2 t i k = true → σ'.1 t i k = σ.1 t i k) (h : dkS σ.1 o r) : dkS σ'.1 o r :=
  h.eq ⟨fun s _ => ⟨e _ _ _ (by simp [kC2]), e _ _ _ (by simp [kC2])⟩, e _ _ _ (by simp [kC2]), e _ _ _ (by simp [kC2]), e _ _ _ (by simp [kC2])⟩
theorem CI.kc2 (e : ∀ t i k, kC2 t i k = true → σ'.1 t i k = σ.1 t i k) (e2 : σ'.2.2 = σ.2.2) (e3 : ∀ k, k < 10 → σ'.2.1 48 0 k = σ.2.1 48 0 k) (et : σ'.1 12 0 13 = tr') (hp : tr' = 4 → tr = 4)
    (mk : ∀ p b', p < gN R 6 → b' < 128 → σ'.1 32 0 p = nI b' → mkH σ' p (mkd R (fun s => b'.testBit s) (plR R p))) (ld : ∀ b', b' < 128 → σ'.1 3 0 0 = nI b' → ldH σ' R (fun s => b'.testBit s)) (z2 : ∀ k, k < 3 → σ'.1 28 0 k = 0 ∧ σ'.1 29 0 k = 0)
    (c : CI σ μ b fd n m h R r H I T tr fa pl) : CI σ' μ b fd n m h R r H I T tr' fa pl := by
  refine ⟨c.x.kc (fun t i k w => e t i k (by unfold kC2; rw [w]; rfl)) e2, (e 1 0 2 rfl).trans c.eb, (e 12 0 5 rfl).trans c.eh, by rw [e2]; exact c.rd, (e 12 0 1 rfl).trans c.cfd, fun i hi => ⟨(c.tx i hi).1, (e 54 0 i rfl).trans (c.tx i hi).2⟩, fun o ho => (e3 o ho).trans (c.kws o ho), fun w => (c.dk w).kc2 e, ⟨(e 1 0 3 rfl).trans c.d0.1, (e 1 0 4 rfl).trans c.d0.2⟩, ?_, ⟨c.ic.1, (e 2 0 4 rfl).trans c.ic.2.1, fun j hj => (c.ic.2.2 j hj).kc2 e⟩, mk, ld, z2, et, (e 12 0 14 rfl).trans c.fa, fun w => (e 12 0 15 rfl).trans (c.pl (hp w))⟩
  obtain ⟨a1, a2, w, hw, a3, a4⟩ := c.hc
  exact ⟨a1, (e 2 0 2 rfl).trans a2, w, hw, (e 2 0 1 rfl).trans a3, fun j hj => (a4 j hj).kc2 e⟩
theorem if_q {c : Prop} [Decidable c] {Q : Option dm_V → M2 → Prop} {a b : Int32} {B : Prop} (q : Q (some (vi (if c then a else b))) σ) (hb : Q (some (vi b)) σ → B) : if c then Q (some (vi a)) σ else B := by
  by_cases z : c
  · rw [if_pos z] at q ⊢; exact q
  · rw [if_neg z] at q ⊢; exact hb q
/-- answers that change nothing -/
theorem opS {y y' : Nat} {as as' : List dm_V} (hI : IN σ) (hq : ∀ μ b fd n m h R r H I T tr fa pl, CI σ μ b fd n m h R r H I T tr fa pl → MI σ b fd n m h R r H I T tr fa pl → PI b fd n m h R r H I → ∃ v : Int32, (∀ Q : Option dm_V → M2 → Prop, Q (some (vi v)) σ → CL L xs d y as σ Q) ∧ (∀ Q : Option dm_V → M2 → Prop, Q (some (vi v)) (m2_wI σ 13 0 0 0) → CL L xs d y' as' σ Q)) : OP L xs d y as y' as' σ := by
  intro K hK
  obtain ⟨μ, b, fd, n, m, h, R, r, H, I, T, tr, fa, pl, c, mi, p⟩ := hI
  obtain ⟨v, qc, qm⟩ := hq μ b fd n m h R r H I T tr fa pl c mi p
  refine qc _ ⟨_, rfl, ?_⟩
  refine qm _ ⟨_, rfl, ?_⟩
  have f : fr (fun t _ k => t == 13 && k == 0) σ (m2_wI σ 13 0 0 0) := fr.id.w rfl
  refine hK _ _ _ ⟨μ, b, fd, n, m, h, R, r, H, I, T, tr, fa, pl, c.om (fun t i k w => ?_) f, mi.km (fun t i k w => f.1 t i k ?_) ((f.1 13 0 11 rfl).trans mi.tr) id, p⟩
  · simp only [Bool.and_eq_true, beq_iff_eq] at w
    omega
  · unfold kM at w
    simp only [Bool.or_eq_true, Bool.and_eq_true, beq_iff_eq] at w
    simp only [Bool.and_eq_false_iff, beq_eq_false_iff_ne, ne_eq]
    omega
theorem op_fault (hd : 20 ≤ d) (hI : IN σ) : OP L xs d 79 [vr 12 0] 188 [vr 13 0] σ := opS hI fun _ _ _ _ _ _ _ _ _ _ _ _ fa _ c mi _ => ⟨fa, fun _ q => cl_at p79 (by omega) (w79_0 hC (by rw [c.fa]; exact q)), fun Q q => cl_at p188 (by omega) (w188_0 hC (by
  show Q (some (vi ((m2_wI σ 13 0 0 0).1 13 0 9))) (m2_wI σ 13 0 0 0)
  rw [wI_k (by decide), mi.fa]; exact q))⟩
theorem op_troub (hd : 20 ≤ d) (hI : IN σ) : OP L xs d 147 [vr 12 0] 278 [vr 13 0] σ := opS hI fun _ _ _ _ _ _ _ _ _ _ _ tr _ _ c mi _ => ⟨tr, fun _ q => cl_at p147 (by omega) (w147_0 hC (by rw [c.tr]; exact q)), fun Q q => cl_at p278 (by omega) (w278_0 hC (by
  show Q (some (vi ((m2_wI σ 13 0 0 0).1 13 0 11))) (m2_wI σ 13 0 0 0)
  rw [wI_k (by decide), mi.tr]; exact q))⟩
theorem op_where (hd : 20 ≤ d) (hI : IN σ) : OP L xs d 80 [vr 12 0] 189 [vr 13 0] σ := opS hI fun _ _ _ _ _ _ _ _ _ _ _ tr _ pl c mi _ => ⟨if tr = 4 then pl else -1, fun Q q => cl_at p80 (by omega) (w80_0 hC (by
  rw [c.tr]
  by_cases z : tr = 4
  · rw [if_pos z] at q ⊢; rw [c.pl z]; exact q
  · rw [if_neg z] at q ⊢; exact q)), fun Q q => cl_at p189 (by omega) (w189_0 hC (by
  show (if (m2_wI σ 13 0 0 0).1 13 0 11 = 4 then Q (some (vi ((m2_wI σ 13 0 0 0).1 13 0 10))) (m2_wI σ 13 0 0 0) else Q (some (vi (-1))) (m2_wI σ 13 0 0 0))
  rw [wI_k (by decide), wI_k (by decide), mi.tr]
  by_cases z : tr = 4
  · rw [if_pos z] at q ⊢; rw [mi.pl z]; exact q
  · rw [if_neg z] at q ⊢; exact q))⟩
theorem op_size {x : Int32} (hd : 20 ≤ d) (hI : IN σ) : OP L xs d 146 [vr 12 0, vi x] 277 [vr 13 0, vi x] σ := opS hI fun μ b fd n m h R r H I T tr fa pl c mi p => by
  have rc := c.x.cnt
  have r5 := c.x.five
  have r12 := c.x.r12
  have hz : h = false → ∀ k, k ≤ 10 → R k = 0 := fun w => (p.nz w).2.2.2.1
  have mo : ∀ Q : Option dm_V → M2 → Prop, ∀ v : Int32, (x = 15 → v = nI fd) → (x ≠ 15 → h = false → v = (if inc x 0 14 = true then 0 else -1)) → (x ≠ 15 → h = true → inc x 0 10 = true → v = R x.toNatClampNeg) → (x ≠ 15 → h = true → inc x 0 10 = false → v = (if x = 11 then r 0 else if x = 12 then r 1 else if x = 13 then nI n else if x = 14 then nI m else -1)) → Q (some (vi v)) (m2_wI σ 13 0 0 0) → CL L xs d 277 [vr 13 0, vi x] σ Q := by
    intro Q v h15 hcl hin hout q
    refine cl_at p277 (by omega) (w277_0 hC ?_)
    have e2 : (m2_wI σ 13 0 0 0).1 13 0 2 = nI fd := by rw [wI_k (by decide)]; exact mi.mfd
    have e14 : (m2_wI σ 13 0 0 0).1 13 0 14 = bI h := by rw [wI_k (by decide)]; exact mi.y.2.1
    have e20 : (m2_wI σ 13 0 0 0).1 13 0 20 = nI n := by rw [wI_k (by decide)]; exact mi.hm.2.1
    have e21 : (m2_wI σ 13 0 0 0).1 13 0 21 = nI m := by rw [wI_k (by decide)]; exact mi.im.2.1
    have e62 : ∀ k, (m2_wI σ 13 0 0 0).1 62 0 k = R k := fun k => by rw [wI_t (by decide)]; exact mi.y.1.2.1 k
    have e64 : ∀ k, k < 23 → (m2_wI σ 13 0 0 0).1 64 0 k = r k := fun k hk => by rw [wI_t (by decide)]; exact mi.rw k hk
    generalize m2_wI σ 13 0 0 0 = σ2 at *
    show (if x = 15 then Q (some (vi (σ2.1 13 0 2))) σ2 else _)
    rw [e2]
    by_cases z15 : x = 15
    · rw [h15 z15] at q; exact if_y z15 q
    refine if_n z15 ?_
    replace hcl := hcl z15
    replace hin := hin z15
    replace hout := hout z15
    rw [e14]
    refine if_b (fun z => ?_) (fun z => ?_)
    · refine c153 (by omega) ⟨_, rfl, ?_⟩
      rw [hcl z] at q
      refine if_b (fun w => ?_) (fun w => ?_)
      · rw [if_neg (by rw [w]; decide)] at q; exact q
      · rw [if_pos w] at q; exact q
    · refine c153 (by omega) ⟨_, rfl, ?_⟩
      refine if_b (fun w => ?_) (fun w => ?_)
      · rw [hout z w] at q
        refine if_c (fun z1 => ?_) (fun z1 => ?_)
        · rw [if_pos z1] at q; rw [e64 0 (by omega)]; exact q
        rw [if_neg z1] at q
        refine if_c (fun z1 => ?_) (fun z1 => ?_)
        · rw [if_pos z1] at q; rw [e64 1 (by omega)]; exact q
        rw [if_neg z1] at q
        refine if_c (fun z1 => ?_) (fun z1 => ?_)
        · rw [if_pos z1] at q; rw [e20]; exact q
        rw [if_neg z1] at q
        refine if_c (fun z1 => ?_) (fun z1 => ?_)
        · rw [if_pos z1] at q; rw [e21]; exact q
        rw [if_neg z1] at q; exact q
      · rw [hin z w] at q
        unfold inc at w
        simp only [Bool.and_eq_true, decide_eq_true_eq] at w
        obtain ⟨j, hj, rfl⟩ := nI_of w.1
        have hj10 : j ≤ 10 := Nat.le_of_not_lt (fun w' => w.2 (nI_lt (a := 10) w' hj))
        rw [nI_clamp hj] at q ⊢
        refine ix_k (n := 439) (by omega) (by omega) ?_
        rw [e62]; exact q
  have cl : ∀ v : Int32, v = (if x = 0 then R 0 else if x = 1 then R 1 else if x = 2 then R 2 else if x = 3 then R 3 else if x = 4 then R 4 else if x = 5 then R 5 else if x = 6 then R 6 else if x = 7 then R 7 else if x = 8 then R 8 else if x = 9 then R 9 else if x = 10 then R 10 else if x = 11 then r 0 else if x = 12 then r 1 else if x = 13 then nI n else if x = 14 then nI m else if x = 15 then nI fd else -1) → ∀ Q : Option dm_V → M2 → Prop, Q (some (vi v)) σ → CL L xs d 146 [vr 12 0, vi x] σ Q := by
    intro v hv Q q
    refine cl_at p146 (by omega) (w146_0 hC ?_)
    rw [r12, r5.1, r5.2.1, r5.2.2.1, r5.2.2.2, rc.1, rc.2.1, rc.2.2.1, rc.2.2.2.1, rc.2.2.2.2.1, rc.2.2.2.2.2.1, rc.2.2.2.2.2.2.1, c.d0.1, c.d0.2, c.hc.2.1, c.ic.2.1, c.cfd]
    subst hv
    exact if_q q (fun q => if_q q (fun q => if_q q (fun q => if_q q (fun q => if_q q (fun q => if_q q (fun q => if_q q (fun q => if_q q (fun q => if_q q (fun q => if_q q (fun q => if_q q (fun q => if_q q (fun q => if_q q (fun q => if_q q (fun q => if_q q (fun q => if_q q (fun q => q))))))))))))))))
  by_cases hx : inc x 0 15 = true
  · unfold inc at hx
    simp only [Bool.and_eq_true, decide_eq_true_eq] at hx
    obtain ⟨j, hj, rfl⟩ := nI_of hx.1
    have hj15 : j ≤ 15 := Nat.le_of_not_lt (fun w' => hx.2 (nI_lt (a := 15) w' hj))
    clear hx hj
    have f0 : h = false → n = 0 ∧ m = 0 ∧ r 0 = 0 ∧ r 1 = 0 := fun w => ⟨(p.nz w).1, (p.nz w).2.1, (p.nz w).2.2.2.2⟩
    match j, hj15 with
    | 0, _ => exact ⟨R 0, cl _ rfl, fun Q q => mo Q _ (fun w => absurd w (by decide)) (fun _ w => hz w 0 (by omega)) (fun _ _ _ => rfl) (fun _ _ w => absurd w (by decide)) q⟩
    | 1, _ => exact ⟨R 1, cl _ rfl, fun Q q => mo Q _ (fun w => absurd w (by decide)) (fun _ w => hz w 1 (by omega)) (fun _ _ _ => rfl) (fun _ _ w => absurd w (by decide)) q⟩
    | 2, _ => exact ⟨R 2, cl _ rfl, fun Q q => mo Q _ (fun w => absurd w (by decide)) (fun _ w => hz w 2 (by omega)) (fun _ _ _ => rfl) (fun _ _ w => absurd w (by decide)) q⟩
    | 3, _ => exact ⟨R 3, cl _ rfl, fun Q q => mo Q _ (fun w => absurd w (by decide)) (fun _ w => hz w 3 (by omega)) (fun _ _ _ => rfl) (fun _ _ w => absurd w (by decide)) q⟩
    | 4, _ => exact ⟨R 4, cl _ rfl, fun Q q => mo Q _ (fun w => absurd w (by decide)) (fun _ w => hz w 4 (by omega)) (fun _ _ _ => rfl) (fun _ _ w => absurd w (by decide)) q⟩
    | 5, _ => exact ⟨R 5, cl _ rfl, fun Q q => mo Q _ (fun w => absurd w (by decide)) (fun _ w => hz w 5 (by omega)) (fun _ _ _ => rfl) (fun _ _ w => absurd w (by decide)) q⟩
    | 6, _ => exact ⟨R 6, cl _ rfl, fun Q q => mo Q _ (fun w => absurd w (by decide)) (fun _ w => hz w 6 (by omega)) (fun _ _ _ => rfl) (fun _ _ w => absurd w (by decide)) q⟩
    | 7, _ => exact ⟨R 7, cl _ rfl, fun Q q => mo Q _ (fun w => absurd w (by decide)) (fun _ w => hz w 7 (by omega)) (fun _ _ _ => rfl) (fun _ _ w => absurd w (by decide)) q⟩
    | 8, _ => exact ⟨R 8, cl _ rfl, fun Q q => mo Q _ (fun w => absurd w (by decide)) (fun _ w => hz w 8 (by omega)) (fun _ _ _ => rfl) (fun _ _ w => absurd w (by decide)) q⟩
    | 9, _ => exact ⟨R 9, cl _ rfl, fun Q q => mo Q _ (fun w => absurd w (by decide)) (fun _ w => hz w 9 (by omega)) (fun _ _ _ => rfl) (fun _ _ w => absurd w (by decide)) q⟩
    | 10, _ => exact ⟨R 10, cl _ rfl, fun Q q => mo Q _ (fun w => absurd w (by decide)) (fun _ w => hz w 10 (by omega)) (fun _ _ _ => rfl) (fun _ _ w => absurd w (by decide)) q⟩
    | 11, _ => exact ⟨r 0, cl _ rfl, fun Q q => mo Q _ (fun w => absurd w (by decide)) (fun _ w => (f0 w).2.2.1) (fun _ _ w => absurd w (by decide)) (fun _ _ _ => rfl) q⟩
    | 12, _ => exact ⟨r 1, cl _ rfl, fun Q q => mo Q _ (fun w => absurd w (by decide)) (fun _ w => (f0 w).2.2.2) (fun _ _ w => absurd w (by decide)) (fun _ _ _ => rfl) q⟩
    | 13, _ => exact ⟨nI n, cl _ rfl, fun Q q => mo Q _ (fun w => absurd w (by decide)) (fun _ w => by rw [(f0 w).1]; rfl) (fun _ _ w => absurd w (by decide)) (fun _ _ _ => rfl) q⟩
    | 14, _ => exact ⟨nI m, cl _ rfl, fun Q q => mo Q _ (fun w => absurd w (by decide)) (fun _ w => by rw [(f0 w).2.1]; rfl) (fun _ _ w => absurd w (by decide)) (fun _ _ _ => rfl) q⟩
    | 15, _ => exact ⟨nI fd, cl _ rfl, fun Q q => mo Q _ (fun _ => rfl) (fun w => absurd rfl w) (fun w => absurd rfl w) (fun w => absurd rfl w) q⟩
  · have ne : ∀ y : Int32, inc y 0 15 = true → x ≠ y := fun y hy w => hx (by rw [w]; exact hy)
    refine ⟨-1, cl _ ?_, fun Q q => mo Q _ (fun w => absurd w (ne 15 (by decide))) (fun _ _ => ?_) (fun _ _ w => ?_) (fun _ _ _ => ?_) q⟩
    · rw [if_neg (ne 0 (by decide)), if_neg (ne 1 (by decide)), if_neg (ne 2 (by decide)), if_neg (ne 3 (by decide)), if_neg (ne 4 (by decide)), if_neg (ne 5 (by decide)), if_neg (ne 6 (by decide)), if_neg (ne 7 (by decide)), if_neg (ne 8 (by decide)), if_neg (ne 9 (by decide)), if_neg (ne 10 (by decide)), if_neg (ne 11 (by decide)), if_neg (ne 12 (by decide)), if_neg (ne 13 (by decide)), if_neg (ne 14 (by decide)), if_neg (ne 15 (by decide))]
    · rw [if_neg]
      intro w
      refine hx ?_
      unfold inc at *
      simp only [Bool.and_eq_true, decide_eq_true_eq] at *
      refine ⟨w.1, fun w' => w.2 (Int32.lt_trans (by decide) w')⟩
    · refine absurd ?_ hx
      unfold inc at *
      simp only [Bool.and_eq_true, decide_eq_true_eq] at *
      refine ⟨w.1, fun w' => w.2 (Int32.lt_trans (by decide) w')⟩
    · rw [if_neg (ne 11 (by decide)), if_neg (ne 12 (by decide)), if_neg (ne 13 (by decide)), if_neg (ne 14 (by decide))]
end OPS
