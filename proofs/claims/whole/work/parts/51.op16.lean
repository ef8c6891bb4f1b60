/-! THE DESK in the class: a desk o holds a row r (23 ints, as the model keeps them) -/
def dkS (g : Nat → Nat → Nat → Int32) (o : Nat) (r : Nat → Int32) : Prop :=
  g 1 o 3 = r 0 ∧ g 1 o 4 = r 1 ∧ (∃ b, b < 128 ∧ g 1 o 2 = nI b ∧ ∀ s, s < 7 → r (2 + 3 * s + 2) = bI (b.testBit s)) ∧
  ∀ s, s < 7 → (r (2 + 3 * s) = 0 → g 22 o s = -2) ∧ (r (2 + 3 * s) ≠ 0 → g 22 o s = r (2 + 3 * s) - 1 ∧ g 23 o s = r (2 + 3 * s + 1))
def okD (R r : Nat → Int32) : Prop := ∀ s, s < 7 → vp_in (r (2 + 3 * s)) (gN R 8 + 1) ∧ (gN R 7 ≤ s → r (2 + 3 * s) = 0)
def dkE (g : Nat → Nat → Nat → Int32) (o : Nat) (g' : Nat → Nat → Nat → Int32) (o' : Nat) : Prop := (∀ s, s < 7 → g' 22 o' s = g 22 o s ∧ g' 23 o' s = g 23 o s) ∧ g' 1 o' 2 = g 1 o 2 ∧ g' 1 o' 3 = g 1 o 3 ∧ g' 1 o' 4 = g 1 o 4
theorem dkS.eq {g g' : Nat → Nat → Nat → Int32} {o o' : Nat} {r : Nat → Int32} (h : dkS g o r) (e : dkE g o g' o') : dkS g' o' r := by
  refine ⟨e.2.2.1.trans h.1, e.2.2.2.trans h.2.1, ?_, fun s hs => ?_⟩
  · obtain ⟨b, hb, e1, e2⟩ := h.2.2.1
    exact ⟨b, hb, e.2.1.trans e1, e2⟩
  · rw [(e.1 s hs).1, (e.1 s hs).2]
    exact h.2.2.2 s hs
theorem dkS.fr {A : Nat → Nat → Nat → Bool} {σ σ' : M2} {o : Nat} {r : Nat → Int32} (hA : ∀ k, A 1 o k = false ∧ A 22 o k = false ∧ A 23 o k = false) (h : dkS σ.1 o r) (hf : fr A σ σ') : dkS σ'.1 o r :=
  h.eq ⟨fun s _ => ⟨hf.1 _ _ _ (hA s).2.1, hf.1 _ _ _ (hA s).2.2⟩, hf.1 _ _ _ (hA 2).1, hf.1 _ _ _ (hA 3).1, hf.1 _ _ _ (hA 4).1⟩
def fD (o : Nat) : Nat → Nat → Nat → Bool := fun t i _ => (t == 22 || t == 23 || t == 1) && i == o
theorem fD_ne {o o' t k : Nat} (h : o' ≠ o) : fD o t o' k = false := by simp [fD, h]
def updR (r : Nat → Int32) (k : Nat) (v : Int32) : Nat → Int32 := fun i => if i = k then v else r i
theorem updR_eq {r : Nat → Int32} {k : Nat} {v : Int32} : updR r k v k = v := if_pos rfl
theorem updR_ne {r : Nat → Int32} {k i : Nat} {v : Int32} (h : i ≠ k) : updR r k v i = r i := if_neg h
def pn (n : Nat) : Nat := min (n + 1) 12
def psh (r : Nat → Int32) (H : Nat → Nat → Int32) : Nat → Nat → Int32
  | 0 => r
  | j + 1 => H j
/-- the ring of the latest acts: H j as it was ahead of the latest act but j -/
def hC' (σ : M2) (n : Nat) (H : Nat → Nat → Int32) : Prop := n ≤ 12 ∧ σ.1 2 0 2 = nI n ∧ ∃ w, w < 12 ∧ σ.1 2 0 1 = nI w ∧ ∀ j, j < n → dkS σ.1 ((w + 12 - j) % 12 + 1) (H j)
def iC' (σ : M2) (m : Nat) (I : Nat → Nat → Int32) : Prop := m ≤ 3 ∧ σ.1 2 0 4 = nI m ∧ ∀ j, j < m → dkS σ.1 (j + 13) (I j)
def fHs : Nat → Nat → Nat → Bool := fun t i k => ((t == 22 || (t == 23 || t == 1)) && (decide (1 ≤ i) && decide (i ≤ 12))) || (t == 2 && (k == 1 || k == 2))
def fTk : Nat → Nat → Nat → Bool := fun t i k => ((t == 22 || (t == 23 || t == 1)) && i == 0) || (t == 2 && (k == 1 || k == 2))
def fIm : Nat → Nat → Nat → Bool := fun t i k => ((t == 22 || (t == 23 || t == 1)) && decide (13 ≤ i)) || (t == 2 && k == 4)
theorem iC'.fr {A : Nat → Nat → Nat → Bool} {σ σ' : M2} {m : Nat} {I : Nat → Nat → Int32} (hA : ∀ i k, 13 ≤ i → A 1 i k = false ∧ A 22 i k = false ∧ A 23 i k = false) (h4 : A 2 0 4 = false) (h : iC' σ m I) (hf : fr A σ σ') : iC' σ' m I :=
  ⟨h.1, by rw [hf.1 _ _ _ h4]; exact h.2.1, fun j hj => (h.2.2 j hj).fr (fun k => hA _ k (by omega)) hf⟩
theorem hC'.fr {A : Nat → Nat → Nat → Bool} {σ σ' : M2} {n : Nat} {H : Nat → Nat → Int32} (hA : ∀ i k, 1 ≤ i → i ≤ 12 → A 1 i k = false ∧ A 22 i k = false ∧ A 23 i k = false) (h1 : A 2 0 1 = false) (h2 : A 2 0 2 = false) (h : hC' σ n H) (hf : fr A σ σ') : hC' σ' n H := by
  obtain ⟨a, b, w, hw, e, k⟩ := h
  exact ⟨a, by rw [hf.1 _ _ _ h2]; exact b, w, hw, by rw [hf.1 _ _ _ h1]; exact e, fun j hj => (k j hj).fr (fun k => hA _ k (by omega) (by omega)) hf⟩
section OP16
variable {L : Nat} {xs : Nat → Int32} {d : Nat} {Q : Option dm_V → M2 → Prop} {σ σ0 : M2} {μ : Nat} {R : Nat → Int32} {C : Nat → Bool} {h : Bool}
theorem c4 (hd : 4 ≤ d) {o0 o1 : Nat} (hne : o1 ≠ o0) (q : ∀ σ', fr (fD o0) σ σ' → dkE σ.1 o1 σ'.1 o0 → Q none σ') : CL L xs d 4 [vr 1 o0, vr 1 o1] σ Q := by
  refine cl_at p4 hd (w4_0 hC ?_)
  have A1 : ∀ k, fD o0 1 o0 k = true := fun k => by simp [fD]
  have A22 : ∀ k, fD o0 22 o0 k = true := fun k => by simp [fD]
  have A23 : ∀ k, fD o0 23 o0 k = true := fun k => by simp [fD]
  refine dm_for (n := 7) (fun k σ => g4_2 L xs (CL L xs (d - 1)) Q o0 o1 (nI k) σ) (fun k σ' => fr (fD o0) σ σ' ∧ ∀ s, s < k → σ'.1 22 o0 s = σ.1 22 o1 s ∧ σ'.1 23 o0 s = σ.1 23 o1 s) ?_ ?_ 0 σ (Nat.zero_le _) ⟨fr.id, fun s hs => absurd hs (Nat.not_lt_zero s)⟩
  · rintro k σ2 hk ⟨f2, h2⟩ ih
    refine w4_2 hC ?_
    rw [nI_clamp (by omega), nI_1]
    refine if_y (nI_lt (b := 7) hk (by omega)) ?_
    refine ix_k hk (by omega) (ix_k hk (by omega) (ix_k hk (by omega) (ix_k hk (by omega) ?_)))
    refine ih _ ⟨(f2.w (A22 k)).w (A23 k), fun s hs => ?_⟩
    by_cases e : s = k
    · subst e
      refine ⟨?_, ?_⟩
      · rw [wI_t (by decide), wI_same]; exact f2.1 _ _ _ (fD_ne hne)
      · rw [wI_same, wI_t (by decide)]; exact f2.1 _ _ _ (fD_ne hne)
    · refine ⟨?_, ?_⟩
      · rw [wI_t (by decide), wI_k e]; exact (h2 s (by omega)).1
      · rw [wI_k e, wI_t (by decide)]; exact (h2 s (by omega)).2
  · rintro σ2 ⟨f2, h2⟩
    refine w4_2 hC ?_
    refine if_n (nI_nlt (b := 7) (Nat.le_refl _) (by omega)) ?_
    refine q _ (((f2.w (A1 _)).w (A1 _)).w (A1 _)) ⟨fun s hs => ?_, ?_, ?_, ?_⟩
    · rw [wI_t (by decide), wI_t (by decide), wI_t (by decide), wI_t (by decide), wI_t (by decide), wI_t (by decide)]
      exact h2 s hs
    · rw [wI_k (by decide), wI_k (by decide), wI_same]; exact f2.1 _ _ _ (fD_ne hne)
    · rw [wI_k (by decide), wI_same, wI_k (by decide)]; exact f2.1 _ _ _ (fD_ne hne)
    · rw [wI_same, wI_k (by decide), wI_k (by decide)]; exact f2.1 _ _ _ (fD_ne hne)
theorem c10 (hd : 5 ≤ d) {r : Nat → Int32} {n : Nat} {H : Nat → Nat → Int32} (hk : dkS σ.1 0 r) (hh : hC' σ n H) (q : ∀ σ', fr fHs σ σ' → hC' σ' (pn n) (psh r H) → Q none σ') : CL L xs d 10 [vr 2 0, vr 1 0] σ Q := by
  obtain ⟨hn, en, w, hw, ew, hj⟩ := hh
  refine cl_at p10 (by omega) (w10_0 hC ?_)
  have fin : ∀ w', w' < 12 → w' = (w + 1) % 12 → g10_22 L xs (CL L xs (d - 1)) Q 0 (nI w') σ := by
    intro w' hw' ew'
    refine w10_22 hC ?_
    show dm_ix ((m2_wI σ 2 0 1 (nI w')).1 2 0 1) 12 _
    rw [wI_same, nI_clamp (by omega)]
    refine ix_k hw' (by omega) ?_
    refine c4 (by omega) (by omega) (fun σ2 f2 e2 => ⟨rfl, ?_⟩)
    have f1 : fr fHs σ (m2_wI σ 2 0 1 (nI w')) := fr.id.w rfl
    have f2' : fr fHs σ σ2 := f1.trans (f2.weak (fun t i k z => by
      unfold fD at z
      unfold fHs
      simp only [Bool.or_eq_true, Bool.and_eq_true, beq_iff_eq, decide_eq_true_eq] at *
      omega))
    have k2 : σ2.1 2 0 2 = nI n := by rw [f2.1 _ _ _ rfl, wI_k (by decide)]; exact en
    refine q _ (f2'.w rfl) ⟨by unfold pn; omega, ?_, w', hw', ?_, fun j hjn => ?_⟩
    · rw [wI_same, k2, nI_1]
      unfold pn
      by_cases z : 12 < n + 1
      · rw [if_pos (show (12 : Int32) < nI (n + 1) from nI_lt (a := 12) z (by omega)), show min (n + 1) 12 = 12 by omega]; rfl
      · rw [if_neg (show ¬ (12 : Int32) < nI (n + 1) from nI_nlt (b := n + 1) (a := 12) (by omega) (by omega)), show min (n + 1) 12 = n + 1 by omega]
    · rw [wI_k (by decide), f2.1 _ _ _ rfl, wI_same]
    · have base : dkS σ2.1 ((w' + 12 - j) % 12 + 1) (psh r H j) := by
        unfold pn at hjn
        match j, hjn with
        | 0, _ =>
          have : (w' + 12 - 0) % 12 = w' := by omega
          rw [this]
          have k0 : dkS (m2_wI σ 2 0 1 (nI w')).1 0 r := hk.fr (A := fHs) (fun k => ⟨rfl, rfl, rfl⟩) f1
          exact k0.eq e2
        | j + 1, hjn =>
          have e : (w' + 12 - (j + 1)) % 12 = (w + 12 - j) % 12 := by omega
          have ne : (w + 12 - j) % 12 + 1 ≠ w' + 1 := by omega
          rw [e]
          have k0 : dkS (m2_wI σ 2 0 1 (nI w')).1 ((w + 12 - j) % 12 + 1) (H j) := (hj j (by omega)).eq ⟨fun s _ => ⟨wI_t (by decide), wI_t (by decide)⟩, wI_t (by decide), wI_t (by decide), wI_t (by decide)⟩
          exact k0.fr (fun k => ⟨fD_ne ne, fD_ne ne, fD_ne ne⟩) f2
      exact base.eq ⟨fun s _ => ⟨wI_t (by decide), wI_t (by decide)⟩, wI_t (by decide), wI_t (by decide), wI_t (by decide)⟩
  rw [ew, nI_1]
  by_cases z : w + 1 < 12
  · exact if_y (nI_lt (b := 12) z (by omega)) (fin (w + 1) z (by omega))
  · exact if_n (nI_nlt (b := 12) (by omega) (by omega)) (fin 0 (by omega) (by omega))
theorem c11 (hd : 5 ≤ d) {n : Nat} {H : Nat → Nat → Int32} (hh : hC' σ n H) (q0 : n = 0 → Q (some (vi 0)) σ) (q1 : n ≠ 0 → ∀ σ', fr fTk σ σ' → dkS σ'.1 0 (H 0) → hC' σ' (n - 1) (fun j => H (j + 1)) → Q (some (vi 1)) σ') : CL L xs d 11 [vr 2 0, vr 1 0] σ Q := by
  obtain ⟨hn, en, w, hw, ew, hj⟩ := hh
  refine cl_at p11 (by omega) (w11_0 hC ?_)
  rw [en, ew, nI_clamp (by omega)]
  refine if_c (fun z => q0 ((nI_eq (b := 0) (by omega) (by omega)).mp z)) (fun z => ?_)
  have z : n ≠ 0 := fun e => z (by rw [e]; rfl)
  refine ix_k hw (by omega) ?_
  refine c4 (by omega) (by omega) (fun σ1 f1 e1 => ⟨rfl, ?_⟩)
  have f1' : fr fTk σ σ1 := f1.weak (fun t i k z => by
    unfold fD at z
    unfold fTk
    simp only [Bool.or_eq_true, Bool.and_eq_true, beq_iff_eq, decide_eq_true_eq] at *
    omega)
  have w1 : σ1.1 2 0 1 = nI w := (f1.1 _ _ _ rfl).trans ew
  have n1 : σ1.1 2 0 2 = nI n := (f1.1 _ _ _ rfl).trans en
  have k0 : dkS σ1.1 0 (H 0) := (by have := hj 0 (by omega); rw [show (w + 12 - 0) % 12 = w by omega] at this; exact this : dkS σ.1 (w + 1) (H 0)).eq e1
  have fin : ∀ w' : Nat, w' < 12 → w' = (w + 11) % 12 → Q (some (vi 1)) (m2_wI (m2_wI σ1 2 0 1 (nI w')) 2 0 2 ((m2_wI σ1 2 0 1 (nI w')).1 2 0 2 - 1)) := by
    intro w' hw' ew'
    refine q1 z _ ((f1'.w rfl).w rfl) (k0.eq ⟨fun s _ => ⟨by rw [wI_t (by decide), wI_t (by decide)], by rw [wI_t (by decide), wI_t (by decide)]⟩, by rw [wI_t (by decide), wI_t (by decide)], by rw [wI_t (by decide), wI_t (by decide)], by rw [wI_t (by decide), wI_t (by decide)]⟩) ⟨by omega, ?_, w', hw', ?_, fun j hjn => ?_⟩
    · rw [wI_same, wI_k (by decide), n1]
      exact nI_sub (b := 1) (by omega)
    · rw [wI_k (by decide), wI_same]
    · have e : (w' + 12 - j) % 12 = (w + 12 - (j + 1)) % 12 := by omega
      rw [e]
      have k1 := (hj (j + 1) (by omega)).fr (fun k => ⟨fD_ne (o := 0) (by omega), fD_ne (by omega), fD_ne (by omega)⟩) f1
      exact k1.eq ⟨fun s _ => ⟨by rw [wI_t (by decide), wI_t (by decide)], by rw [wI_t (by decide), wI_t (by decide)]⟩, by rw [wI_t (by decide), wI_t (by decide)], by rw [wI_t (by decide), wI_t (by decide)], by rw [wI_t (by decide), wI_t (by decide)]⟩
  rw [w1]
  by_cases z0 : w = 0
  · refine if_n (by rw [z0]; decide) (fin 11 (by omega) (by omega))
  · refine if_y (nI_lt (a := 0) (by omega) (by omega)) ?_
    rw [show nI w - 1 = nI (w - 1) from nI_sub (b := 1) (by omega)]
    exact fin (w - 1) (by omega) (by omega)
theorem c12 (hd : 5 ≤ d) {r : Nat → Int32} {m : Nat} {I : Nat → Nat → Int32} (hk : dkS σ.1 0 r) (hi : iC' σ m I) (q0 : m = 3 → Q (some (vi (-1))) σ) (q1 : m ≠ 3 → ∀ σ', fr fIm σ σ' → iC' σ' (m + 1) (fun j => if j = m then r else I j) → Q (some (vi (nI m))) σ') : CL L xs d 12 [vr 2 0, vr 1 0] σ Q := by
  obtain ⟨hm, em, hj⟩ := hi
  refine cl_at p12 (by omega) (w12_0 hC ?_)
  rw [em, nI_clamp (by omega)]
  by_cases z : m < 3
  · refine if_y (nI_lt (b := 3) z (by omega)) (ix_k z (by omega) ?_)
    refine c4 (by omega) (by omega) (fun σ1 f1 e1 => ⟨rfl, ?_⟩)
    have f1' : fr fIm σ σ1 := f1.weak (fun t i k z => by
      unfold fD at z
      unfold fIm
      simp only [Bool.or_eq_true, Bool.and_eq_true, beq_iff_eq, decide_eq_true_eq] at *
      omega)
    have m1 : σ1.1 2 0 4 = nI m := (f1.1 _ _ _ rfl).trans em
    show Q (some (vi ((m2_wI σ1 2 0 4 (σ1.1 2 0 4 + 1)).1 2 0 4 - 1))) (m2_wI σ1 2 0 4 (σ1.1 2 0 4 + 1))
    rw [wI_same, m1, nI_1, show nI (m + 1) - 1 = nI m from nI_sub (b := 1) (by omega)]
    refine q1 (by omega) _ (f1'.w rfl) ⟨by omega, wI_same, fun j hjm => ?_⟩
    have base : dkS σ1.1 (j + 13) (if j = m then r else I j) := by
      by_cases e : j = m
      · rw [if_pos e, e]; exact hk.eq e1
      · rw [if_neg e]
        exact (hj j (by omega)).fr (fun k => ⟨fD_ne (o := m + 13) (by omega), fD_ne (by omega), fD_ne (by omega)⟩) f1
    exact base.eq ⟨fun s _ => ⟨wI_t (by decide), wI_t (by decide)⟩, wI_t (by decide), wI_t (by decide), wI_t (by decide)⟩
  · exact if_n (nI_nlt (b := 3) (by omega) (by omega)) (q0 (by omega))
theorem c13 (hd : 5 ≤ d) {x : Int32} {m : Nat} {I : Nat → Nat → Int32} (hi : iC' σ m I) (q0 : inn x (nI m) = false → Q (some (vi 0)) σ) (q1 : inn x (nI m) = true → ∀ σ', fr fTk σ σ' → dkS σ'.1 0 (I x.toNatClampNeg) → σ'.1 2 0 2 = 0 → σ'.1 2 0 1 = σ.1 2 0 1 → Q (some (vi 1)) σ') : CL L xs d 13 [vr 2 0, vi x, vr 1 0] σ Q := by
  obtain ⟨hm, em, hj⟩ := hi
  refine cl_at p13 (by omega) (w13_0 hC ?_)
  rw [em]
  unfold inn at q0 q1
  refine if_c (fun z => ?_) (fun z => ?_)
  · exact q0 (by simp [z])
  refine if_c (fun z' => ?_) (fun z' => ?_)
  rotate_left
  · exact q0 (by simp [z'])
  have zi : inn x (nI m) = true := by unfold inn; rw [decide_eq_true z, decide_eq_true z']; rfl
  obtain ⟨hx, ex⟩ := inn_n (by omega) zi
  have hx : x.toNatClampNeg < m := hx
  refine ix_x (by omega) ex (by omega) ?_
  refine c4 (by omega) (by omega) (fun σ1 f1 e1 => ⟨rfl, ?_⟩)
  have f1' : fr fTk σ σ1 := f1.weak (fun t i k z => by
    unfold fD at z
    unfold fTk
    simp only [Bool.or_eq_true, Bool.and_eq_true, beq_iff_eq, decide_eq_true_eq] at *
    omega)
  refine q1 zi _ (f1'.w rfl) ?_ wI_same ?_
  · exact ((hj _ hx).eq e1).eq ⟨fun s _ => ⟨wI_t (by decide), wI_t (by decide)⟩, wI_t (by decide), wI_t (by decide), wI_t (by decide)⟩
  · rw [wI_k (by decide)]; exact f1.1 _ _ _ rfl
/-- whether a slip is out -/
def out (r : Nat → Int32) (s : Nat) : Bool := !(decide (r (2 + 3 * s) = 0))
theorem out_j {r : Nat → Int32} (hR : okR R) (hr : okD R r) {s : Nat} (hs : s < 7) (ho : out r s = true) : ∃ j, j < gN R 8 ∧ r (2 + 3 * s) = nI (j + 1) := by
  obtain ⟨j, hj, e⟩ := vp_in_of (hr s hs).1 (by have := hR.cM.1; omega)
  unfold out at ho
  rw [e] at ho
  match j, hj, e, ho with
  | 0, _, _, ho => exact absurd ho (by decide)
  | j + 1, hj, e, _ => exact ⟨j, by omega, e⟩
theorem dk_out {r : Nat → Int32} (hR : okR R) (hr : okD R r) {o : Nat} (hk : dkS σ.1 o r) {s : Nat} (hs : s < 7) (ho : out r s = true) : ∃ j, j < gN R 8 ∧ r (2 + 3 * s) = nI (j + 1) ∧ σ.1 22 o s = nI j ∧ σ.1 23 o s = r (2 + 3 * s + 1) := by
  obtain ⟨j, hj, e⟩ := out_j hR hr hs ho
  have hM := hR.cM.1
  have ne : r (2 + 3 * s) ≠ 0 := by rw [e]; intro w; have := (nI_eq (b := 0) (by omega) (by omega)).mp w; omega
  have k := (hk.2.2.2 s hs).2 ne
  refine ⟨j, hj, e, ?_, k.2⟩
  rw [k.1, e]
  exact nI_sub (b := 1) (by omega)
theorem out_f {r : Nat → Int32} {s : Nat} (ho : out r s = false) : r (2 + 3 * s) = 0 := by
  unfold out at ho
  simp at ho
  exact ho
theorem c6 (hd : 4 ≤ d) {r : Nat → Int32} (hR : okR R) (hr : okD R r) {o s : Nat} {x : Int32} (hx : x = nI s) (hk : dkS σ.1 o r) (hs : s < 7) (q : Q (some (vi (bI (out r s)))) σ) : CL L xs d 6 [vr 1 o, vi x] σ Q := by
  subst hx
  refine cl_at p6 (by omega) (w6_0 hC ?_)
  rw [nI_clamp (by omega)]
  refine ix_k hs (by omega) ?_
  cases ho : out r s
  · rw [ho] at q
    exact if_y ((hk.2.2.2 s hs).1 (out_f ho)) q
  · rw [ho] at q
    obtain ⟨j, hj, _, e, _⟩ := dk_out hR hr hk hs ho
    have hM := hR.cM.1
    rw [e]
    exact if_n (nI_neg2 (by omega)) q
/-- nobody of these slips is with p -/
def nh (r : Nat → Int32) (p n : Nat) : Bool := al (fun s => !(decide (r (2 + 3 * s) = nI (p + 1)))) n
theorem nh_7 {r : Nat → Int32} (hR : okR R) (hr : okD R r) {p : Nat} (hp : p < gN R 8) : nh r p 7 = nh r p (gN R 7) := by
  have hS := hR.cS.1
  have hM := hR.cM.1
  unfold nh
  cases e : al (fun s => !(decide (r (2 + 3 * s) = nI (p + 1)))) (gN R 7)
  · cases e7 : al (fun s => !(decide (r (2 + 3 * s) = nI (p + 1)))) 7
    · rfl
    · have := al_of (n := gN R 7) (fun k hk => al_t e7 k (by omega))
      rw [this] at e; cases e
  · refine al_of (fun k hk => ?_)
    by_cases z : k < gN R 7
    · exact al_t e k z
    · rw [(hr k hk).2 (by omega)]
      rw [decide_eq_false]
      · rfl
      · intro w
        have := (nI_eq (a := 0) (by omega) (by omega)).mp w
        omega
theorem c7 (hd : 4 ≤ d) {r : Nat → Int32} (hR : okR R) (hr : okD R r) {p : Nat} {x : Int32} (hx : x = nI p) (hp : p < gN R 8) (hk : dkS σ.1 0 r) (q : Q (some (vi (bI (!(nh r p (gN R 7)))))) σ) : CL L xs d 7 [vr 1 0, vi x] σ Q := by
  subst hx
  have hM := hR.cM.1
  rw [← nh_7 hR hr hp] at q
  refine cl_at p7 (by omega) (w7_0 hC ?_)
  have key : ∀ s, s < 7 → (σ.1 22 0 s = nI p ↔ r (2 + 3 * s) = nI (p + 1)) := by
    intro s hs
    cases ho : out r s
    · have e0 := out_f ho
      rw [(hk.2.2.2 s hs).1 e0, e0]
      refine ⟨fun w => absurd w.symm (nI_neg2 (by omega)), fun w => ?_⟩
      have := (nI_eq (a := 0) (by omega) (by omega)).mp w
      omega
    · obtain ⟨j, hj, e1, e2, _⟩ := dk_out hR hr hk hs ho
      rw [e1, e2, nI_eq (by omega) (by omega), nI_eq (by omega) (by omega)]
      omega
  refine dm_for (n := 7) (fun k σ' => g7_2 L xs (CL L xs (d - 1)) Q 0 (nI p) (nI k) σ') (fun k σ' => σ' = σ ∧ al (fun s => !(decide (r (2 + 3 * s) = nI (p + 1)))) k = true) ?_ ?_ 0 σ (Nat.zero_le _) ⟨rfl, rfl⟩
  · rintro k σ2 hk2 ⟨rfl, ha⟩ ih
    refine w7_2 hC ?_
    rw [nI_clamp (by omega), nI_1]
    refine if_y (nI_lt (b := 7) hk2 (by omega)) (ix_k hk2 (by omega) ?_)
    refine if_c (fun z => ?_) (fun z => ?_)
    · have : nh r p 7 = false := al_f hk2 (by rw [decide_eq_true ((key k hk2).mp z)]; rfl)
      rw [this] at q
      exact q
    · refine ih σ2 ⟨rfl, ?_⟩
      show (al _ k && !(decide (r (2 + 3 * k) = nI (p + 1)))) = true
      rw [ha, decide_eq_false (fun w => z ((key k hk2).mpr w))]; rfl
  · rintro σ2 ⟨rfl, ha⟩
    refine w7_2 hC ?_
    refine if_n (nI_nlt (b := 7) (Nat.le_refl _) (by omega)) ?_
    rw [show nh r p 7 = true from ha] at q
    exact q
end OP16
