/-! THE MATHEMATICS of runs: plans as lengths with codes (twice the deed, and one more if turned), slips made, runs, harms. R is the museum as one row of ints, C tells what is cleaned -/
abbrev gN (R : Nat → Int32) (k : Nat) : Nat := (R k).toNatClampNeg
theorem gn_in {R : Nat → Int32} {k n : Nat} (h : vp_in (R k) n) : gN R k < n ∧ R k = nI (gN R k) := in_tn h
abbrev Pl : Type := Nat × (Nat → Nat)
def plR (R : Nat → Int32) (p : Nat) : Pl := (gN R (96 + 7 * p), fun i => 2 * gN R (96 + 7 * p + 1 + i))
def okP (R : Nat → Int32) (m : Nat) (p : Pl) : Prop := p.1 ≤ m ∧ ∀ i, i < p.1 → p.2 i / 2 < gN R 5
def st0 (R : Nat → Int32) (s : Nat) : Nat := if R (124 + 4 * s) = 3 then 1 else 0
def stp (R : Nat → Int32) (C : Nat → Bool) (p : Pl) (s : Nat) : Option Nat := if C s = true then none else fi (fun i => p.2 i / 2 == gN R (124 + 4 * s + 1)) (p.1 - st0 R s) (st0 R s)
def pRem (p : Pl) (k : Nat) : Pl := (p.1 - 1, fun i => if i < k then p.2 i else p.2 (i + 1))
def pIns (p : Pl) (k c : Nat) : Pl := (p.1 + 1, fun i => if i < k then p.2 i else if i = k then c else p.2 (i - 1))
def pSet (p : Pl) (k c : Nat) : Pl := (p.1, fun i => if i = k then c else p.2 i)
def pSwp (p : Pl) (k : Nat) : Pl := (p.1, fun i => if i = k then p.2 (k - 1) else if i = k - 1 then p.2 k else p.2 i)
def flp (c : Nat) : Nat := 4 * (c / 2) + 1 - c
def mkA (R : Nat → Int32) (p : Pl) (s k : Nat) : Pl :=
  if R (124 + 4 * s) = 0 then pRem p k
  else if R (124 + 4 * s) = 1 then pIns p (k + 1) (p.2 k)
  else if R (124 + 4 * s) = 2 then pSet p k (flp (p.2 k))
  else if R (124 + 4 * s) = 3 then pSwp p k
  else pSet p k (2 * gN R (124 + 4 * s + 2))
def mkk (R : Nat → Int32) (C : Nat → Bool) (p : Pl) (s : Nat) : Pl := match stp R C p s with
  | none => p
  | some k => mkA R p s k
def mkc (R : Nat → Int32) (C : Nat → Bool) (p : Pl) (x : Int32) : Pl := if x = -2 then p else mkk R C p x.toNatClampNeg
/-- a choice: a slip, or none -/
def isC (R : Nat → Int32) (x : Int32) : Prop := x = -2 ∨ ∃ s, s < gN R 7 ∧ x = nI s
def cl9 (v : Int32) : Int32 := if v < 0 then 0 else if 9 < v then 9 else v
def efE (R : Nat → Int32) (d b e : Nat) (lv : Nat → Int32) : Nat → Int32 := if R (40 + 7 * d + 2 * e) = 0 then lv else fun t => if t = gN R (40 + 7 * d + 2 * e) - 1 then cl9 (lv t + (if b = 0 then R (40 + 7 * d + 2 * e + 1) else -(R (40 + 7 * d + 2 * e + 1)))) else lv t
def efK (R : Nat → Int32) (d b : Nat) (lv : Nat → Int32) : Nat → Nat → Int32
  | 0 => lv
  | e + 1 => efE R d b e (efK R d b lv e)
def soo (lv : Nat → Int32) (t : Nat) (u b : Int32) : Bool := if u = 1 then decide (lv t < b) else decide (b < lv t)
def ned (R : Nat → Int32) (d : Nat) (lv : Nat → Int32) : Bool := decide (0 < R (40 + 7 * d + 4)) && !(soo lv (gN R (40 + 7 * d + 4) - 1) (R (40 + 7 * d + 5)) (R (40 + 7 * d + 6)))
def rn (R : Nat → Int32) (f : Nat → Nat) : Nat → Nat → (Nat → Int32) → (Nat → Int32) × Option Nat
  | 0, _, lv => (lv, none)
  | m + 1, k, lv => if ned R (f k / 2) lv = true then (lv, some k) else rn R f m (k + 1) (efK R (f k / 2) (f k % 2) lv 2)
def lv0 (R : Nat → Int32) : Nat → Int32 := fun t => R (11 + t)
def run (R : Nat → Int32) (p : Pl) (most : Nat) : (Nat → Int32) × Option Nat := rn R p.2 (min most p.1) 0 (lv0 R)
def hmH (R : Nat → Int32) (lv : Nat → Int32) : Nat → Int32 → Int32 := fun h a => if soo lv (gN R (16 + 4 * h)) (R (16 + 4 * h + 1)) (R (16 + 4 * h + 2)) = true then a + R (16 + 4 * h + 3) else a
def hmB (R : Nat → Int32) (b : Option Nat) : Int32 := match b with
  | none => 0
  | some _ => R 1
def hmm (R : Nat → Int32) (q : (Nat → Int32) × Option Nat) : Int32 := fo (hmH R q.1) (hmB R q.2) (gN R 10)
def hm (R : Nat → Int32) (p : Pl) : Int32 := hmm R (run R p 12)
def lcd (R : Nat → Int32) (lv : Nat → Int32) : Int32 := fo (fun t a => a * 10 + lv t) 0 (gN R 4)
def enn (R : Nat → Int32) (p : Pl) : Int32 := lcd R (run R p 12).1
def oI (o : Option Nat) (z : Int32) : Int32 := match o with
  | none => z
  | some k => nI k
/-- what is known of a museum -/
def okR (R : Nat → Int32) : Prop :=
  (vp_in (R 4) 6 ∧ vp_in (R 5) 9 ∧ vp_in (R 6) 5 ∧ vp_in (R 7) 8 ∧ vp_in (R 8) 5 ∧ vp_in (R 9) 8 ∧ vp_in (R 10) 7) ∧
  (vp_in (R 0) 4 ∧ vp_in (R 1) 100 ∧ vp_in (R 2) 10 ∧ vp_in (R 3) 100 ∧ vp_in (R 181) (gN R 6 + 1)) ∧
  (∀ t, t < gN R 4 → vp_in (R (11 + t)) 10) ∧
  (∀ h, h < gN R 10 → vp_in (R (16 + 4 * h)) (gN R 4) ∧ vp_in (R (16 + 4 * h + 3)) 100) ∧
  (∀ d, d < gN R 5 → (∀ e, e < 2 → vp_in (R (40 + 7 * d + 2 * e)) (gN R 4 + 1)) ∧ vp_in (R (40 + 7 * d + 4)) (gN R 4 + 1)) ∧
  (∀ p, p < gN R 6 → vp_in (R (96 + 7 * p)) 7 ∧ ∀ i, i < gN R (96 + 7 * p) → vp_in (R (96 + 7 * p + 1 + i)) (gN R 5)) ∧
  (∀ s, s < gN R 7 → vp_in (R (124 + 4 * s)) 5 ∧ vp_in (R (124 + 4 * s + 1)) (gN R 5) ∧ (R (124 + 4 * s) = 4 → vp_in (R (124 + 4 * s + 2)) (gN R 5)) ∧ vp_in (R (124 + 4 * s + 3)) 10) ∧
  (∀ m, m < gN R 8 → vp_in (R (152 + 2 * m + 1)) (gN R 6)) ∧
  (∀ a, a < gN R 9 → vp_in (R (160 + 3 * a)) (gN R 8) ∧ vp_in (R (160 + 3 * a + 1)) (gN R 7) ∧ vp_in (R (160 + 3 * a + 2)) 100)
theorem okR.cT {R : Nat → Int32} (h : okR R) : gN R 4 < 6 ∧ R 4 = nI (gN R 4) := in_tn h.1.1
theorem okR.cD {R : Nat → Int32} (h : okR R) : gN R 5 < 9 ∧ R 5 = nI (gN R 5) := in_tn h.1.2.1
theorem okR.cP {R : Nat → Int32} (h : okR R) : gN R 6 < 5 ∧ R 6 = nI (gN R 6) := in_tn h.1.2.2.1
theorem okR.cS {R : Nat → Int32} (h : okR R) : gN R 7 < 8 ∧ R 7 = nI (gN R 7) := in_tn h.1.2.2.2.1
theorem okR.cM {R : Nat → Int32} (h : okR R) : gN R 8 < 5 ∧ R 8 = nI (gN R 8) := in_tn h.1.2.2.2.2.1
theorem okR.cA {R : Nat → Int32} (h : okR R) : gN R 9 < 8 ∧ R 9 = nI (gN R 9) := in_tn h.1.2.2.2.2.2.1
theorem okR.cH {R : Nat → Int32} (h : okR R) : gN R 10 < 7 ∧ R 10 = nI (gN R 10) := in_tn h.1.2.2.2.2.2.2
theorem okR.pl {R : Nat → Int32} (h : okR R) {p : Nat} (hp : p < gN R 6) : okP R 6 (plR R p) := by
  have q := h.2.2.2.2.2.1 p hp
  refine ⟨Nat.le_of_lt_succ (gn_in q.1).1, fun i hi => ?_⟩
  have := (gn_in (q.2 i hi)).1
  show 2 * gN R (96 + 7 * p + 1 + i) / 2 < gN R 5
  omega
theorem okR.de {R : Nat → Int32} (h : okR R) {s : Nat} (hs : s < gN R 7) : gN R (124 + 4 * s + 1) < gN R 5 ∧ R (124 + 4 * s + 1) = nI (gN R (124 + 4 * s + 1)) := in_tn (h.2.2.2.2.2.2.1 s hs).2.1
theorem okP_16 {R : Nat → Int32} (h : okR R) {m : Nat} {p : Pl} (hp : okP R m p) {i : Nat} (hi : i < p.1) : p.2 i < 16 := by
  have := hp.2 i hi
  have := h.cD.1
  omega
theorem stp_some {R : Nat → Int32} {C : Nat → Bool} {p : Pl} {s k : Nat} (h : stp R C p s = some k) : k < p.1 ∧ st0 R s ≤ k := by
  unfold stp at h
  split at h
  · cases h
  · have q := fi_some h; omega
theorem st0_le {R : Nat → Int32} {s : Nat} : st0 R s ≤ 1 := by unfold st0; split <;> omega
theorem okP_mkA {R : Nat → Int32} (h : okR R) {m : Nat} {p : Pl} (hp : okP R m p) {s k : Nat} (hs : s < gN R 7) (hk : k < p.1) (h0 : st0 R s ≤ k) : okP R (m + 1) (mkA R p s k) := by
  have hm := hp.1
  unfold mkA
  split
  · refine ⟨by show p.1 - 1 ≤ m + 1; omega, fun i hi => ?_⟩
    have hi : i < p.1 - 1 := hi
    show (if i < k then p.2 i else p.2 (i + 1)) / 2 < _
    split
    · exact hp.2 i (by omega)
    · exact hp.2 (i + 1) (by omega)
  split
  · refine ⟨by show p.1 + 1 ≤ m + 1; omega, fun i hi => ?_⟩
    have hi : i < p.1 + 1 := hi
    show (if i < k + 1 then p.2 i else if i = k + 1 then p.2 k else p.2 (i - 1)) / 2 < _
    split
    · exact hp.2 i (by omega)
    split
    · exact hp.2 k hk
    · exact hp.2 (i - 1) (by omega)
  split
  · refine ⟨by show p.1 ≤ m + 1; omega, fun i hi => ?_⟩
    have hi : i < p.1 := hi
    show (if i = k then flp (p.2 k) else p.2 i) / 2 < _
    split
    · have := hp.2 k hk
      unfold flp; omega
    · exact hp.2 i hi
  split
  · refine ⟨by show p.1 ≤ m + 1; omega, fun i hi => ?_⟩
    have hi : i < p.1 := hi
    show (if i = k then p.2 (k - 1) else if i = k - 1 then p.2 k else p.2 i) / 2 < _
    split
    · exact hp.2 (k - 1) (by omega)
    split
    · exact hp.2 k hk
    · exact hp.2 i hi
  · refine ⟨by show p.1 ≤ m + 1; omega, fun i hi => ?_⟩
    have hi : i < p.1 := hi
    show (if i = k then 2 * gN R (124 + 4 * s + 2) else p.2 i) / 2 < _
    split
    · have q := h.2.2.2.2.2.2.1 s hs
      have h4 : R (124 + 4 * s) = 4 := by
        obtain ⟨j, hj, e⟩ := vp_in_of q.1 (by omega)
        match j, hj, e with
        | 0, _, e => exact absurd e ‹¬ R (124 + 4 * s) = 0›
        | 1, _, e => exact absurd e ‹¬ R (124 + 4 * s) = 1›
        | 2, _, e => exact absurd e ‹¬ R (124 + 4 * s) = 2›
        | 3, _, e => exact absurd e ‹¬ R (124 + 4 * s) = 3›
        | 4, _, e => exact e
      have := (gn_in (q.2.2.1 h4)).1
      omega
    · exact hp.2 i hi
theorem okP.up {R : Nat → Int32} {m m' : Nat} {p : Pl} (hp : okP R m p) (h : m ≤ m') : okP R m' p := ⟨Nat.le_trans hp.1 h, hp.2⟩
theorem okP_mkk {R : Nat → Int32} (h : okR R) {C : Nat → Bool} {m : Nat} {p : Pl} (hp : okP R m p) {s : Nat} (hs : s < gN R 7) : okP R (m + 1) (mkk R C p s) := by
  unfold mkk
  split
  · exact hp.up (by omega)
  · have := stp_some ‹_›
    exact okP_mkA h hp hs this.1 this.2
theorem okP_mkc {R : Nat → Int32} (h : okR R) {C : Nat → Bool} {m : Nat} {p : Pl} (hp : okP R m p) {x : Int32} (hx : isC R x) : okP R (m + 1) (mkc R C p x) := by
  unfold mkc
  split
  · exact hp.up (by omega)
  · rcases hx with rfl | ⟨s, hs, rfl⟩
    · contradiction
    · rw [nI_clamp (by have := h.cS.1; omega)]; exact okP_mkk h hp hs
theorem okP.ins {R : Nat → Int32} {m : Nat} {p : Pl} (hp : okP R m p) {k e : Nat} (hk : k ≤ p.1) (he : e < gN R 5) : okP R (m + 1) (pIns p k (2 * e)) := by
  have hm := hp.1
  refine ⟨by show p.1 + 1 ≤ m + 1; omega, fun i hi => ?_⟩
  have hi : i < p.1 + 1 := hi
  show (if i < k then p.2 i else if i = k then 2 * e else p.2 (i - 1)) / 2 < _
  split
  · exact hp.2 i (by omega)
  split
  · omega
  · exact hp.2 (i - 1) (by omega)
theorem cl9_eq (v : Int32) : (if 0 < (if v < 9 then v else 9) then (if v < 9 then v else 9) else 0) = cl9 v := by
  have e0 : (0 : Int32).toInt = 0 := rfl
  have e9 : (9 : Int32).toInt = 9 := rfl
  unfold cl9
  apply Int32.toInt_inj.mp
  have h1 : v < 0 ↔ v.toInt < 0 := by rw [Int32.lt_iff_toInt_lt, e0]
  have h2 : v < 9 ↔ v.toInt < 9 := by rw [Int32.lt_iff_toInt_lt, e9]
  have h3 : 9 < v ↔ 9 < v.toInt := by rw [Int32.lt_iff_toInt_lt, e9]
  have h4 : 0 < v ↔ 0 < v.toInt := by rw [Int32.lt_iff_toInt_lt, e0]
  by_cases a : v.toInt < 0
  · rw [if_pos (h2.mpr (by omega)), if_neg (fun q => by have := h4.mp q; omega), if_pos (h1.mpr a)]
  · rw [if_neg (fun q => a (h1.mp q))]
    by_cases b : v.toInt < 9
    · have h5 : ¬ 9 < v := fun q => by have := h3.mp q; omega
      rw [if_pos (h2.mpr b), if_neg h5]
      by_cases c : 0 < v.toInt
      · rw [if_pos (h4.mpr c)]
      · rw [if_neg (fun q => c (h4.mp q)), e0]; omega
    · rw [if_neg (fun q => b (h2.mp q)), if_pos (by decide)]
      by_cases c : 9 < v.toInt
      · rw [if_pos (h3.mpr c)]
      · rw [if_neg (fun q => c (h3.mp q)), e9]; omega
