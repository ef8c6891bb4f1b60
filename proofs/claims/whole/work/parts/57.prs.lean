/-! READING as mathematics: F is the row that is read, N the names by their places (things from 0, deeds from 5, plans from 13, slips from 17, people from 24), c where the token begins -/
abbrev PR : Type := (Nat × Nat) ⊕ (Nat × (Nat → Int32) × (Nat → Nat))
def resv (x : Nat) : Bool := !(al (fun o => !(decide (x = kw o))) 10)
def isNm (T : Nat → Nat) (n c : Nat) : Bool := decide (kd T n c = 1) && !(resv (cd T n c))
def lkN (N : Nat → Nat) (x : Nat) : Option Nat := fi (fun s => decide (N s = x)) 28 0
def pW (T : Nat → Nat) (n o c : Nat) (k : Nat → PR) : PR := if cd T n c = kw o then k (nx T n c) else .inl (1, tA T n c)
def pN (T : Nat → Nat) (n lo hi c : Nat) (k : Nat → Nat → PR) : PR := if kd T n c = 2 then (if lo ≤ tV T n c ∧ tV T n c ≤ hi then k (tV T n c) (nx T n c) else .inl (4, tA T n c)) else .inl (1, tA T n c)
def upN (N : Nat → Nat) (s x : Nat) : Nat → Nat := fun i => if i = s then x else N i
def pNew (T : Nat → Nat) (n : Nat) (N : Nat → Nat) (s c : Nat) (k : (Nat → Nat) → Nat → PR) : PR := if isNm T n c = true then (match lkN N (cd T n c) with
  | some _ => .inl (3, tA T n c)
  | none => k (upN N s (cd T n c)) (nx T n c)) else .inl (1, tA T n c)
def pUse (T : Nat → Nat) (n : Nat) (N : Nat → Nat) (lo hi c : Nat) (k : Nat → Nat → PR) : PR := if isNm T n c = true then (match lkN N (cd T n c) with
  | some s => if lo ≤ s ∧ s ≤ hi then k (s - lo) (nx T n c) else .inl (2, tA T n c)
  | none => .inl (2, tA T n c)) else .inl (1, tA T n c)
def pHow (T : Nat → Nat) (n c : Nat) (k : Int32 → Nat → PR) : PR := if cd T n c = kw 15 then k 1 (nx T n c) else if cd T n c = kw 14 then k 0 (nx T n c) else .inl (1, tA T n c)
def lMus (T : Nat → Nat) (n : Nat) (F : Nat → Int32) (N : Nat → Nat) (c : Nat) : PR := pW T n 10 c (fun c => pN T n 1 3 c (fun w c => pW T n 11 c (fun c => pN T n 0 99 c (fun b c => pW T n 12 c (fun c => pN T n 0 9 c (fun f c => pW T n 13 c (fun c => pN T n 0 99 c (fun g c => .inr (c, updR (updR (updR (updR F 1 (nI b)) 2 (nI f)) 3 (nI g)) 0 (nI w), N)))))))))
def lThg (T : Nat → Nat) (n : Nat) (F : Nat → Int32) (N : Nat → Nat) (c : Nat) : PR := pNew T n N (gN F 4) c (fun N c => pN T n 0 9 c (fun v c => .inr (c, updR (updR F (11 + gN F 4) (nI v)) 4 (nI (gN F 4 + 1)), N)))
def lHrm (T : Nat → Nat) (n : Nat) (F : Nat → Int32) (N : Nat → Nat) (c : Nat) : PR := pUse T n N 0 4 c (fun t c => pHow T n c (fun u c => pN T n 0 9 c (fun b c => pW T n 16 c (fun c => pN T n 1 99 c (fun z c => .inr (c, updR (updR (updR (updR (updR F (16 + 4 * gN F 10) (nI t)) (16 + 4 * gN F 10 + 1) u) (16 + 4 * gN F 10 + 2) (nI b)) (16 + 4 * gN F 10 + 3) (nI z)) 10 (nI (gN F 10 + 1)), N))))))
def ze7 (F : Nat → Int32) (f : Nat) : Nat → Int32 := fun i => if f ≤ i ∧ i < f + 7 then 0 else F i
def dIf (T : Nat → Nat) (n : Nat) (N : Nat → Nat) (d : Nat) (F : Nat → Int32) (c : Nat) : PR := if cd T n c = kw 9 then pUse T n N 0 4 (nx T n c) (fun t c => pHow T n c (fun u c => pN T n 0 9 c (fun b c => .inr (c, updR (updR (updR (updR F (40 + 7 * d + 4) (nI (t + 1))) (40 + 7 * d + 5) u) (40 + 7 * d + 6) (nI b)) 5 (nI (d + 1)), N)))) else .inr (c, updR F 5 (nI (d + 1)), N)
def dEf (T : Nat → Nat) (n : Nat) (N : Nat → Nat) (d many : Nat) (more : (Nat → Int32) → Nat → PR) (F : Nat → Int32) (c : Nat) : PR := if cd T n c = kw 17 ∨ cd T n c = kw 18 then (if many = 2 then .inl (5, tA T n c) else pUse T n N 0 4 (nx T n c) (fun t c2 => if many = 1 ∧ F (40 + 7 * d) = nI (t + 1) then .inl (3, tA T n (nx T n c)) else pN T n 1 9 c2 (fun v c3 => if kd T n c3 = 4 then more (updR (updR F (40 + 7 * d + 2 * many) (nI (t + 1))) (40 + 7 * d + 2 * many + 1) (if cd T n c = kw 17 then nI v else -(nI v))) (nx T n c3) else dIf T n N d (updR (updR F (40 + 7 * d + 2 * many) (nI (t + 1))) (40 + 7 * d + 2 * many + 1) (if cd T n c = kw 17 then nI v else -(nI v))) c3))) else .inl (1, tA T n c)
def lDed (T : Nat → Nat) (n : Nat) (F : Nat → Int32) (N : Nat → Nat) (c : Nat) : PR := pNew T n N (5 + gN F 5) c (fun N c => dEf T n N (gN F 5) 0 (dEf T n N (gN F 5) 1 (dEf T n N (gN F 5) 2 (fun _ _ => .inl (0, 0)))) (ze7 F (40 + 7 * gN F 5)) c)
def pSt (T : Nat → Nat) (n : Nat) (N : Nat → Nat) (p : Nat) : Nat → Nat → (Nat → Int32) → Nat → PR
  | 0, _, _, _ => .inl (0, 0)
  | m + 1, many, F, c => pUse T n N 5 12 c (fun d c' => if many = 6 then .inl (5, tA T n c) else if kd T n c' = 4 then pSt T n N p m (many + 1) (updR F (96 + 7 * p + 1 + many) (nI d)) (nx T n c') else .inr (c', updR (updR (updR F (96 + 7 * p + 1 + many) (nI d)) (96 + 7 * p) (nI (many + 1))) 6 (nI (p + 1)), N))
def lPln (T : Nat → Nat) (n : Nat) (F : Nat → Int32) (N : Nat → Nat) (c : Nat) : PR := pNew T n N (13 + gN F 6) c (fun N c => pSt T n N (gN F 6) 7 0 F c)
def pMis (T : Nat → Nat) (n c : Nat) (k : Nat → Nat → PR) : PR := if cd T n c = kw 19 then k 0 (nx T n c) else if cd T n c = kw 20 then k 1 (nx T n c) else if cd T n c = kw 21 then k 2 (nx T n c) else if cd T n c = kw 22 then k 3 (nx T n c) else if cd T n c = kw 23 then k 4 (nx T n c) else .inl (1, tA T n c)
def sEnd (T : Nat → Nat) (n : Nat) (F : Nat → Int32) (N : Nat → Nat) (s mi d : Nat) (e : Int32) (c : Nat) : PR := pW T n 24 c (fun c => pN T n 1 9 c (fun o c => .inr (c, updR (updR (updR (updR (updR F (124 + 4 * s) (nI mi)) (124 + 4 * s + 1) (nI d)) (124 + 4 * s + 2) e) (124 + 4 * s + 3) (nI o)) 7 (nI (s + 1)), N)))
def lSlp (T : Nat → Nat) (n : Nat) (F : Nat → Int32) (N : Nat → Nat) (c : Nat) : PR := pNew T n N (17 + gN F 7) c (fun N c => pMis T n c (fun mi c => pUse T n N 5 12 c (fun d c => if mi = 4 then pUse T n N 5 12 c (fun e c2 => if e = d then .inl (3, tA T n c) else sEnd T n F N (gN F 7) mi d (nI e) c2) else sEnd T n F N (gN F 7) mi d (-2) c)))
def pKnd (T : Nat → Nat) (n c : Nat) (k : Nat → Nat → PR) : PR := if cd T n c = kw 13 then k 0 (nx T n c) else if cd T n c = kw 25 then k 1 (nx T n c) else if cd T n c = kw 26 then k 2 (nx T n c) else .inl (1, tA T n c)
def lMan (T : Nat → Nat) (n : Nat) (F : Nat → Int32) (N : Nat → Nat) (c : Nat) : PR := pNew T n N (24 + gN F 8) c (fun N c => pKnd T n c (fun kn c => pUse T n N 13 16 c (fun p c => .inr (c, updR (updR (updR F (152 + 2 * gN F 8) (nI kn)) (152 + 2 * gN F 8 + 1) (nI p)) 8 (nI (gN F 8 + 1)), N))))
def dup (F : Nat → Int32) (m s a : Nat) : Bool := !(al (fun k => !(decide (F (160 + 3 * k) = nI m) && decide (F (160 + 3 * k + 1) = nI s))) a)
def lAsk (T : Nat → Nat) (n : Nat) (F : Nat → Int32) (N : Nat → Nat) (c : Nat) : PR := pUse T n N 24 27 c (fun m c => pUse T n N 17 23 c (fun s c2 => if dup F m s (gN F 9) = true then .inl (3, tA T n c) else pW T n 27 c2 (fun c => pN T n 0 99 c (fun v c => .inr (c, updR (updR (updR (updR F (160 + 3 * gN F 9) (nI m)) (160 + 3 * gN F 9 + 1) (nI s)) (160 + 3 * gN F 9 + 2) (nI v)) 9 (nI (gN F 9 + 1)), N)))))
def pEs (T : Nat → Nat) (n : Nat) (N : Nat → Nat) (p : Nat) : Nat → Nat → (Nat → Int32) → Nat → PR
  | 0, _, F, c => .inr (c, updR F 181 (nI (p + 1)), N)
  | m + 1, 0, F, c => pN T n 0 9 c (fun v c => pEs T n N p m 1 (updR F 182 (nI v)) c)
  | m + 1, t + 1, F, c => if kd T n c = 4 then pN T n 0 9 (nx T n c) (fun v c => pEs T n N p m (t + 2) (updR F (182 + (t + 1)) (nI v)) c) else .inl (1, tA T n c)
def lEnd (T : Nat → Nat) (n : Nat) (F : Nat → Int32) (N : Nat → Nat) (c : Nat) : PR := pUse T n N 13 16 c (fun p c => pEs T n N p (gN F 4) 0 F c)
/-- ahead of a line of one of the sorts 1 to 7 -/
def gat (T : Nat → Nat) (n : Nat) (F : Nat → Int32) (c s room cnt : Nat) (l : PR) : PR := if cnt < room then (if F 0 = 0 then .inl (6, tA T n c) else if s = 1 ∧ F 181 ≠ 0 then .inl (6, tA T n c) else l) else .inl (5, tA T n c)
def lin (T : Nat → Nat) (n : Nat) (F : Nat → Int32) (N : Nat → Nat) (c : Nat) : PR :=
  if cd T n c = kw 0 then (if F 0 = 0 then lMus T n F N (nx T n c) else .inl (3, tA T n c))
  else if cd T n c = kw 1 then gat T n F c 1 5 (gN F 4) (lThg T n F N (nx T n c))
  else if cd T n c = kw 2 then gat T n F c 2 6 (gN F 10) (lHrm T n F N (nx T n c))
  else if cd T n c = kw 3 then gat T n F c 3 8 (gN F 5) (lDed T n F N (nx T n c))
  else if cd T n c = kw 4 then gat T n F c 4 4 (gN F 6) (lPln T n F N (nx T n c))
  else if cd T n c = kw 5 then gat T n F c 5 7 (gN F 7) (lSlp T n F N (nx T n c))
  else if cd T n c = kw 6 then gat T n F c 6 4 (gN F 8) (lMan T n F N (nx T n c))
  else if cd T n c = kw 7 then gat T n F c 7 7 (gN F 9) (lAsk T n F N (nx T n c))
  else if cd T n c = kw 8 then (if F 181 = 0 then (if F 0 = 0 then .inl (6, tA T n c) else lEnd T n F N (nx T n c)) else .inl (3, tA T n c))
  else .inl (1, tA T n c)
def rdP (T : Nat → Nat) (n : Nat) : Nat → (Nat → Int32) → (Nat → Nat) → Nat → PR
  | 0, _, _, _ => .inl (0, 0)
  | m + 1, F, N, c => match lin T n F N c with
    | .inl e => .inl e
    | .inr (c', F', N') => if kd T n c' = 0 then (if F' 0 = 0 ∨ F' 4 = 0 ∨ F' 6 = 0 then .inl (6, tA T n c') else .inr (c', F', N')) else if kd T n c' = 3 then rdP T n m F' N' (nx T n c') else .inl (1, tA T n c')
theorem kw_inj : ∀ a, a < 28 → ∀ b, b < 28 → kw a = kw b → a = b := by decide +kernel
theorem kw_lt : ∀ a, a < 28 → kw a < 2 ^ 40 := by decide +kernel
theorem cd_lt {T : Nat → Nat} {n c : Nat} (hc : c ≤ n) : cd T n c < 2 ^ 40 := by
  unfold cd
  split
  · rename_i h
    have k := kd1 hc h
    have l := pkf_lt (f := fun i => T (tA T n c + i) - 96) (m := wl T n c) (fun i hi => by have := k.2.2.2.2.2 i hi; show T (tA T n c + i) - 96 < 32; omega)
    have e : (2 : Nat) ^ 40 = 32 ^ 8 := by decide
    rw [e]
    exact Nat.lt_of_lt_of_le l (Nat.pow_le_pow_right (by omega) k.2.2.1)
  · decide
theorem cd_pos {T : Nat → Nat} {n c : Nat} (hc : c ≤ n) (h : kd T n c = 1) : cd T n c ≠ 0 := by
  have k := kd1 hc h
  unfold cd
  rw [if_pos h]
  obtain ⟨m, hm⟩ : ∃ m, wl T n c = m + 1 := ⟨wl T n c - 1, by omega⟩
  rw [hm]
  show 32 * _ + (T (tA T n c + m) - 96) ≠ 0
  have := k.2.2.2.2.2 m (by omega)
  omega
theorem resv_t {x : Nat} : resv x = true ↔ ∃ o, o < 10 ∧ x = kw o := by
  unfold resv
  rw [Bool.not_eq_true']
  refine ⟨fun h => ?_, fun ⟨o, ho, e⟩ => al_f ho (by rw [decide_eq_true e]; rfl)⟩
  refine Classical.byContradiction (fun w => ?_)
  have := al_of (f := fun o => !(decide (x = kw o))) (n := 10) (fun o ho => by show (!(decide (x = kw o))) = true; rw [decide_eq_false (fun e => w ⟨o, ho, e⟩)]; rfl)
  rw [this] at h; cases h
theorem lkN_s {N : Nat → Nat} {x s : Nat} (h : lkN N x = some s) : s < 28 ∧ N s = x := by
  have := fi_some h
  exact ⟨by omega, of_decide_eq_true this.2.2⟩
theorem fi_none {p : Nat → Bool} : ∀ {m k : Nat}, fi p m k = none → ∀ i, k ≤ i → i < k + m → p i = false
  | 0, k, _, i, h1, h2 => by omega
  | m + 1, k, h, i, h1, h2 => by
    rw [fi_s] at h
    split at h
    · cases h
    · rename_i z
      by_cases e : i = k
      · subst e; cases hp : p i
        · rfl
        · exact absurd hp z
      · exact fi_none h i (by omega) (by omega)
theorem lkN_n {N : Nat → Nat} {x : Nat} (h : lkN N x = none) : ∀ s, s < 28 → N s ≠ x := fun s hs => of_decide_eq_false (fi_none h s (Nat.zero_le _) (by omega))
/-- names: no two alike, none is barred -/
def dN (N : Nat → Nat) : Prop := (∀ a, a < 28 → ∀ b, b < 28 → N a ≠ 0 → N a = N b → a = b) ∧ ∀ a, a < 28 → N a < 2 ^ 40
theorem dN.up {N : Nat → Nat} (h : dN N) {T : Nat → Nat} {n c s : Nat} (hc : c ≤ n) (hk : kd T n c = 1) (hl : lkN N (cd T n c) = none) : dN (upN N s (cd T n c)) := by
  have h0 := cd_pos hc hk
  have hn := lkN_n hl
  unfold upN
  refine ⟨fun a ha b hb h1 h2 => ?_, fun a ha => ?_⟩
  · show a = b
    replace h1 : (if a = s then cd T n c else N a) ≠ 0 := h1
    replace h2 : (if a = s then cd T n c else N a) = (if b = s then cd T n c else N b) := h2
    by_cases ea : a = s
    · by_cases eb : b = s
      · omega
      · rw [if_pos ea, if_neg eb] at h2
        exact absurd h2.symm (hn b hb)
    · by_cases eb : b = s
      · rw [if_neg ea, if_pos eb] at h2
        exact absurd h2 (hn a ha)
      · rw [if_neg ea] at h1
        rw [if_neg ea, if_neg eb] at h2
        exact h.1 a ha b hb h1 h2
  · show (if a = s then cd T n c else N a) < _
    split
    · exact cd_lt hc
    · exact h.2 a ha
def srt (s : Nat) : Nat := if s < 5 then 1 else if s < 13 then 3 else if s < 17 then 4 else if s < 24 then 5 else 6
def bse (t : Nat) : Nat := match t with
  | 1 => 0
  | 3 => 5
  | 4 => 13
  | 5 => 17
  | _ => 24
def num (s : Nat) : Nat := s - bse (srt s)
/-- the names in the class -/
def nT (σ : M2) (N : Nat → Nat) (m : Nat) : Prop := (m ≤ 28 ∧ σ.1 7 0 8 = 0) ∧ σ.1 7 0 4 = nI (10 + m) ∧ (∀ o, o < 10 → σ.2.1 48 0 o = Int64.ofNat (kw o)) ∧ ∃ e : Nat → Nat, (∀ j, j < m → e j < 28 ∧ N (e j) ≠ 0 ∧ σ.2.1 48 0 (10 + j) = Int64.ofNat (N (e j)) ∧ σ.1 49 0 (10 + j) = nI (srt (e j)) ∧ σ.1 50 0 (10 + j) = nI (num (e j))) ∧ ∀ s, s < 28 → N s ≠ 0 → ∃ j, j < m ∧ e j = s
theorem lg_0 {x y : Int64} : lg_cmp x y = 0 ↔ x = y := by
  unfold lg_cmp
  by_cases h1 : x > y
  · rw [if_pos h1]
    refine ⟨fun w => absurd w (by decide), fun w => ?_⟩
    subst w
    exact absurd h1 Int64.lt_irrefl
  · rw [if_neg h1]
    by_cases h2 : x = y
    · rw [if_pos h2]; exact ⟨fun _ => h2, fun _ => rfl⟩
    · rw [if_neg h2]; exact ⟨fun w => absurd w (by decide), fun w => absurd w h2⟩
theorem i64_inj {x y : Nat} (hx : x < 2 ^ 40) (hy : y < 2 ^ 40) : Int64.ofNat x = Int64.ofNat y ↔ x = y := by
  refine ⟨fun h => ?_, fun h => by rw [h]⟩
  have := congrArg Int64.toInt h
  rw [Int64.toInt_ofNat_of_lt (by omega), Int64.toInt_ofNat_of_lt (by omega)] at this
  omega
/-- the frame within a line -/
def fq (A : Nat → Nat → Nat → Bool) (σ σ' : M2) : Prop := (∀ t i k, A t i k = false → σ'.1 t i k = σ.1 t i k) ∧ σ'.2.2 = σ.2.2 ∧ ∀ k, k < 10 → σ'.2.1 48 0 k = σ.2.1 48 0 k
theorem fq.id {A : Nat → Nat → Nat → Bool} {σ : M2} : fq A σ σ := ⟨fun _ _ _ _ => rfl, rfl, fun _ _ => rfl⟩
theorem fq.trans {A : Nat → Nat → Nat → Bool} {σ σ1 σ2 : M2} (h : fq A σ σ1) (h' : fq A σ1 σ2) : fq A σ σ2 := ⟨fun t i k q => (h'.1 t i k q).trans (h.1 t i k q), h'.2.1.trans h.2.1, fun k hk => (h'.2.2 k hk).trans (h.2.2 k hk)⟩
theorem fq.weak {A B : Nat → Nat → Nat → Bool} (hAB : ∀ t i k, A t i k = true → B t i k = true) {σ σ1 : M2} (h : fq A σ σ1) : fq B σ σ1 := ⟨fun t i k q => h.1 t i k (by
  cases hA : A t i k
  · rfl
  · rw [hAB t i k hA] at q; cases q), h.2⟩
theorem fq.w {A : Nat → Nat → Nat → Bool} {σ σ1 : M2} (h : fq A σ σ1) {t i k : Nat} (hA : A t i k = true) {z : Int32} : fq A σ (m2_wI σ1 t i k z) := by
  refine ⟨fun t' i' k' q => ?_, h.2⟩
  rw [← h.1 t' i' k' q]
  show (if t' = t ∧ i' = i ∧ k' = k then z else σ1.1 t' i' k') = _
  rw [if_neg]
  rintro ⟨rfl, rfl, rfl⟩
  rw [hA] at q; cases q
theorem fj.q {A : Nat → Nat → Nat → Bool} {σ σ1 : M2} (h : fj A σ σ1) : fq A σ σ1 := ⟨h.1, h.2.1, fun k _ => h.2.2 k⟩
def fMl : Nat → Nat → Nat → Bool := fun t _ k => t == 7 || ((t == 11 && (k == 2 || (k == 3 || (k == 4 || k == 5)))) || (t == 49 || t == 50))
theorem fTo_M : ∀ t i k, fTo t i k = true → fMl t i k = true := by
  intro t i k h
  unfold fTo at h
  unfold fMl
  simp only [Bool.or_eq_true, Bool.and_eq_true, beq_iff_eq, decide_eq_true_eq] at *
  omega
theorem TX.fq {A : Nat → Nat → Nat → Bool} (h1 : A 11 0 1 = false) (h2 : ∀ k, A 54 0 k = false) {σ σ' : M2} {T : Nat → Nat} {n : Nat} (h : TX σ T n) (hf : fq A σ σ') : TX σ' T n :=
  ⟨by rw [hf.2.1]; exact h.1, h.2.1, by rw [hf.1 _ _ _ h1]; exact h.2.2.1, fun i hi => ⟨(h.2.2.2 i hi).1, by rw [hf.1 _ _ _ (h2 i)]; exact (h.2.2.2 i hi).2⟩⟩
/-- within a line: which museum is read into, the text, the token, the names -/
def CT (σ : M2) (ν : Nat) (T : Nat → Nat) (n c : Nat) (N : Nat → Nat) (m : Nat) : Prop := σ.2.2 7 0 5 = ν ∧ TX σ T n ∧ c ≤ n ∧ TC σ T n c ∧ nT σ N m ∧ dN N
theorem nT.fj {A : Nat → Nat → Nat → Bool} (h1 : A 7 0 4 = false) (h8 : A 7 0 8 = false) (h2 : ∀ k, A 49 0 k = false ∧ A 50 0 k = false) {σ σ' : M2} {N : Nat → Nat} {m : Nat} (h : nT σ N m) (hf : fj A σ σ') : nT σ' N m := by
  obtain ⟨a, b, c, e, k1, k2⟩ := h
  exact ⟨⟨a.1, by rw [hf.1 _ _ _ h8]; exact a.2⟩, by rw [hf.1 _ _ _ h1]; exact b, fun o ho => by rw [hf.2.2]; exact c o ho, e, fun j hj => ⟨(k1 j hj).1, (k1 j hj).2.1, by rw [hf.2.2]; exact (k1 j hj).2.2.1, by rw [hf.1 _ _ _ (h2 _).1]; exact (k1 j hj).2.2.2.1, by rw [hf.1 _ _ _ (h2 _).2]; exact (k1 j hj).2.2.2.2⟩, k2⟩
section PRS
variable {L : Nat} {xs : Nat → Int32} {d : Nat} {Q : Option dm_V → M2 → Prop} {σ σ0 : M2} {T : Nat → Nat} {n c ν m : Nat} {N : Nat → Nat}
theorem c30 (hd : 5 ≤ d) {w : Int32} (q : ∀ σ', fq fMl σ σ' → σ'.1 7 0 8 = w → σ'.1 7 0 9 = σ.1 11 0 3 → Q (some (vi 0)) σ') : CL L xs d 30 [vr 7 0, vi w] σ Q := by
  refine cl_at p30 (by omega) (w30_0 hC ?_)
  refine cl_at p31 (by omega) (w31_0 hC ?_)
  refine ⟨_, rfl, ?_⟩
  exact q _ ((fq.id.w rfl).w rfl) (by rw [wI_k (by decide), wI_same]) wI_same
/-- the next token -/
theorem CT.nx (hd : 5 ≤ d) (h : CT σ ν T n c N m) (q : ∀ σ', fq fMl σ σ' → σ'.1 7 0 6 = σ.1 7 0 6 → σ'.1 7 0 7 = σ.1 7 0 7 → CT σ' ν T n (nx T n c) N m → Q none σ') : CL L xs d 71 [vr 11 0] σ Q := by
  obtain ⟨h1, h2, h3, h4, h5, h6⟩ := h
  have hb := nx_b (T := T) h3
  refine c71 hd h2 hb.2.1 h4.2.2.1 (fun σ' f' t' => ?_)
  exact q σ' (f'.q.weak fTo_M) (f'.1 _ _ _ rfl) (f'.1 _ _ _ rfl) ⟨by rw [f'.2.1]; exact h1, h2.fj rfl (fun _ => rfl) f', hb.2.1, t', h5.fj rfl rfl (fun _ => ⟨rfl, rfl⟩) f', h6⟩
theorem c35 (hd : 6 ≤ d) {o : Nat} (h : CT σ ν T n c N m) (ho : o < 28) (qf : cd T n c ≠ kw o → ∀ σ', fq fMl σ σ' → σ'.1 7 0 8 = 1 → σ'.1 7 0 9 = nI (tA T n c) → Q (some (vi 0)) σ') (qt : cd T n c = kw o → ∀ σ', fq fMl σ σ' → CT σ' ν T n (nx T n c) N m → Q (some (vi 1)) σ') : CL L xs d 35 [vr 7 0, vr 90 o] σ Q := by
  refine cl_at p35 (by omega) (w35_0 hC ?_)
  refine c74 (by omega) h.2.1 h.2.2.1 h.2.2.2.1 ho ⟨_, rfl, ?_⟩
  refine if_b (fun z => ?_) (fun z => ?_)
  · refine c30 (by omega) (fun σ' f' e1 e2 => ⟨_, rfl, ?_⟩)
    exact qf (of_decide_eq_false z) σ' f' e1 (e2.trans h.2.2.2.1.2.1)
  · exact h.nx (by omega) (fun σ' f' _ _ t' => ⟨rfl, qt (of_decide_eq_true z) σ' f' t'⟩)
theorem c36 (hd : 6 ≤ d) {lo hi : Nat} {x1 x2 : Int32} (h1 : x1 = nI lo) (h2 : x2 = nI hi) (hh : hi < 1000) (hl : lo < 1000) (h : CT σ ν T n c N m) (qf : ∀ f, (if kd T n c = 2 then (if lo ≤ tV T n c ∧ tV T n c ≤ hi then 0 else 4) else 1) = f → f ≠ 0 → ∀ σ', fq fMl σ σ' → σ'.1 7 0 8 = nI f → σ'.1 7 0 9 = nI (tA T n c) → Q (some (vi 0)) σ') (qt : kd T n c = 2 → lo ≤ tV T n c ∧ tV T n c ≤ hi → ∀ σ', fq fMl σ σ' → σ'.1 7 0 6 = nI (tV T n c) → CT σ' ν T n (nx T n c) N m → Q (some (vi 1)) σ') : CL L xs d 36 [vr 7 0, vi x1, vi x2] σ Q := by
  subst h1; subst h2
  refine cl_at p36 (by omega) (w36_0 hC ?_)
  have hT := h.2.2.2.1
  have k5 := kd_5 (T := T) (n := n) (c := c)
  rw [hT.1]
  by_cases z : kd T n c = 2
  · refine if_y (by rw [z]; rfl) ?_
    rw [hT.2.2.2.1 z]
    rw [if_pos z] at qf
    have hv : tV T n c < 2 ^ 31 := by
      have hc := h.2.2.1
      have ha := tA_b (T := T) hc
      unfold tV
      have l2 : re T n isDi (tA T n c) - tA T n c ≤ 2 := by
        by_cases z0 : n ≤ tA T n c
        · rw [(kd_0 z0).1] at z; cases z
        cases z1 : isLo (T (tA T n c))
        · cases z2 : isDi (T (tA T n c))
          · rw [(kd_o z0 z1 z2).1] at z
            split at z
            · cases z
            split at z <;> cases z
          · rw [(kd_d z0 z1 z2).1] at z
            split at z
            · assumption
            · cases z
        · rw [(kd_l z0 z1).1] at z
          split at z <;> cases z
      have din : ∀ i, i < re T n isDi (tA T n c) - tA T n c → T (tA T n c + i) - 48 ≤ 9 := fun i hi => by
        have := isDi_b.mp (re_in ha.2 i hi); omega
      generalize re T n isDi (tA T n c) - tA T n c = l at *
      match l, l2, din with
      | 0, _, _ => exact Nat.zero_lt_succ _
      | 1, _, din => have := din 0 (by omega); show 10 * 0 + (T (tA T n c + 0) - 48) < _; omega
      | 2, _, din => have := din 0 (by omega); have := din 1 (by omega); show 10 * (10 * 0 + (T (tA T n c + 0) - 48)) + (T (tA T n c + 1) - 48) < _; omega
    have bad : ¬ (lo ≤ tV T n c ∧ tV T n c ≤ hi) → CL L xs (d - 1) 30 [vr 7 0, vi 4] σ (fun r σ1 => ∃ v2 : Int32, r = some (vi v2) ∧ Q (some (vi (v2 &&& 1))) σ1) := by
      intro w
      rw [if_neg w] at qf
      exact c30 (by omega) (fun σ' f' e1 e2 => ⟨_, rfl, qf 4 rfl (by omega) σ' f' e1 (e2.trans hT.2.1)⟩)
    refine if_c (fun z1 => bad ?_) (fun z1 => if_c (fun z2 => bad ?_) (fun z2 => ?_))
    · have := (nI_ltI hv (by omega)).mp z1; omega
    · have := (nI_ltI (by omega) hv).mp z2; omega
    · have g : lo ≤ tV T n c ∧ tV T n c ≤ hi := ⟨Nat.le_of_not_lt (fun w => z1 ((nI_ltI hv (by omega)).mpr w)), Nat.le_of_not_lt (fun w => z2 ((nI_ltI (by omega) hv).mpr w))⟩
      have f1 : fj fMl σ (m2_wI σ 7 0 6 (nI (tV T n c))) := fj.id.w rfl
      have h' : CT (m2_wI σ 7 0 6 (nI (tV T n c))) ν T n c N m := ⟨h.1, h.2.1.fj (A := fMl) rfl (fun _ => rfl) f1, h.2.2.1, ⟨by rw [wI_t (by decide)]; exact hT.1, by rw [wI_t (by decide)]; exact hT.2.1, by rw [wI_t (by decide)]; exact hT.2.2.1, fun w => by rw [wI_t (by decide)]; exact hT.2.2.2.1 w, hT.2.2.2.2⟩, h.2.2.2.2.1.fj (A := fun t i k => t == 7 && k == 6) rfl rfl (fun _ => ⟨rfl, rfl⟩) (fj.id.w rfl), h.2.2.2.2.2⟩
      exact h'.nx (by omega) (fun σ' f' e6 _ t' => ⟨rfl, qt z g σ' (f1.q.trans f') (e6.trans wI_same) t'⟩)
  · refine if_n (fun w => z ((nI_eq (b := 2) (by omega) (by omega)).mp w)) ?_
    rw [if_neg z] at qf
    exact c30 (by omega) (fun σ' f' e1 e2 => ⟨_, rfl, qf 1 rfl (by omega) σ' f' e1 (e2.trans hT.2.1)⟩)
theorem c37 (hd : 4 ≤ d) (h : CT σ ν T n c N m) (q0 : kd T n c ≠ 1 → Q (some (vi (-1))) σ) (q1 : ∀ o, o < 10 → cd T n c = kw o → Q (some (vi (nI o))) σ) (q2 : kd T n c = 1 → resv (cd T n c) = false → ∀ s, lkN N (cd T n c) = some s → ∀ j, j < 28 → σ.1 49 0 (10 + j) = nI (srt s) → σ.1 50 0 (10 + j) = nI (num s) → Q (some (vi (nI (10 + j)))) σ) (q3 : kd T n c = 1 → resv (cd T n c) = false → lkN N (cd T n c) = none → Q (some (vi (-1))) σ) : CL L xs d 37 [vr 7 0] σ Q := by
  refine cl_at p37 hd (w37_0 hC ?_)
  have hT := h.2.2.2.1
  have k5 := kd_5 (T := T) (n := n) (c := c)
  obtain ⟨hm, e4, hr, e, k1, k2⟩ := h.2.2.2.2.1
  have hdN := h.2.2.2.2.2
  have hc := h.2.2.1
  rw [hT.1]
  by_cases z : kd T n c = 1
  · refine if_y (by rw [z]; rfl) ?_
    have e6 := hT.2.2.2.2 z
    have lt := cd_lt (T := T) hc
    have ne0 := cd_pos hc z
    refine dm_for (n := 10 + m) (fun i σ' => g37_15 L xs (CL L xs (d - 1)) Q (nI i) σ') (fun i σ' => σ' = σ ∧ (∀ o, o < i → o < 10 → cd T n c ≠ kw o) ∧ ∀ j, 10 + j < i → cd T n c ≠ N (e j)) ?_ ?_ 0 σ (Nat.zero_le _) ⟨rfl, fun o ho => absurd ho (Nat.not_lt_zero o), fun j hj => absurd hj (Nat.not_lt_zero _)⟩
    · rintro i σ2 hi ⟨rfl, h2, h3⟩ ih
      refine w37_15 hC ?_
      rw [e4, nI_1, nI_clamp (by omega)]
      refine if_y (nI_lt hi (by omega)) (ix_k (by omega) (by omega) ?_)
      rw [e6]
      by_cases z10 : i < 10
      · rw [hr i z10]
        refine if_c (fun w => ?_) (fun w => ?_)
        · exact q1 i z10 ((i64_inj (kw_lt i (by omega)) lt).mp (lg_0.mp w)).symm
        · refine ih σ2 ⟨rfl, fun o h1 h1' => ?_, fun j hj => by omega⟩
          by_cases eo : o = i
          · subst eo; exact fun w' => w (lg_0.mpr (by rw [w']))
          · exact h2 o (by omega) h1'
      · obtain ⟨j, rfl⟩ : ∃ j, i = 10 + j := ⟨i - 10, by omega⟩
        have kj := k1 j (by omega)
        rw [kj.2.2.1]
        refine if_c (fun w => ?_) (fun w => ?_)
        · have ec := (i64_inj (hdN.2 _ kj.1) lt).mp (lg_0.mp w)
          have rv : resv (cd T n c) = false := by
            cases hv : resv (cd T n c)
            · rfl
            · obtain ⟨o, ho, eo⟩ := resv_t.mp hv
              exact absurd eo (h2 o (by omega) ho)
          cases hl : lkN N (cd T n c) with
          | none => exact absurd ec (lkN_n hl _ kj.1)
          | some s =>
            have ls := lkN_s hl
            have es : s = e j := hdN.1 s ls.1 _ kj.1 (by rw [ls.2]; exact ne0) (by rw [ls.2, ec])
            exact q2 z rv s hl j (by omega) (by rw [es]; exact kj.2.2.2.1) (by rw [es]; exact kj.2.2.2.2)
        · refine ih σ2 ⟨rfl, fun o h1 h1' => h2 o (by omega) h1', fun j' hj' => ?_⟩
          by_cases ej : j' = j
          · subst ej; exact fun w' => w (lg_0.mpr (by rw [w']))
          · exact h3 j' (by omega)
    · rintro σ2 ⟨rfl, h2, h3⟩
      refine w37_15 hC ?_
      rw [e4]
      refine if_n (nI_nlt (Nat.le_refl _) (by omega)) ?_
      have rv : resv (cd T n c) = false := by
        cases hv : resv (cd T n c)
        · rfl
        · obtain ⟨o, ho, eo⟩ := resv_t.mp hv
          exact absurd eo (h2 o (by omega) ho)
      cases hl : lkN N (cd T n c) with
      | none => exact q3 z rv hl
      | some s =>
        have ls := lkN_s hl
        obtain ⟨j, hj, ej⟩ := k2 s ls.1 (by rw [ls.2]; exact ne0)
        exact absurd (by rw [ej]; exact ls.2.symm) (h3 j (by omega))
  · exact if_n (fun w => z ((nI_eq (b := 1) (by omega) (by omega)).mp w)) (q0 z)
end PRS
