/-! WHAT IS READ is in order: each line keeps the row within its bounds, the names with the counts -/
theorem vp_mono {x : Int32} {a b : Nat} (h : vp_in x a) (hab : a ≤ b) : vp_in x b := by
  unfold vp_in at *
  exact fun w => h (w.imp id (fun q => Nat.le_trans hab q))
theorem gN_of {F : Nat → Int32} {k a : Nat} (h : F k = nI a) (ha : a < 2 ^ 31) : gN F k = a := by
  show (F k).toNatClampNeg = a
  rw [h, nI_clamp ha]
theorem gN_eq {F F' : Nat → Int32} {k : Nat} (h : F' k = F k) : gN F' k = gN F k := by
  show (F' k).toNatClampNeg = (F k).toNatClampNeg
  rw [h]
section KK
variable {F F' : Nat → Int32}
abbrev k1 (R : Nat → Int32) : Prop := vp_in (R 4) 6 ∧ vp_in (R 5) 9 ∧ vp_in (R 6) 5 ∧ vp_in (R 7) 8 ∧ vp_in (R 8) 5 ∧ vp_in (R 9) 8 ∧ vp_in (R 10) 7
abbrev k2 (R : Nat → Int32) : Prop := vp_in (R 0) 4 ∧ vp_in (R 1) 100 ∧ vp_in (R 2) 10 ∧ vp_in (R 3) 100 ∧ vp_in (R 181) (gN R 6 + 1)
abbrev k3 (R : Nat → Int32) : Prop := ∀ t, t < gN R 4 → vp_in (R (11 + t)) 10
abbrev k4 (R : Nat → Int32) : Prop := ∀ h, h < gN R 10 → vp_in (R (16 + 4 * h)) (gN R 4) ∧ vp_in (R (16 + 4 * h + 3)) 100
abbrev k5 (R : Nat → Int32) : Prop := ∀ d, d < gN R 5 → (∀ e, e < 2 → vp_in (R (40 + 7 * d + 2 * e)) (gN R 4 + 1)) ∧ vp_in (R (40 + 7 * d + 4)) (gN R 4 + 1)
abbrev k6 (R : Nat → Int32) : Prop := ∀ p, p < gN R 6 → vp_in (R (96 + 7 * p)) 7 ∧ ∀ i, i < gN R (96 + 7 * p) → vp_in (R (96 + 7 * p + 1 + i)) (gN R 5)
abbrev k7 (R : Nat → Int32) : Prop := ∀ s, s < gN R 7 → vp_in (R (124 + 4 * s)) 5 ∧ vp_in (R (124 + 4 * s + 1)) (gN R 5) ∧ (R (124 + 4 * s) = 4 → vp_in (R (124 + 4 * s + 2)) (gN R 5)) ∧ vp_in (R (124 + 4 * s + 3)) 10
abbrev k8 (R : Nat → Int32) : Prop := ∀ m, m < gN R 8 → vp_in (R (152 + 2 * m + 1)) (gN R 6)
abbrev k9 (R : Nat → Int32) : Prop := ∀ a, a < gN R 9 → vp_in (R (160 + 3 * a)) (gN R 8) ∧ vp_in (R (160 + 3 * a + 1)) (gN R 7) ∧ vp_in (R (160 + 3 * a + 2)) 100
theorem okR_k : okR F ↔ k1 F ∧ k2 F ∧ k3 F ∧ k4 F ∧ k5 F ∧ k6 F ∧ k7 F ∧ k8 F ∧ k9 F := Iff.rfl
/-- where two rows agree -/
def agF (F F' : Nat → Int32) (a b : Nat) : Prop := ∀ k, a ≤ k → k < b → F' k = F k
theorem k1.cg (h : agF F F' 4 11) (q : k1 F) : k1 F' := by
  unfold k1
  rw [h 4 (by omega) (by omega), h 5 (by omega) (by omega), h 6 (by omega) (by omega), h 7 (by omega) (by omega), h 8 (by omega) (by omega), h 9 (by omega) (by omega), h 10 (by omega) (by omega)]
  exact q
theorem k2.cg (h : agF F F' 0 4) (h1 : F' 181 = F 181) (h6 : gN F 6 ≤ gN F' 6) (q : k2 F) : k2 F' := by
  unfold k2
  rw [h 0 (by omega) (by omega), h 1 (by omega) (by omega), h 2 (by omega) (by omega), h 3 (by omega) (by omega), h1]
  exact ⟨q.1, q.2.1, q.2.2.1, q.2.2.2.1, vp_mono q.2.2.2.2 (by omega)⟩
theorem k3.cg (b : k1 F) (h : agF F F' 11 16) (e : F' 4 = F 4) (q : k3 F) : k3 F' := by
  intro t ht
  rw [gN_eq e] at ht
  have := (gn_in b.1).1
  rw [h _ (by omega) (by omega)]
  exact q t ht
theorem k4.cg (b : k1 F) (h : agF F F' 16 40) (e : F' 10 = F 10) (h4 : gN F 4 ≤ gN F' 4) (q : k4 F) : k4 F' := by
  intro t ht
  rw [gN_eq e] at ht
  have := (gn_in b.2.2.2.2.2.2).1
  rw [h _ (by omega) (by omega), h _ (by omega) (by omega)]
  exact ⟨vp_mono (q t ht).1 h4, (q t ht).2⟩
theorem k5.cg (b : k1 F) (h : agF F F' 40 96) (e : F' 5 = F 5) (h4 : gN F 4 ≤ gN F' 4) (q : k5 F) : k5 F' := by
  intro t ht
  rw [gN_eq e] at ht
  have := (gn_in b.2.1).1
  refine ⟨fun i hi => ?_, ?_⟩
  · rw [h _ (by omega) (by omega)]; exact vp_mono ((q t ht).1 i hi) (by omega)
  · rw [h _ (by omega) (by omega)]; exact vp_mono (q t ht).2 (by omega)
theorem k6.cg (b : k1 F) (h : agF F F' 96 124) (e : F' 6 = F 6) (h5 : gN F 5 ≤ gN F' 5) (q : k6 F) : k6 F' := by
  intro t ht
  rw [gN_eq e] at ht
  have := (gn_in b.2.2.1).1
  have e1 : F' (96 + 7 * t) = F (96 + 7 * t) := h _ (by omega) (by omega)
  refine ⟨by rw [e1]; exact (q t ht).1, fun i hi => ?_⟩
  rw [gN_eq e1] at hi
  have := (gn_in (q t ht).1).1
  rw [h _ (by omega) (by omega)]; exact vp_mono ((q t ht).2 i hi) (by omega)
theorem k7.cg (b : k1 F) (h : agF F F' 124 152) (e : F' 7 = F 7) (h5 : gN F 5 ≤ gN F' 5) (q : k7 F) : k7 F' := by
  intro t ht
  rw [gN_eq e] at ht
  have := (gn_in b.2.2.2.1).1
  rw [h _ (by omega) (by omega), h _ (by omega) (by omega), h _ (by omega) (by omega), h _ (by omega) (by omega)]
  have k := q t ht
  exact ⟨k.1, vp_mono k.2.1 h5, fun w => vp_mono (k.2.2.1 w) h5, k.2.2.2⟩
theorem k8.cg (b : k1 F) (h : agF F F' 152 160) (e : F' 8 = F 8) (h6 : gN F 6 ≤ gN F' 6) (q : k8 F) : k8 F' := by
  intro t ht
  rw [gN_eq e] at ht
  have := (gn_in b.2.2.2.2.1).1
  rw [h _ (by omega) (by omega)]
  exact vp_mono (q t ht) h6
theorem k9.cg (b : k1 F) (h : agF F F' 160 181) (e : F' 9 = F 9) (h8 : gN F 8 ≤ gN F' 8) (h7 : gN F 7 ≤ gN F' 7) (q : k9 F) : k9 F' := by
  intro t ht
  rw [gN_eq e] at ht
  have := (gn_in b.2.2.2.2.2.1).1
  rw [h _ (by omega) (by omega), h _ (by omega) (by omega), h _ (by omega) (by omega)]
  have k := q t ht
  exact ⟨vp_mono k.1 h8, vp_mono k.2.1 h7, k.2.2⟩
end KK
def cix (t : Nat) : Nat := match t with
  | 1 => 4
  | 3 => 5
  | 4 => 6
  | 5 => 7
  | _ => 8
def NV (F : Nat → Int32) (N : Nat → Nat) : Prop := ∀ s, s < 28 → (N s ≠ 0 ↔ num s < gN F (cix (srt s)))
def PV (F : Nat → Int32) (N : Nat → Nat) : Prop := okR F ∧ NV F N ∧ dN N ∧ (gN F 4 = 0 → gN F 5 = 0) ∧ (gN F 5 = 0 → gN F 6 = 0)
theorem slA : ∀ s, s < 28 → (srt s = 1 ↔ 0 ≤ s ∧ s ≤ 4) ∧ (srt s = 3 ↔ 5 ≤ s ∧ s ≤ 12) ∧ (srt s = 4 ↔ 13 ≤ s ∧ s ≤ 16) := by decide
theorem slB : ∀ s, s < 28 → (srt s = 5 ↔ 17 ≤ s ∧ s ≤ 23) ∧ (srt s = 6 ↔ 24 ≤ s ∧ s ≤ 27) := by decide
theorem slC : ∀ s, s < 28 → (srt s = 1 → num s = s - 0) ∧ (srt s = 3 → num s = s - 5) ∧ (srt s = 4 → num s = s - 13) := by decide
theorem slD : ∀ s, s < 28 → (srt s = 5 → num s = s - 17) ∧ (srt s = 6 → num s = s - 24) := by decide
theorem slE : ∀ s, s < 28 → (srt s = 1 ∨ srt s = 3 ∨ srt s = 4 ∨ srt s = 5 ∨ srt s = 6) := by decide
theorem slots : ∀ s, s < 28 → (srt s = 1 ↔ 0 ≤ s ∧ s ≤ 4) ∧ (srt s = 3 ↔ 5 ≤ s ∧ s ≤ 12) ∧ (srt s = 4 ↔ 13 ≤ s ∧ s ≤ 16) ∧ (srt s = 5 ↔ 17 ≤ s ∧ s ≤ 23) ∧ (srt s = 6 ↔ 24 ≤ s ∧ s ≤ 27) ∧ (srt s = 1 → num s = s - 0) ∧ (srt s = 3 → num s = s - 5) ∧ (srt s = 4 → num s = s - 13) ∧ (srt s = 5 → num s = s - 17) ∧ (srt s = 6 → num s = s - 24) ∧ (srt s = 1 ∨ srt s = 3 ∨ srt s = 4 ∨ srt s = 5 ∨ srt s = 6) := fun s h => ⟨(slA s h).1, (slA s h).2.1, (slA s h).2.2, (slB s h).1, (slB s h).2, (slC s h).1, (slC s h).2.1, (slC s h).2.2, (slD s h).1, (slD s h).2, slE s h⟩
/-- a new name: the counts grow by one there -/
theorem NV.up {F F' : Nat → Int32} {N : Nat → Nat} (h : NV F N) {T : Nat → Nat} {n c slot sort : Nat} (hc : c ≤ n) (hk : kd T n c = 1) (hs : slot < 28) (h1 : srt slot = sort) (h2 : num slot = gN F (cix sort)) (hF : gN F' (cix sort) = gN F (cix sort) + 1) (hE : ∀ t, (t = 1 ∨ t = 3 ∨ t = 4 ∨ t = 5 ∨ t = 6) → t ≠ sort → gN F' (cix t) = gN F (cix t)) : NV F' (upN N slot (cd T n c)) := by
  intro s hs'
  unfold upN
  have hp := cd_pos hc hk
  by_cases e : s = slot
  · subst e
    rw [if_pos rfl, h1, hF, h2]
    exact ⟨fun _ => by omega, fun _ => hp⟩
  · rw [if_neg e]
    by_cases et : srt s = sort
    · rw [h s hs', et, hF]
      have sl := slots s hs'
      have sl' := slots slot hs
      have : num s ≠ num slot := by
        rw [et] at sl
        rw [h1] at sl'
        intro w
        rcases sl.2.2.2.2.2.2.2.2.2.2 with q | q | q | q | q
        · have a := sl.1.mp q; have b := sl'.1.mp q; have a' := sl.2.2.2.2.2.1 q; have b' := sl'.2.2.2.2.2.1 q; clear sl sl'; omega
        · have a := sl.2.1.mp q; have b := sl'.2.1.mp q; have a' := sl.2.2.2.2.2.2.1 q; have b' := sl'.2.2.2.2.2.2.1 q; clear sl sl'; omega
        · have a := sl.2.2.1.mp q; have b := sl'.2.2.1.mp q; have a' := sl.2.2.2.2.2.2.2.1 q; have b' := sl'.2.2.2.2.2.2.2.1 q; clear sl sl'; omega
        · have a := sl.2.2.2.1.mp q; have b := sl'.2.2.2.1.mp q; have a' := sl.2.2.2.2.2.2.2.2.1 q; have b' := sl'.2.2.2.2.2.2.2.2.1 q; clear sl sl'; omega
        · have a := sl.2.2.2.2.1.mp q; have b := sl'.2.2.2.2.1.mp q; have a' := sl.2.2.2.2.2.2.2.2.2.1 q; have b' := sl'.2.2.2.2.2.2.2.2.2.1 q; clear sl sl'; omega
      omega
    · rw [h s hs', hE _ (slots s hs').2.2.2.2.2.2.2.2.2.2 et]
theorem NV.cg {F F' : Nat → Int32} {N : Nat → Nat} (h : NV F N) (hE : agF F F' 4 9) : NV F' N := by
  intro s hs
  rw [h s hs]
  have : cix (srt s) = 4 ∨ cix (srt s) = 5 ∨ cix (srt s) = 6 ∨ cix (srt s) = 7 ∨ cix (srt s) = 8 := by
    rcases (slots s hs).2.2.2.2.2.2.2.2.2.2 with q | q | q | q | q <;> rw [q] <;> decide
  rw [gN_eq (hE _ (by omega) (by omega))]
/-! inversions -/
section INV
variable {T : Nat → Nat} {n c : Nat} {r : Nat × (Nat → Int32) × (Nat → Nat)}
theorem pW_i {o : Nat} {K : Nat → PR} (h : pW T n o c K = .inr r) : cd T n c = kw o ∧ K (nx T n c) = .inr r := by
  unfold pW at h
  split at h
  · exact ⟨‹_›, h⟩
  · cases h
theorem pN_i {lo hi : Nat} {K : Nat → Nat → PR} (h : pN T n lo hi c K = .inr r) : ∃ v, lo ≤ v ∧ v ≤ hi ∧ K v (nx T n c) = .inr r := by
  unfold pN at h
  split at h
  · split at h
    · rename_i g; exact ⟨_, g.1, g.2, h⟩
    · cases h
  · cases h
theorem isNm_i (h : isNm T n c = true) : kd T n c = 1 := by
  unfold isNm at h
  simp only [Bool.and_eq_true, decide_eq_true_eq] at h
  exact h.1
theorem pNew_i {N : Nat → Nat} {s : Nat} {K : (Nat → Nat) → Nat → PR} (h : pNew T n N s c K = .inr r) : kd T n c = 1 ∧ lkN N (cd T n c) = none ∧ K (upN N s (cd T n c)) (nx T n c) = .inr r := by
  unfold pNew at h
  split at h
  · rename_i g
    split at h
    · cases h
    · exact ⟨isNm_i g, ‹_›, h⟩
  · cases h
theorem pUse_i {N : Nat → Nat} {lo hi : Nat} {K : Nat → Nat → PR} (hc : c ≤ n) (h : pUse T n N lo hi c K = .inr r) : ∃ v, lo + v ≤ hi ∧ lo + v < 28 ∧ N (lo + v) ≠ 0 ∧ K v (nx T n c) = .inr r := by
  unfold pUse at h
  split at h
  · rename_i g
    split at h
    · rename_i s hl
      split at h
      · rename_i gg
        have ls := lkN_s hl
        refine ⟨s - lo, by omega, by omega, ?_, h⟩
        rw [show lo + (s - lo) = s by omega, ls.2]
        exact cd_pos hc (isNm_i g)
      · cases h
    · cases h
  · cases h
theorem pHow_i {K : Int32 → Nat → PR} (h : pHow T n c K = .inr r) : ∃ u, (u = 0 ∨ u = 1) ∧ K u (nx T n c) = .inr r := by
  unfold pHow at h
  split at h
  · exact ⟨1, Or.inr rfl, h⟩
  split at h
  · exact ⟨0, Or.inl rfl, h⟩
  · cases h
theorem nx_le (hc : c ≤ n) : c ≤ nx T n c ∧ nx T n c ≤ n := by
  have a := tA_b (T := T) hc
  have b := nx_b (T := T) hc
  exact ⟨by omega, b.2.1⟩
end INV
