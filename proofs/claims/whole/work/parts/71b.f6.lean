/-! faults are small -/
def f6 (r : PR) : Prop := ∀ f p, r = .inl (f, p) → f ≤ 6
section F6
variable {T : Nat → Nat} {n c : Nat} {F : Nat → Int32} {N : Nat → Nat}
theorem f6_i {a : Prop} [Decidable a] {x y : PR} (h1 : f6 x) (h2 : f6 y) : f6 (if a then x else y) := by split <;> assumption
theorem f6_l {f p : Nat} (h : f ≤ 6) : f6 (.inl (f, p)) := fun f' p' e => by cases e; exact h
theorem f6_r {x : Nat × (Nat → Int32) × (Nat → Nat)} : f6 (.inr x) := fun f' p' e => by cases e
theorem f6_W {o : Nat} {k : Nat → PR} (h : ∀ c, f6 (k c)) : f6 (pW T n o c k) := f6_i (h _) (f6_l (by decide))
theorem f6_N {lo hi : Nat} {k : Nat → Nat → PR} (h : ∀ v c, f6 (k v c)) : f6 (pN T n lo hi c k) := f6_i (f6_i (h _ _) (f6_l (by decide))) (f6_l (by decide))
theorem f6_New {s : Nat} {k : (Nat → Nat) → Nat → PR} (h : ∀ v c, f6 (k v c)) : f6 (pNew T n N s c k) := by
  refine f6_i ?_ (f6_l (by decide))
  split
  · exact f6_l (by decide)
  · exact h _ _
theorem f6_Use {lo hi : Nat} {k : Nat → Nat → PR} (h : ∀ v c, f6 (k v c)) : f6 (pUse T n N lo hi c k) := by
  refine f6_i ?_ (f6_l (by decide))
  split
  · exact f6_i (h _ _) (f6_l (by decide))
  · exact f6_l (by decide)
theorem f6_How {k : Int32 → Nat → PR} (h : ∀ v c, f6 (k v c)) : f6 (pHow T n c k) := f6_i (h _ _) (f6_i (h _ _) (f6_l (by decide)))
theorem f6_dIf {d : Nat} : f6 (dIf T n N d F c) := f6_i (f6_Use fun _ _ => f6_How fun _ _ => f6_N fun _ _ => f6_r) f6_r
theorem f6_dEf {d many : Nat} {more : (Nat → Int32) → Nat → PR} (h : ∀ F c, f6 (more F c)) : f6 (dEf T n N d many more F c) := f6_i (f6_i (f6_l (by decide)) (f6_Use fun _ _ => f6_i (f6_l (by decide)) (f6_N fun _ _ => f6_i (h _ _) f6_dIf))) (f6_l (by decide))
theorem f6_pSt {p : Nat} : ∀ m many F c, f6 (pSt T n N p m many F c)
  | 0, _, _, _ => f6_l (by decide)
  | m + 1, many, F, c => f6_Use fun _ _ => f6_i (f6_l (by decide)) (f6_i (f6_pSt m _ _ _) f6_r)
theorem f6_pEs {p : Nat} : ∀ m t F c, f6 (pEs T n N p m t F c)
  | 0, _, _, _ => by unfold pEs; exact f6_r
  | m + 1, 0, _, _ => f6_N fun _ _ => f6_pEs m _ _ _
  | m + 1, t + 1, _, _ => f6_i (f6_N fun _ _ => f6_pEs m _ _ _) (f6_l (by decide))
theorem f6_Mis {k : Nat → Nat → PR} (h : ∀ v c, f6 (k v c)) : f6 (pMis T n c k) := f6_i (h _ _) (f6_i (h _ _) (f6_i (h _ _) (f6_i (h _ _) (f6_i (h _ _) (f6_l (by decide))))))
theorem f6_Knd {k : Nat → Nat → PR} (h : ∀ v c, f6 (k v c)) : f6 (pKnd T n c k) := f6_i (h _ _) (f6_i (h _ _) (f6_i (h _ _) (f6_l (by decide))))
theorem f6_sEnd {s mi d : Nat} {e : Int32} : f6 (sEnd T n F N s mi d e c) := f6_W fun _ => f6_N fun _ _ => f6_r
theorem f6_gat {s room cnt : Nat} {l : PR} (h : f6 l) : f6 (gat T n F c s room cnt l) := f6_i (f6_i (f6_l (by decide)) (f6_i (f6_l (by decide)) h)) (f6_l (by decide))
theorem f6_lin : f6 (lin T n F N c) := by
  refine f6_i (f6_i (f6_W fun _ => f6_N fun _ _ => f6_W fun _ => f6_N fun _ _ => f6_W fun _ => f6_N fun _ _ => f6_W fun _ => f6_N fun _ _ => f6_r) (f6_l (by decide))) ?_
  refine f6_i (f6_gat (f6_New fun _ _ => f6_N fun _ _ => f6_r)) ?_
  refine f6_i (f6_gat (f6_Use fun _ _ => f6_How fun _ _ => f6_N fun _ _ => f6_W fun _ => f6_N fun _ _ => f6_r)) ?_
  refine f6_i (f6_gat (f6_New fun _ _ => f6_dEf fun _ _ => f6_dEf fun _ _ => f6_dEf fun _ _ => f6_l (by decide))) ?_
  refine f6_i (f6_gat (f6_New fun _ _ => f6_pSt _ _ _ _)) ?_
  refine f6_i (f6_gat (f6_New fun _ _ => f6_Mis fun _ _ => f6_Use fun _ _ => f6_i (f6_Use fun _ _ => f6_i (f6_l (by decide)) f6_sEnd) f6_sEnd)) ?_
  refine f6_i (f6_gat (f6_New fun _ _ => f6_Knd fun _ _ => f6_Use fun _ _ => f6_r)) ?_
  refine f6_i (f6_gat (f6_Use fun _ _ => f6_Use fun _ _ => f6_i (f6_l (by decide)) (f6_W fun _ => f6_N fun _ _ => f6_r))) ?_
  exact f6_i (f6_i (f6_i (f6_l (by decide)) (f6_Use fun _ _ => f6_pEs _ _ _ _)) (f6_l (by decide))) (f6_l (by decide))
theorem f6_rdP : ∀ m F N c, f6 (rdP T n m F N c)
  | 0, _, _, _ => f6_l (by decide)
  | m + 1, F, N, c => by
    unfold rdP
    split
    · rename_i e h
      exact fun f p w => f6_lin f p (h.trans w)
    · exact f6_i (f6_i (f6_l (by decide)) f6_r) (f6_i (f6_rdP m _ _ _) (f6_l (by decide)))
end F6
theorem wD_same {σ : M2} {t i k z : Nat} : (m2_wD σ t i k z).2.2 t i k = z := by unfold m2_wD; simp
theorem wD_t {σ : M2} {t i k z t' i' k' : Nat} (h : t' ≠ t) : (m2_wD σ t i k z).2.2 t' i' k' = σ.2.2 t' i' k' := if_neg (fun q => h q.1)
