/-! the machine's predicate transformers are monotone -/
theorem dm_is_m {b : Bool} {K K' : Prop} (h : K → K') : dm_is b K → dm_is b K' := by cases b <;> first | exact id | exact h
theorem dm_st1_m {ls : dm_L} {i : Nat} {v : dm_V} {K K' : dm_L → Prop} (h : ∀ ls, K ls → K' ls) : dm_st1 ls i v K → dm_st1 ls i v K' := dm_is_m (dm_is_m (h _))
theorem dm_st2_m {ls : dm_L} {i : Nat} {v : dm_V} {K K' : dm_L → Prop} (h : ∀ ls, K ls → K' ls) : dm_st2 ls i v K → dm_st2 ls i v K' := dm_is_m (dm_is_m (h _))
theorem dm_ldI_m {ls : dm_L} {i : Nat} {K K' : Int32 → Prop} (h : ∀ x, K x → K' x) : dm_ldI ls i K → dm_ldI ls i K' := by
  unfold dm_ldI; split
  · exact h _
  · exact id
theorem dm_ldL_m {ls : dm_L} {i : Nat} {K K' : Int64 → Prop} (h : ∀ x, K x → K' x) : dm_ldL ls i K → dm_ldL ls i K' := by
  unfold dm_ldL; split
  · exact h _
  · exact id
theorem dm_ldR_m {ls : dm_L} {i : Nat} {K K' : Nat → Nat → Prop} (h : ∀ x y, K x y → K' x y) : dm_ldR ls i K → dm_ldR ls i K' := by
  unfold dm_ldR; split
  · exact h _ _
  · exact id
theorem dm_1_m {st : List dm_V} {K K' : Int32 → List dm_V → Prop} (h : ∀ x l, K x l → K' x l) : dm_1 st K → dm_1 st K' := by
  unfold dm_1; split
  · exact h _ _
  · exact id
theorem dm_2_m {st : List dm_V} {K K' : Int32 → Int32 → List dm_V → Prop} (h : ∀ x y l, K x y l → K' x y l) : dm_2 st K → dm_2 st K' := by
  unfold dm_2; split
  · exact h _ _ _
  · exact id
theorem dm_22_m {st : List dm_V} {K K' : Int64 → Int64 → List dm_V → Prop} (h : ∀ x y l, K x y l → K' x y l) : dm_22 st K → dm_22 st K' := by
  unfold dm_22; split
  · exact h _ _ _
  · exact id
theorem dm_r_m {st : List dm_V} {K K' : Nat → Nat → List dm_V → Prop} (h : ∀ t i l, K t i l → K' t i l) : dm_r st K → dm_r st K' := by
  unfold dm_r; split
  · exact h _ _ _
  · exact id
theorem dm_v1_m {st : List dm_V} {K K' : dm_V → List dm_V → Prop} (h : ∀ v l, K v l → K' v l) : dm_v1 st K → dm_v1 st K' := by
  unfold dm_v1; split
  · exact h _ _
  · exact h _ _
  · exact id
theorem dm_v_m {st : List dm_V} {K K' : dm_V → List dm_V → Prop} (h : ∀ v l, K v l → K' v l) : dm_v st K → dm_v st K' := by
  unfold dm_v; split
  · exact h _ _
  · exact id
theorem dm_ir_m {st : List dm_V} {K K' : Int32 → Nat → Nat → List dm_V → Prop} (h : ∀ x t i l, K x t i l → K' x t i l) : dm_ir st K → dm_ir st K' := by
  unfold dm_ir; split
  · exact h _ _ _ _
  · exact id
theorem dm_so_m {α : Type} {o : Option α} {K K' : α → Prop} (h : ∀ x, K x → K' x) : dm_so o K → dm_so o K' := by
  unfold dm_so; split
  · exact h _
  · exact id
theorem dm_if_m {c : Prop} [Decidable c] {A B A' B' : Prop} (h1 : A → A') (h2 : B → B') : (if c then A else B) → (if c then A' else B') := by
  split
  · exact h1
  · exact h2
theorem dm_ix_m {x : Int32} {n : Nat} {K K' : Prop} (h : K → K') : dm_ix x n K → dm_ix x n K' := dm_if_m id h
theorem dm_cmp_m {c : Jvm.ClassFile.Cond} {x y : Int32} {A B A' B' : Prop} (h1 : A → A') (h2 : B → B') : dm_cmp c x y A B → dm_cmp c x y A' B' := by
  cases c <;> first | exact dm_if_m h1 h2 | exact dm_if_m h2 h1
theorem dm_rc_m {μ : Type} {O : dm_O μ} {σ : μ} {c : Nat} {args : List dm_V} {K K' : Prop} (h : K → K') : dm_rc O σ c args K → dm_rc O σ c args K' := by
  unfold dm_rc; split
  · exact h
  · split
    · exact dm_so_m (fun _ => h)
    · exact id
theorem dm_tg_m {pc : Nat} {off : Int} {K K' : Nat → Prop} (h : ∀ n, K n → K' n) : dm_tg pc off K → dm_tg pc off K' := by
  unfold dm_tg; split
  · exact h _
  · exact id
theorem dm_sw_m {pc : Nat} {x : Int32} {d : Int} {K K' : Nat → Prop} (h : ∀ n, K n → K' n) : ∀ (l : List Int) (lo : Int), dm_sw pc x d K lo l → dm_sw pc x d K' lo l
  | [], _ => dm_tg_m h
  | _ :: l, lo => dm_if_m (dm_tg_m h) (dm_sw_m h l (lo + 1))
theorem dm_rt_m {rk : Nat} {r : Option dm_V} {K K' : List dm_V → Prop} (h : ∀ vs, K vs → K' vs) : dm_rt rk r K → dm_rt rk r K' := by
  unfold dm_rt; split
  · exact fun q => ⟨q.1, h _ q.2⟩
  · exact fun ⟨v, q⟩ => ⟨v, q.1, h _ q.2⟩
  · exact fun ⟨v, q⟩ => ⟨v, q.1, h _ q.2⟩
  · exact fun ⟨v, q⟩ => ⟨v, q.1, h _ q.2⟩
  · exact id
section DMM
variable {μ : Type} {E : dm_E} {O : dm_O μ} {call : Nat → List dm_V → μ → (Option dm_V → μ → Prop) → Prop} {bi : Bool} {M : dm_M} {Q Q' : Option dm_V → μ → Prop} {P P' : Nat → dm_L → List dm_V → μ → Prop}
/-- a call with a weaker end -/
def dm_cm (call : Nat → List dm_V → μ → (Option dm_V → μ → Prop) → Prop) : Prop := ∀ y a σ Q Q', (∀ r σ', Q r σ' → Q' r σ') → call y a σ Q → call y a σ Q'
theorem dm_FA_m (hP : ∀ pc ls st σ, P pc ls st σ → P' pc ls st σ) {pc : Nat} {ls : dm_L} {st : List dm_V} {σ : μ} {i : Instr} : dm_FA E M P pc ls st σ i → dm_FA E M P' pc ls st σ i := by
  cases i <;> first
    | exact id
    | exact hP _ _ _ _
    | exact dm_ldR_m (fun _ _ => hP _ _ _ _)
    | exact dm_ldI_m (fun _ => hP _ _ _ _)
    | exact dm_ldL_m (fun _ => hP _ _ _ _)
    | exact dm_r_m (fun _ _ _ => dm_st1_m (fun _ => hP _ _ _ _))
    | exact dm_1_m (fun _ _ => dm_st1_m (fun _ => hP _ _ _ _))
    | exact dm_ldI_m (fun _ => dm_st1_m (fun _ => hP _ _ _ _))
    | exact dm_2_m (fun _ _ _ => hP _ _ _ _)
    | exact dm_2_m (fun _ _ _ => dm_is_m (hP _ _ _ _))
    | exact dm_1_m (fun _ _ => hP _ _ _ _)
    | exact dm_22_m (fun _ _ _ => hP _ _ _ _)
    | (unfold dm_FA; exact dm_v1_m (fun _ _ => hP _ _ _ _))
    | (unfold dm_FA; exact dm_v1_m (fun _ _ => dm_v1_m (fun _ _ => hP _ _ _ _)))
    | exact dm_so_m (fun _ => hP _ _ _ _)
    | (unfold dm_FA; dsimp only; split
       · exact dm_st2_m (fun _ => hP _ _ _ _)
       · exact id)
theorem dm_FM_m (hP : ∀ pc ls st σ, P pc ls st σ → P' pc ls st σ) {pc : Nat} {ls : dm_L} {st : List dm_V} {σ : μ} {i : Instr} : dm_FM E O M P pc ls st σ i → dm_FM E O M P' pc ls st σ i := by
  cases i <;> first
    | exact id
    | exact dm_r_m (fun _ _ _ => dm_so_m (fun _ => dm_so_m (fun _ => hP _ _ _ _)))
    | exact dm_v_m (fun _ _ => dm_r_m (fun _ _ _ => dm_so_m (fun _ => dm_so_m (fun _ => hP _ _ _ _))))
    | exact dm_r_m (fun _ _ _ => dm_so_m (fun _ => hP _ _ _ _))
    | exact dm_so_m (fun _ => dm_so_m (fun _ => hP _ _ _ _))
    | exact dm_1_m (fun _ _ => dm_is_m (dm_so_m (fun _ => hP _ _ _ _)))
    | exact dm_1_m (fun _ _ => dm_is_m (dm_so_m (fun _ => dm_so_m (fun _ => hP _ _ _ _))))
    | (refine dm_ir_m (fun _ _ _ _ => dm_so_m (fun q => ?_)); split <;> first | exact dm_ix_m (hP _ _ _ _) | exact id)
    | (refine dm_1_m (fun _ _ => dm_ir_m (fun _ _ _ _ => dm_so_m (fun q => ?_))); split <;> first | exact dm_ix_m (dm_so_m (fun _ => hP _ _ _ _)) | exact id)
    | (refine dm_r_m (fun _ _ _ => dm_ir_m (fun _ _ _ _ => dm_so_m (fun q => ?_))); split <;> first | exact dm_ix_m (dm_so_m (fun _ => hP _ _ _ _)) | exact id)
    | (unfold dm_FM; dsimp only; split
       · refine dm_ir_m (fun _ _ _ _ => dm_so_m (fun q => ?_)); split <;> first | exact dm_ix_m (dm_so_m (fun _ => hP _ _ _ _)) | exact id
       · exact id)
theorem dm_inv_m (hc : dm_cm call) (hP : ∀ pc ls st σ, P pc ls st σ → P' pc ls st σ) {pc : Nat} {ls : dm_L} {st : List dm_V} {σ : μ} {k : Nat} : dm_inv E O call bi M P pc ls st σ k → dm_inv E O call bi M P' pc ls st σ k := by
  refine dm_so_m (fun q => ?_)
  split
  · exact dm_is_m (dm_r_m (fun _ _ _ => dm_is_m (hP _ _ _ _)))
  · exact dm_is_m (dm_2_m (fun _ _ _ => dm_is_m (hP _ _ _ _)))
  · exact dm_is_m (dm_2_m (fun _ _ _ => dm_is_m (hP _ _ _ _)))
  · exact dm_is_m (dm_r_m (fun _ _ _ => dm_is_m (dm_is_m (hP _ _ _ _))))
  · exact dm_is_m (dm_ir_m (fun _ _ _ _ => dm_is_m (dm_is_m (dm_ix_m (hP _ _ _ _)))))
  · exact dm_is_m (dm_is_m (dm_is_m (dm_is_m (dm_rc_m (hc _ _ _ _ _ (fun _ _ => dm_rt_m (fun _ => hP _ _ _ _)))))))
theorem dm_FC_m (hc : dm_cm call) (hQ : ∀ r σ, Q r σ → Q' r σ) (hP : ∀ pc ls st σ, P pc ls st σ → P' pc ls st σ) {pc : Nat} {ls : dm_L} {st : List dm_V} {σ : μ} {i : Instr} : dm_FC E O call bi M Q P pc ls st σ i → dm_FC E O call bi M Q' P' pc ls st σ i := by
  cases i <;> first
    | exact id
    | exact dm_2_m (fun _ _ _ => dm_cmp_m (dm_tg_m (fun _ => hP _ _ _ _)) (hP _ _ _ _))
    | exact dm_1_m (fun _ _ => dm_cmp_m (dm_tg_m (fun _ => hP _ _ _ _)) (hP _ _ _ _))
    | exact dm_tg_m (fun _ => hP _ _ _ _)
    | exact dm_1_m (fun _ _ => dm_sw_m (fun _ => hP _ _ _ _) _ _)
    | exact dm_inv_m hc hP
    | (unfold dm_FC; dsimp only; split <;> first | exact hQ _ _ | exact id)
theorem dm_FI_m (hc : dm_cm call) (hQ : ∀ r σ, Q r σ → Q' r σ) (hP : ∀ pc ls st σ, P pc ls st σ → P' pc ls st σ) {pc : Nat} {ls : dm_L} {st : List dm_V} {σ : μ} {i : Instr} : dm_FI E O call bi M Q P pc ls st σ i → dm_FI E O call bi M Q' P' pc ls st σ i := by
  unfold dm_FI; split
  · exact dm_FA_m hP
  · exact dm_FM_m hP
  · exact dm_FC_m hc hQ hP
theorem dm_F_m (hc : dm_cm call) (hQ : ∀ r σ, Q r σ → Q' r σ) (hP : ∀ pc ls st σ, P pc ls st σ → P' pc ls st σ) {pc : Nat} {ls : dm_L} {st : List dm_V} {σ : μ} : dm_F E O call bi M Q P pc ls st σ → dm_F E O call bi M Q' P' pc ls st σ :=
  dm_so_m (fun _ => dm_FI_m hc hQ hP)
theorem dm_F_cm {call' : Nat → List dm_V → μ → (Option dm_V → μ → Prop) → Prop} (hcc : ∀ y a σ Q, call y a σ Q → call' y a σ Q) (hP : ∀ pc ls st σ, P pc ls st σ → P' pc ls st σ) (hc : dm_cm call') {pc : Nat} {ls : dm_L} {st : List dm_V} {σ : μ} (h : dm_F E O call bi M Q P pc ls st σ) : dm_F E O call' bi M Q P' pc ls st σ := by
  refine dm_F_m hc (fun _ _ q => q) hP ?_
  revert h
  refine dm_so_m (fun i => ?_)
  unfold dm_FI
  split
  · exact id
  · exact id
  · have hv : ∀ k, dm_inv E O call bi M P pc ls st σ k → dm_inv E O call' bi M P pc ls st σ k := by
      intro k
      refine dm_so_m (fun q => ?_)
      split <;> first | exact id | exact dm_is_m (dm_is_m (dm_is_m (dm_is_m (dm_rc_m (hcc _ _ _ _)))))
    cases i <;> first | exact id | exact hv _
/-- one instruction -/
theorem dm_Go.step (hc : dm_cm call) {pc : Nat} {ls : dm_L} {st : List dm_V} {σ : μ} (h : dm_F E O call bi M Q (dm_Go E O call bi M Q) pc ls st σ) : dm_Go E O call bi M Q pc ls st σ :=
  fun P h1 h2 => h1 _ _ _ _ (dm_F_m hc (fun _ _ q => q) (fun _ _ _ _ q => q P h1 h2) h)
theorem dm_Go.weak {pc : Nat} {ls0 ls : dm_L} {st : List dm_V} {σ : μ} (hl : dm_le ls0 ls) (h : dm_Go E O call bi M Q pc ls0 st σ) : dm_Go E O call bi M Q pc ls st σ :=
  fun P h1 h2 => h2 _ _ _ _ _ hl (h P h1 h2)
theorem dm_Go.mono (hc : dm_cm call) (hQ : ∀ r σ, Q r σ → Q' r σ) {pc : Nat} {ls : dm_L} {st : List dm_V} {σ : μ} (h : dm_Go E O call bi M Q pc ls st σ) : dm_Go E O call bi M Q' pc ls st σ :=
  fun P h1 h2 => h P (fun _ _ _ _ q => h1 _ _ _ _ (dm_F_m hc hQ (fun _ _ _ _ z => z) q)) h2
theorem dm_cm_F : dm_cm (μ := μ) (fun _ _ _ _ => False) := fun _ _ _ _ _ _ h => h
theorem dm_Call.mono {prog : Nat → dm_M} : ∀ d, dm_cm (dm_Call E O prog d)
  | 0 => fun _ _ _ _ _ hQ h => dm_Go.mono dm_cm_F hQ h
  | d + 1 => fun _ _ _ _ _ hQ h => dm_Go.mono (dm_Call.mono d) hQ h
/-- the places where an unfolding stops, with the locals that are kept there -/
def dm_keep : List Bool → dm_L → dm_L
  | true :: b, x :: l => x :: dm_keep b l
  | _ :: b, _ :: l => none :: dm_keep b l
  | [], _ :: l => none :: dm_keep [] l
  | _, [] => []
theorem dm_keep_le : ∀ (b : List Bool) (l : dm_L), dm_le (dm_keep b l) l
  | true :: b, x :: l => ⟨Or.inr rfl, dm_keep_le b l⟩
  | false :: b, x :: l => ⟨Or.inl rfl, dm_keep_le b l⟩
  | [], x :: l => ⟨Or.inl rfl, dm_keep_le [] l⟩
  | [], [] => trivial
  | true :: b, [] => trivial
  | false :: b, [] => trivial
def dm_stop (l : List (Nat × List Bool)) (pc : Nat) : Option (List Bool) := match l with
  | [] => none
  | (n, b) :: r => match Nat.beq n pc with
    | true => some b
    | false => dm_stop r pc
/-- k instructions on, but not beyond the stops -/
def dm_ex (E : dm_E) (O : dm_O μ) (call : Nat → List dm_V → μ → (Option dm_V → μ → Prop) → Prop) (bi : Bool) (M : dm_M) (Q : Option dm_V → μ → Prop) (stops : List (Nat × List Bool)) : Nat → Nat → dm_L → List dm_V → μ → Prop
  | 0, pc, ls, st, σ => dm_Go E O call bi M Q pc ls st σ
  | k + 1, pc, ls, st, σ => match dm_stop stops pc with
    | some b => dm_Go E O call bi M Q pc (dm_keep b ls) st σ
    | none => dm_F E O call bi M Q (dm_ex E O call bi M Q stops k) pc ls st σ
theorem dm_ex.go (hc : dm_cm call) (stops : List (Nat × List Bool)) : ∀ (k pc : Nat) (ls : dm_L) (st : List dm_V) (σ : μ), dm_ex E O call bi M Q stops k pc ls st σ → dm_Go E O call bi M Q pc ls st σ
  | 0, _, _, _, _ => id
  | k + 1, pc, ls, st, σ => by
    unfold dm_ex
    split
    · exact dm_Go.weak (dm_keep_le _ _)
    · exact fun h => dm_Go.step hc (dm_F_m hc (fun _ _ q => q) (dm_ex.go hc stops k) h)
/-- from here: one instruction for sure, then on to the stops -/
theorem dm_ex.at (hc : dm_cm call) (stops : List (Nat × List Bool)) (k : Nat) {pc : Nat} {ls : dm_L} {st : List dm_V} {σ : μ} (h : dm_F E O call bi M Q (dm_ex E O call bi M Q stops k) pc ls st σ) : dm_Go E O call bi M Q pc ls st σ :=
  dm_Go.step hc (dm_F_m hc (fun _ _ q => q) (dm_ex.go hc stops k) h)
/-- the same, run to its end: what a program decides -/
def dm_it (E : dm_E) (O : dm_O μ) (call : Nat → List dm_V → μ → (Option dm_V → μ → Prop) → Prop) (bi : Bool) (M : dm_M) (Q : Option dm_V → μ → Prop) : Nat → Nat → dm_L → List dm_V → μ → Prop
  | 0, _, _, _, _ => False
  | k + 1, pc, ls, st, σ => dm_F E O call bi M Q (dm_it E O call bi M Q k) pc ls st σ
theorem dm_it.go {call' : Nat → List dm_V → μ → (Option dm_V → μ → Prop) → Prop} (hc : dm_cm call') (hcc : ∀ y a σ Q, call y a σ Q → call' y a σ Q) : ∀ (k pc : Nat) (ls : dm_L) (st : List dm_V) (σ : μ), dm_it E O call bi M Q k pc ls st σ → dm_Go E O call' bi M Q pc ls st σ
  | 0, _, _, _, _ => False.elim
  | k + 1, pc, ls, st, σ => fun h => dm_Go.step hc (dm_F_cm hcc (fun _ _ _ _ q => dm_it.go hc hcc k _ _ _ _ q) hc h)
end DMM
