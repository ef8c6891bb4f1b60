theorem dm_owncls : ∀ y, y < 282 → (dmN y).cls = dm_cn (dmP y).1 := by decide +kernel
theorem dm_mlok (c : Nat) (e : Nat × (Nat × Nat × Nat × Nat) × Nat × Nat × Nat × Nat × Nat × Nat) (h : e ∈ dm_ml c) : dm_mck c e = true := by
  by_cases h1 : c < 8
  · exact dm_mlok0 c h1 e h
  · by_cases h2 : c < 13
    · obtain ⟨n, rfl⟩ : ∃ n, c = n + 8 := ⟨c - 8, by omega⟩
      exact dm_mlok1 n (by omega) e h
    · by_cases h3 : c = 13
      · subst h3; exact dm_mlok2 e h
      · by_cases h4 : c = 14
        · subst h4; exact dm_mlok3 e h
        · exfalso
          by_cases h5 : c = 15
          · subst h5; cases h
          · rw [(dm_flhi c (by omega)).2.1] at h; cases h
/-- the links to private constructors of classes inside -/
def dm_nest (U : State) : Prop := ∀ (c : Nat) (e : Nat × (Nat × Nat × Nat × Nat) × Nat × Nat × Nat × Nat × Nat × Nat), e ∈ dm_ml c → lw_tbl[e.2.2.2.1]? = some (.methodLinkNest (dm_cn c) e.1 (dmN e.2.1.1) "MistakesLent") → va_Nw (.methodLinkNest (dm_cn c) e.1 (dmN e.2.1.1) "MistakesLent") U
set_option maxRecDepth 100000 in
theorem dm_mok {St : State → Heap → Prop} (hN : ∀ s : State, St s s.heap → dm_nest s) (y : Nat) : dm_MOK dmE dmP dmN dmB dm_tb vwCl St y := by
  obtain ⟨a1, a2⟩ := dm_all y
  by_cases hy : y < 282
  · have hcls := dm_owncls y hy
    refine ⟨dm_plain y hy, a1, ?_, ?_, ?_, ?_, ?_⟩
    · intro k ci kk h
      have h : (dm_lk (dm_fl (dmP y).1) k).map (fun q => (q.1, q.2.1)) = some (ci, kk) := h
      cases hl : dm_lk (dm_fl (dmP y).1) k with
      | none => rw [hl] at h; cases h
      | some q =>
        rw [hl] at h
        obtain ⟨ci', kk', w⟩ := q
        cases h
        have hm := dm_lk_mem hl
        have hc : (dmP y).1 < 16 := by
          by_cases hc : (dmP y).1 < 16
          · exact hc
          · rw [(dm_flhi _ (by omega)).1] at hm; cases hm
        have h1 := dm_flok _ hc _ hm
        unfold dm_fck at h1
        dsimp only at h1
        cases hv : vwCl[ci']? with
        | none => rw [hv] at h1; cases h1
        | some r =>
          obtain ⟨C, T, N⟩ := r
          rw [hv] at h1
          simp only [Bool.and_eq_true, decide_eq_true_eq] at h1
          exact ⟨C, T, N, rfl, h1.1, by rw [hcls]; exact dm_at_mem h1.2, dm_clT ci' C T N hv⟩
    · intro pc k ci kk C T N hp hk hcv hf
      have h1 := a2 pc
      rw [hp] at h1
      unfold dm_ck3 at h1
      dsimp only at h1
      rw [hk] at h1
      dsimp only at h1
      rw [hcv] at h1
      simp only [hf, Bool.not_true, Bool.false_or, Bool.and_eq_true, decide_eq_true_eq] at h1
      exact h1
    · intro pc i hp
      have h1 := a2 pc
      rw [hp] at h1
      cases i <;> first | trivial | exact (of_decide_eq_true h1 : 0 ≤ (pc : Int) + _)
    · intro pc d lo hi offs hp
      have h1 := a2 pc
      rw [hp] at h1
      unfold dm_ck3 at h1
      simp only [Bool.and_eq_true, decide_eq_true_eq] at h1
      exact ⟨h1.1.1, h1.1.2, h1.2⟩
    · intro pc i k hp hi q hq
      have hq : (dm_lk (dm_ml (dmP y).1) k).map (fun q => q.1) = some q := hq
      cases hl : dm_lk (dm_ml (dmP y).1) k with
      | none => rw [hl] at hq; cases hq
      | some e =>
        rw [hl] at hq
        cases hq
        have hm := dm_lk_mem hl
        by_cases h3 : 3000 ≤ e.1.1
        · exact Or.inl h3
        · refine Or.inr ?_
          have h1 := a2 pc
          rw [hp] at h1
          have h2 := dm_mlok _ _ hm
          obtain ⟨⟨y', n, rk, cr⟩, kd, wl, w2, w3, wc, wi⟩ := e
          unfold dm_mck at h2
          simp only [Bool.or_eq_true, Bool.and_eq_true, decide_eq_true_eq] at h2
          have h3 : ¬ 3000 ≤ y' := h3
          rcases h2 with h2 | ⟨⟨⟨⟨⟨⟨b1, b2⟩, b3⟩, b4⟩, b5⟩, b6⟩, b7⟩
          · exact absurd h2 h3
          · have hcal : ∀ n', (parseMethodDescriptor (dmN y').desc).map (fun d => d.parameters.length) = some n' → n' ≤ n → dm_callee dmP dmN dmB dm_tb y' n' := fun n' hn hle => ⟨dm_cdm y' b1, dm_at_mem b2, ⟨b3, b4, hn⟩, b5, by omega⟩
            rcases hi with rfl | rfl | rfl
            · unfold dm_ck3 at h1
              dsimp only at h1
              rw [hl] at h1
              have h1 : kd = 0 := of_decide_eq_true h1
              subst h1
              simp only [Bool.and_eq_true, decide_eq_true_eq] at b7
              obtain ⟨⟨⟨⟨⟨⟨⟨c1, c2⟩, c3⟩, c4⟩, c5⟩, c6⟩, c7⟩, c8⟩ := b7
              refine Or.inl ⟨rfl, n - 1, by show n = n - 1 + 1; omega, b6, hcal _ c2 (by omega), c3, c4, ?_, by rw [hcls]; exact dm_at_mem c6, dm_at_mem c7, dm_at_mem c8⟩
              cases hv : vwCl[cr]? with
              | none => rw [hv] at c5; cases c5
              | some r =>
                rw [hv] at c5
                obtain ⟨C, T, N⟩ := r
                have c5 : C = (dmN y').cls := Option.some.inj c5
                exact ⟨T, N, by rw [← c5]⟩
            · unfold dm_ck3 at h1
              dsimp only at h1
              rw [hl] at h1
              have h1 : kd = 1 := of_decide_eq_true h1
              subst h1
              simp only [Bool.and_eq_true, decide_eq_true_eq] at b7
              obtain ⟨⟨c1, c2⟩, c3⟩ := b7
              exact Or.inr (Or.inl ⟨rfl, b6, hcal _ c1 (Nat.le_refl _), by rw [hcls]; exact dm_at_mem c2, dm_at_mem c3⟩)
            · unfold dm_ck3 at h1
              dsimp only at h1
              rw [hl] at h1
              have h1 : kd = 2 := of_decide_eq_true h1
              subst h1
              simp only [Bool.and_eq_true, Bool.or_eq_true, decide_eq_true_eq] at b7
              obtain ⟨⟨⟨⟨⟨⟨c1, c2⟩, c3⟩, c4⟩, c5⟩, c6⟩, c7⟩ := b7
              refine Or.inr (Or.inr ⟨rfl, n - 1, by show n = n - 1 + 1; omega, b6, hcal _ c2 (by omega), c3, c4, c5, dm_at_mem c6, ?_⟩)
              rcases c7 with c7 | c7
              · exact Or.inl (by rw [hcls]; exact dm_at_mem c7)
              · refine Or.inr ⟨"MistakesLent", fun s hs => ?_⟩
                rw [hcls]
                exact hN s hs _ _ hm c7
  · obtain ⟨n, rfl⟩ : ∃ n, y = n + 282 := ⟨y - 282, by omega⟩
    have hn : dmN (n + 282) = ⟨"MistakesLent", "", ""⟩ := by
      unfold dmN
      rw [List.getD_eq_getElem?_getD, List.getElem?_eq_none (by rw [show dm_mnl.length = 282 by decide +kernel]; exact Nat.le_add_left _ _)]; rfl
    refine ⟨by rw [hn]; decide, a1, ?_, ?_, ?_, ?_, ?_⟩
    · intro k ci kk h
      rw [dm_none n] at h
      cases (show (none : Option (Nat × Nat)) = some (ci, kk) from h)
    · intro pc k ci kk C T N hp
      rw [dm_none n] at hp
      cases (show (none : Option Instr) = _ from hp)
    · intro pc i hp
      rw [dm_none n] at hp
      cases (show (none : Option Instr) = _ from hp)
    · intro pc d lo hi offs hp
      rw [dm_none n] at hp
      cases (show (none : Option Instr) = _ from hp)
    · intro pc i k hp
      rw [dm_none n] at hp
      cases (show (none : Option Instr) = _ from hp)
