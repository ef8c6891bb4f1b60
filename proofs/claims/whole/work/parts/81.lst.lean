/-! ONE STEP of the law's loop -/
section LST
variable {L : Nat} {xs : Nat → Int32} {d i : Nat} {Q : Option dm_V → M2 → Prop} {P : Nat → dm_L → List dm_V → M2 → Prop} {σ : M2}
abbrev lsI (i : Nat) : dm_L := [some (vr 93 0), some (vr 12 0), some (vr 13 0), some (vr 80 0), some (vi (nI i)), none, none]
theorem ixL {j : Nat} {K : Prop} (hj : i + j < L) (hL : L ≤ 3072) (q : K) : dm_ix (nI i + nI j) L K := by
  rw [nI_add]
  exact ix_k hj (by omega) q
theorem OP.k {y y' : Nat} {as as' : List dm_V} (hop : OP L xs d y as y' as' σ) (W : Prop → Prop) (hW : ∀ p, p → W p) (hn : ∀ σ', IN σ' → P 1597 (lsI i) [] σ') : CL L xs d y as σ (fun r σ1 => ∃ v : Int32, r = some (vi v) ∧ W (CL L xs d y' as' σ1 (fun r' σ2 => ∃ v' : Int32, r' = some (vi v') ∧ (if v = v' then P 1597 (lsI i) [] σ2 else Q (some (vi 0)) σ2)))) :=
  hC _ _ _ _ _ (fun r σ1 w => by
    obtain ⟨v, e, w⟩ := w
    exact ⟨v, e, hW _ w⟩) (hop (fun v _ v' σ2 => if v = v' then P 1597 (lsI i) [] σ2 else Q (some (vi 0)) σ2) (fun v σ1 σ2 h => if_y rfl (hn σ2 h)))
theorem st_240 (hd : 20 ≤ d) (hp : l281_cl L xs (CL L xs d) Q P) (hL : L ≤ 3072) (hi : i + 6 ≤ L) (hI : IN σ) (hn : ∀ σ', IN σ' → P 1597 (lsI i) [] σ') : P 240 (lsI i) [] σ :=
  w281_240 hC hp (ixL (j := 1) (by omega) hL (ixL (j := 2) (by omega) hL (ixL (j := 3) (by omega) hL (ixL (j := 4) (by omega) hL (ixL (j := 5) (by omega) hL ((op_feed hd hI).k (fun p => dm_ix (nI i + 1) L (dm_ix (nI i + 2) L (dm_ix (nI i + 3) L (dm_ix (nI i + 4) L (dm_ix (nI i + 5) L (p)))))) (fun p q => ixL (j := 1) (by omega) hL (ixL (j := 2) (by omega) hL (ixL (j := 3) (by omega) hL (ixL (j := 4) (by omega) hL (ixL (j := 5) (by omega) hL (q)))))) hn))))))
theorem st_313 (hd : 20 ≤ d) (hp : l281_cl L xs (CL L xs d) Q P) (hL : L ≤ 3072) (hi : i + 6 ≤ L) (hI : IN σ) (hn : ∀ σ', IN σ' → P 1597 (lsI i) [] σ') : P 313 (lsI i) [] σ :=
  w281_313 hC hp (ixL (j := 1) (by omega) hL ((op_museum hd hI).k (fun p => dm_ix (nI i + 1) L (p)) (fun p q => ixL (j := 1) (by omega) hL (q)) hn))
theorem st_338 (hd : 20 ≤ d) (hp : l281_cl L xs (CL L xs d) Q P) (hL : L ≤ 3072) (hi : i + 6 ≤ L) (hI : IN σ) (hn : ∀ σ', IN σ' → P 1597 (lsI i) [] σ') : P 338 (lsI i) [] σ :=
  w281_338 hC hp ((op_fault hd hI).k (fun p => p) (fun p q => q) hn)
theorem st_351 (hd : 20 ≤ d) (hp : l281_cl L xs (CL L xs d) Q P) (hL : L ≤ 3072) (hi : i + 6 ≤ L) (hI : IN σ) (hn : ∀ σ', IN σ' → P 1597 (lsI i) [] σ') : P 351 (lsI i) [] σ :=
  w281_351 hC hp ((op_where hd hI).k (fun p => p) (fun p q => q) hn)
theorem st_364 (hd : 20 ≤ d) (hp : l281_cl L xs (CL L xs d) Q P) (hL : L ≤ 3072) (hi : i + 6 ≤ L) (hI : IN σ) (hn : ∀ σ', IN σ' → P 1597 (lsI i) [] σ') : P 364 (lsI i) [] σ :=
  w281_364 hC hp (ixL (j := 1) (by omega) hL (ixL (j := 2) (by omega) hL ((op_slip hd hI).k (fun p => dm_ix (nI i + 1) L (dm_ix (nI i + 2) L (p))) (fun p q => ixL (j := 1) (by omega) hL (ixL (j := 2) (by omega) hL (q))) hn)))
theorem st_401 (hd : 20 ≤ d) (hp : l281_cl L xs (CL L xs d) Q P) (hL : L ≤ 3072) (hi : i + 6 ≤ L) (hI : IN σ) (hn : ∀ σ', IN σ' → P 1597 (lsI i) [] σ') : P 401 (lsI i) [] σ :=
  w281_401 hC hp (ixL (j := 1) (by omega) hL (ixL (j := 2) (by omega) hL ((op_step hd hI).k (fun p => dm_ix (nI i + 1) L (dm_ix (nI i + 2) L (p))) (fun p q => ixL (j := 1) (by omega) hL (ixL (j := 2) (by omega) hL (q))) hn)))
theorem st_438 (hd : 20 ≤ d) (hp : l281_cl L xs (CL L xs d) Q P) (hL : L ≤ 3072) (hi : i + 6 ≤ L) (hI : IN σ) (hn : ∀ σ', IN σ' → P 1597 (lsI i) [] σ') : P 438 (lsI i) [] σ :=
  w281_438 hC hp (ixL (j := 1) (by omega) hL (ixL (j := 2) (by omega) hL ((op_pers hd hI).k (fun p => dm_ix (nI i + 1) L (dm_ix (nI i + 2) L (p))) (fun p q => ixL (j := 1) (by omega) hL (ixL (j := 2) (by omega) hL (q))) hn)))
theorem st_475 (hd : 20 ≤ d) (hp : l281_cl L xs (CL L xs d) Q P) (hL : L ≤ 3072) (hi : i + 6 ≤ L) (hI : IN σ) (hn : ∀ σ', IN σ' → P 1597 (lsI i) [] σ') : P 475 (lsI i) [] σ :=
  w281_475 hC hp (ixL (j := 1) (by omega) hL (ixL (j := 2) (by omega) hL (ixL (j := 3) (by omega) hL (ixL (j := 4) (by omega) hL ((op_end hd hI).k (fun p => dm_ix (nI i + 1) L (dm_ix (nI i + 2) L (dm_ix (nI i + 3) L (dm_ix (nI i + 4) L (p))))) (fun p q => ixL (j := 1) (by omega) hL (ixL (j := 2) (by omega) hL (ixL (j := 3) (by omega) hL (ixL (j := 4) (by omega) hL (q))))) hn)))))
theorem st_536 (hd : 20 ≤ d) (hp : l281_cl L xs (CL L xs d) Q P) (hL : L ≤ 3072) (hi : i + 6 ≤ L) (hI : IN σ) (hn : ∀ σ', IN σ' → P 1597 (lsI i) [] σ') : P 536 (lsI i) [] σ :=
  w281_536 hC hp (ixL (j := 1) (by omega) hL (ixL (j := 2) (by omega) hL (ixL (j := 3) (by omega) hL (ixL (j := 4) (by omega) hL ((op_lev hd hI).k (fun p => dm_ix (nI i + 1) L (dm_ix (nI i + 2) L (dm_ix (nI i + 3) L (dm_ix (nI i + 4) L (p))))) (fun p q => ixL (j := 1) (by omega) hL (ixL (j := 2) (by omega) hL (ixL (j := 3) (by omega) hL (ixL (j := 4) (by omega) hL (q))))) hn)))))
theorem st_597 (hd : 20 ≤ d) (hp : l281_cl L xs (CL L xs d) Q P) (hL : L ≤ 3072) (hi : i + 6 ≤ L) (hI : IN σ) (hn : ∀ σ', IN σ' → P 1597 (lsI i) [] σ') : P 597 (lsI i) [] σ :=
  w281_597 hC hp (ixL (j := 1) (by omega) hL (ixL (j := 2) (by omega) hL (ixL (j := 3) (by omega) hL ((op_brk hd hI).k (fun p => dm_ix (nI i + 1) L (dm_ix (nI i + 2) L (dm_ix (nI i + 3) L (p)))) (fun p q => ixL (j := 1) (by omega) hL (ixL (j := 2) (by omega) hL (ixL (j := 3) (by omega) hL (q)))) hn))))
theorem st_646 (hd : 20 ≤ d) (hp : l281_cl L xs (CL L xs d) Q P) (hL : L ≤ 3072) (hi : i + 6 ≤ L) (hI : IN σ) (hn : ∀ σ', IN σ' → P 1597 (lsI i) [] σ') : P 646 (lsI i) [] σ :=
  w281_646 hC hp (ixL (j := 1) (by omega) hL (ixL (j := 2) (by omega) hL (ixL (j := 3) (by omega) hL ((op_harm hd hI).k (fun p => dm_ix (nI i + 1) L (dm_ix (nI i + 2) L (dm_ix (nI i + 3) L (p)))) (fun p q => ixL (j := 1) (by omega) hL (ixL (j := 2) (by omega) hL (ixL (j := 3) (by omega) hL (q)))) hn))))
theorem st_695 (hd : 20 ≤ d) (hp : l281_cl L xs (CL L xs d) Q P) (hL : L ≤ 3072) (hi : i + 6 ≤ L) (hI : IN σ) (hn : ∀ σ', IN σ' → P 1597 (lsI i) [] σ') : P 695 (lsI i) [] σ :=
  w281_695 hC hp (ixL (j := 1) (by omega) hL ((op_fits hd hI).k (fun p => dm_ix (nI i + 1) L (p)) (fun p q => ixL (j := 1) (by omega) hL (q)) hn))
theorem st_720 (hd : 20 ≤ d) (hp : l281_cl L xs (CL L xs d) Q P) (hL : L ≤ 3072) (hi : i + 6 ≤ L) (hI : IN σ) (hn : ∀ σ', IN σ' → P 1597 (lsI i) [] σ') : P 720 (lsI i) [] σ :=
  w281_720 hC hp (ixL (j := 1) (by omega) hL ((op_hless hd hI).k (fun p => dm_ix (nI i + 1) L (p)) (fun p q => ixL (j := 1) (by omega) hL (q)) hn))
theorem st_745 (hd : 20 ≤ d) (hp : l281_cl L xs (CL L xs d) Q P) (hL : L ≤ 3072) (hi : i + 6 ≤ L) (hI : IN σ) (hn : ∀ σ', IN σ' → P 1597 (lsI i) [] σ') : P 745 (lsI i) [] σ :=
  w281_745 hC hp (ixL (j := 1) (by omega) hL ((op_good hd hI).k (fun p => dm_ix (nI i + 1) L (p)) (fun p q => ixL (j := 1) (by omega) hL (q)) hn))
theorem st_770 (hd : 20 ≤ d) (hp : l281_cl L xs (CL L xs d) Q P) (hL : L ≤ 3072) (hi : i + 6 ≤ L) (hI : IN σ) (hn : ∀ σ', IN σ' → P 1597 (lsI i) [] σ') : P 770 (lsI i) [] σ := by
  refine w281_770 hC hp (ixL (j := 1) (by omega) hL (ixL (j := 2) (by omega) hL ?_))
  refine if_c (fun z => ?_) (fun z => ?_)
  · refine hC _ _ _ _ _ (fun r σ1 w => ?_) ((op_extr hd hI).k (Q := Q) (fun p => p) (fun p q => q) hn)
    obtain ⟨v, e, w⟩ := w
    exact ⟨v, e, ixL (j := 1) (by omega) hL (ixL (j := 2) (by omega) hL (if_y z w))⟩
  · refine hC _ _ _ _ _ (fun r σ1 w => ?_) ((op_extr hd hI).k (Q := Q) (fun p => p) (fun p q => q) hn)
    obtain ⟨v, e, w⟩ := w
    exact ⟨v, e, ixL (j := 1) (by omega) hL (ixL (j := 2) (by omega) hL (if_n z w))⟩
theorem st_823 (hd : 20 ≤ d) (hp : l281_cl L xs (CL L xs d) Q P) (hL : L ≤ 3072) (hi : i + 6 ≤ L) (hI : IN σ) (hn : ∀ σ', IN σ' → P 1597 (lsI i) [] σ') : P 823 (lsI i) [] σ :=
  w281_823 hC hp (ixL (j := 1) (by omega) hL ((op_cancels hd hI).k (fun p => dm_ix (nI i + 1) L (p)) (fun p q => ixL (j := 1) (by omega) hL (q)) hn))
theorem st_848 (hd : 20 ≤ d) (hp : l281_cl L xs (CL L xs d) Q P) (hL : L ≤ 3072) (hi : i + 6 ≤ L) (hI : IN σ) (hn : ∀ σ', IN σ' → P 1597 (lsI i) [] σ') : P 848 (lsI i) [] σ :=
  w281_848 hC hp (ixL (j := 1) (by omega) hL (ixL (j := 2) (by omega) hL ((op_cancel hd hI).k (fun p => dm_ix (nI i + 1) L (dm_ix (nI i + 2) L (p))) (fun p q => ixL (j := 1) (by omega) hL (ixL (j := 2) (by omega) hL (q))) hn)))
theorem st_885 (hd : 20 ≤ d) (hp : l281_cl L xs (CL L xs d) Q P) (hL : L ≤ 3072) (hi : i + 6 ≤ L) (hI : IN σ) (hn : ∀ σ', IN σ' → P 1597 (lsI i) [] σ') : P 885 (lsI i) [] σ :=
  w281_885 hC hp (ixL (j := 1) (by omega) hL ((op_worst hd hI).k (fun p => dm_ix (nI i + 1) L (p)) (fun p q => ixL (j := 1) (by omega) hL (q)) hn))
theorem st_910 (hd : 20 ≤ d) (hp : l281_cl L xs (CL L xs d) Q P) (hL : L ≤ 3072) (hi : i + 6 ≤ L) (hI : IN σ) (hn : ∀ σ', IN σ' → P 1597 (lsI i) [] σ') : P 910 (lsI i) [] σ :=
  w281_910 hC hp ((op_which hd hI).k (fun p => p) (fun p q => q) hn)
theorem st_923 (hd : 20 ≤ d) (hp : l281_cl L xs (CL L xs d) Q P) (hL : L ≤ 3072) (hi : i + 6 ≤ L) (hI : IN σ) (hn : ∀ σ', IN σ' → P 1597 (lsI i) [] σ') : P 923 (lsI i) [] σ :=
  w281_923 hC hp ((op_whichN hd hI).k (fun p => p) (fun p q => q) hn)
theorem st_936 (hd : 20 ≤ d) (hp : l281_cl L xs (CL L xs d) Q P) (hL : L ≤ 3072) (hi : i + 6 ≤ L) (hI : IN σ) (hn : ∀ σ', IN σ' → P 1597 (lsI i) [] σ') : P 936 (lsI i) [] σ :=
  w281_936 hC hp ((op_lik hd hI).k (fun p => p) (fun p q => q) hn)
theorem st_949 (hd : 20 ≤ d) (hp : l281_cl L xs (CL L xs d) Q P) (hL : L ≤ 3072) (hi : i + 6 ≤ L) (hI : IN σ) (hn : ∀ σ', IN σ' → P 1597 (lsI i) [] σ') : P 949 (lsI i) [] σ :=
  w281_949 hC hp (ixL (j := 1) (by omega) hL ((op_look hd hI).k (fun p => dm_ix (nI i + 1) L (p)) (fun p q => ixL (j := 1) (by omega) hL (q)) hn))
theorem st_974 (hd : 20 ≤ d) (hp : l281_cl L xs (CL L xs d) Q P) (hL : L ≤ 3072) (hi : i + 6 ≤ L) (hI : IN σ) (hn : ∀ σ', IN σ' → P 1597 (lsI i) [] σ') : P 974 (lsI i) [] σ :=
  w281_974 hC hp (ixL (j := 1) (by omega) hL ((op_lookM hd hI).k (fun p => dm_ix (nI i + 1) L (p)) (fun p q => ixL (j := 1) (by omega) hL (q)) hn))
theorem st_999 (hd : 20 ≤ d) (hp : l281_cl L xs (CL L xs d) Q P) (hL : L ≤ 3072) (hi : i + 6 ≤ L) (hI : IN σ) (hn : ∀ σ', IN σ' → P 1597 (lsI i) [] σ') : P 999 (lsI i) [] σ :=
  w281_999 hC hp (ixL (j := 1) (by omega) hL ((op_bears hd hI).k (fun p => dm_ix (nI i + 1) L (p)) (fun p q => ixL (j := 1) (by omega) hL (q)) hn))
theorem st_1024 (hd : 20 ≤ d) (hp : l281_cl L xs (CL L xs d) Q P) (hL : L ≤ 3072) (hi : i + 6 ≤ L) (hI : IN σ) (hn : ∀ σ', IN σ' → P 1597 (lsI i) [] σ') : P 1024 (lsI i) [] σ :=
  w281_1024 hC hp (ixL (j := 1) (by omega) hL ((op_made hd hI).k (fun p => dm_ix (nI i + 1) L (p)) (fun p q => ixL (j := 1) (by omega) hL (q)) hn))
theorem st_1049 (hd : 20 ≤ d) (hp : l281_cl L xs (CL L xs d) Q P) (hL : L ≤ 3072) (hi : i + 6 ≤ L) (hI : IN σ) (hn : ∀ σ', IN σ' → P 1597 (lsI i) [] σ') : P 1049 (lsI i) [] σ :=
  w281_1049 hC hp (ixL (j := 1) (by omega) hL (ixL (j := 2) (by omega) hL ((op_madeAt hd hI).k (fun p => dm_ix (nI i + 1) L (dm_ix (nI i + 2) L (p))) (fun p q => ixL (j := 1) (by omega) hL (ixL (j := 2) (by omega) hL (q))) hn)))
theorem st_1086 (hd : 20 ≤ d) (hp : l281_cl L xs (CL L xs d) Q P) (hL : L ≤ 3072) (hi : i + 6 ≤ L) (hI : IN σ) (hn : ∀ σ', IN σ' → P 1597 (lsI i) [] σ') : P 1086 (lsI i) [] σ :=
  w281_1086 hC hp ((op_apart hd hI).k (fun p => p) (fun p q => q) hn)
theorem st_1099 (hd : 20 ≤ d) (hp : l281_cl L xs (CL L xs d) Q P) (hL : L ≤ 3072) (hi : i + 6 ≤ L) (hI : IN σ) (hn : ∀ σ', IN σ' → P 1597 (lsI i) [] σ') : P 1099 (lsI i) [] σ :=
  w281_1099 hC hp ((op_copies hd hI).k (fun p => p) (fun p q => q) hn)
theorem st_1112 (hd : 20 ≤ d) (hp : l281_cl L xs (CL L xs d) Q P) (hL : L ≤ 3072) (hi : i + 6 ≤ L) (hI : IN σ) (hn : ∀ σ', IN σ' → P 1597 (lsI i) [] σ') : P 1112 (lsI i) [] σ :=
  w281_1112 hC hp (ixL (j := 1) (by omega) hL ((op_worth hd hI).k (fun p => dm_ix (nI i + 1) L (p)) (fun p q => ixL (j := 1) (by omega) hL (q)) hn))
theorem st_1137 (hd : 20 ≤ d) (hp : l281_cl L xs (CL L xs d) Q P) (hL : L ≤ 3072) (hi : i + 6 ≤ L) (hI : IN σ) (hn : ∀ σ', IN σ' → P 1597 (lsI i) [] σ') : P 1137 (lsI i) [] σ :=
  w281_1137 hC hp ((op_lending hd hI).k (fun p => p) (fun p q => q) hn)
theorem st_1150 (hd : 20 ≤ d) (hp : l281_cl L xs (CL L xs d) Q P) (hL : L ≤ 3072) (hi : i + 6 ≤ L) (hI : IN σ) (hn : ∀ σ', IN σ' → P 1597 (lsI i) [] σ') : P 1150 (lsI i) [] σ :=
  w281_1150 hC hp (ixL (j := 1) (by omega) hL ((op_weekOf hd hI).k (fun p => dm_ix (nI i + 1) L (p)) (fun p q => ixL (j := 1) (by omega) hL (q)) hn))
theorem st_1175 (hd : 20 ≤ d) (hp : l281_cl L xs (CL L xs d) Q P) (hL : L ≤ 3072) (hi : i + 6 ≤ L) (hI : IN σ) (hn : ∀ σ', IN σ' → P 1597 (lsI i) [] σ') : P 1175 (lsI i) [] σ :=
  w281_1175 hC hp (ixL (j := 1) (by omega) hL (ixL (j := 2) (by omega) hL ((op_rests hd hI).k (fun p => dm_ix (nI i + 1) L (dm_ix (nI i + 2) L (p))) (fun p q => ixL (j := 1) (by omega) hL (ixL (j := 2) (by omega) hL (q))) hn)))
theorem st_1212 (hd : 20 ≤ d) (hp : l281_cl L xs (CL L xs d) Q P) (hL : L ≤ 3072) (hi : i + 6 ≤ L) (hI : IN σ) (hn : ∀ σ', IN σ' → P 1597 (lsI i) [] σ') : P 1212 (lsI i) [] σ :=
  w281_1212 hC hp (ixL (j := 1) (by omega) hL (ixL (j := 2) (by omega) hL ((op_rest hd hI).k (fun p => dm_ix (nI i + 1) L (dm_ix (nI i + 2) L (p))) (fun p q => ixL (j := 1) (by omega) hL (ixL (j := 2) (by omega) hL (q))) hn)))
theorem st_1249 (hd : 20 ≤ d) (hp : l281_cl L xs (CL L xs d) Q P) (hL : L ≤ 3072) (hi : i + 6 ≤ L) (hI : IN σ) (hn : ∀ σ', IN σ' → P 1597 (lsI i) [] σ') : P 1249 (lsI i) [] σ :=
  w281_1249 hC hp (ixL (j := 1) (by omega) hL (ixL (j := 2) (by omega) hL ((op_dec hd hI).k (fun p => dm_ix (nI i + 1) L (dm_ix (nI i + 2) L (p))) (fun p q => ixL (j := 1) (by omega) hL (ixL (j := 2) (by omega) hL (q))) hn)))
theorem st_1286 (hd : 20 ≤ d) (hp : l281_cl L xs (CL L xs d) Q P) (hL : L ≤ 3072) (hi : i + 6 ≤ L) (hI : IN σ) (hn : ∀ σ', IN σ' → P 1597 (lsI i) [] σ') : P 1286 (lsI i) [] σ :=
  w281_1286 hC hp (ixL (j := 1) (by omega) hL ((op_who hd hI).k (fun p => dm_ix (nI i + 1) L (p)) (fun p q => ixL (j := 1) (by omega) hL (q)) hn))
theorem st_1311 (hd : 20 ≤ d) (hp : l281_cl L xs (CL L xs d) Q P) (hL : L ≤ 3072) (hi : i + 6 ≤ L) (hI : IN σ) (hn : ∀ σ', IN σ' → P 1597 (lsI i) [] σ') : P 1311 (lsI i) [] σ :=
  w281_1311 hC hp ((op_over hd hI).k (fun p => p) (fun p q => q) hn)
theorem st_1324 (hd : 20 ≤ d) (hp : l281_cl L xs (CL L xs d) Q P) (hL : L ≤ 3072) (hi : i + 6 ≤ L) (hI : IN σ) (hn : ∀ σ', IN σ' → P 1597 (lsI i) [] σ') : P 1324 (lsI i) [] σ :=
  w281_1324 hC hp (ixL (j := 1) (by omega) hL (ixL (j := 2) (by omega) hL ((op_lend hd hI).k (fun p => dm_ix (nI i + 1) L (dm_ix (nI i + 2) L (p))) (fun p q => ixL (j := 1) (by omega) hL (ixL (j := 2) (by omega) hL (q))) hn)))
theorem st_1361 (hd : 20 ≤ d) (hp : l281_cl L xs (CL L xs d) Q P) (hL : L ≤ 3072) (hi : i + 6 ≤ L) (hI : IN σ) (hn : ∀ σ', IN σ' → P 1597 (lsI i) [] σ') : P 1361 (lsI i) [] σ := by
  refine w281_1361 hC hp (ixL (j := 1) (by omega) hL (ixL (j := 2) (by omega) hL ?_))
  refine if_c (fun z => ?_) (fun z => ?_)
  · refine hC _ _ _ _ _ (fun r σ1 w => ?_) ((op_bring hd hI).k (Q := Q) (fun p => p) (fun p q => q) hn)
    obtain ⟨v, e, w⟩ := w
    exact ⟨v, e, ixL (j := 1) (by omega) hL (ixL (j := 2) (by omega) hL (if_y z w))⟩
  · refine hC _ _ _ _ _ (fun r σ1 w => ?_) ((op_bring hd hI).k (Q := Q) (fun p => p) (fun p q => q) hn)
    obtain ⟨v, e, w⟩ := w
    exact ⟨v, e, ixL (j := 1) (by omega) hL (ixL (j := 2) (by omega) hL (if_n z w))⟩
theorem st_1414 (hd : 20 ≤ d) (hp : l281_cl L xs (CL L xs d) Q P) (hL : L ≤ 3072) (hi : i + 6 ≤ L) (hI : IN σ) (hn : ∀ σ', IN σ' → P 1597 (lsI i) [] σ') : P 1414 (lsI i) [] σ :=
  w281_1414 hC hp (ixL (j := 1) (by omega) hL ((op_clean hd hI).k (fun p => dm_ix (nI i + 1) L (p)) (fun p q => ixL (j := 1) (by omega) hL (q)) hn))
theorem st_1439 (hd : 20 ≤ d) (hp : l281_cl L xs (CL L xs d) Q P) (hL : L ≤ 3072) (hi : i + 6 ≤ L) (hI : IN σ) (hn : ∀ σ', IN σ' → P 1597 (lsI i) [] σ') : P 1439 (lsI i) [] σ :=
  w281_1439 hC hp ((op_week hd hI).k (fun p => p) (fun p q => q) hn)
theorem st_1452 (hd : 20 ≤ d) (hp : l281_cl L xs (CL L xs d) Q P) (hL : L ≤ 3072) (hi : i + 6 ≤ L) (hI : IN σ) (hn : ∀ σ', IN σ' → P 1597 (lsI i) [] σ') : P 1452 (lsI i) [] σ :=
  w281_1452 hC hp ((op_undo hd hI).k (fun p => p) (fun p q => q) hn)
theorem st_1465 (hd : 20 ≤ d) (hp : l281_cl L xs (CL L xs d) Q P) (hL : L ≤ 3072) (hi : i + 6 ≤ L) (hI : IN σ) (hn : ∀ σ', IN σ' → P 1597 (lsI i) [] σ') : P 1465 (lsI i) [] σ :=
  w281_1465 hC hp ((op_image hd hI).k (fun p => p) (fun p q => q) hn)
theorem st_1478 (hd : 20 ≤ d) (hp : l281_cl L xs (CL L xs d) Q P) (hL : L ≤ 3072) (hi : i + 6 ≤ L) (hI : IN σ) (hn : ∀ σ', IN σ' → P 1597 (lsI i) [] σ') : P 1478 (lsI i) [] σ :=
  w281_1478 hC hp (ixL (j := 1) (by omega) hL ((op_back hd hI).k (fun p => dm_ix (nI i + 1) L (p)) (fun p q => ixL (j := 1) (by omega) hL (q)) hn))
theorem st_1559 (hd : 20 ≤ d) (hp : l281_cl L xs (CL L xs d) Q P) (hL : L ≤ 3072) (hi : i + 6 ≤ L) (hI : IN σ) (hn : ∀ σ', IN σ' → P 1597 (lsI i) [] σ') : P 1559 (lsI i) [] σ :=
  w281_1559 hC hp (ixL (j := 1) (by omega) hL ((op_size hd hI).k (fun p => dm_ix (nI i + 1) L (p)) (fun p q => ixL (j := 1) (by omega) hL (q)) hn))
theorem st_1584 (hd : 20 ≤ d) (hp : l281_cl L xs (CL L xs d) Q P) (hL : L ≤ 3072) (hi : i + 6 ≤ L) (hI : IN σ) (hn : ∀ σ', IN σ' → P 1597 (lsI i) [] σ') : P 1584 (lsI i) [] σ :=
  w281_1584 hC hp ((op_troub hd hI).k (fun p => p) (fun p q => q) hn)
theorem law_step (hd : 20 ≤ d) (hp : l281_cl L xs (CL L xs d) Q P) (hL : L ≤ 3072) (hi : i + 6 ≤ L) (hI : IN σ) (hl : ∀ σ, IN σ → P 1511 (lsI i) [vr 80 0, vi (xs ((nI i + 1).toNatClampNeg)), vr 12 0] σ) (hx : ∀ σ', IN σ' → P 23 (lsI (i + 6)) [] σ') : P 23 (lsI i) [] σ := by
  have hn : ∀ σ', IN σ' → P 1597 (lsI i) [] σ' := fun σ' h => w281_1597 hC hp (by
    have e : nI i + 6 = nI (i + 6) := nI_add i 6
    rw [e]; exact hx σ' h)
  refine w281_23 hC hp ?_
  refine if_n ?_ (ix_k (by omega) (by omega) ?_)
  · rw [show (6 : Int32) = nI 6 from rfl, nI_sub (by omega)]
    exact nI_nlt (by omega) (by omega)
  exact if_c (fun _ => st_240 hd hp hL hi hI hn) (fun _ => if_c (fun _ => st_313 hd hp hL hi hI hn) (fun _ => if_c (fun _ => st_338 hd hp hL hi hI hn) (fun _ => if_c (fun _ => st_351 hd hp hL hi hI hn) (fun _ => if_c (fun _ => st_364 hd hp hL hi hI hn) (fun _ => if_c (fun _ => st_401 hd hp hL hi hI hn) (fun _ => if_c (fun _ => st_438 hd hp hL hi hI hn) (fun _ => if_c (fun _ => st_475 hd hp hL hi hI hn) (fun _ => if_c (fun _ => st_536 hd hp hL hi hI hn) (fun _ => if_c (fun _ => st_597 hd hp hL hi hI hn) (fun _ => if_c (fun _ => st_646 hd hp hL hi hI hn) (fun _ => if_c (fun _ => st_695 hd hp hL hi hI hn) (fun _ => if_c (fun _ => st_720 hd hp hL hi hI hn) (fun _ => if_c (fun _ => st_745 hd hp hL hi hI hn) (fun _ => if_c (fun _ => st_770 hd hp hL hi hI hn) (fun _ => if_c (fun _ => st_823 hd hp hL hi hI hn) (fun _ => if_c (fun _ => st_848 hd hp hL hi hI hn) (fun _ => if_c (fun _ => st_885 hd hp hL hi hI hn) (fun _ => if_c (fun _ => st_910 hd hp hL hi hI hn) (fun _ => if_c (fun _ => st_923 hd hp hL hi hI hn) (fun _ => if_c (fun _ => st_936 hd hp hL hi hI hn) (fun _ => if_c (fun _ => st_949 hd hp hL hi hI hn) (fun _ => if_c (fun _ => st_974 hd hp hL hi hI hn) (fun _ => if_c (fun _ => st_999 hd hp hL hi hI hn) (fun _ => if_c (fun _ => st_1024 hd hp hL hi hI hn) (fun _ => if_c (fun _ => st_1049 hd hp hL hi hI hn) (fun _ => if_c (fun _ => st_1086 hd hp hL hi hI hn) (fun _ => if_c (fun _ => st_1099 hd hp hL hi hI hn) (fun _ => if_c (fun _ => st_1112 hd hp hL hi hI hn) (fun _ => if_c (fun _ => st_1137 hd hp hL hi hI hn) (fun _ => if_c (fun _ => st_1150 hd hp hL hi hI hn) (fun _ => if_c (fun _ => st_1175 hd hp hL hi hI hn) (fun _ => if_c (fun _ => st_1212 hd hp hL hi hI hn) (fun _ => if_c (fun _ => st_1249 hd hp hL hi hI hn) (fun _ => if_c (fun _ => st_1286 hd hp hL hi hI hn) (fun _ => if_c (fun _ => st_1311 hd hp hL hi hI hn) (fun _ => if_c (fun _ => st_1324 hd hp hL hi hI hn) (fun _ => if_c (fun _ => st_1361 hd hp hL hi hI hn) (fun _ => if_c (fun _ => st_1414 hd hp hL hi hI hn) (fun _ => if_c (fun _ => st_1439 hd hp hL hi hI hn) (fun _ => if_c (fun _ => st_1452 hd hp hL hi hI hn) (fun _ => if_c (fun _ => st_1465 hd hp hL hi hI hn) (fun _ => if_c (fun _ => st_1478 hd hp hL hi hI hn) (fun _ => if_c (fun _ => w281_1503 hC hp (ixL (j := 1) (by omega) hL (hl σ hI))) (fun _ => if_c (fun _ => st_1559 hd hp hL hi hI hn) (fun _ => if_c (fun _ => st_1584 hd hp hL hi hI hn) (fun _ => hn σ hI))))))))))))))))))))))))))))))))))))))))))))))
theorem law_end (hp : l281_cl L xs (CL L xs d) Q P) (hL : L ≤ 3072) (hi : L < i + 6) (hi2 : i ≤ 3072) (q : Q (some (vi 1)) σ) : P 23 (lsI i) [] σ := by
  refine w281_23 hC hp (if_y ?_ q)
  rw [Int32.lt_iff_toInt_lt, Int32.toInt_sub, nI_toInt (by omega), nI_toInt (by omega)]
  have : (6 : Int32).toInt = 6 := rfl
  rw [this, Int.bmod_eq_of_le (by omega) (by omega)]
  omega
theorem wJ_48 {z : Int64} : ∀ k, k < 10 → (m2_wJ σ 80 0 0 z).2.1 48 0 k = σ.2.1 48 0 k := fun k _ => by
  show (if 48 = 80 ∧ 0 = 0 ∧ k = 0 then z else σ.2.1 48 0 k) = _
  rw [if_neg (by omega)]
theorem IN.wJ (hI : IN σ) {z : Int64} : IN (m2_wJ σ 80 0 0 z) := by
  obtain ⟨μ, b, fd, n, m, h, R, r, H, I, T, tr, fa, pl, c, mi, p⟩ := hI
  exact ⟨μ, b, fd, n, m, h, R, r, H, I, T, tr, fa, pl, c.kc (σ' := m2_wJ σ 80 0 0 _) (fun _ _ _ _ => rfl) rfl wJ_48 c.tr id, mi.km (σ' := m2_wJ σ 80 0 0 _) (fun _ _ _ _ => rfl) mi.tr id, p⟩
/-- led: what the class finds, and what comes of it -/
theorem law_led (hd : 20 ≤ d) (hp : l281_cl L xs (CL L xs d) Q P) (hL : L ≤ 3072) (hi : i + 6 ≤ L) (hI : IN σ) (hx : ∀ σ', IN σ' → P 23 (lsI (i + 6)) [] σ') : ∃ (μ : Nat) (R r : Nat → Int32) (C : Nat → Bool), cX σ μ R C ∧ (gN R 7 ≠ 0 → dkS σ.1 0 r ∧ okD R r) ∧ (∀ s, k_led R r (xs ((nI i + 1).toNatClampNeg)) = .inr s → P 1514 (lsI i) [vi 0] (m2_wJ σ 80 0 0 (nI s).toInt64)) ∧ (∀ c, k_led R r (xs ((nI i + 1).toNatClampNeg)) = .inl c → P 1514 (lsI i) [vi 1] σ) := by
  have hn : ∀ σ', IN σ' → P 1597 (lsI i) [] σ' := fun σ' h => w281_1597 hC hp (by
    have e : nI i + 6 = nI (i + 6) := nI_add i 6
    rw [e]; exact hx σ' h)
  have hJ : ∀ z, IN (m2_wJ σ 80 0 0 z) := fun z => hI.wJ
  obtain ⟨μ, b, fd, n, m, h, R, r, H, I, T, tr, fa, pl, c, mi, p⟩ := hI
  have op : gN R 7 ≠ 0 → h = true := fun w => by
    cases e : h
    · exact absurd (by show (R 7).toNatClampNeg = 0; rw [(p.nz e).2.2.2.1 7 (by omega)]; rfl) w
    · rfl
  have on : onM gTh := fun t i k w => by
    unfold gTh at w
    simp only [Bool.and_eq_true, beq_iff_eq] at w
    omega
  have keep : ∀ {σ1 σ2 : M2}, CI σ1 μ b fd n m h R r H I T tr fa pl → MI σ1 b fd n m h R r H I T tr fa pl → fr gTh σ1 σ2 → IN σ2 := by
    intro σ1 σ2 c mi f
    refine ⟨μ, b, fd, n, m, h, R, r, H, I, T, tr, fa, pl, c.om on f, mi.km (fun t i k w => f.1 t i k ?_) ((f.1 13 0 11 rfl).trans mi.tr) id, p⟩
    unfold kM at w
    unfold gTh
    simp only [Bool.or_eq_true, Bool.and_eq_true, beq_iff_eq] at w
    simp only [Bool.and_eq_false_iff, beq_eq_false_iff_ne, ne_eq]
    omega
  refine ⟨μ, R, r, _, c.x, fun w => ⟨c.dk (op w), (p.ok (op w)).1⟩, fun s e => ?_, fun k e => ?_⟩
  · have c1 : CI (m2_wJ σ 80 0 0 (nI s).toInt64) μ b fd n m h R r H I T tr fa pl := c.kc (σ' := m2_wJ σ 80 0 0 _) (fun _ _ _ _ => rfl) rfl wJ_48 c.tr id
    have m1 : MI (m2_wJ σ 80 0 0 (nI s).toInt64) b fd n m h R r H I T tr fa pl := mi.km (σ' := m2_wJ σ 80 0 0 _) (fun _ _ _ _ => rfl) mi.tr id
    have j1 : (m2_wJ σ 80 0 0 (nI s).toInt64).2.1 80 0 0 = (nI s).toInt64 := wJ_same
    generalize m2_wJ σ 80 0 0 (nI s).toInt64 = σ1 at *
    refine w281_1514 hC hp (ixL (j := 1) (by omega) hL ?_)
    refine o276 (by omega) m1.y m1.rw (fun w => (p.ok (op w)).1) (fun c e' => ?_) (fun s' e' σ2 f2 t2 => ⟨_, rfl, ?_⟩)
    · rw [e] at e'; cases e'
    · rw [e] at e'; cases e'
      refine cl_at p149 (by omega) (w149_0 hC ⟨_, rfl, ?_⟩)
      rw [t2]
      refine if_y rfl (if_y rfl (if_y ?_ (hn σ2 (keep c1 m1 f2))))
      rw [f2.2, j1]; exact lg_0.mpr rfl
  · refine w281_1514 hC hp (ixL (j := 1) (by omega) hL ?_)
    refine o276 (by omega) mi.y mi.rw (fun w => (p.ok (op w)).1) (fun c' e' σ2 f2 t2 => ⟨_, rfl, ?_⟩) (fun s' e' => ?_)
    · refine cl_at p149 (by omega) (w149_0 hC ⟨_, rfl, ?_⟩)
      rw [t2]
      exact if_y rfl (if_n (by decide) (hn σ2 (keep c mi f2)))
    · rw [e] at e'; cases e'
end LST
