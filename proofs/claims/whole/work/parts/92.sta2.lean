/-! THE START, whole: addresses, what is always there, the classes -/
set_option maxHeartbeats 4000000 in
theorem st_all {s : State} {b L : Nat} {xs : Nat → Int32} (hts : ∀ w ∈ lw_tbl, w.before #[Value.ref b] s = true) (hgv : (Jvm.Cond.and given_1 narrow_1).before #[Value.ref b] s = true) (hX : va_X b L xs s s.heap) (hbl : b < s.heap.size) :
    ∃ (ad : Nat → Nat → Nat) (adV : Nat → Nat) (D : va_G) (dA : FieldType → ClassId), m2_adok ad s.heap.size ∧ ad 93 0 = b ∧ dm_StX ad adV s.heap.size L xs s s.heap ∧ va_K D vwCl (dm_tys dA) s := by
  have hn : ∀ w ∈ nrw, w.before #[Value.ref b] s = true := flat_of_before _ hgv
  have hA : ∀ a : Nat, a < s.heap.size → ¬ (fun q => s.heap.size ≤ q) a := fun a h => Nat.not_le.mpr h
  obtain ⟨aR, hR, hRX, hRl⟩ := st_arr (t := stR) (N := 9) (f := fun j => m2_room.getD j 0) (by decide) (hn _ st_room.1) (hn _ st_room.2.1) (fun j hj => hn _ (st_room.2.2 j hj))
  obtain ⟨adK, adV, hS, hSe⟩ := st_S (args := #[Value.ref b]) (s := s) (N := 29) (tm := stT) (len := dm_lens) (byt := dm_strl) (A := fun q => s.heap.size ≤ q) (fun i hi => by have := st_len i hi; omega)
    (fun i hi => hn _ (st_W hi (List.mem_append_left _ List.mem_cons_self))) (fun i hi => hn _ (st_W hi (List.mem_append_left _ (List.mem_cons_of_mem _ List.mem_cons_self))))
    (fun i hi => hn _ (st_W hi (List.mem_append_left _ (List.mem_cons_of_mem _ (List.mem_cons_of_mem _ List.mem_cons_self))))) (fun i hi => hn _ (st_W hi (List.mem_append_left _ (List.mem_cons_of_mem _ (List.mem_cons_of_mem _ (List.mem_cons_of_mem _ List.mem_cons_self))))))
    (fun i hi j hj => hn _ (st_W hi (List.mem_append_right _ (List.mem_map.mpr ⟨j, List.mem_range.mpr hj, rfl⟩)))) st_dist hA
  obtain ⟨D, dA, hK⟩ := st_K hts
  obtain ⟨ad, h90, h92, h93, hok⟩ : ∃ ad : Nat → Nat → Nat, ad 90 = adK ∧ ad 92 0 = aR ∧ ad 93 0 = b ∧ m2_adok ad s.heap.size := by
    refine ⟨fun t i => if t = 90 then adK i else if t = 92 then aR else if t = 93 then b else if t = 100 then s.heap.size + i else s.heap.size + m2_pos t i, funext fun i => if_pos rfl, ?_, ?_, fun k => ?_, fun t i ht hi => ?_⟩
    · show (if (92 : Nat) = 90 then adK 0 else if (92 : Nat) = 92 then aR else _) = aR
      rw [if_neg (by decide), if_pos rfl]
    · show (if (93 : Nat) = 90 then adK 0 else if (93 : Nat) = 92 then aR else if (93 : Nat) = 93 then b else _) = b
      rw [if_neg (by decide), if_neg (by decide), if_pos rfl]
    · show (if (100 : Nat) = 90 then adK k else if (100 : Nat) = 92 then aR else if (100 : Nat) = 93 then b else if (100 : Nat) = 100 then s.heap.size + k else _) = s.heap.size + k
      rw [if_neg (by decide), if_neg (by decide), if_neg (by decide), if_pos rfl]
    · show (if t = 90 then adK i else if t = 92 then aR else if t = 93 then b else if t = 100 then s.heap.size + i else s.heap.size + m2_pos t i) = s.heap.size + m2_pos t i
      rw [if_neg (by omega), if_neg (by omega), if_neg (by omega), if_neg (by omega)]
  have hhi : ∀ c, ¬ c < 16 → dm_sl c = [] ∧ dm_cl c = [] := fun c hc => ⟨(dm_flhi c (by omega)).2.2.2.2, (dm_flhi c (by omega)).2.2.2.1⟩
  refine ⟨ad, adV, D, dA, hok, h93, ⟨⟨?_, ?_, ?_, ?_, ?_, ⟨?_, ?_, ?_⟩, ?_, ?_⟩, ?_, ?_, ?_⟩, hK⟩
  · rw [h92]; exact ⟨hRX, Nat.not_le.mpr hRl⟩
  · rw [h93]; exact ⟨hX, Nat.not_le.mpr hbl⟩
  · rw [h92]; exact va_Zof (hts _ st_lay.1) (hts _ st_ini.1) hR hA
  · intro c e he hb
    by_cases hc : c < 16
    · exact va_Nw.of rfl (hts _ (st_sl c hc e he hb))
    · rw [(hhi c hc).1] at he; cases he
  · intro c e j he hj
    by_cases hc : c < 16
    · have h9 := st_clj c hc e he
      rw [hj] at h9
      have hj29 : j < 29 := of_decide_eq_true h9
      obtain ⟨h1, h2⟩ := st_cl hc he hj29 (by rw [hj]; show (Nat.beq 90 90 && Nat.beq j j) = true; rw [Nat.beq_refl, Nat.beq_refl]; rfl)
      refine vk_R.of (hts _ h1) ?_
      rw [h90]
      rcases h2 with h2 | ⟨h2, q, hq, h3⟩
      · have e9 : stT j = .string (dm_cn c) e.1 := by unfold stT; rw [← h2]
        rw [← e9]
        exact hSe j hj29
      · have hw := hn _ (List.mem_of_getElem? (st_eqs q hq))
        rw [h3] at hw
        obtain ⟨y, y1, y2⟩ := Cond.eq_one hw
        rw [h2]
        exact y2.trans (y1.symm.trans (hSe j hj29))
    · rw [(hhi c hc).2] at he; cases he
  · rw [h90]; exact hS
  · exact va_Zof (hts _ st_lay.2.1) (hts _ st_ini.2.1) (va_eqt (hn _ st_stat.1)) hA
  · exact va_Zqof (hts _ st_lay.2.2.1) (hts _ st_ini.2.2.1) (hn _ st_stat.2.1) hA
  · exact fun c e he h => va_Nw.of rfl (hts _ (List.mem_of_getElem? h))
  · intro C hC
    have h := st_ao _ hC
    exact va_AO.of (hts _ (of_decide_eq_true h))
  · exact vx_Zqof (hts _ st_lay.2.2.2.1) (hts _ st_ini.2.2.2) (hn _ st_stat.2.2.1) hA
  · exact vx_Zqof (hts _ st_lay.2.2.2.2) (hts _ st_ini.2.2.2) (hn _ st_stat.2.2.2) hA
  · exact fun w hw => va_Nw.of (dc_tab (ledB_dc w hw)) (hts _ (ledB_in w hw))
