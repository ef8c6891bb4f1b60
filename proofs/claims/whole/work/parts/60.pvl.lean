/-! EACH LINE keeps what is read in order -/
section PVL
variable {T : Nat → Nat} {n c : Nat} {F F' : Nat → Int32} {N N' : Nat → Nat} {c' : Nat}
theorem NV.th (h : NV F N) {v : Nat} (hv : 0 + v ≤ 4) (hn : N (0 + v) ≠ 0) : v < gN F 4 := by
  have s := slots (0 + v) (by omega)
  have e := s.1.mpr (by omega)
  have k := (h (0 + v) (by omega)).mp hn
  rw [e, s.2.2.2.2.2.1 e] at k
  have k : 0 + v - 0 < gN F 4 := k
  clear s
  omega
theorem NV.de (h : NV F N) {v : Nat} (hv : 5 + v ≤ 12) (hn : N (5 + v) ≠ 0) : v < gN F 5 := by
  have s := slots (5 + v) (by omega)
  have e := s.2.1.mpr (by omega)
  have k := (h (5 + v) (by omega)).mp hn
  rw [e, s.2.2.2.2.2.2.1 e] at k
  have k : 5 + v - 5 < gN F 5 := k
  clear s
  omega
theorem NV.pl (h : NV F N) {v : Nat} (hv : 13 + v ≤ 16) (hn : N (13 + v) ≠ 0) : v < gN F 6 := by
  have s := slots (13 + v) (by omega)
  have e := s.2.2.1.mpr (by omega)
  have k := (h (13 + v) (by omega)).mp hn
  rw [e, s.2.2.2.2.2.2.2.1 e] at k
  have k : 13 + v - 13 < gN F 6 := k
  clear s
  omega
theorem NV.sl (h : NV F N) {v : Nat} (hv : 17 + v ≤ 23) (hn : N (17 + v) ≠ 0) : v < gN F 7 := by
  have s := slots (17 + v) (by omega)
  have e := s.2.2.2.1.mpr (by omega)
  have k := (h (17 + v) (by omega)).mp hn
  rw [e, s.2.2.2.2.2.2.2.2.1 e] at k
  have k : 17 + v - 17 < gN F 7 := k
  clear s
  omega
theorem NV.ma (h : NV F N) {v : Nat} (hv : 24 + v ≤ 27) (hn : N (24 + v) ≠ 0) : v < gN F 8 := by
  have s := slots (24 + v) (by omega)
  have e := s.2.2.2.2.1.mpr (by omega)
  have k := (h (24 + v) (by omega)).mp hn
  rw [e, s.2.2.2.2.2.2.2.2.2.1 e] at k
  have k : 24 + v - 24 < gN F 8 := k
  clear s
  omega
theorem upN_o {s x i : Nat} (h : i ≠ s) : upN N s x i = N i := if_neg h
theorem vpn {a b : Nat} (h : a < b) (hb : b < 2 ^ 31) : vp_in (nI a) b := vp_in_nI h hb
theorem lMus_pv (hP : PV F N) (hc : c ≤ n) (h : lMus T n F N c = .inr (c', F', N')) : PV F' N' ∧ c ≤ c' ∧ c' ≤ n ∧ F' 0 ≠ 0 := by
  unfold lMus at h
  have e1 := nx_le (T := T) hc
  obtain ⟨-, h⟩ := pW_i h
  have e2 := nx_le (T := T) e1.2
  obtain ⟨w, w1, w2, h⟩ := pN_i h
  have e3 := nx_le (T := T) e2.2
  obtain ⟨-, h⟩ := pW_i h
  have e4 := nx_le (T := T) e3.2
  obtain ⟨b, b1, b2, h⟩ := pN_i h
  have e5 := nx_le (T := T) e4.2
  obtain ⟨-, h⟩ := pW_i h
  have e6 := nx_le (T := T) e5.2
  obtain ⟨f, f1, f2, h⟩ := pN_i h
  have e7 := nx_le (T := T) e6.2
  obtain ⟨-, h⟩ := pW_i h
  have e8 := nx_le (T := T) e7.2
  obtain ⟨g, g1, g2, h⟩ := pN_i h
  cases h
  obtain ⟨⟨q1, q2, q3, q4, q5, q6, q7, q8, q9⟩, nv, dn, j1, j2⟩ := hP
  have E : ∀ x y, 4 ≤ x → agF F (updR (updR (updR (updR F 1 (nI b)) 2 (nI f)) 3 (nI g)) 0 (nI w)) x y := fun x y h0 k h1 h2 => by rw [updR_ne (by omega), updR_ne (by omega), updR_ne (by omega), updR_ne (by omega)]
  refine ⟨⟨⟨k1.cg (E 4 11 (by omega)) q1, ⟨?_, ?_, ?_, ?_, ?_⟩, k3.cg q1 (E _ _ (by omega)) (E 4 11 (by omega) 4 (by omega) (by omega)) q3, k4.cg q1 (E _ _ (by omega)) (E 4 11 (by omega) 10 (by omega) (by omega)) (Nat.le_of_eq (gN_eq (E 4 11 (by omega) 4 (by omega) (by omega))).symm) q4, k5.cg q1 (E _ _ (by omega)) (E 4 11 (by omega) 5 (by omega) (by omega)) (Nat.le_of_eq (gN_eq (E 4 11 (by omega) 4 (by omega) (by omega))).symm) q5, k6.cg q1 (E _ _ (by omega)) (E 4 11 (by omega) 6 (by omega) (by omega)) (Nat.le_of_eq (gN_eq (E 4 11 (by omega) 5 (by omega) (by omega))).symm) q6, k7.cg q1 (E _ _ (by omega)) (E 4 11 (by omega) 7 (by omega) (by omega)) (Nat.le_of_eq (gN_eq (E 4 11 (by omega) 5 (by omega) (by omega))).symm) q7, k8.cg q1 (E _ _ (by omega)) (E 4 11 (by omega) 8 (by omega) (by omega)) (Nat.le_of_eq (gN_eq (E 4 11 (by omega) 6 (by omega) (by omega))).symm) q8, k9.cg q1 (E _ _ (by omega)) (E 4 11 (by omega) 9 (by omega) (by omega)) (Nat.le_of_eq (gN_eq (E 4 11 (by omega) 8 (by omega) (by omega))).symm) (Nat.le_of_eq (gN_eq (E 4 11 (by omega) 7 (by omega) (by omega))).symm) q9⟩, nv.cg (E _ _ (by omega)), dn, ?_, ?_⟩, by omega, by omega, ?_⟩
  · rw [updR_eq]; exact vpn (by omega) (by omega)
  · rw [updR_ne (by omega), updR_ne (by omega), updR_ne (by omega), updR_eq]; exact vpn (by omega) (by omega)
  · rw [updR_ne (by omega), updR_ne (by omega), updR_eq]; exact vpn (by omega) (by omega)
  · rw [updR_ne (by omega), updR_eq]; exact vpn (by omega) (by omega)
  · rw [E 4 187 (by omega) 181 (by omega) (by omega), gN_eq (E 4 11 (by omega) 6 (by omega) (by omega))]; exact q2.2.2.2.2
  · rw [gN_eq (E 4 11 (by omega) 4 (by omega) (by omega)), gN_eq (E 4 11 (by omega) 5 (by omega) (by omega))]; exact j1
  · rw [gN_eq (E 4 11 (by omega) 5 (by omega) (by omega)), gN_eq (E 4 11 (by omega) 6 (by omega) (by omega))]; exact j2
  · rw [updR_eq]; exact fun e => by have := (nI_eq (b := 0) (by omega) (by omega)).mp e; omega

/-- one count grows, one block changes -/
def blk (F F' : Nat → Int32) (cn lo hi : Nat) : Prop := ∀ k, k < 187 → k ≠ cn → (k < lo ∨ hi ≤ k) → F' k = F k
theorem blk.ag {cn lo hi a b : Nat} (h : blk F F' cn lo hi) (hb : b ≤ 187) (h1 : cn < a ∨ b ≤ cn) (h2 : b ≤ lo ∨ hi ≤ a) : agF F F' a b := fun k k1 k2 => h k (by omega) (by omega) (by omega)
theorem blk.at {cn lo hi k : Nat} (h : blk F F' cn lo hi) (hb : k < 187) (h1 : k ≠ cn) (h2 : k < lo ∨ hi ≤ k) : F' k = F k := h k hb h1 h2
theorem le_of {k : Nat} (h : F' k = F k) : gN F k ≤ gN F' k := Nat.le_of_eq (gN_eq h).symm

theorem pv_thg (hP : PV F N) (hr : gN F 4 < 5) (B : blk F F' 4 (11 + gN F 4) (11 + gN F 4 + 1)) (ec : F' 4 = nI (gN F 4 + 1)) (nc : vp_in (F' (11 + gN F 4)) 10) (nm : c ≤ n ∧ kd T n c = 1 ∧ lkN N (cd T n c) = none ∧ N' = upN N (gN F 4) (cd T n c)) : PV F' N' := by
  obtain ⟨⟨q1, q2, q3, q4, q5, q6, q7, q8, q9⟩, nv, dn, j1, j2⟩ := hP
  have eg : gN F' 4 = gN F 4 + 1 := gN_of ec (by omega)
  have b4 := (gn_in q1.1).1
  have b5 := (gn_in q1.2.1).1
  have b6 := (gn_in q1.2.2.1).1
  have b7 := (gn_in q1.2.2.2.1).1
  have b8 := (gn_in q1.2.2.2.2.1).1
  have b9 := (gn_in q1.2.2.2.2.2.1).1
  have b10 := (gn_in q1.2.2.2.2.2.2).1
  have L4 : gN F 4 ≤ gN F' 4 := by omega
  have L5 : gN F 5 ≤ gN F' 5 := le_of (B.at (by omega) (by omega) (by omega))
  have L6 : gN F 6 ≤ gN F' 6 := le_of (B.at (by omega) (by omega) (by omega))
  have L7 : gN F 7 ≤ gN F' 7 := le_of (B.at (by omega) (by omega) (by omega))
  have L8 : gN F 8 ≤ gN F' 8 := le_of (B.at (by omega) (by omega) (by omega))
  obtain ⟨hc, hk, hl, eN⟩ := nm
  subst eN
  refine ⟨⟨⟨by rw [ec]; exact vpn (by omega) (by omega), by rw [B.at (k := 5) (by omega) (by omega) (by omega)]; exact q1.2.1, by rw [B.at (k := 6) (by omega) (by omega) (by omega)]; exact q1.2.2.1, by rw [B.at (k := 7) (by omega) (by omega) (by omega)]; exact q1.2.2.2.1, by rw [B.at (k := 8) (by omega) (by omega) (by omega)]; exact q1.2.2.2.2.1, by rw [B.at (k := 9) (by omega) (by omega) (by omega)]; exact q1.2.2.2.2.2.1, by rw [B.at (k := 10) (by omega) (by omega) (by omega)]; exact q1.2.2.2.2.2.2⟩, k2.cg (B.ag (by omega) (by omega) (by omega)) (B.at (by omega) (by omega) (by omega)) L6 q2, ?_, k4.cg q1 (B.ag (by omega) (by omega) (by omega)) (B.at (by omega) (by omega) (by omega)) L4 q4, k5.cg q1 (B.ag (by omega) (by omega) (by omega)) (B.at (by omega) (by omega) (by omega)) L4 q5, k6.cg q1 (B.ag (by omega) (by omega) (by omega)) (B.at (by omega) (by omega) (by omega)) L5 q6, k7.cg q1 (B.ag (by omega) (by omega) (by omega)) (B.at (by omega) (by omega) (by omega)) L5 q7, k8.cg q1 (B.ag (by omega) (by omega) (by omega)) (B.at (by omega) (by omega) (by omega)) L6 q8, k9.cg q1 (B.ag (by omega) (by omega) (by omega)) (B.at (by omega) (by omega) (by omega)) L8 L7 q9⟩, nv.up (slot := gN F 4) (sort := 1) hc hk (by omega) (by have := slots (gN F 4) (by omega); exact this.1.mpr (by omega)) (by have := slots (gN F 4) (by omega); have e := this.1.mpr (by omega); rw [this.2.2.2.2.2.1 e]; show gN F 4 - 0 = gN F 4; omega) eg (fun t ht hne => ?_), dn.up hc hk hl, ?_, ?_⟩
  · intro x hx
    rw [eg] at hx
    by_cases e : x < gN F 4
    · have k := q3 x e
      rw [B.at (by omega) (by omega) (by omega)]; exact k
    · obtain rfl : x = gN F 4 := by omega
      exact nc
  · rcases ht with rfl | rfl | rfl | rfl | rfl
    · exact absurd rfl hne
    · exact gN_eq (B.at (k := 5) (by omega) (by omega) (by omega))
    · exact gN_eq (B.at (k := 6) (by omega) (by omega) (by omega))
    · exact gN_eq (B.at (k := 7) (by omega) (by omega) (by omega))
    · exact gN_eq (B.at (k := 8) (by omega) (by omega) (by omega))
  · rw [eg]; intro w; omega
  · rw [gN_eq (B.at (k := 5) (by omega) (by omega) (by omega)), gN_eq (B.at (k := 6) (by omega) (by omega) (by omega))]; exact j2

theorem pv_hrm (hP : PV F N) (hr : gN F 10 < 6) (B : blk F F' 10 (16 + 4 * gN F 10) (16 + 4 * gN F 10 + 4)) (ec : F' 10 = nI (gN F 10 + 1)) (nc : vp_in (F' (16 + 4 * gN F 10)) (gN F 4) ∧ vp_in (F' (16 + 4 * gN F 10 + 3)) 100) (nm : N' = N) : PV F' N' := by
  obtain ⟨⟨q1, q2, q3, q4, q5, q6, q7, q8, q9⟩, nv, dn, j1, j2⟩ := hP
  have eg : gN F' 10 = gN F 10 + 1 := gN_of ec (by omega)
  have b4 := (gn_in q1.1).1
  have b5 := (gn_in q1.2.1).1
  have b6 := (gn_in q1.2.2.1).1
  have b7 := (gn_in q1.2.2.2.1).1
  have b8 := (gn_in q1.2.2.2.2.1).1
  have b9 := (gn_in q1.2.2.2.2.2.1).1
  have b10 := (gn_in q1.2.2.2.2.2.2).1
  have L4 : gN F 4 ≤ gN F' 4 := le_of (B.at (by omega) (by omega) (by omega))
  have L5 : gN F 5 ≤ gN F' 5 := le_of (B.at (by omega) (by omega) (by omega))
  have L6 : gN F 6 ≤ gN F' 6 := le_of (B.at (by omega) (by omega) (by omega))
  have L7 : gN F 7 ≤ gN F' 7 := le_of (B.at (by omega) (by omega) (by omega))
  have L8 : gN F 8 ≤ gN F' 8 := le_of (B.at (by omega) (by omega) (by omega))
  subst nm
  refine ⟨⟨⟨by rw [B.at (k := 4) (by omega) (by omega) (by omega)]; exact q1.1, by rw [B.at (k := 5) (by omega) (by omega) (by omega)]; exact q1.2.1, by rw [B.at (k := 6) (by omega) (by omega) (by omega)]; exact q1.2.2.1, by rw [B.at (k := 7) (by omega) (by omega) (by omega)]; exact q1.2.2.2.1, by rw [B.at (k := 8) (by omega) (by omega) (by omega)]; exact q1.2.2.2.2.1, by rw [B.at (k := 9) (by omega) (by omega) (by omega)]; exact q1.2.2.2.2.2.1, by rw [ec]; exact vpn (by omega) (by omega)⟩, k2.cg (B.ag (by omega) (by omega) (by omega)) (B.at (by omega) (by omega) (by omega)) L6 q2, k3.cg q1 (B.ag (by omega) (by omega) (by omega)) (B.at (by omega) (by omega) (by omega))  q3, ?_, k5.cg q1 (B.ag (by omega) (by omega) (by omega)) (B.at (by omega) (by omega) (by omega)) L4 q5, k6.cg q1 (B.ag (by omega) (by omega) (by omega)) (B.at (by omega) (by omega) (by omega)) L5 q6, k7.cg q1 (B.ag (by omega) (by omega) (by omega)) (B.at (by omega) (by omega) (by omega)) L5 q7, k8.cg q1 (B.ag (by omega) (by omega) (by omega)) (B.at (by omega) (by omega) (by omega)) L6 q8, k9.cg q1 (B.ag (by omega) (by omega) (by omega)) (B.at (by omega) (by omega) (by omega)) L8 L7 q9⟩, nv.cg (B.ag (by omega) (by omega) (by omega)), dn, ?_, ?_⟩
  · intro x hx
    rw [eg] at hx
    by_cases e : x < gN F 10
    · have k := q4 x e
      rw [B.at (by omega) (by omega) (by omega), B.at (by omega) (by omega) (by omega)]; exact ⟨vp_mono k.1 L4, k.2⟩
    · obtain rfl : x = gN F 10 := by omega
      exact ⟨vp_mono nc.1 L4, nc.2⟩
  · rw [gN_eq (B.at (k := 4) (by omega) (by omega) (by omega)), gN_eq (B.at (k := 5) (by omega) (by omega) (by omega))]; exact j1
  · rw [gN_eq (B.at (k := 5) (by omega) (by omega) (by omega)), gN_eq (B.at (k := 6) (by omega) (by omega) (by omega))]; exact j2

theorem pv_ded (hP : PV F N) (hr : gN F 5 < 8) (B : blk F F' 5 (40 + 7 * gN F 5) (40 + 7 * gN F 5 + 7)) (ec : F' 5 = nI (gN F 5 + 1)) (nc : ((∀ e, e < 2 → vp_in (F' (40 + 7 * gN F 5 + 2 * e)) (gN F 4 + 1)) ∧ vp_in (F' (40 + 7 * gN F 5 + 4)) (gN F 4 + 1)) ∧ gN F 4 ≠ 0) (nm : c ≤ n ∧ kd T n c = 1 ∧ lkN N (cd T n c) = none ∧ N' = upN N (5 + gN F 5) (cd T n c)) : PV F' N' := by
  obtain ⟨⟨q1, q2, q3, q4, q5, q6, q7, q8, q9⟩, nv, dn, j1, j2⟩ := hP
  have eg : gN F' 5 = gN F 5 + 1 := gN_of ec (by omega)
  have b4 := (gn_in q1.1).1
  have b5 := (gn_in q1.2.1).1
  have b6 := (gn_in q1.2.2.1).1
  have b7 := (gn_in q1.2.2.2.1).1
  have b8 := (gn_in q1.2.2.2.2.1).1
  have b9 := (gn_in q1.2.2.2.2.2.1).1
  have b10 := (gn_in q1.2.2.2.2.2.2).1
  have L4 : gN F 4 ≤ gN F' 4 := le_of (B.at (by omega) (by omega) (by omega))
  have L5 : gN F 5 ≤ gN F' 5 := by omega
  have L6 : gN F 6 ≤ gN F' 6 := le_of (B.at (by omega) (by omega) (by omega))
  have L7 : gN F 7 ≤ gN F' 7 := le_of (B.at (by omega) (by omega) (by omega))
  have L8 : gN F 8 ≤ gN F' 8 := le_of (B.at (by omega) (by omega) (by omega))
  obtain ⟨hc, hk, hl, eN⟩ := nm
  subst eN
  refine ⟨⟨⟨by rw [B.at (k := 4) (by omega) (by omega) (by omega)]; exact q1.1, by rw [ec]; exact vpn (by omega) (by omega), by rw [B.at (k := 6) (by omega) (by omega) (by omega)]; exact q1.2.2.1, by rw [B.at (k := 7) (by omega) (by omega) (by omega)]; exact q1.2.2.2.1, by rw [B.at (k := 8) (by omega) (by omega) (by omega)]; exact q1.2.2.2.2.1, by rw [B.at (k := 9) (by omega) (by omega) (by omega)]; exact q1.2.2.2.2.2.1, by rw [B.at (k := 10) (by omega) (by omega) (by omega)]; exact q1.2.2.2.2.2.2⟩, k2.cg (B.ag (by omega) (by omega) (by omega)) (B.at (by omega) (by omega) (by omega)) L6 q2, k3.cg q1 (B.ag (by omega) (by omega) (by omega)) (B.at (by omega) (by omega) (by omega))  q3, k4.cg q1 (B.ag (by omega) (by omega) (by omega)) (B.at (by omega) (by omega) (by omega)) L4 q4, ?_, k6.cg q1 (B.ag (by omega) (by omega) (by omega)) (B.at (by omega) (by omega) (by omega)) L5 q6, k7.cg q1 (B.ag (by omega) (by omega) (by omega)) (B.at (by omega) (by omega) (by omega)) L5 q7, k8.cg q1 (B.ag (by omega) (by omega) (by omega)) (B.at (by omega) (by omega) (by omega)) L6 q8, k9.cg q1 (B.ag (by omega) (by omega) (by omega)) (B.at (by omega) (by omega) (by omega)) L8 L7 q9⟩, nv.up (slot := 5 + gN F 5) (sort := 3) hc hk (by omega) (by have := slots (5 + gN F 5) (by omega); exact this.2.1.mpr (by omega)) (by have := slots (5 + gN F 5) (by omega); have e := this.2.1.mpr (by omega); rw [this.2.2.2.2.2.2.1 e]; show 5 + gN F 5 - 5 = gN F 5; omega) eg (fun t ht hne => ?_), dn.up hc hk hl, ?_, ?_⟩
  · intro x hx
    rw [eg] at hx
    by_cases e : x < gN F 5
    · have k := q5 x e
      exact ⟨fun i hi => by rw [B.at (by omega) (by omega) (by omega)]; exact vp_mono (k.1 i hi) (by omega), by rw [B.at (by omega) (by omega) (by omega)]; exact vp_mono k.2 (by omega)⟩
    · obtain rfl : x = gN F 5 := by omega
      exact ⟨fun i hi => vp_mono (nc.1.1 i hi) (by omega), vp_mono nc.1.2 (by omega)⟩
  · rcases ht with rfl | rfl | rfl | rfl | rfl
    · exact gN_eq (B.at (k := 4) (by omega) (by omega) (by omega))
    · exact absurd rfl hne
    · exact gN_eq (B.at (k := 6) (by omega) (by omega) (by omega))
    · exact gN_eq (B.at (k := 7) (by omega) (by omega) (by omega))
    · exact gN_eq (B.at (k := 8) (by omega) (by omega) (by omega))
  · rw [gN_eq (B.at (k := 4) (by omega) (by omega) (by omega))]; intro w; omega
  · rw [eg]; intro w; omega

theorem pv_pln (hP : PV F N) (hr : gN F 6 < 4) (B : blk F F' 6 (96 + 7 * gN F 6) (96 + 7 * gN F 6 + 7)) (ec : F' 6 = nI (gN F 6 + 1)) (nc : vp_in (F' (96 + 7 * gN F 6)) 7 ∧ (∀ i, i < gN F' (96 + 7 * gN F 6) → vp_in (F' (96 + 7 * gN F 6 + 1 + i)) (gN F 5)) ∧ gN F 5 ≠ 0) (nm : c ≤ n ∧ kd T n c = 1 ∧ lkN N (cd T n c) = none ∧ N' = upN N (13 + gN F 6) (cd T n c)) : PV F' N' := by
  obtain ⟨⟨q1, q2, q3, q4, q5, q6, q7, q8, q9⟩, nv, dn, j1, j2⟩ := hP
  have eg : gN F' 6 = gN F 6 + 1 := gN_of ec (by omega)
  have b4 := (gn_in q1.1).1
  have b5 := (gn_in q1.2.1).1
  have b6 := (gn_in q1.2.2.1).1
  have b7 := (gn_in q1.2.2.2.1).1
  have b8 := (gn_in q1.2.2.2.2.1).1
  have b9 := (gn_in q1.2.2.2.2.2.1).1
  have b10 := (gn_in q1.2.2.2.2.2.2).1
  have L4 : gN F 4 ≤ gN F' 4 := le_of (B.at (by omega) (by omega) (by omega))
  have L5 : gN F 5 ≤ gN F' 5 := le_of (B.at (by omega) (by omega) (by omega))
  have L6 : gN F 6 ≤ gN F' 6 := by omega
  have L7 : gN F 7 ≤ gN F' 7 := le_of (B.at (by omega) (by omega) (by omega))
  have L8 : gN F 8 ≤ gN F' 8 := le_of (B.at (by omega) (by omega) (by omega))
  obtain ⟨hc, hk, hl, eN⟩ := nm
  subst eN
  refine ⟨⟨⟨by rw [B.at (k := 4) (by omega) (by omega) (by omega)]; exact q1.1, by rw [B.at (k := 5) (by omega) (by omega) (by omega)]; exact q1.2.1, by rw [ec]; exact vpn (by omega) (by omega), by rw [B.at (k := 7) (by omega) (by omega) (by omega)]; exact q1.2.2.2.1, by rw [B.at (k := 8) (by omega) (by omega) (by omega)]; exact q1.2.2.2.2.1, by rw [B.at (k := 9) (by omega) (by omega) (by omega)]; exact q1.2.2.2.2.2.1, by rw [B.at (k := 10) (by omega) (by omega) (by omega)]; exact q1.2.2.2.2.2.2⟩, k2.cg (B.ag (by omega) (by omega) (by omega)) (B.at (by omega) (by omega) (by omega)) L6 q2, k3.cg q1 (B.ag (by omega) (by omega) (by omega)) (B.at (by omega) (by omega) (by omega))  q3, k4.cg q1 (B.ag (by omega) (by omega) (by omega)) (B.at (by omega) (by omega) (by omega)) L4 q4, k5.cg q1 (B.ag (by omega) (by omega) (by omega)) (B.at (by omega) (by omega) (by omega)) L4 q5, ?_, k7.cg q1 (B.ag (by omega) (by omega) (by omega)) (B.at (by omega) (by omega) (by omega)) L5 q7, k8.cg q1 (B.ag (by omega) (by omega) (by omega)) (B.at (by omega) (by omega) (by omega)) L6 q8, k9.cg q1 (B.ag (by omega) (by omega) (by omega)) (B.at (by omega) (by omega) (by omega)) L8 L7 q9⟩, nv.up (slot := 13 + gN F 6) (sort := 4) hc hk (by omega) (by have := slots (13 + gN F 6) (by omega); exact this.2.2.1.mpr (by omega)) (by have := slots (13 + gN F 6) (by omega); have e := this.2.2.1.mpr (by omega); rw [this.2.2.2.2.2.2.2.1 e]; show 13 + gN F 6 - 13 = gN F 6; omega) eg (fun t ht hne => ?_), dn.up hc hk hl, ?_, ?_⟩
  · intro x hx
    rw [eg] at hx
    by_cases e : x < gN F 6
    · have k := q6 x e
      have e1 : F' (96 + 7 * x) = F (96 + 7 * x) := B.at (by omega) (by omega) (by omega)
      have b := (gn_in k.1).1
      refine ⟨by rw [e1]; exact k.1, fun i hi => ?_⟩
      rw [gN_eq e1] at hi
      rw [B.at (by omega) (by omega) (by omega)]; exact vp_mono (k.2 i hi) L5
    · obtain rfl : x = gN F 6 := by omega
      exact ⟨nc.1, fun i hi => vp_mono (nc.2.1 i hi) L5⟩
  · rcases ht with rfl | rfl | rfl | rfl | rfl
    · exact gN_eq (B.at (k := 4) (by omega) (by omega) (by omega))
    · exact gN_eq (B.at (k := 5) (by omega) (by omega) (by omega))
    · exact absurd rfl hne
    · exact gN_eq (B.at (k := 7) (by omega) (by omega) (by omega))
    · exact gN_eq (B.at (k := 8) (by omega) (by omega) (by omega))
  · rw [gN_eq (B.at (k := 4) (by omega) (by omega) (by omega)), gN_eq (B.at (k := 5) (by omega) (by omega) (by omega))]; exact j1
  · rw [gN_eq (B.at (k := 5) (by omega) (by omega) (by omega))]; intro w; omega

theorem pv_slp (hP : PV F N) (hr : gN F 7 < 7) (B : blk F F' 7 (124 + 4 * gN F 7) (124 + 4 * gN F 7 + 4)) (ec : F' 7 = nI (gN F 7 + 1)) (nc : vp_in (F' (124 + 4 * gN F 7)) 5 ∧ vp_in (F' (124 + 4 * gN F 7 + 1)) (gN F 5) ∧ (F' (124 + 4 * gN F 7) = 4 → vp_in (F' (124 + 4 * gN F 7 + 2)) (gN F 5)) ∧ vp_in (F' (124 + 4 * gN F 7 + 3)) 10) (nm : c ≤ n ∧ kd T n c = 1 ∧ lkN N (cd T n c) = none ∧ N' = upN N (17 + gN F 7) (cd T n c)) : PV F' N' := by
  obtain ⟨⟨q1, q2, q3, q4, q5, q6, q7, q8, q9⟩, nv, dn, j1, j2⟩ := hP
  have eg : gN F' 7 = gN F 7 + 1 := gN_of ec (by omega)
  have b4 := (gn_in q1.1).1
  have b5 := (gn_in q1.2.1).1
  have b6 := (gn_in q1.2.2.1).1
  have b7 := (gn_in q1.2.2.2.1).1
  have b8 := (gn_in q1.2.2.2.2.1).1
  have b9 := (gn_in q1.2.2.2.2.2.1).1
  have b10 := (gn_in q1.2.2.2.2.2.2).1
  have L4 : gN F 4 ≤ gN F' 4 := le_of (B.at (by omega) (by omega) (by omega))
  have L5 : gN F 5 ≤ gN F' 5 := le_of (B.at (by omega) (by omega) (by omega))
  have L6 : gN F 6 ≤ gN F' 6 := le_of (B.at (by omega) (by omega) (by omega))
  have L7 : gN F 7 ≤ gN F' 7 := by omega
  have L8 : gN F 8 ≤ gN F' 8 := le_of (B.at (by omega) (by omega) (by omega))
  obtain ⟨hc, hk, hl, eN⟩ := nm
  subst eN
  refine ⟨⟨⟨by rw [B.at (k := 4) (by omega) (by omega) (by omega)]; exact q1.1, by rw [B.at (k := 5) (by omega) (by omega) (by omega)]; exact q1.2.1, by rw [B.at (k := 6) (by omega) (by omega) (by omega)]; exact q1.2.2.1, by rw [ec]; exact vpn (by omega) (by omega), by rw [B.at (k := 8) (by omega) (by omega) (by omega)]; exact q1.2.2.2.2.1, by rw [B.at (k := 9) (by omega) (by omega) (by omega)]; exact q1.2.2.2.2.2.1, by rw [B.at (k := 10) (by omega) (by omega) (by omega)]; exact q1.2.2.2.2.2.2⟩, k2.cg (B.ag (by omega) (by omega) (by omega)) (B.at (by omega) (by omega) (by omega)) L6 q2, k3.cg q1 (B.ag (by omega) (by omega) (by omega)) (B.at (by omega) (by omega) (by omega))  q3, k4.cg q1 (B.ag (by omega) (by omega) (by omega)) (B.at (by omega) (by omega) (by omega)) L4 q4, k5.cg q1 (B.ag (by omega) (by omega) (by omega)) (B.at (by omega) (by omega) (by omega)) L4 q5, k6.cg q1 (B.ag (by omega) (by omega) (by omega)) (B.at (by omega) (by omega) (by omega)) L5 q6, ?_, k8.cg q1 (B.ag (by omega) (by omega) (by omega)) (B.at (by omega) (by omega) (by omega)) L6 q8, k9.cg q1 (B.ag (by omega) (by omega) (by omega)) (B.at (by omega) (by omega) (by omega)) L8 L7 q9⟩, nv.up (slot := 17 + gN F 7) (sort := 5) hc hk (by omega) (by have := slots (17 + gN F 7) (by omega); exact this.2.2.2.1.mpr (by omega)) (by have := slots (17 + gN F 7) (by omega); have e := this.2.2.2.1.mpr (by omega); rw [this.2.2.2.2.2.2.2.2.1 e]; show 17 + gN F 7 - 17 = gN F 7; omega) eg (fun t ht hne => ?_), dn.up hc hk hl, ?_, ?_⟩
  · intro x hx
    rw [eg] at hx
    by_cases e : x < gN F 7
    · have k := q7 x e
      rw [B.at (by omega) (by omega) (by omega), B.at (by omega) (by omega) (by omega), B.at (by omega) (by omega) (by omega), B.at (by omega) (by omega) (by omega)]; exact ⟨k.1, vp_mono k.2.1 L5, fun w => vp_mono (k.2.2.1 w) L5, k.2.2.2⟩
    · obtain rfl : x = gN F 7 := by omega
      exact ⟨nc.1, vp_mono nc.2.1 L5, fun w => vp_mono (nc.2.2.1 w) L5, nc.2.2.2⟩
  · rcases ht with rfl | rfl | rfl | rfl | rfl
    · exact gN_eq (B.at (k := 4) (by omega) (by omega) (by omega))
    · exact gN_eq (B.at (k := 5) (by omega) (by omega) (by omega))
    · exact gN_eq (B.at (k := 6) (by omega) (by omega) (by omega))
    · exact absurd rfl hne
    · exact gN_eq (B.at (k := 8) (by omega) (by omega) (by omega))
  · rw [gN_eq (B.at (k := 4) (by omega) (by omega) (by omega)), gN_eq (B.at (k := 5) (by omega) (by omega) (by omega))]; exact j1
  · rw [gN_eq (B.at (k := 5) (by omega) (by omega) (by omega)), gN_eq (B.at (k := 6) (by omega) (by omega) (by omega))]; exact j2

theorem pv_man (hP : PV F N) (hr : gN F 8 < 4) (B : blk F F' 8 (152 + 2 * gN F 8) (152 + 2 * gN F 8 + 2)) (ec : F' 8 = nI (gN F 8 + 1)) (nc : vp_in (F' (152 + 2 * gN F 8 + 1)) (gN F 6)) (nm : c ≤ n ∧ kd T n c = 1 ∧ lkN N (cd T n c) = none ∧ N' = upN N (24 + gN F 8) (cd T n c)) : PV F' N' := by
  obtain ⟨⟨q1, q2, q3, q4, q5, q6, q7, q8, q9⟩, nv, dn, j1, j2⟩ := hP
  have eg : gN F' 8 = gN F 8 + 1 := gN_of ec (by omega)
  have b4 := (gn_in q1.1).1
  have b5 := (gn_in q1.2.1).1
  have b6 := (gn_in q1.2.2.1).1
  have b7 := (gn_in q1.2.2.2.1).1
  have b8 := (gn_in q1.2.2.2.2.1).1
  have b9 := (gn_in q1.2.2.2.2.2.1).1
  have b10 := (gn_in q1.2.2.2.2.2.2).1
  have L4 : gN F 4 ≤ gN F' 4 := le_of (B.at (by omega) (by omega) (by omega))
  have L5 : gN F 5 ≤ gN F' 5 := le_of (B.at (by omega) (by omega) (by omega))
  have L6 : gN F 6 ≤ gN F' 6 := le_of (B.at (by omega) (by omega) (by omega))
  have L7 : gN F 7 ≤ gN F' 7 := le_of (B.at (by omega) (by omega) (by omega))
  have L8 : gN F 8 ≤ gN F' 8 := by omega
  obtain ⟨hc, hk, hl, eN⟩ := nm
  subst eN
  refine ⟨⟨⟨by rw [B.at (k := 4) (by omega) (by omega) (by omega)]; exact q1.1, by rw [B.at (k := 5) (by omega) (by omega) (by omega)]; exact q1.2.1, by rw [B.at (k := 6) (by omega) (by omega) (by omega)]; exact q1.2.2.1, by rw [B.at (k := 7) (by omega) (by omega) (by omega)]; exact q1.2.2.2.1, by rw [ec]; exact vpn (by omega) (by omega), by rw [B.at (k := 9) (by omega) (by omega) (by omega)]; exact q1.2.2.2.2.2.1, by rw [B.at (k := 10) (by omega) (by omega) (by omega)]; exact q1.2.2.2.2.2.2⟩, k2.cg (B.ag (by omega) (by omega) (by omega)) (B.at (by omega) (by omega) (by omega)) L6 q2, k3.cg q1 (B.ag (by omega) (by omega) (by omega)) (B.at (by omega) (by omega) (by omega))  q3, k4.cg q1 (B.ag (by omega) (by omega) (by omega)) (B.at (by omega) (by omega) (by omega)) L4 q4, k5.cg q1 (B.ag (by omega) (by omega) (by omega)) (B.at (by omega) (by omega) (by omega)) L4 q5, k6.cg q1 (B.ag (by omega) (by omega) (by omega)) (B.at (by omega) (by omega) (by omega)) L5 q6, k7.cg q1 (B.ag (by omega) (by omega) (by omega)) (B.at (by omega) (by omega) (by omega)) L5 q7, ?_, k9.cg q1 (B.ag (by omega) (by omega) (by omega)) (B.at (by omega) (by omega) (by omega)) L8 L7 q9⟩, nv.up (slot := 24 + gN F 8) (sort := 6) hc hk (by omega) (by have := slots (24 + gN F 8) (by omega); exact this.2.2.2.2.1.mpr (by omega)) (by have := slots (24 + gN F 8) (by omega); have e := this.2.2.2.2.1.mpr (by omega); rw [this.2.2.2.2.2.2.2.2.2.1 e]; show 24 + gN F 8 - 24 = gN F 8; omega) eg (fun t ht hne => ?_), dn.up hc hk hl, ?_, ?_⟩
  · intro x hx
    rw [eg] at hx
    by_cases e : x < gN F 8
    · have k := q8 x e
      rw [B.at (by omega) (by omega) (by omega)]; exact vp_mono k L6
    · obtain rfl : x = gN F 8 := by omega
      exact vp_mono nc L6
  · rcases ht with rfl | rfl | rfl | rfl | rfl
    · exact gN_eq (B.at (k := 4) (by omega) (by omega) (by omega))
    · exact gN_eq (B.at (k := 5) (by omega) (by omega) (by omega))
    · exact gN_eq (B.at (k := 6) (by omega) (by omega) (by omega))
    · exact gN_eq (B.at (k := 7) (by omega) (by omega) (by omega))
    · exact absurd rfl hne
  · rw [gN_eq (B.at (k := 4) (by omega) (by omega) (by omega)), gN_eq (B.at (k := 5) (by omega) (by omega) (by omega))]; exact j1
  · rw [gN_eq (B.at (k := 5) (by omega) (by omega) (by omega)), gN_eq (B.at (k := 6) (by omega) (by omega) (by omega))]; exact j2

theorem pv_ask (hP : PV F N) (hr : gN F 9 < 7) (B : blk F F' 9 (160 + 3 * gN F 9) (160 + 3 * gN F 9 + 3)) (ec : F' 9 = nI (gN F 9 + 1)) (nc : vp_in (F' (160 + 3 * gN F 9)) (gN F 8) ∧ vp_in (F' (160 + 3 * gN F 9 + 1)) (gN F 7) ∧ vp_in (F' (160 + 3 * gN F 9 + 2)) 100) (nm : N' = N) : PV F' N' := by
  obtain ⟨⟨q1, q2, q3, q4, q5, q6, q7, q8, q9⟩, nv, dn, j1, j2⟩ := hP
  have eg : gN F' 9 = gN F 9 + 1 := gN_of ec (by omega)
  have b4 := (gn_in q1.1).1
  have b5 := (gn_in q1.2.1).1
  have b6 := (gn_in q1.2.2.1).1
  have b7 := (gn_in q1.2.2.2.1).1
  have b8 := (gn_in q1.2.2.2.2.1).1
  have b9 := (gn_in q1.2.2.2.2.2.1).1
  have b10 := (gn_in q1.2.2.2.2.2.2).1
  have L4 : gN F 4 ≤ gN F' 4 := le_of (B.at (by omega) (by omega) (by omega))
  have L5 : gN F 5 ≤ gN F' 5 := le_of (B.at (by omega) (by omega) (by omega))
  have L6 : gN F 6 ≤ gN F' 6 := le_of (B.at (by omega) (by omega) (by omega))
  have L7 : gN F 7 ≤ gN F' 7 := le_of (B.at (by omega) (by omega) (by omega))
  have L8 : gN F 8 ≤ gN F' 8 := le_of (B.at (by omega) (by omega) (by omega))
  subst nm
  refine ⟨⟨⟨by rw [B.at (k := 4) (by omega) (by omega) (by omega)]; exact q1.1, by rw [B.at (k := 5) (by omega) (by omega) (by omega)]; exact q1.2.1, by rw [B.at (k := 6) (by omega) (by omega) (by omega)]; exact q1.2.2.1, by rw [B.at (k := 7) (by omega) (by omega) (by omega)]; exact q1.2.2.2.1, by rw [B.at (k := 8) (by omega) (by omega) (by omega)]; exact q1.2.2.2.2.1, by rw [ec]; exact vpn (by omega) (by omega), by rw [B.at (k := 10) (by omega) (by omega) (by omega)]; exact q1.2.2.2.2.2.2⟩, k2.cg (B.ag (by omega) (by omega) (by omega)) (B.at (by omega) (by omega) (by omega)) L6 q2, k3.cg q1 (B.ag (by omega) (by omega) (by omega)) (B.at (by omega) (by omega) (by omega))  q3, k4.cg q1 (B.ag (by omega) (by omega) (by omega)) (B.at (by omega) (by omega) (by omega)) L4 q4, k5.cg q1 (B.ag (by omega) (by omega) (by omega)) (B.at (by omega) (by omega) (by omega)) L4 q5, k6.cg q1 (B.ag (by omega) (by omega) (by omega)) (B.at (by omega) (by omega) (by omega)) L5 q6, k7.cg q1 (B.ag (by omega) (by omega) (by omega)) (B.at (by omega) (by omega) (by omega)) L5 q7, k8.cg q1 (B.ag (by omega) (by omega) (by omega)) (B.at (by omega) (by omega) (by omega)) L6 q8, ?_⟩, nv.cg (B.ag (by omega) (by omega) (by omega)), dn, ?_, ?_⟩
  · intro x hx
    rw [eg] at hx
    by_cases e : x < gN F 9
    · have k := q9 x e
      rw [B.at (by omega) (by omega) (by omega), B.at (by omega) (by omega) (by omega), B.at (by omega) (by omega) (by omega)]; exact ⟨vp_mono k.1 L8, vp_mono k.2.1 L7, k.2.2⟩
    · obtain rfl : x = gN F 9 := by omega
      exact ⟨vp_mono nc.1 L8, vp_mono nc.2.1 L7, nc.2.2⟩
  · rw [gN_eq (B.at (k := 4) (by omega) (by omega) (by omega)), gN_eq (B.at (k := 5) (by omega) (by omega) (by omega))]; exact j1
  · rw [gN_eq (B.at (k := 5) (by omega) (by omega) (by omega)), gN_eq (B.at (k := 6) (by omega) (by omega) (by omega))]; exact j2

theorem pv_end (hP : PV F N) (B : ∀ k, k < 181 → F' k = F k) (nc : vp_in (F' 181) (gN F 6 + 1)) : PV F' N := by
  obtain ⟨⟨q1, q2, q3, q4, q5, q6, q7, q8, q9⟩, nv, dn, j1, j2⟩ := hP
  have E : ∀ a b, b ≤ 181 → agF F F' a b := fun a b hb k h1 h2 => B k (by omega)
  refine ⟨⟨k1.cg (E _ _ (by omega)) q1, ⟨?_, ?_, ?_, ?_, ?_⟩, k3.cg q1 (E _ _ (by omega)) (B _ (by omega)) q3, k4.cg q1 (E _ _ (by omega)) (B _ (by omega)) (le_of (B _ (by omega))) q4, k5.cg q1 (E _ _ (by omega)) (B _ (by omega)) (le_of (B _ (by omega))) q5, k6.cg q1 (E _ _ (by omega)) (B _ (by omega)) (le_of (B _ (by omega))) q6, k7.cg q1 (E _ _ (by omega)) (B _ (by omega)) (le_of (B _ (by omega))) q7, k8.cg q1 (E _ _ (by omega)) (B _ (by omega)) (le_of (B _ (by omega))) q8, k9.cg q1 (E _ _ (by omega)) (B _ (by omega)) (le_of (B _ (by omega))) (le_of (B _ (by omega))) q9⟩, nv.cg (E _ _ (by omega)), dn, ?_, ?_⟩
  · rw [B 0 (by omega)]; exact q2.1
  · rw [B 1 (by omega)]; exact q2.2.1
  · rw [B 2 (by omega)]; exact q2.2.2.1
  · rw [B 3 (by omega)]; exact q2.2.2.2.1
  · rw [gN_eq (B 6 (by omega))]; exact nc
  · rw [gN_eq (B 4 (by omega)), gN_eq (B 5 (by omega))]; exact j1
  · rw [gN_eq (B 5 (by omega)), gN_eq (B 6 (by omega))]; exact j2
end PVL