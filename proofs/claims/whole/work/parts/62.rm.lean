/-! THE MUSEUM THAT IS READ in the class: how it holds the row F -/
def rB (g : Nat → Nat → Nat → Int32) (ν : Nat) (F : Nat → Int32) : Prop := g 36 ν 0 = (if F 0 = 0 then 0 else 1) ∧ g 36 ν 1 = F 4 ∧ g 36 ν 2 = F 10 ∧ g 36 ν 3 = F 5 ∧ g 36 ν 4 = F 6 ∧ g 36 ν 5 = F 7 ∧ g 36 ν 6 = F 8 ∧ g 36 ν 7 = F 9 ∧ g 36 ν 8 = (if F 181 = 0 then 0 else 1)
def rC (g : Nat → Nat → Nat → Int32) (ν : Nat) (F : Nat → Int32) : Prop := F 0 ≠ 0 → g 5 ν 1 = F 0 ∧ g 5 ν 2 = F 1 ∧ g 5 ν 3 = F 2 ∧ g 5 ν 4 = F 3
def rT (g : Nat → Nat → Nat → Int32) (ν : Nat) (F : Nat → Int32) : Prop := ∀ t, t < gN F 4 → g 37 ν t = F (11 + t)
def rHc (g : Nat → Nat → Nat → Int32) (ν : Nat) (F : Nat → Int32) (h : Nat) : Prop := g 6 (6 * ν + h) 0 = F (16 + 4 * h) ∧ (g 6 (6 * ν + h) 1 = 0 ↔ F (16 + 4 * h + 1) = 1) ∧ g 6 (6 * ν + h) 2 = F (16 + 4 * h + 2) ∧ g 39 ν h = F (16 + 4 * h + 3)
def rH (g : Nat → Nat → Nat → Int32) (ν : Nat) (F : Nat → Int32) : Prop := ∀ h, h < gN F 10 → rHc g ν F h
def rE (g : Nat → Nat → Nat → Int32) (ν : Nat) (F : Nat → Int32) : Prop := ∀ d, d < gN F 5 → cDe g F (8 * ν + d) d
def rP (g : Nat → Nat → Nat → Int32) (ν : Nat) (F : Nat → Int32) : Prop := ∀ p, p < gN F 6 → vS g (4 * ν + p) (plR F p)
def rSc (g : Nat → Nat → Nat → Int32) (ν : Nat) (F : Nat → Int32) (s : Nat) : Prop := g 9 (7 * ν + s) 0 = F (124 + 4 * s) ∧ g 9 (7 * ν + s) 1 = F (124 + 4 * s + 1) ∧ g 9 (7 * ν + s) 2 = F (124 + 4 * s + 2) ∧ g 9 (7 * ν + s) 3 = F (124 + 4 * s + 3)
def rS (g : Nat → Nat → Nat → Int32) (ν : Nat) (F : Nat → Int32) : Prop := ∀ s, s < gN F 7 → rSc g ν F s
def rNc (g : Nat → Nat → Nat → Int32) (ν : Nat) (F : Nat → Int32) (m : Nat) : Prop := g 43 ν m = F (152 + 2 * m) ∧ g 44 ν m = F (152 + 2 * m + 1)
def rN (g : Nat → Nat → Nat → Int32) (ν : Nat) (F : Nat → Int32) : Prop := ∀ m, m < gN F 8 → rNc g ν F m
def rKc (g : Nat → Nat → Nat → Int32) (ν : Nat) (F : Nat → Int32) (a : Nat) : Prop := g 45 ν a = F (160 + 3 * a) ∧ g 46 ν a = F (160 + 3 * a + 1) ∧ g 47 ν a = F (160 + 3 * a + 2)
def rK (g : Nat → Nat → Nat → Int32) (ν : Nat) (F : Nat → Int32) : Prop := ∀ a, a < gN F 9 → rKc g ν F a
def rZ (g : Nat → Nat → Nat → Int32) (ν : Nat) (F : Nat → Int32) : Prop := F 181 ≠ 0 → g 5 ν 16 = F 181 - 1 ∧ g 5 ν 17 = fo (fun t a => a * 10 + F (181 + 1 + t)) 0 (gN F 4)
def rM (g : Nat → Nat → Nat → Int32) (ν : Nat) (F : Nat → Int32) : Prop := rB g ν F ∧ rC g ν F ∧ rT g ν F ∧ rH g ν F ∧ rE g ν F ∧ rP g ν F ∧ rS g ν F ∧ rN g ν F ∧ rK g ν F ∧ rZ g ν F
def kMu (t : Nat) : Bool := t == 36 || (t == 5 || (t == 37 || (t == 6 || (t == 39 || (t == 0 || (t == 20 || (t == 21 || (t == 10 || (t == 52 || (t == 53 || (t == 9 || (t == 43 || (t == 44 || (t == 45 || (t == 46 || t == 47)))))))))))))))
section RM
variable {g g' : Nat → Nat → Nat → Int32} {ν : Nat} {F F' : Nat → Int32}
theorem rC.cg (hg : ∀ k, k < 5 → g' 5 ν k = g 5 ν k) (hF : agF F F' 0 4) (h : rC g ν F) : rC g' ν F' := by
  intro w
  rw [hF 0 (by omega) (by omega)] at w
  rw [hg 1 (by omega), hg 2 (by omega), hg 3 (by omega), hg 4 (by omega), hF 0 (by omega) (by omega), hF 1 (by omega) (by omega), hF 2 (by omega) (by omega), hF 3 (by omega) (by omega)]
  exact h w
theorem rT.cg (b : k1 F) (hg : ∀ k, g' 37 ν k = g 37 ν k) (hF : agF F F' 11 16) (e : F' 4 = F 4) (h : rT g ν F) : rT g' ν F' := by
  intro t ht
  rw [gN_eq e] at ht
  have := (gn_in b.1).1
  rw [hg, hF _ (by omega) (by omega)]
  exact h t ht
theorem rHc.cg {x : Nat} (hx : x < 6) (hg : ∀ k, g' 6 (6 * ν + x) k = g 6 (6 * ν + x) k) (hg2 : g' 39 ν x = g 39 ν x) (hF : ∀ j, j < 4 → F' (16 + 4 * x + j) = F (16 + 4 * x + j)) (h : rHc g ν F x) : rHc g' ν F' x := by
  unfold rHc
  have e0 : F' (16 + 4 * x) = F (16 + 4 * x) := hF 0 (by omega)
  rw [hg, hg, hg, hg2, e0, hF 1 (by omega), hF 2 (by omega), hF 3 (by omega)]
  exact h
theorem rH.cg (b : k1 F) (hg : ∀ x k, x < 6 → g' 6 (6 * ν + x) k = g 6 (6 * ν + x) k) (hg2 : ∀ k, g' 39 ν k = g 39 ν k) (hF : agF F F' 16 40) (e : F' 10 = F 10) (h : rH g ν F) : rH g' ν F' := by
  intro x hx
  rw [gN_eq e] at hx
  have := (gn_in b.2.2.2.2.2.2).1
  exact (h x hx).cg (by omega) (fun k => hg x k (by omega)) (hg2 x) (fun j hj => hF _ (by omega) (by omega))
theorem cDe.cg {o d : Nat} (hg : ∀ k, g' 0 o k = g 0 o k ∧ g' 20 o k = g 20 o k ∧ g' 21 o k = g 21 o k ∧ g' 6 (o + 12) k = g 6 (o + 12) k) (hF : ∀ j, j < 7 → F' (40 + 7 * d + j) = F (40 + 7 * d + j)) (h : cDe g F o d) : cDe g' F' o d := by
  obtain ⟨⟨n, hn, e0, h1⟩, h2, h3⟩ := h
  refine ⟨⟨n, hn, by rw [(hg 0).1]; exact e0, fun e he => ?_⟩, ?_, ?_⟩
  · have k := h1 e he
    rw [(hg e).2.1, (hg e).2.2.1, hF (2 * e) (by omega), show 40 + 7 * d + 2 * e + 1 = 40 + 7 * d + (2 * e + 1) by omega, hF (2 * e + 1) (by omega)]
    exact k
  · rw [(hg 3).1, hF 4 (by omega)]; exact h2
  · rw [hF 4 (by omega), (hg 0).2.2.2, (hg 1).2.2.2, (hg 2).2.2.2, hF 5 (by omega), hF 6 (by omega)]; exact h3
theorem rE.cg (b : k1 F) (hg : ∀ x k, x < 8 → g' 0 (8 * ν + x) k = g 0 (8 * ν + x) k ∧ g' 20 (8 * ν + x) k = g 20 (8 * ν + x) k ∧ g' 21 (8 * ν + x) k = g 21 (8 * ν + x) k ∧ g' 6 (8 * ν + x + 12) k = g 6 (8 * ν + x + 12) k) (hF : agF F F' 40 96) (e : F' 5 = F 5) (h : rE g ν F) : rE g' ν F' := by
  intro x hx
  rw [gN_eq e] at hx
  have := (gn_in b.2.1).1
  exact (h x hx).cg (fun k => hg x k (by omega)) (fun j hj => hF _ (by omega) (by omega))
theorem vS_cg {o : Nat} {p p' : Pl} (hg : ∀ k, g' 10 o k = g 10 o k ∧ g' 52 o k = g 52 o k ∧ g' 53 o k = g 53 o k) (e1 : p'.1 = p.1) (e2 : ∀ i, i < p.1 → p'.2 i = p.2 i) (h : vS g o p) : vS g' o p' := by
  refine ⟨by rw [(hg 0).1, e1]; exact h.1, fun i hi => ?_⟩
  rw [e1] at hi
  have k := h.2 i hi
  unfold vC at *
  rw [e2 i hi, (hg i).2.1, (hg i).2.2]
  exact k
theorem rP.cg (b : k1 F) (b6 : k6 F) (hg : ∀ x k, x < 4 → g' 10 (4 * ν + x) k = g 10 (4 * ν + x) k ∧ g' 52 (4 * ν + x) k = g 52 (4 * ν + x) k ∧ g' 53 (4 * ν + x) k = g 53 (4 * ν + x) k) (hF : agF F F' 96 124) (e : F' 6 = F 6) (h : rP g ν F) : rP g' ν F' := by
  intro x hx
  rw [gN_eq e] at hx
  have := (gn_in b.2.2.1).1
  have := (gn_in (b6 x hx).1).1
  refine vS_cg (p := plR F x) (fun k => hg x k (by omega)) (show gN F' (96 + 7 * x) = gN F (96 + 7 * x) from gN_eq (hF _ (by omega) (by omega))) (fun i hi => ?_) (h x hx)
  have hi : i < gN F (96 + 7 * x) := hi
  show 2 * gN F' (96 + 7 * x + 1 + i) = 2 * gN F (96 + 7 * x + 1 + i)
  rw [gN_eq (hF _ (by omega) (by omega))]
theorem rS.cg (b : k1 F) (hg : ∀ x k, x < 7 → g' 9 (7 * ν + x) k = g 9 (7 * ν + x) k) (hF : agF F F' 124 152) (e : F' 7 = F 7) (h : rS g ν F) : rS g' ν F' := by
  intro x hx
  rw [gN_eq e] at hx
  have := (gn_in b.2.2.2.1).1
  unfold rSc
  rw [hg x 0 (by omega), hg x 1 (by omega), hg x 2 (by omega), hg x 3 (by omega), hF _ (by omega) (by omega), hF _ (by omega) (by omega), hF _ (by omega) (by omega), hF _ (by omega) (by omega)]
  exact h x hx
theorem rN.cg (b : k1 F) (hg : ∀ k, g' 43 ν k = g 43 ν k ∧ g' 44 ν k = g 44 ν k) (hF : agF F F' 152 160) (e : F' 8 = F 8) (h : rN g ν F) : rN g' ν F' := by
  intro x hx
  rw [gN_eq e] at hx
  have := (gn_in b.2.2.2.2.1).1
  unfold rNc
  rw [(hg x).1, (hg x).2, hF _ (by omega) (by omega), hF _ (by omega) (by omega)]
  exact h x hx
theorem rK.cg (b : k1 F) (hg : ∀ k, g' 45 ν k = g 45 ν k ∧ g' 46 ν k = g 46 ν k ∧ g' 47 ν k = g 47 ν k) (hF : agF F F' 160 181) (e : F' 9 = F 9) (h : rK g ν F) : rK g' ν F' := by
  intro x hx
  rw [gN_eq e] at hx
  have := (gn_in b.2.2.2.2.2.1).1
  unfold rKc
  rw [(hg x).1, (hg x).2.1, (hg x).2.2, hF _ (by omega) (by omega), hF _ (by omega) (by omega), hF _ (by omega) (by omega)]
  exact h x hx
theorem rZ.cg (b : k1 F) (hg : g' 5 ν 16 = g 5 ν 16 ∧ g' 5 ν 17 = g 5 ν 17) (hF : agF F F' 181 187) (e : F' 4 = F 4) (h : rZ g ν F) : rZ g' ν F' := by
  intro w
  rw [hF 181 (by omega) (by omega)] at w
  have := (gn_in b.1).1
  rw [hg.1, hg.2, hF 181 (by omega) (by omega), gN_eq e, fo_congr (g := fun t a => a * 10 + F (181 + 1 + t)) (gN F 4) (fun k x hk => by show _ * 10 + F' _ = _; rw [hF _ (by omega) (by omega)])]
  exact h w

theorem rM_thg (hR : okR F) (hν : ν < 2) (hr : gN F 4 < 5) (h : rM g ν F) (B : blk F F' 4 (11 + gN F 4) (11 + gN F 4 + 1)) (ec : F' 4 = nI (gN F 4 + 1)) (hg : ∀ t i k, kMu t = true → ¬ (t = 36 ∧ i = ν ∧ k = 1) → ¬ (t = 37 ∧ i = ν ∧ k = gN F 4) → g' t i k = g t i k) (e36 : g' 36 ν 1 = nI (gN F 4 + 1)) (nc : g' 37 ν (gN F 4) = F' (11 + gN F 4)) (hz : F 181 = 0) : rM g' ν F' := by
  obtain ⟨hB, hC', hT, hH, hE, hP, hS, hN, hK, hZ⟩ := h
  have q1 := hR.1
  have b4 := hR.cT.1
  have b5 := hR.cD.1
  have b6 := hR.cP.1
  have b7 := hR.cS.1
  have b8 := hR.cM.1
  have b9 := hR.cA.1
  have b10 := hR.cH.1
  have eg : gN F' 4 = gN F 4 + 1 := gN_of ec (by omega)
  refine ⟨⟨by rw [hg 36 ν 0 rfl (by omega) (by omega), B.at (k := 0) (by omega) (by omega) (by omega)]; exact hB.1, by rw [e36, ec], by rw [hg 36 ν 2 rfl (by omega) (by omega), B.at (k := 10) (by omega) (by omega) (by omega)]; exact hB.2.2.1, by rw [hg 36 ν 3 rfl (by omega) (by omega), B.at (k := 5) (by omega) (by omega) (by omega)]; exact hB.2.2.2.1, by rw [hg 36 ν 4 rfl (by omega) (by omega), B.at (k := 6) (by omega) (by omega) (by omega)]; exact hB.2.2.2.2.1, by rw [hg 36 ν 5 rfl (by omega) (by omega), B.at (k := 7) (by omega) (by omega) (by omega)]; exact hB.2.2.2.2.2.1, by rw [hg 36 ν 6 rfl (by omega) (by omega), B.at (k := 8) (by omega) (by omega) (by omega)]; exact hB.2.2.2.2.2.2.1, by rw [hg 36 ν 7 rfl (by omega) (by omega), B.at (k := 9) (by omega) (by omega) (by omega)]; exact hB.2.2.2.2.2.2.2.1, by rw [hg 36 ν 8 rfl (by omega) (by omega), B.at (k := 181) (by omega) (by omega) (by omega)]; exact hB.2.2.2.2.2.2.2.2⟩, rC.cg (fun k hk => hg 5 ν k rfl (by omega) (by omega)) (B.ag (by omega) (by omega) (by omega)) hC', ?_, rH.cg q1 (fun x k hx => hg 6 (6 * ν + x) k rfl (by omega) (by omega)) (fun k => hg 39 ν k rfl (by omega) (by omega)) (B.ag (by omega) (by omega) (by omega)) (B.at (by omega) (by omega) (by omega)) hH, rE.cg q1 (fun x k hx => ⟨hg 0 (8 * ν + x) k rfl (by omega) (by omega), hg 20 (8 * ν + x) k rfl (by omega) (by omega), hg 21 (8 * ν + x) k rfl (by omega) (by omega), hg 6 (8 * ν + x + 12) k rfl (by omega) (by omega)⟩) (B.ag (by omega) (by omega) (by omega)) (B.at (by omega) (by omega) (by omega)) hE, rP.cg q1 hR.2.2.2.2.2.1 (fun x k hx => ⟨hg 10 (4 * ν + x) k rfl (by omega) (by omega), hg 52 (4 * ν + x) k rfl (by omega) (by omega), hg 53 (4 * ν + x) k rfl (by omega) (by omega)⟩) (B.ag (by omega) (by omega) (by omega)) (B.at (by omega) (by omega) (by omega)) hP, rS.cg q1 (fun x k hx => hg 9 (7 * ν + x) k rfl (by omega) (by omega)) (B.ag (by omega) (by omega) (by omega)) (B.at (by omega) (by omega) (by omega)) hS, rN.cg q1 (fun k => ⟨hg 43 ν k rfl (by omega) (by omega), hg 44 ν k rfl (by omega) (by omega)⟩) (B.ag (by omega) (by omega) (by omega)) (B.at (by omega) (by omega) (by omega)) hN, rK.cg q1 (fun k => ⟨hg 45 ν k rfl (by omega) (by omega), hg 46 ν k rfl (by omega) (by omega), hg 47 ν k rfl (by omega) (by omega)⟩) (B.ag (by omega) (by omega) (by omega)) (B.at (by omega) (by omega) (by omega)) hK, fun w => absurd ((B.at (by omega) (by omega) (by omega)).trans hz) w⟩
  intro x hx
  rw [eg] at hx
  by_cases e : x < gN F 4
  · rw [hg 37 ν x rfl (by omega) (by omega), B.at (by omega) (by omega) (by omega)]; exact hT x e
  · obtain rfl : x = gN F 4 := by omega
    exact nc

theorem rM_hrm (hR : okR F) (hν : ν < 2) (hr : gN F 10 < 6) (h : rM g ν F) (B : blk F F' 10 (16 + 4 * gN F 10) (16 + 4 * gN F 10 + 4)) (ec : F' 10 = nI (gN F 10 + 1)) (hg : ∀ t i k, kMu t = true → ¬ (t = 36 ∧ i = ν ∧ k = 2) → ¬ (t = 6 ∧ i = 6 * ν + gN F 10) → ¬ (t = 39 ∧ i = ν ∧ k = gN F 10) → g' t i k = g t i k) (e36 : g' 36 ν 2 = nI (gN F 10 + 1)) (nc : rHc g' ν F' (gN F 10)) : rM g' ν F' := by
  obtain ⟨hB, hC', hT, hH, hE, hP, hS, hN, hK, hZ⟩ := h
  have q1 := hR.1
  have b4 := hR.cT.1
  have b5 := hR.cD.1
  have b6 := hR.cP.1
  have b7 := hR.cS.1
  have b8 := hR.cM.1
  have b9 := hR.cA.1
  have b10 := hR.cH.1
  have eg : gN F' 10 = gN F 10 + 1 := gN_of ec (by omega)
  refine ⟨⟨by rw [hg 36 ν 0 rfl (by omega) (by omega) (by omega), B.at (k := 0) (by omega) (by omega) (by omega)]; exact hB.1, by rw [hg 36 ν 1 rfl (by omega) (by omega) (by omega), B.at (k := 4) (by omega) (by omega) (by omega)]; exact hB.2.1, by rw [e36, ec], by rw [hg 36 ν 3 rfl (by omega) (by omega) (by omega), B.at (k := 5) (by omega) (by omega) (by omega)]; exact hB.2.2.2.1, by rw [hg 36 ν 4 rfl (by omega) (by omega) (by omega), B.at (k := 6) (by omega) (by omega) (by omega)]; exact hB.2.2.2.2.1, by rw [hg 36 ν 5 rfl (by omega) (by omega) (by omega), B.at (k := 7) (by omega) (by omega) (by omega)]; exact hB.2.2.2.2.2.1, by rw [hg 36 ν 6 rfl (by omega) (by omega) (by omega), B.at (k := 8) (by omega) (by omega) (by omega)]; exact hB.2.2.2.2.2.2.1, by rw [hg 36 ν 7 rfl (by omega) (by omega) (by omega), B.at (k := 9) (by omega) (by omega) (by omega)]; exact hB.2.2.2.2.2.2.2.1, by rw [hg 36 ν 8 rfl (by omega) (by omega) (by omega), B.at (k := 181) (by omega) (by omega) (by omega)]; exact hB.2.2.2.2.2.2.2.2⟩, rC.cg (fun k hk => hg 5 ν k rfl (by omega) (by omega) (by omega)) (B.ag (by omega) (by omega) (by omega)) hC', rT.cg q1 (fun k => hg 37 ν k rfl (by omega) (by omega) (by omega)) (B.ag (by omega) (by omega) (by omega)) (B.at (by omega) (by omega) (by omega)) hT, ?_, rE.cg q1 (fun x k hx => ⟨hg 0 (8 * ν + x) k rfl (by omega) (by omega) (by omega), hg 20 (8 * ν + x) k rfl (by omega) (by omega) (by omega), hg 21 (8 * ν + x) k rfl (by omega) (by omega) (by omega), hg 6 (8 * ν + x + 12) k rfl (by omega) (by omega) (by omega)⟩) (B.ag (by omega) (by omega) (by omega)) (B.at (by omega) (by omega) (by omega)) hE, rP.cg q1 hR.2.2.2.2.2.1 (fun x k hx => ⟨hg 10 (4 * ν + x) k rfl (by omega) (by omega) (by omega), hg 52 (4 * ν + x) k rfl (by omega) (by omega) (by omega), hg 53 (4 * ν + x) k rfl (by omega) (by omega) (by omega)⟩) (B.ag (by omega) (by omega) (by omega)) (B.at (by omega) (by omega) (by omega)) hP, rS.cg q1 (fun x k hx => hg 9 (7 * ν + x) k rfl (by omega) (by omega) (by omega)) (B.ag (by omega) (by omega) (by omega)) (B.at (by omega) (by omega) (by omega)) hS, rN.cg q1 (fun k => ⟨hg 43 ν k rfl (by omega) (by omega) (by omega), hg 44 ν k rfl (by omega) (by omega) (by omega)⟩) (B.ag (by omega) (by omega) (by omega)) (B.at (by omega) (by omega) (by omega)) hN, rK.cg q1 (fun k => ⟨hg 45 ν k rfl (by omega) (by omega) (by omega), hg 46 ν k rfl (by omega) (by omega) (by omega), hg 47 ν k rfl (by omega) (by omega) (by omega)⟩) (B.ag (by omega) (by omega) (by omega)) (B.at (by omega) (by omega) (by omega)) hK, rZ.cg q1 ⟨hg 5 ν 16 rfl (by omega) (by omega) (by omega), hg 5 ν 17 rfl (by omega) (by omega) (by omega)⟩ (B.ag (by omega) (by omega) (by omega)) (B.at (by omega) (by omega) (by omega)) hZ⟩
  intro x hx
  rw [eg] at hx
  by_cases e : x < gN F 10
  · exact (hH x e).cg (by omega) (fun k => hg 6 (6 * ν + x) k rfl (by omega) (by omega) (by omega)) (hg 39 ν x rfl (by omega) (by omega) (by omega)) (fun j hj => B.at (by omega) (by omega) (by omega))
  · obtain rfl : x = gN F 10 := by omega
    exact nc

theorem rM_ded (hR : okR F) (hν : ν < 2) (hr : gN F 5 < 8) (h : rM g ν F) (B : blk F F' 5 (40 + 7 * gN F 5) (40 + 7 * gN F 5 + 7)) (ec : F' 5 = nI (gN F 5 + 1)) (hg : ∀ t i k, kMu t = true → ¬ (t = 36 ∧ i = ν ∧ k = 3) → ¬ ((t = 0 ∨ t = 20 ∨ t = 21) ∧ i = 8 * ν + gN F 5) → ¬ (t = 6 ∧ i = 8 * ν + gN F 5 + 12) → g' t i k = g t i k) (e36 : g' 36 ν 3 = nI (gN F 5 + 1)) (nc : cDe g' F' (8 * ν + gN F 5) (gN F 5)) : rM g' ν F' := by
  obtain ⟨hB, hC', hT, hH, hE, hP, hS, hN, hK, hZ⟩ := h
  have q1 := hR.1
  have b4 := hR.cT.1
  have b5 := hR.cD.1
  have b6 := hR.cP.1
  have b7 := hR.cS.1
  have b8 := hR.cM.1
  have b9 := hR.cA.1
  have b10 := hR.cH.1
  have eg : gN F' 5 = gN F 5 + 1 := gN_of ec (by omega)
  refine ⟨⟨by rw [hg 36 ν 0 rfl (by omega) (by omega) (by omega), B.at (k := 0) (by omega) (by omega) (by omega)]; exact hB.1, by rw [hg 36 ν 1 rfl (by omega) (by omega) (by omega), B.at (k := 4) (by omega) (by omega) (by omega)]; exact hB.2.1, by rw [hg 36 ν 2 rfl (by omega) (by omega) (by omega), B.at (k := 10) (by omega) (by omega) (by omega)]; exact hB.2.2.1, by rw [e36, ec], by rw [hg 36 ν 4 rfl (by omega) (by omega) (by omega), B.at (k := 6) (by omega) (by omega) (by omega)]; exact hB.2.2.2.2.1, by rw [hg 36 ν 5 rfl (by omega) (by omega) (by omega), B.at (k := 7) (by omega) (by omega) (by omega)]; exact hB.2.2.2.2.2.1, by rw [hg 36 ν 6 rfl (by omega) (by omega) (by omega), B.at (k := 8) (by omega) (by omega) (by omega)]; exact hB.2.2.2.2.2.2.1, by rw [hg 36 ν 7 rfl (by omega) (by omega) (by omega), B.at (k := 9) (by omega) (by omega) (by omega)]; exact hB.2.2.2.2.2.2.2.1, by rw [hg 36 ν 8 rfl (by omega) (by omega) (by omega), B.at (k := 181) (by omega) (by omega) (by omega)]; exact hB.2.2.2.2.2.2.2.2⟩, rC.cg (fun k hk => hg 5 ν k rfl (by omega) (by omega) (by omega)) (B.ag (by omega) (by omega) (by omega)) hC', rT.cg q1 (fun k => hg 37 ν k rfl (by omega) (by omega) (by omega)) (B.ag (by omega) (by omega) (by omega)) (B.at (by omega) (by omega) (by omega)) hT, rH.cg q1 (fun x k hx => hg 6 (6 * ν + x) k rfl (by omega) (by omega) (by omega)) (fun k => hg 39 ν k rfl (by omega) (by omega) (by omega)) (B.ag (by omega) (by omega) (by omega)) (B.at (by omega) (by omega) (by omega)) hH, ?_, rP.cg q1 hR.2.2.2.2.2.1 (fun x k hx => ⟨hg 10 (4 * ν + x) k rfl (by omega) (by omega) (by omega), hg 52 (4 * ν + x) k rfl (by omega) (by omega) (by omega), hg 53 (4 * ν + x) k rfl (by omega) (by omega) (by omega)⟩) (B.ag (by omega) (by omega) (by omega)) (B.at (by omega) (by omega) (by omega)) hP, rS.cg q1 (fun x k hx => hg 9 (7 * ν + x) k rfl (by omega) (by omega) (by omega)) (B.ag (by omega) (by omega) (by omega)) (B.at (by omega) (by omega) (by omega)) hS, rN.cg q1 (fun k => ⟨hg 43 ν k rfl (by omega) (by omega) (by omega), hg 44 ν k rfl (by omega) (by omega) (by omega)⟩) (B.ag (by omega) (by omega) (by omega)) (B.at (by omega) (by omega) (by omega)) hN, rK.cg q1 (fun k => ⟨hg 45 ν k rfl (by omega) (by omega) (by omega), hg 46 ν k rfl (by omega) (by omega) (by omega), hg 47 ν k rfl (by omega) (by omega) (by omega)⟩) (B.ag (by omega) (by omega) (by omega)) (B.at (by omega) (by omega) (by omega)) hK, rZ.cg q1 ⟨hg 5 ν 16 rfl (by omega) (by omega) (by omega), hg 5 ν 17 rfl (by omega) (by omega) (by omega)⟩ (B.ag (by omega) (by omega) (by omega)) (B.at (by omega) (by omega) (by omega)) hZ⟩
  intro x hx
  rw [eg] at hx
  by_cases e : x < gN F 5
  · exact (hE x e).cg (fun k => ⟨hg 0 (8 * ν + x) k rfl (by omega) (by omega) (by omega), hg 20 (8 * ν + x) k rfl (by omega) (by omega) (by omega), hg 21 (8 * ν + x) k rfl (by omega) (by omega) (by omega), hg 6 (8 * ν + x + 12) k rfl (by omega) (by omega) (by omega)⟩) (fun j hj => B.at (by omega) (by omega) (by omega))
  · obtain rfl : x = gN F 5 := by omega
    exact nc

theorem rM_pln (hR : okR F) (hν : ν < 2) (hr : gN F 6 < 4) (h : rM g ν F) (B : blk F F' 6 (96 + 7 * gN F 6) (96 + 7 * gN F 6 + 7)) (ec : F' 6 = nI (gN F 6 + 1)) (hg : ∀ t i k, kMu t = true → ¬ (t = 36 ∧ i = ν ∧ k = 4) → ¬ ((t = 10 ∨ t = 52 ∨ t = 53) ∧ i = 4 * ν + gN F 6) → g' t i k = g t i k) (e36 : g' 36 ν 4 = nI (gN F 6 + 1)) (nc : vS g' (4 * ν + gN F 6) (plR F' (gN F 6))) : rM g' ν F' := by
  obtain ⟨hB, hC', hT, hH, hE, hP, hS, hN, hK, hZ⟩ := h
  have q1 := hR.1
  have b4 := hR.cT.1
  have b5 := hR.cD.1
  have b6 := hR.cP.1
  have b7 := hR.cS.1
  have b8 := hR.cM.1
  have b9 := hR.cA.1
  have b10 := hR.cH.1
  have eg : gN F' 6 = gN F 6 + 1 := gN_of ec (by omega)
  refine ⟨⟨by rw [hg 36 ν 0 rfl (by omega) (by omega), B.at (k := 0) (by omega) (by omega) (by omega)]; exact hB.1, by rw [hg 36 ν 1 rfl (by omega) (by omega), B.at (k := 4) (by omega) (by omega) (by omega)]; exact hB.2.1, by rw [hg 36 ν 2 rfl (by omega) (by omega), B.at (k := 10) (by omega) (by omega) (by omega)]; exact hB.2.2.1, by rw [hg 36 ν 3 rfl (by omega) (by omega), B.at (k := 5) (by omega) (by omega) (by omega)]; exact hB.2.2.2.1, by rw [e36, ec], by rw [hg 36 ν 5 rfl (by omega) (by omega), B.at (k := 7) (by omega) (by omega) (by omega)]; exact hB.2.2.2.2.2.1, by rw [hg 36 ν 6 rfl (by omega) (by omega), B.at (k := 8) (by omega) (by omega) (by omega)]; exact hB.2.2.2.2.2.2.1, by rw [hg 36 ν 7 rfl (by omega) (by omega), B.at (k := 9) (by omega) (by omega) (by omega)]; exact hB.2.2.2.2.2.2.2.1, by rw [hg 36 ν 8 rfl (by omega) (by omega), B.at (k := 181) (by omega) (by omega) (by omega)]; exact hB.2.2.2.2.2.2.2.2⟩, rC.cg (fun k hk => hg 5 ν k rfl (by omega) (by omega)) (B.ag (by omega) (by omega) (by omega)) hC', rT.cg q1 (fun k => hg 37 ν k rfl (by omega) (by omega)) (B.ag (by omega) (by omega) (by omega)) (B.at (by omega) (by omega) (by omega)) hT, rH.cg q1 (fun x k hx => hg 6 (6 * ν + x) k rfl (by omega) (by omega)) (fun k => hg 39 ν k rfl (by omega) (by omega)) (B.ag (by omega) (by omega) (by omega)) (B.at (by omega) (by omega) (by omega)) hH, rE.cg q1 (fun x k hx => ⟨hg 0 (8 * ν + x) k rfl (by omega) (by omega), hg 20 (8 * ν + x) k rfl (by omega) (by omega), hg 21 (8 * ν + x) k rfl (by omega) (by omega), hg 6 (8 * ν + x + 12) k rfl (by omega) (by omega)⟩) (B.ag (by omega) (by omega) (by omega)) (B.at (by omega) (by omega) (by omega)) hE, ?_, rS.cg q1 (fun x k hx => hg 9 (7 * ν + x) k rfl (by omega) (by omega)) (B.ag (by omega) (by omega) (by omega)) (B.at (by omega) (by omega) (by omega)) hS, rN.cg q1 (fun k => ⟨hg 43 ν k rfl (by omega) (by omega), hg 44 ν k rfl (by omega) (by omega)⟩) (B.ag (by omega) (by omega) (by omega)) (B.at (by omega) (by omega) (by omega)) hN, rK.cg q1 (fun k => ⟨hg 45 ν k rfl (by omega) (by omega), hg 46 ν k rfl (by omega) (by omega), hg 47 ν k rfl (by omega) (by omega)⟩) (B.ag (by omega) (by omega) (by omega)) (B.at (by omega) (by omega) (by omega)) hK, rZ.cg q1 ⟨hg 5 ν 16 rfl (by omega) (by omega), hg 5 ν 17 rfl (by omega) (by omega)⟩ (B.ag (by omega) (by omega) (by omega)) (B.at (by omega) (by omega) (by omega)) hZ⟩
  intro x hx
  rw [eg] at hx
  by_cases e : x < gN F 6
  · have bp := (gn_in (hR.2.2.2.2.2.1 x e).1).1
    refine vS_cg (p := plR F x) (fun k => ⟨hg 10 (4 * ν + x) k rfl (by omega) (by omega), hg 52 (4 * ν + x) k rfl (by omega) (by omega), hg 53 (4 * ν + x) k rfl (by omega) (by omega)⟩) (show gN F' (96 + 7 * x) = gN F (96 + 7 * x) from gN_eq (B.at (by omega) (by omega) (by omega))) (fun i hi => ?_) (hP x e)
    have hi : i < gN F (96 + 7 * x) := hi
    show 2 * gN F' (96 + 7 * x + 1 + i) = 2 * gN F (96 + 7 * x + 1 + i)
    rw [gN_eq (B.at (by omega) (by omega) (by omega))]
  · obtain rfl : x = gN F 6 := by omega
    exact nc

theorem rM_slp (hR : okR F) (hν : ν < 2) (hr : gN F 7 < 7) (h : rM g ν F) (B : blk F F' 7 (124 + 4 * gN F 7) (124 + 4 * gN F 7 + 4)) (ec : F' 7 = nI (gN F 7 + 1)) (hg : ∀ t i k, kMu t = true → ¬ (t = 36 ∧ i = ν ∧ k = 5) → ¬ (t = 9 ∧ i = 7 * ν + gN F 7) → g' t i k = g t i k) (e36 : g' 36 ν 5 = nI (gN F 7 + 1)) (nc : rSc g' ν F' (gN F 7)) : rM g' ν F' := by
  obtain ⟨hB, hC', hT, hH, hE, hP, hS, hN, hK, hZ⟩ := h
  have q1 := hR.1
  have b4 := hR.cT.1
  have b5 := hR.cD.1
  have b6 := hR.cP.1
  have b7 := hR.cS.1
  have b8 := hR.cM.1
  have b9 := hR.cA.1
  have b10 := hR.cH.1
  have eg : gN F' 7 = gN F 7 + 1 := gN_of ec (by omega)
  refine ⟨⟨by rw [hg 36 ν 0 rfl (by omega) (by omega), B.at (k := 0) (by omega) (by omega) (by omega)]; exact hB.1, by rw [hg 36 ν 1 rfl (by omega) (by omega), B.at (k := 4) (by omega) (by omega) (by omega)]; exact hB.2.1, by rw [hg 36 ν 2 rfl (by omega) (by omega), B.at (k := 10) (by omega) (by omega) (by omega)]; exact hB.2.2.1, by rw [hg 36 ν 3 rfl (by omega) (by omega), B.at (k := 5) (by omega) (by omega) (by omega)]; exact hB.2.2.2.1, by rw [hg 36 ν 4 rfl (by omega) (by omega), B.at (k := 6) (by omega) (by omega) (by omega)]; exact hB.2.2.2.2.1, by rw [e36, ec], by rw [hg 36 ν 6 rfl (by omega) (by omega), B.at (k := 8) (by omega) (by omega) (by omega)]; exact hB.2.2.2.2.2.2.1, by rw [hg 36 ν 7 rfl (by omega) (by omega), B.at (k := 9) (by omega) (by omega) (by omega)]; exact hB.2.2.2.2.2.2.2.1, by rw [hg 36 ν 8 rfl (by omega) (by omega), B.at (k := 181) (by omega) (by omega) (by omega)]; exact hB.2.2.2.2.2.2.2.2⟩, rC.cg (fun k hk => hg 5 ν k rfl (by omega) (by omega)) (B.ag (by omega) (by omega) (by omega)) hC', rT.cg q1 (fun k => hg 37 ν k rfl (by omega) (by omega)) (B.ag (by omega) (by omega) (by omega)) (B.at (by omega) (by omega) (by omega)) hT, rH.cg q1 (fun x k hx => hg 6 (6 * ν + x) k rfl (by omega) (by omega)) (fun k => hg 39 ν k rfl (by omega) (by omega)) (B.ag (by omega) (by omega) (by omega)) (B.at (by omega) (by omega) (by omega)) hH, rE.cg q1 (fun x k hx => ⟨hg 0 (8 * ν + x) k rfl (by omega) (by omega), hg 20 (8 * ν + x) k rfl (by omega) (by omega), hg 21 (8 * ν + x) k rfl (by omega) (by omega), hg 6 (8 * ν + x + 12) k rfl (by omega) (by omega)⟩) (B.ag (by omega) (by omega) (by omega)) (B.at (by omega) (by omega) (by omega)) hE, rP.cg q1 hR.2.2.2.2.2.1 (fun x k hx => ⟨hg 10 (4 * ν + x) k rfl (by omega) (by omega), hg 52 (4 * ν + x) k rfl (by omega) (by omega), hg 53 (4 * ν + x) k rfl (by omega) (by omega)⟩) (B.ag (by omega) (by omega) (by omega)) (B.at (by omega) (by omega) (by omega)) hP, ?_, rN.cg q1 (fun k => ⟨hg 43 ν k rfl (by omega) (by omega), hg 44 ν k rfl (by omega) (by omega)⟩) (B.ag (by omega) (by omega) (by omega)) (B.at (by omega) (by omega) (by omega)) hN, rK.cg q1 (fun k => ⟨hg 45 ν k rfl (by omega) (by omega), hg 46 ν k rfl (by omega) (by omega), hg 47 ν k rfl (by omega) (by omega)⟩) (B.ag (by omega) (by omega) (by omega)) (B.at (by omega) (by omega) (by omega)) hK, rZ.cg q1 ⟨hg 5 ν 16 rfl (by omega) (by omega), hg 5 ν 17 rfl (by omega) (by omega)⟩ (B.ag (by omega) (by omega) (by omega)) (B.at (by omega) (by omega) (by omega)) hZ⟩
  intro x hx
  rw [eg] at hx
  by_cases e : x < gN F 7
  · unfold rSc
    rw [hg 9 (7 * ν + x) 0 rfl (by omega) (by omega), hg 9 (7 * ν + x) 1 rfl (by omega) (by omega), hg 9 (7 * ν + x) 2 rfl (by omega) (by omega), hg 9 (7 * ν + x) 3 rfl (by omega) (by omega), B.at (k := 124 + 4 * x) (by omega) (by omega) (by omega), B.at (k := 124 + 4 * x + 1) (by omega) (by omega) (by omega), B.at (k := 124 + 4 * x + 2) (by omega) (by omega) (by omega), B.at (k := 124 + 4 * x + 3) (by omega) (by omega) (by omega)]; exact hS x e
  · obtain rfl : x = gN F 7 := by omega
    exact nc

theorem rM_man (hR : okR F) (hν : ν < 2) (hr : gN F 8 < 4) (h : rM g ν F) (B : blk F F' 8 (152 + 2 * gN F 8) (152 + 2 * gN F 8 + 2)) (ec : F' 8 = nI (gN F 8 + 1)) (hg : ∀ t i k, kMu t = true → ¬ (t = 36 ∧ i = ν ∧ k = 6) → ¬ ((t = 43 ∨ t = 44) ∧ i = ν ∧ k = gN F 8) → g' t i k = g t i k) (e36 : g' 36 ν 6 = nI (gN F 8 + 1)) (nc : rNc g' ν F' (gN F 8)) : rM g' ν F' := by
  obtain ⟨hB, hC', hT, hH, hE, hP, hS, hN, hK, hZ⟩ := h
  have q1 := hR.1
  have b4 := hR.cT.1
  have b5 := hR.cD.1
  have b6 := hR.cP.1
  have b7 := hR.cS.1
  have b8 := hR.cM.1
  have b9 := hR.cA.1
  have b10 := hR.cH.1
  have eg : gN F' 8 = gN F 8 + 1 := gN_of ec (by omega)
  refine ⟨⟨by rw [hg 36 ν 0 rfl (by omega) (by omega), B.at (k := 0) (by omega) (by omega) (by omega)]; exact hB.1, by rw [hg 36 ν 1 rfl (by omega) (by omega), B.at (k := 4) (by omega) (by omega) (by omega)]; exact hB.2.1, by rw [hg 36 ν 2 rfl (by omega) (by omega), B.at (k := 10) (by omega) (by omega) (by omega)]; exact hB.2.2.1, by rw [hg 36 ν 3 rfl (by omega) (by omega), B.at (k := 5) (by omega) (by omega) (by omega)]; exact hB.2.2.2.1, by rw [hg 36 ν 4 rfl (by omega) (by omega), B.at (k := 6) (by omega) (by omega) (by omega)]; exact hB.2.2.2.2.1, by rw [hg 36 ν 5 rfl (by omega) (by omega), B.at (k := 7) (by omega) (by omega) (by omega)]; exact hB.2.2.2.2.2.1, by rw [e36, ec], by rw [hg 36 ν 7 rfl (by omega) (by omega), B.at (k := 9) (by omega) (by omega) (by omega)]; exact hB.2.2.2.2.2.2.2.1, by rw [hg 36 ν 8 rfl (by omega) (by omega), B.at (k := 181) (by omega) (by omega) (by omega)]; exact hB.2.2.2.2.2.2.2.2⟩, rC.cg (fun k hk => hg 5 ν k rfl (by omega) (by omega)) (B.ag (by omega) (by omega) (by omega)) hC', rT.cg q1 (fun k => hg 37 ν k rfl (by omega) (by omega)) (B.ag (by omega) (by omega) (by omega)) (B.at (by omega) (by omega) (by omega)) hT, rH.cg q1 (fun x k hx => hg 6 (6 * ν + x) k rfl (by omega) (by omega)) (fun k => hg 39 ν k rfl (by omega) (by omega)) (B.ag (by omega) (by omega) (by omega)) (B.at (by omega) (by omega) (by omega)) hH, rE.cg q1 (fun x k hx => ⟨hg 0 (8 * ν + x) k rfl (by omega) (by omega), hg 20 (8 * ν + x) k rfl (by omega) (by omega), hg 21 (8 * ν + x) k rfl (by omega) (by omega), hg 6 (8 * ν + x + 12) k rfl (by omega) (by omega)⟩) (B.ag (by omega) (by omega) (by omega)) (B.at (by omega) (by omega) (by omega)) hE, rP.cg q1 hR.2.2.2.2.2.1 (fun x k hx => ⟨hg 10 (4 * ν + x) k rfl (by omega) (by omega), hg 52 (4 * ν + x) k rfl (by omega) (by omega), hg 53 (4 * ν + x) k rfl (by omega) (by omega)⟩) (B.ag (by omega) (by omega) (by omega)) (B.at (by omega) (by omega) (by omega)) hP, rS.cg q1 (fun x k hx => hg 9 (7 * ν + x) k rfl (by omega) (by omega)) (B.ag (by omega) (by omega) (by omega)) (B.at (by omega) (by omega) (by omega)) hS, ?_, rK.cg q1 (fun k => ⟨hg 45 ν k rfl (by omega) (by omega), hg 46 ν k rfl (by omega) (by omega), hg 47 ν k rfl (by omega) (by omega)⟩) (B.ag (by omega) (by omega) (by omega)) (B.at (by omega) (by omega) (by omega)) hK, rZ.cg q1 ⟨hg 5 ν 16 rfl (by omega) (by omega), hg 5 ν 17 rfl (by omega) (by omega)⟩ (B.ag (by omega) (by omega) (by omega)) (B.at (by omega) (by omega) (by omega)) hZ⟩
  intro x hx
  rw [eg] at hx
  by_cases e : x < gN F 8
  · unfold rNc
    rw [hg 43 ν x rfl (by omega) (by omega), hg 44 ν x rfl (by omega) (by omega), B.at (k := 152 + 2 * x) (by omega) (by omega) (by omega), B.at (k := 152 + 2 * x + 1) (by omega) (by omega) (by omega)]; exact hN x e
  · obtain rfl : x = gN F 8 := by omega
    exact nc

theorem rM_ask (hR : okR F) (hν : ν < 2) (hr : gN F 9 < 7) (h : rM g ν F) (B : blk F F' 9 (160 + 3 * gN F 9) (160 + 3 * gN F 9 + 3)) (ec : F' 9 = nI (gN F 9 + 1)) (hg : ∀ t i k, kMu t = true → ¬ (t = 36 ∧ i = ν ∧ k = 7) → ¬ ((t = 45 ∨ t = 46 ∨ t = 47) ∧ i = ν ∧ k = gN F 9) → g' t i k = g t i k) (e36 : g' 36 ν 7 = nI (gN F 9 + 1)) (nc : rKc g' ν F' (gN F 9)) : rM g' ν F' := by
  obtain ⟨hB, hC', hT, hH, hE, hP, hS, hN, hK, hZ⟩ := h
  have q1 := hR.1
  have b4 := hR.cT.1
  have b5 := hR.cD.1
  have b6 := hR.cP.1
  have b7 := hR.cS.1
  have b8 := hR.cM.1
  have b9 := hR.cA.1
  have b10 := hR.cH.1
  have eg : gN F' 9 = gN F 9 + 1 := gN_of ec (by omega)
  refine ⟨⟨by rw [hg 36 ν 0 rfl (by omega) (by omega), B.at (k := 0) (by omega) (by omega) (by omega)]; exact hB.1, by rw [hg 36 ν 1 rfl (by omega) (by omega), B.at (k := 4) (by omega) (by omega) (by omega)]; exact hB.2.1, by rw [hg 36 ν 2 rfl (by omega) (by omega), B.at (k := 10) (by omega) (by omega) (by omega)]; exact hB.2.2.1, by rw [hg 36 ν 3 rfl (by omega) (by omega), B.at (k := 5) (by omega) (by omega) (by omega)]; exact hB.2.2.2.1, by rw [hg 36 ν 4 rfl (by omega) (by omega), B.at (k := 6) (by omega) (by omega) (by omega)]; exact hB.2.2.2.2.1, by rw [hg 36 ν 5 rfl (by omega) (by omega), B.at (k := 7) (by omega) (by omega) (by omega)]; exact hB.2.2.2.2.2.1, by rw [hg 36 ν 6 rfl (by omega) (by omega), B.at (k := 8) (by omega) (by omega) (by omega)]; exact hB.2.2.2.2.2.2.1, by rw [e36, ec], by rw [hg 36 ν 8 rfl (by omega) (by omega), B.at (k := 181) (by omega) (by omega) (by omega)]; exact hB.2.2.2.2.2.2.2.2⟩, rC.cg (fun k hk => hg 5 ν k rfl (by omega) (by omega)) (B.ag (by omega) (by omega) (by omega)) hC', rT.cg q1 (fun k => hg 37 ν k rfl (by omega) (by omega)) (B.ag (by omega) (by omega) (by omega)) (B.at (by omega) (by omega) (by omega)) hT, rH.cg q1 (fun x k hx => hg 6 (6 * ν + x) k rfl (by omega) (by omega)) (fun k => hg 39 ν k rfl (by omega) (by omega)) (B.ag (by omega) (by omega) (by omega)) (B.at (by omega) (by omega) (by omega)) hH, rE.cg q1 (fun x k hx => ⟨hg 0 (8 * ν + x) k rfl (by omega) (by omega), hg 20 (8 * ν + x) k rfl (by omega) (by omega), hg 21 (8 * ν + x) k rfl (by omega) (by omega), hg 6 (8 * ν + x + 12) k rfl (by omega) (by omega)⟩) (B.ag (by omega) (by omega) (by omega)) (B.at (by omega) (by omega) (by omega)) hE, rP.cg q1 hR.2.2.2.2.2.1 (fun x k hx => ⟨hg 10 (4 * ν + x) k rfl (by omega) (by omega), hg 52 (4 * ν + x) k rfl (by omega) (by omega), hg 53 (4 * ν + x) k rfl (by omega) (by omega)⟩) (B.ag (by omega) (by omega) (by omega)) (B.at (by omega) (by omega) (by omega)) hP, rS.cg q1 (fun x k hx => hg 9 (7 * ν + x) k rfl (by omega) (by omega)) (B.ag (by omega) (by omega) (by omega)) (B.at (by omega) (by omega) (by omega)) hS, rN.cg q1 (fun k => ⟨hg 43 ν k rfl (by omega) (by omega), hg 44 ν k rfl (by omega) (by omega)⟩) (B.ag (by omega) (by omega) (by omega)) (B.at (by omega) (by omega) (by omega)) hN, ?_, rZ.cg q1 ⟨hg 5 ν 16 rfl (by omega) (by omega), hg 5 ν 17 rfl (by omega) (by omega)⟩ (B.ag (by omega) (by omega) (by omega)) (B.at (by omega) (by omega) (by omega)) hZ⟩
  intro x hx
  rw [eg] at hx
  by_cases e : x < gN F 9
  · unfold rKc
    rw [hg 45 ν x rfl (by omega) (by omega), hg 46 ν x rfl (by omega) (by omega), hg 47 ν x rfl (by omega) (by omega), B.at (k := 160 + 3 * x) (by omega) (by omega) (by omega), B.at (k := 160 + 3 * x + 1) (by omega) (by omega) (by omega), B.at (k := 160 + 3 * x + 2) (by omega) (by omega) (by omega)]; exact hK x e
  · obtain rfl : x = gN F 9 := by omega
    exact nc

theorem rM_mus (hR : okR F) (h : rM g ν F) (B : ∀ k, 4 ≤ k ∧ k < 187 → F' k = F k) (hg : ∀ t i k, kMu t = true → ¬ (t = 36 ∧ i = ν ∧ k = 0) → ¬ (t = 5 ∧ i = ν ∧ 1 ≤ k ∧ k ≤ 4) → g' t i k = g t i k) (e36 : g' 36 ν 0 = (if F' 0 = 0 then 0 else 1)) (nc : rC g' ν F') : rM g' ν F' := by
  obtain ⟨hB, hC', hT, hH, hE, hP, hS, hN, hK, hZ⟩ := h
  have q1 := hR.1
  exact ⟨⟨e36, by rw [hg 36 ν 1 rfl (by omega) (by omega), B 4 (by omega)]; exact hB.2.1, by rw [hg 36 ν 2 rfl (by omega) (by omega), B 10 (by omega)]; exact hB.2.2.1, by rw [hg 36 ν 3 rfl (by omega) (by omega), B 5 (by omega)]; exact hB.2.2.2.1, by rw [hg 36 ν 4 rfl (by omega) (by omega), B 6 (by omega)]; exact hB.2.2.2.2.1, by rw [hg 36 ν 5 rfl (by omega) (by omega), B 7 (by omega)]; exact hB.2.2.2.2.2.1, by rw [hg 36 ν 6 rfl (by omega) (by omega), B 8 (by omega)]; exact hB.2.2.2.2.2.2.1, by rw [hg 36 ν 7 rfl (by omega) (by omega), B 9 (by omega)]; exact hB.2.2.2.2.2.2.2.1, by rw [hg 36 ν 8 rfl (by omega) (by omega), B 181 (by omega)]; exact hB.2.2.2.2.2.2.2.2⟩, nc, rT.cg q1 (fun k => hg 37 ν k rfl (by omega) (by omega)) (fun k h1 h2 => B k (by omega)) (B 4 (by omega)) hT, rH.cg q1 (fun x k hx => hg 6 (6 * ν + x) k rfl (by omega) (by omega)) (fun k => hg 39 ν k rfl (by omega) (by omega)) (fun k h1 h2 => B k (by omega)) (B 10 (by omega)) hH, rE.cg q1 (fun x k hx => ⟨hg 0 (8 * ν + x) k rfl (by omega) (by omega), hg 20 (8 * ν + x) k rfl (by omega) (by omega), hg 21 (8 * ν + x) k rfl (by omega) (by omega), hg 6 (8 * ν + x + 12) k rfl (by omega) (by omega)⟩) (fun k h1 h2 => B k (by omega)) (B 5 (by omega)) hE, rP.cg q1 hR.2.2.2.2.2.1 (fun x k hx => ⟨hg 10 (4 * ν + x) k rfl (by omega) (by omega), hg 52 (4 * ν + x) k rfl (by omega) (by omega), hg 53 (4 * ν + x) k rfl (by omega) (by omega)⟩) (fun k h1 h2 => B k (by omega)) (B 6 (by omega)) hP, rS.cg q1 (fun x k hx => hg 9 (7 * ν + x) k rfl (by omega) (by omega)) (fun k h1 h2 => B k (by omega)) (B 7 (by omega)) hS, rN.cg q1 (fun k => ⟨hg 43 ν k rfl (by omega) (by omega), hg 44 ν k rfl (by omega) (by omega)⟩) (fun k h1 h2 => B k (by omega)) (B 8 (by omega)) hN, rK.cg q1 (fun k => ⟨hg 45 ν k rfl (by omega) (by omega), hg 46 ν k rfl (by omega) (by omega), hg 47 ν k rfl (by omega) (by omega)⟩) (fun k h1 h2 => B k (by omega)) (B 9 (by omega)) hK, rZ.cg q1 ⟨hg 5 ν 16 rfl (by omega) (by omega), hg 5 ν 17 rfl (by omega) (by omega)⟩ (fun k h1 h2 => B k (by omega)) (B 4 (by omega)) hZ⟩

theorem rM_end (hR : okR F) (h : rM g ν F) (B : ∀ k, k < 181 → F' k = F k) (hg : ∀ t i k, kMu t = true → ¬ (t = 36 ∧ i = ν ∧ k = 8) → ¬ (t = 5 ∧ i = ν ∧ (k = 16 ∨ k = 17)) → g' t i k = g t i k) (e36 : g' 36 ν 8 = (if F' 181 = 0 then 0 else 1)) (nc : rZ g' ν F') : rM g' ν F' := by
  obtain ⟨hB, hC', hT, hH, hE, hP, hS, hN, hK, hZ⟩ := h
  have q1 := hR.1
  exact ⟨⟨by rw [hg 36 ν 0 rfl (by omega) (by omega), B 0 (by omega)]; exact hB.1, by rw [hg 36 ν 1 rfl (by omega) (by omega), B 4 (by omega)]; exact hB.2.1, by rw [hg 36 ν 2 rfl (by omega) (by omega), B 10 (by omega)]; exact hB.2.2.1, by rw [hg 36 ν 3 rfl (by omega) (by omega), B 5 (by omega)]; exact hB.2.2.2.1, by rw [hg 36 ν 4 rfl (by omega) (by omega), B 6 (by omega)]; exact hB.2.2.2.2.1, by rw [hg 36 ν 5 rfl (by omega) (by omega), B 7 (by omega)]; exact hB.2.2.2.2.2.1, by rw [hg 36 ν 6 rfl (by omega) (by omega), B 8 (by omega)]; exact hB.2.2.2.2.2.2.1, by rw [hg 36 ν 7 rfl (by omega) (by omega), B 9 (by omega)]; exact hB.2.2.2.2.2.2.2.1, e36⟩, rC.cg (fun k hk => hg 5 ν k rfl (by omega) (by omega)) (fun k h1 h2 => B k (by omega)) hC', rT.cg q1 (fun k => hg 37 ν k rfl (by omega) (by omega)) (fun k h1 h2 => B k (by omega)) (B 4 (by omega)) hT, rH.cg q1 (fun x k hx => hg 6 (6 * ν + x) k rfl (by omega) (by omega)) (fun k => hg 39 ν k rfl (by omega) (by omega)) (fun k h1 h2 => B k (by omega)) (B 10 (by omega)) hH, rE.cg q1 (fun x k hx => ⟨hg 0 (8 * ν + x) k rfl (by omega) (by omega), hg 20 (8 * ν + x) k rfl (by omega) (by omega), hg 21 (8 * ν + x) k rfl (by omega) (by omega), hg 6 (8 * ν + x + 12) k rfl (by omega) (by omega)⟩) (fun k h1 h2 => B k (by omega)) (B 5 (by omega)) hE, rP.cg q1 hR.2.2.2.2.2.1 (fun x k hx => ⟨hg 10 (4 * ν + x) k rfl (by omega) (by omega), hg 52 (4 * ν + x) k rfl (by omega) (by omega), hg 53 (4 * ν + x) k rfl (by omega) (by omega)⟩) (fun k h1 h2 => B k (by omega)) (B 6 (by omega)) hP, rS.cg q1 (fun x k hx => hg 9 (7 * ν + x) k rfl (by omega) (by omega)) (fun k h1 h2 => B k (by omega)) (B 7 (by omega)) hS, rN.cg q1 (fun k => ⟨hg 43 ν k rfl (by omega) (by omega), hg 44 ν k rfl (by omega) (by omega)⟩) (fun k h1 h2 => B k (by omega)) (B 8 (by omega)) hN, rK.cg q1 (fun k => ⟨hg 45 ν k rfl (by omega) (by omega), hg 46 ν k rfl (by omega) (by omega), hg 47 ν k rfl (by omega) (by omega)⟩) (fun k h1 h2 => B k (by omega)) (B 9 (by omega)) hK, nc⟩

end RM
/-! FRAMES of a line -/
def fMu (ν : Nat) : Nat → Nat → Nat → Bool := fun t i _ => ((t == 36 || (t == 5 || (t == 37 || (t == 39 || (t == 43 || (t == 44 || (t == 45 || (t == 46 || t == 47)))))))) && i == ν) || ((t == 6 && ((decide (6 * ν ≤ i) && decide (i < 6 * ν + 6)) || (decide (8 * ν + 12 ≤ i) && decide (i < 8 * ν + 12 + 8)))) || (((t == 0 || (t == 20 || t == 21)) && (decide (8 * ν ≤ i) && decide (i < 8 * ν + 8))) || (((t == 10 || (t == 52 || t == 53)) && (decide (4 * ν ≤ i) && decide (i < 4 * ν + 4))) || (t == 9 && (decide (7 * ν ≤ i) && decide (i < 7 * ν + 7))))))
def fRd (ν : Nat) : Nat → Nat → Nat → Bool := fun t i k => fMl t i k || fMu ν t i k
theorem fMl_R {ν : Nat} : ∀ t i k, fMl t i k = true → fRd ν t i k = true := fun t i k h => by unfold fRd; rw [h]; rfl
theorem fMu_R {ν t i k : Nat} (h : fMu ν t i k = true) : fRd ν t i k = true := by unfold fRd; rw [h, Bool.or_true]
def FCt (ν : Nat) (σ : M2) (R : PR) (Q : Option dm_V → M2 → Prop) : Prop := ∀ f p σ', R = .inl (f, p) → f ≠ 0 → fq (fRd ν) σ σ' → σ'.1 7 0 8 = nI f → σ'.1 7 0 9 = nI p → Q (some (vi 0)) σ'
def SCt (ν : Nat) (T : Nat → Nat) (n m s : Nat) (σ : M2) (R : PR) (Q : Option dm_V → M2 → Prop) : Prop := ∀ c' F' N' σ', R = .inr (c', F', N') → fq (fRd ν) σ σ' → CT σ' ν T n c' N' m → rM (m2_wI σ' 36 ν s (σ'.1 36 ν s + 1)).1 ν F' → Q (some (vi 1)) σ'
theorem FCt.go {ν : Nat} {σ σ1 σ' : M2} {R : PR} {Q : Option dm_V → M2 → Prop} {f p : Nat} (h : FCt ν σ R Q) (E : R = .inl (f, p)) (h0 : f ≠ 0) (hf : fq (fRd ν) σ σ1) (g : fq fMl σ1 σ') (e8 : σ'.1 7 0 8 = nI f) (e9 : σ'.1 7 0 9 = nI p) : Q (some (vi 0)) σ' := h f p σ' E h0 (hf.trans (g.weak fMl_R)) e8 e9
theorem kMu_l {t i k : Nat} (h : kMu t = true) : fMl t i k = false := by
  unfold kMu at h
  unfold fMl
  simp only [Bool.or_eq_true, beq_iff_eq] at h
  simp only [Bool.or_eq_false_iff, Bool.and_eq_false_iff, beq_eq_false_iff_ne, ne_eq]
  omega
