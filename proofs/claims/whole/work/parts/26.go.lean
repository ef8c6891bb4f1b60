/-! THE PLACES of the methods by name, the program at each number -/
abbrev CL (L : Nat) (xs : Nat → Int32) (d : Nat) : Nat → List dm_V → M2 → (Option dm_V → M2 → Prop) → Prop := dm_Call dmE (m2O L xs) dmP d
theorem cl_at {L : Nat} {xs : Nat → Int32} {d y : Nat} {M : dm_M} (hy : dmP y = M) (hd : 4 ≤ d) {args : List dm_V} {σ : M2} {Q : Option dm_V → M2 → Prop} (h : dm_Go dmE (m2O L xs) (CL L xs (d - 1)) true M Q 0 (dm_ent M.2.1 args) [] σ) : CL L xs d y args σ Q := by
  subst hy
  match d, hd, h with
  | e + 1, hd, h =>
    show dm_Go dmE (m2O L xs) (dm_Call dmE (m2O L xs) dmP e) (Nat.ble 4 (e + 1)) (dmP y) Q 0 (dm_ent (dmP y).2.1 args) [] σ
    rw [Nat.ble_eq_true_of_le hd]
    exact h
abbrev g1_2 (L : Nat) (xs : Nat → Int32) (call : Nat → List dm_V → M2 → (Option dm_V → M2 → Prop) → Prop) (Q : Option dm_V → M2 → Prop) (o0 : Nat) (x2 : Int32) (x3 : Int32) (σ : M2) : Prop := dm_Go dmE (m2O L xs) call true mt_1 Q 2 [some (vr 0 o0), some (vr 51 0), some (vi x2), some (vi x3), none] [] σ
abbrev g1_38 (L : Nat) (xs : Nat → Int32) (call : Nat → List dm_V → M2 → (Option dm_V → M2 → Prop) → Prop) (Q : Option dm_V → M2 → Prop) (o0 : Nat) (x2 : Int32) (x3 : Int32) (y0 : Int32) (y1 : Int32) (σ : M2) : Prop := dm_Go dmE (m2O L xs) call true mt_1 Q 38 [some (vr 0 o0), some (vr 51 0), some (vi x2), some (vi x3), none] [vi y0, vi y1] σ
abbrev g3_2 (L : Nat) (xs : Nat → Int32) (call : Nat → List dm_V → M2 → (Option dm_V → M2 → Prop) → Prop) (Q : Option dm_V → M2 → Prop) (o0 : Nat) (x1 : Int32) (σ : M2) : Prop := dm_Go dmE (m2O L xs) call true mt_3 Q 2 [some (vr 1 o0), some (vi x1)] [] σ
abbrev g4_2 (L : Nat) (xs : Nat → Int32) (call : Nat → List dm_V → M2 → (Option dm_V → M2 → Prop) → Prop) (Q : Option dm_V → M2 → Prop) (o0 : Nat) (o1 : Nat) (x2 : Int32) (σ : M2) : Prop := dm_Go dmE (m2O L xs) call true mt_4 Q 2 [some (vr 1 o0), some (vr 1 o1), some (vi x2)] [] σ
abbrev g7_2 (L : Nat) (xs : Nat → Int32) (call : Nat → List dm_V → M2 → (Option dm_V → M2 → Prop) → Prop) (Q : Option dm_V → M2 → Prop) (o0 : Nat) (x1 : Int32) (x2 : Int32) (σ : M2) : Prop := dm_Go dmE (m2O L xs) call true mt_7 Q 2 [some (vr 1 o0), some (vi x1), some (vi x2)] [] σ
abbrev g10_22 (L : Nat) (xs : Nat → Int32) (call : Nat → List dm_V → M2 → (Option dm_V → M2 → Prop) → Prop) (Q : Option dm_V → M2 → Prop) (o1 : Nat) (y0 : Int32) (σ : M2) : Prop := dm_Go dmE (m2O L xs) call true mt_10 Q 22 [some (vr 2 0), some (vr 1 o1)] [vi y0, vr 2 0] σ
abbrev g16_48 (L : Nat) (xs : Nat → Int32) (call : Nat → List dm_V → M2 → (Option dm_V → M2 → Prop) → Prop) (Q : Option dm_V → M2 → Prop) (x3 : Int32) (σ : M2) : Prop := dm_Go dmE (m2O L xs) call true mt_16 Q 48 [some (vr 3 0), some (vr 8 0), none, some (vi x3)] [] σ
abbrev g17_35 (L : Nat) (xs : Nat → Int32) (call : Nat → List dm_V → M2 → (Option dm_V → M2 → Prop) → Prop) (Q : Option dm_V → M2 → Prop) (x2 : Int32) (x4 : Int32) (σ : M2) : Prop := dm_Go dmE (m2O L xs) call true mt_17 Q 35 [some (vr 3 0), none, some (vi x2), none, some (vi x4), none, none, none] [] σ
abbrev g17_104 (L : Nat) (xs : Nat → Int32) (call : Nat → List dm_V → M2 → (Option dm_V → M2 → Prop) → Prop) (Q : Option dm_V → M2 → Prop) (o1 : Nat) (x2 : Int32) (x3 : Int32) (x4 : Int32) (x5 : Int32) (x6 : Int32) (x7 : Int32) (σ : M2) : Prop := dm_Go dmE (m2O L xs) call true mt_17 Q 104 [some (vr 3 0), some (vr 5 o1), some (vi x2), some (vi x3), some (vi x4), some (vi x5), some (vi x6), some (vi x7)] [] σ
abbrev g19_2 (L : Nat) (xs : Nat → Int32) (call : Nat → List dm_V → M2 → (Option dm_V → M2 → Prop) → Prop) (Q : Option dm_V → M2 → Prop) (x1 : Int32) (σ : M2) : Prop := dm_Go dmE (m2O L xs) call true mt_19 Q 2 [some (vr 4 0), some (vi x1)] [] σ
abbrev g21_14 (L : Nat) (xs : Nat → Int32) (call : Nat → List dm_V → M2 → (Option dm_V → M2 → Prop) → Prop) (Q : Option dm_V → M2 → Prop) (x2 : Int32) (x3 : Int32) (o4 : Nat) (x5 : Int32) (σ : M2) : Prop := dm_Go dmE (m2O L xs) call true mt_21 Q 14 [some (vr 4 0), some (vr 8 0), some (vi x2), some (vi x3), some (vr 10 o4), some (vi x5), none] [] σ
abbrev g21_27 (L : Nat) (xs : Nat → Int32) (call : Nat → List dm_V → M2 → (Option dm_V → M2 → Prop) → Prop) (Q : Option dm_V → M2 → Prop) (x2 : Int32) (x3 : Int32) (o4 : Nat) (x5 : Int32) (x6 : Int32) (σ : M2) : Prop := dm_Go dmE (m2O L xs) call true mt_21 Q 27 [some (vr 4 0), some (vr 8 0), some (vi x2), some (vi x3), some (vr 10 o4), some (vi x5), some (vi x6)] [] σ
abbrev g22_14 (L : Nat) (xs : Nat → Int32) (call : Nat → List dm_V → M2 → (Option dm_V → M2 → Prop) → Prop) (Q : Option dm_V → M2 → Prop) (x2 : Int32) (x3 : Int32) (o4 : Nat) (x5 : Int32) (σ : M2) : Prop := dm_Go dmE (m2O L xs) call true mt_22 Q 14 [some (vr 4 0), some (vr 8 0), some (vi x2), some (vi x3), some (vr 10 o4), some (vi x5), none, none] [] σ
abbrev g22_27 (L : Nat) (xs : Nat → Int32) (call : Nat → List dm_V → M2 → (Option dm_V → M2 → Prop) → Prop) (Q : Option dm_V → M2 → Prop) (x2 : Int32) (x3 : Int32) (o4 : Nat) (x5 : Int32) (x6 : Int32) (σ : M2) : Prop := dm_Go dmE (m2O L xs) call true mt_22 Q 27 [some (vr 4 0), some (vr 8 0), some (vi x2), some (vi x3), some (vr 10 o4), some (vi x5), some (vi x6), none] [] σ
abbrev g23_2 (L : Nat) (xs : Nat → Int32) (call : Nat → List dm_V → M2 → (Option dm_V → M2 → Prop) → Prop) (Q : Option dm_V → M2 → Prop) (x2 : Int32) (x3 : Int32) (σ : M2) : Prop := dm_Go dmE (m2O L xs) call true mt_23 Q 2 [some (vr 4 0), some (vr 8 0), some (vi x2), some (vi x3), none] [] σ
abbrev g23_16 (L : Nat) (xs : Nat → Int32) (call : Nat → List dm_V → M2 → (Option dm_V → M2 → Prop) → Prop) (Q : Option dm_V → M2 → Prop) (x2 : Int32) (x3 : Int32) (x4 : Int32) (σ : M2) : Prop := dm_Go dmE (m2O L xs) call true mt_23 Q 16 [some (vr 4 0), some (vr 8 0), some (vi x2), some (vi x3), some (vi x4)] [] σ
abbrev g28_4 (L : Nat) (xs : Nat → Int32) (call : Nat → List dm_V → M2 → (Option dm_V → M2 → Prop) → Prop) (Q : Option dm_V → M2 → Prop) (o0 : Nat) (x1 : Int64) (x3 : Int32) (σ : M2) : Prop := dm_Go dmE (m2O L xs) call true mt_28 Q 4 [some (vr 90 o0), some (vl x1), none, some (vi x3)] [] σ
abbrev g29_2 (L : Nat) (xs : Nat → Int32) (call : Nat → List dm_V → M2 → (Option dm_V → M2 → Prop) → Prop) (Q : Option dm_V → M2 → Prop) (x2 : Int32) (x3 : Int32) (σ : M2) : Prop := dm_Go dmE (m2O L xs) call true mt_29 Q 2 [some (vr 7 0), some (vr 54 0), some (vi x2), some (vi x3), none] [] σ
abbrev g29_53 (L : Nat) (xs : Nat → Int32) (call : Nat → List dm_V → M2 → (Option dm_V → M2 → Prop) → Prop) (Q : Option dm_V → M2 → Prop) (x2 : Int32) (x3 : Int32) (σ : M2) : Prop := dm_Go dmE (m2O L xs) call true mt_29 Q 53 [some (vr 7 0), none, some (vi x2), some (vi x3), none] [] σ
abbrev g32_46 (L : Nat) (xs : Nat → Int32) (call : Nat → List dm_V → M2 → (Option dm_V → M2 → Prop) → Prop) (Q : Option dm_V → M2 → Prop) (x1 : Int32) (x2 : Int32) (σ : M2) : Prop := dm_Go dmE (m2O L xs) call true mt_32 Q 46 [some (vr 7 0), some (vi x1), some (vi x2), none] [] σ
abbrev g32_82 (L : Nat) (xs : Nat → Int32) (call : Nat → List dm_V → M2 → (Option dm_V → M2 → Prop) → Prop) (Q : Option dm_V → M2 → Prop) (x1 : Int32) (y0 : Int32) (σ : M2) : Prop := dm_Go dmE (m2O L xs) call true mt_32 Q 82 [some (vr 7 0), some (vi x1), none, none] [vi y0] σ
abbrev g37_15 (L : Nat) (xs : Nat → Int32) (call : Nat → List dm_V → M2 → (Option dm_V → M2 → Prop) → Prop) (Q : Option dm_V → M2 → Prop) (x1 : Int32) (σ : M2) : Prop := dm_Go dmE (m2O L xs) call true mt_37 Q 15 [some (vr 7 0), some (vi x1)] [] σ
abbrev g38_32 (L : Nat) (xs : Nat → Int32) (call : Nat → List dm_V → M2 → (Option dm_V → M2 → Prop) → Prop) (Q : Option dm_V → M2 → Prop) (x1 : Int32) (x2 : Int32) (σ : M2) : Prop := dm_Go dmE (m2O L xs) call true mt_38 Q 32 [some (vr 7 0), some (vi x1), some (vi x2)] [] σ
abbrev g39_32 (L : Nat) (xs : Nat → Int32) (call : Nat → List dm_V → M2 → (Option dm_V → M2 → Prop) → Prop) (Q : Option dm_V → M2 → Prop) (x1 : Int32) (x2 : Int32) (σ : M2) : Prop := dm_Go dmE (m2O L xs) call true mt_39 Q 32 [some (vr 7 0), some (vi x1), some (vi x2)] [] σ
abbrev g42_56 (L : Nat) (xs : Nat → Int32) (call : Nat → List dm_V → M2 → (Option dm_V → M2 → Prop) → Prop) (Q : Option dm_V → M2 → Prop) (o1 : Nat) (σ : M2) : Prop := dm_Go dmE (m2O L xs) call true mt_42 Q 56 [some (vr 7 0), some (vr 6 o1)] [] σ
abbrev g44_17 (L : Nat) (xs : Nat → Int32) (call : Nat → List dm_V → M2 → (Option dm_V → M2 → Prop) → Prop) (Q : Option dm_V → M2 → Prop) (o1 : Nat) (x2 : Int32) (σ : M2) : Prop := dm_Go dmE (m2O L xs) call true mt_44 Q 17 [some (vr 7 0), some (vr 0 o1), some (vi x2)] [] σ
abbrev g44_59 (L : Nat) (xs : Nat → Int32) (call : Nat → List dm_V → M2 → (Option dm_V → M2 → Prop) → Prop) (Q : Option dm_V → M2 → Prop) (o1 : Nat) (σ : M2) : Prop := dm_Go dmE (m2O L xs) call true mt_44 Q 59 [some (vr 7 0), some (vr 0 o1), none] [] σ
abbrev g45_32 (L : Nat) (xs : Nat → Int32) (call : Nat → List dm_V → M2 → (Option dm_V → M2 → Prop) → Prop) (Q : Option dm_V → M2 → Prop) (o1 : Nat) (x2 : Int32) (σ : M2) : Prop := dm_Go dmE (m2O L xs) call true mt_45 Q 32 [some (vr 7 0), some (vr 0 o1), some (vi x2), none] [] σ
abbrev g45_92 (L : Nat) (xs : Nat → Int32) (call : Nat → List dm_V → M2 → (Option dm_V → M2 → Prop) → Prop) (Q : Option dm_V → M2 → Prop) (o1 : Nat) (x2 : Int32) (x3 : Int32) (σ : M2) : Prop := dm_Go dmE (m2O L xs) call true mt_45 Q 92 [some (vr 7 0), some (vr 0 o1), some (vi x2), some (vi x3)] [] σ
abbrev g46_17 (L : Nat) (xs : Nat → Int32) (call : Nat → List dm_V → M2 → (Option dm_V → M2 → Prop) → Prop) (Q : Option dm_V → M2 → Prop) (o1 : Nat) (x2 : Int32) (σ : M2) : Prop := dm_Go dmE (m2O L xs) call true mt_46 Q 17 [some (vr 7 0), some (vr 10 o1), some (vi x2)] [] σ
abbrev g47_109 (L : Nat) (xs : Nat → Int32) (call : Nat → List dm_V → M2 → (Option dm_V → M2 → Prop) → Prop) (Q : Option dm_V → M2 → Prop) (o1 : Nat) (σ : M2) : Prop := dm_Go dmE (m2O L xs) call true mt_47 Q 109 [some (vr 7 0), some (vr 9 o1)] [] σ
abbrev g49_62 (L : Nat) (xs : Nat → Int32) (call : Nat → List dm_V → M2 → (Option dm_V → M2 → Prop) → Prop) (Q : Option dm_V → M2 → Prop) (x1 : Int32) (y0 : Int32) (σ : M2) : Prop := dm_Go dmE (m2O L xs) call true mt_49 Q 62 [some (vr 7 0), some (vi x1), none] [vi y0] σ
abbrev g50_49 (L : Nat) (xs : Nat → Int32) (call : Nat → List dm_V → M2 → (Option dm_V → M2 → Prop) → Prop) (Q : Option dm_V → M2 → Prop) (x1 : Int32) (x2 : Int32) (σ : M2) : Prop := dm_Go dmE (m2O L xs) call true mt_50 Q 49 [some (vr 7 0), some (vi x1), some (vi x2)] [] σ
abbrev g51_25 (L : Nat) (xs : Nat → Int32) (call : Nat → List dm_V → M2 → (Option dm_V → M2 → Prop) → Prop) (Q : Option dm_V → M2 → Prop) (x1 : Int32) (x2 : Int32) (σ : M2) : Prop := dm_Go dmE (m2O L xs) call true mt_51 Q 25 [some (vr 7 0), some (vi x1), some (vi x2)] [] σ
abbrev g51_66 (L : Nat) (xs : Nat → Int32) (call : Nat → List dm_V → M2 → (Option dm_V → M2 → Prop) → Prop) (Q : Option dm_V → M2 → Prop) (x1 : Int32) (x2 : Int32) (σ : M2) : Prop := dm_Go dmE (m2O L xs) call true mt_51 Q 66 [some (vr 7 0), some (vi x1), some (vi x2)] [] σ
abbrev g54_56 (L : Nat) (xs : Nat → Int32) (call : Nat → List dm_V → M2 → (Option dm_V → M2 → Prop) → Prop) (Q : Option dm_V → M2 → Prop) (o1 : Nat) (x3 : Int32) (x5 : Int32) (σ : M2) : Prop := dm_Go dmE (m2O L xs) call true mt_54 Q 56 [none, some (vr 10 o1), none, some (vi x3), none, some (vi x5)] [] σ
abbrev g56_33 (L : Nat) (xs : Nat → Int32) (call : Nat → List dm_V → M2 → (Option dm_V → M2 → Prop) → Prop) (Q : Option dm_V → M2 → Prop) (x4 : Int32) (x5 : Int32) (σ : M2) : Prop := dm_Go dmE (m2O L xs) call true mt_56 Q 33 [some (vr 8 0), none, none, none, some (vi x4), some (vi x5), none, none] [] σ
abbrev g56_93 (L : Nat) (xs : Nat → Int32) (call : Nat → List dm_V → M2 → (Option dm_V → M2 → Prop) → Prop) (Q : Option dm_V → M2 → Prop) (x5 : Int32) (x6 : Int32) (σ : M2) : Prop := dm_Go dmE (m2O L xs) call true mt_56 Q 93 [some (vr 8 0), none, none, none, none, some (vi x5), some (vi x6), none] [] σ
abbrev g57_26 (L : Nat) (xs : Nat → Int32) (call : Nat → List dm_V → M2 → (Option dm_V → M2 → Prop) → Prop) (Q : Option dm_V → M2 → Prop) (x1 : Int32) (σ : M2) : Prop := dm_Go dmE (m2O L xs) call true mt_57 Q 26 [some (vr 8 0), some (vi x1)] [] σ
abbrev g58_15 (L : Nat) (xs : Nat → Int32) (call : Nat → List dm_V → M2 → (Option dm_V → M2 → Prop) → Prop) (Q : Option dm_V → M2 → Prop) (x4 : Int32) (x5 : Int32) (σ : M2) : Prop := dm_Go dmE (m2O L xs) call true mt_58 Q 15 [some (vr 8 0), none, none, none, some (vi x4), some (vi x5)] [] σ
abbrev g60_26 (L : Nat) (xs : Nat → Int32) (call : Nat → List dm_V → M2 → (Option dm_V → M2 → Prop) → Prop) (Q : Option dm_V → M2 → Prop) (o1 : Nat) (x3 : Int32) (x4 : Int32) (σ : M2) : Prop := dm_Go dmE (m2O L xs) call true mt_60 Q 26 [some (vr 8 0), some (vr 10 o1), none, some (vi x3), some (vi x4)] [] σ
abbrev g62_58 (L : Nat) (xs : Nat → Int32) (call : Nat → List dm_V → M2 → (Option dm_V → M2 → Prop) → Prop) (Q : Option dm_V → M2 → Prop) (x2 : Int32) (x3 : Int32) (y0 : Int32) (σ : M2) : Prop := dm_Go dmE (m2O L xs) call true mt_62 Q 58 [some (vr 8 0), none, some (vi x2), some (vi x3), none, none] [vi y0] σ
abbrev g65_10 (L : Nat) (xs : Nat → Int32) (call : Nat → List dm_V → M2 → (Option dm_V → M2 → Prop) → Prop) (Q : Option dm_V → M2 → Prop) (o0 : Nat) (o1 : Nat) (x2 : Int32) (σ : M2) : Prop := dm_Go dmE (m2O L xs) call true mt_65 Q 10 [some (vr 10 o0), some (vr 10 o1), some (vi x2)] [] σ
abbrev g66_28 (L : Nat) (xs : Nat → Int32) (call : Nat → List dm_V → M2 → (Option dm_V → M2 → Prop) → Prop) (Q : Option dm_V → M2 → Prop) (o0 : Nat) (x1 : Int32) (x2 : Int32) (x3 : Int32) (x4 : Int32) (σ : M2) : Prop := dm_Go dmE (m2O L xs) call true mt_66 Q 28 [some (vr 10 o0), some (vi x1), some (vi x2), some (vi x3), some (vi x4)] [] σ
abbrev g67_25 (L : Nat) (xs : Nat → Int32) (call : Nat → List dm_V → M2 → (Option dm_V → M2 → Prop) → Prop) (Q : Option dm_V → M2 → Prop) (o0 : Nat) (x2 : Int32) (σ : M2) : Prop := dm_Go dmE (m2O L xs) call true mt_67 Q 25 [some (vr 10 o0), none, some (vi x2)] [] σ
abbrev g71_8 (L : Nat) (xs : Nat → Int32) (call : Nat → List dm_V → M2 → (Option dm_V → M2 → Prop) → Prop) (Q : Option dm_V → M2 → Prop)  (σ : M2) : Prop := dm_Go dmE (m2O L xs) call true mt_71 Q 8 [some (vr 11 0), none] [] σ
abbrev g71_46 (L : Nat) (xs : Nat → Int32) (call : Nat → List dm_V → M2 → (Option dm_V → M2 → Prop) → Prop) (Q : Option dm_V → M2 → Prop)  (σ : M2) : Prop := dm_Go dmE (m2O L xs) call true mt_71 Q 46 [some (vr 11 0), none] [] σ
abbrev g71_119 (L : Nat) (xs : Nat → Int32) (call : Nat → List dm_V → M2 → (Option dm_V → M2 → Prop) → Prop) (Q : Option dm_V → M2 → Prop) (x1 : Int32) (σ : M2) : Prop := dm_Go dmE (m2O L xs) call true mt_71 Q 119 [some (vr 11 0), some (vi x1)] [] σ
abbrev g72_5 (L : Nat) (xs : Nat → Int32) (call : Nat → List dm_V → M2 → (Option dm_V → M2 → Prop) → Prop) (Q : Option dm_V → M2 → Prop)  (σ : M2) : Prop := dm_Go dmE (m2O L xs) call true mt_72 Q 5 [some (vr 11 0)] [] σ
abbrev g72_85 (L : Nat) (xs : Nat → Int32) (call : Nat → List dm_V → M2 → (Option dm_V → M2 → Prop) → Prop) (Q : Option dm_V → M2 → Prop)  (σ : M2) : Prop := dm_Go dmE (m2O L xs) call true mt_72 Q 85 [some (vr 11 0)] [] σ
abbrev g73_5 (L : Nat) (xs : Nat → Int32) (call : Nat → List dm_V → M2 → (Option dm_V → M2 → Prop) → Prop) (Q : Option dm_V → M2 → Prop)  (σ : M2) : Prop := dm_Go dmE (m2O L xs) call true mt_73 Q 5 [some (vr 11 0)] [] σ
abbrev g73_81 (L : Nat) (xs : Nat → Int32) (call : Nat → List dm_V → M2 → (Option dm_V → M2 → Prop) → Prop) (Q : Option dm_V → M2 → Prop)  (σ : M2) : Prop := dm_Go dmE (m2O L xs) call true mt_73 Q 81 [some (vr 11 0)] [] σ
abbrev g74_28 (L : Nat) (xs : Nat → Int32) (call : Nat → List dm_V → M2 → (Option dm_V → M2 → Prop) → Prop) (Q : Option dm_V → M2 → Prop) (o1 : Nat) (x2 : Int32) (σ : M2) : Prop := dm_Go dmE (m2O L xs) call true mt_74 Q 28 [some (vr 11 0), some (vr 90 o1), some (vi x2)] [] σ
abbrev g77_3 (L : Nat) (xs : Nat → Int32) (call : Nat → List dm_V → M2 → (Option dm_V → M2 → Prop) → Prop) (Q : Option dm_V → M2 → Prop) (x1 : Int32) (x2 : Int32) (σ : M2) : Prop := dm_Go dmE (m2O L xs) call true mt_77 Q 3 [some (vr 12 0), some (vi x1), some (vi x2)] [] σ
abbrev g95_19 (L : Nat) (xs : Nat → Int32) (call : Nat → List dm_V → M2 → (Option dm_V → M2 → Prop) → Prop) (Q : Option dm_V → M2 → Prop) (x1 : Int32) (x2 : Int32) (x3 : Int32) (σ : M2) : Prop := dm_Go dmE (m2O L xs) call true mt_95 Q 19 [some (vr 12 0), some (vi x1), some (vi x2), some (vi x3)] [] σ
abbrev g98_19 (L : Nat) (xs : Nat → Int32) (call : Nat → List dm_V → M2 → (Option dm_V → M2 → Prop) → Prop) (Q : Option dm_V → M2 → Prop) (o1 : Nat) (x2 : Int32) (x3 : Int32) (x4 : Int32) (x5 : Int32) (σ : M2) : Prop := dm_Go dmE (m2O L xs) call true mt_98 Q 19 [some (vr 12 0), some (vr 10 o1), some (vi x2), some (vi x3), some (vi x4), some (vi x5)] [] σ
abbrev g99_35 (L : Nat) (xs : Nat → Int32) (call : Nat → List dm_V → M2 → (Option dm_V → M2 → Prop) → Prop) (Q : Option dm_V → M2 → Prop) (x2 : Int32) (o3 : Nat) (x4 : Int32) (x5 : Int32) (x6 : Int32) (σ : M2) : Prop := dm_Go dmE (m2O L xs) call true mt_99 Q 35 [some (vr 12 0), none, some (vi x2), some (vr 10 o3), some (vi x4), some (vi x5), some (vi x6), none] [] σ
abbrev g102_19 (L : Nat) (xs : Nat → Int32) (call : Nat → List dm_V → M2 → (Option dm_V → M2 → Prop) → Prop) (Q : Option dm_V → M2 → Prop) (o1 : Nat) (x2 : Int32) (x3 : Int32) (x4 : Int32) (x5 : Int32) (σ : M2) : Prop := dm_Go dmE (m2O L xs) call true mt_102 Q 19 [some (vr 12 0), some (vr 10 o1), some (vi x2), some (vi x3), some (vi x4), some (vi x5), none] [] σ
abbrev g102_50 (L : Nat) (xs : Nat → Int32) (call : Nat → List dm_V → M2 → (Option dm_V → M2 → Prop) → Prop) (Q : Option dm_V → M2 → Prop) (o1 : Nat) (x2 : Int32) (x3 : Int32) (x4 : Int32) (x5 : Int32) (x6 : Int32) (σ : M2) : Prop := dm_Go dmE (m2O L xs) call true mt_102 Q 50 [some (vr 12 0), some (vr 10 o1), some (vi x2), some (vi x3), some (vi x4), some (vi x5), some (vi x6)] [] σ
abbrev g104_30 (L : Nat) (xs : Nat → Int32) (call : Nat → List dm_V → M2 → (Option dm_V → M2 → Prop) → Prop) (Q : Option dm_V → M2 → Prop) (o2 : Nat) (x3 : Int32) (x4 : Int32) (σ : M2) : Prop := dm_Go dmE (m2O L xs) call true mt_104 Q 30 [some (vr 12 0), none, some (vr 10 o2), some (vi x3), some (vi x4), none] [] σ
abbrev g104_60 (L : Nat) (xs : Nat → Int32) (call : Nat → List dm_V → M2 → (Option dm_V → M2 → Prop) → Prop) (Q : Option dm_V → M2 → Prop) (o2 : Nat) (x3 : Int32) (x4 : Int32) (x5 : Int32) (σ : M2) : Prop := dm_Go dmE (m2O L xs) call true mt_104 Q 60 [some (vr 12 0), none, some (vr 10 o2), some (vi x3), some (vi x4), some (vi x5)] [] σ
abbrev g105_13 (L : Nat) (xs : Nat → Int32) (call : Nat → List dm_V → M2 → (Option dm_V → M2 → Prop) → Prop) (Q : Option dm_V → M2 → Prop) (x1 : Int32) (x2 : Int32) (σ : M2) : Prop := dm_Go dmE (m2O L xs) call true mt_105 Q 13 [some (vr 12 0), some (vi x1), some (vi x2)] [] σ
abbrev g107_41 (L : Nat) (xs : Nat → Int32) (call : Nat → List dm_V → M2 → (Option dm_V → M2 → Prop) → Prop) (Q : Option dm_V → M2 → Prop) (x2 : Int32) (x3 : Int32) (x4 : Int32) (σ : M2) : Prop := dm_Go dmE (m2O L xs) call true mt_107 Q 41 [some (vr 12 0), none, some (vi x2), some (vi x3), some (vi x4)] [] σ
abbrev g109_34 (L : Nat) (xs : Nat → Int32) (call : Nat → List dm_V → M2 → (Option dm_V → M2 → Prop) → Prop) (Q : Option dm_V → M2 → Prop) (x1 : Int32) (o2 : Nat) (σ : M2) : Prop := dm_Go dmE (m2O L xs) call true mt_109 Q 34 [some (vr 12 0), some (vi x1), some (vr 10 o2)] [] σ
abbrev g112_19 (L : Nat) (xs : Nat → Int32) (call : Nat → List dm_V → M2 → (Option dm_V → M2 → Prop) → Prop) (Q : Option dm_V → M2 → Prop) (o1 : Nat) (x2 : Int32) (x3 : Int32) (σ : M2) : Prop := dm_Go dmE (m2O L xs) call true mt_112 Q 19 [some (vr 12 0), some (vr 10 o1), some (vi x2), some (vi x3), none, none] [] σ
abbrev g112_36 (L : Nat) (xs : Nat → Int32) (call : Nat → List dm_V → M2 → (Option dm_V → M2 → Prop) → Prop) (Q : Option dm_V → M2 → Prop) (o1 : Nat) (x2 : Int32) (x3 : Int32) (x4 : Int32) (σ : M2) : Prop := dm_Go dmE (m2O L xs) call true mt_112 Q 36 [some (vr 12 0), some (vr 10 o1), some (vi x2), some (vi x3), some (vi x4), none] [] σ
abbrev g113_2 (L : Nat) (xs : Nat → Int32) (call : Nat → List dm_V → M2 → (Option dm_V → M2 → Prop) → Prop) (Q : Option dm_V → M2 → Prop) (o1 : Nat) (x2 : Int32) (x3 : Int32) (σ : M2) : Prop := dm_Go dmE (m2O L xs) call true mt_113 Q 2 [some (vr 12 0), some (vr 10 o1), some (vi x2), some (vi x3)] [] σ
abbrev g113_34 (L : Nat) (xs : Nat → Int32) (call : Nat → List dm_V → M2 → (Option dm_V → M2 → Prop) → Prop) (Q : Option dm_V → M2 → Prop) (o1 : Nat) (x2 : Int32) (x3 : Int32) (σ : M2) : Prop := dm_Go dmE (m2O L xs) call true mt_113 Q 34 [some (vr 12 0), some (vr 10 o1), some (vi x2), some (vi x3)] [] σ
abbrev g114_15 (L : Nat) (xs : Nat → Int32) (call : Nat → List dm_V → M2 → (Option dm_V → M2 → Prop) → Prop) (Q : Option dm_V → M2 → Prop) (x4 : Int32) (σ : M2) : Prop := dm_Go dmE (m2O L xs) call true mt_114 Q 15 [some (vr 12 0), none, none, none, some (vi x4)] [] σ
abbrev g115_4 (L : Nat) (xs : Nat → Int32) (call : Nat → List dm_V → M2 → (Option dm_V → M2 → Prop) → Prop) (Q : Option dm_V → M2 → Prop) (x1 : Int32) (x2 : Int32) (x3 : Int32) (σ : M2) : Prop := dm_Go dmE (m2O L xs) call true mt_115 Q 4 [some (vr 12 0), some (vi x1), some (vi x2), some (vi x3)] [] σ
abbrev g119_37 (L : Nat) (xs : Nat → Int32) (call : Nat → List dm_V → M2 → (Option dm_V → M2 → Prop) → Prop) (Q : Option dm_V → M2 → Prop) (x2 : Int32) (x3 : Int32) (σ : M2) : Prop := dm_Go dmE (m2O L xs) call true mt_119 Q 37 [some (vr 12 0), none, some (vi x2), some (vi x3)] [] σ
abbrev g120_35 (L : Nat) (xs : Nat → Int32) (call : Nat → List dm_V → M2 → (Option dm_V → M2 → Prop) → Prop) (Q : Option dm_V → M2 → Prop) (x1 : Int32) (x2 : Int32) (x3 : Int32) (σ : M2) : Prop := dm_Go dmE (m2O L xs) call true mt_120 Q 35 [some (vr 12 0), some (vi x1), some (vi x2), some (vi x3), none] [] σ
abbrev g120_51 (L : Nat) (xs : Nat → Int32) (call : Nat → List dm_V → M2 → (Option dm_V → M2 → Prop) → Prop) (Q : Option dm_V → M2 → Prop) (x1 : Int32) (x2 : Int32) (x3 : Int32) (x4 : Int32) (σ : M2) : Prop := dm_Go dmE (m2O L xs) call true mt_120 Q 51 [some (vr 12 0), some (vi x1), some (vi x2), some (vi x3), some (vi x4)] [] σ
abbrev g121_2 (L : Nat) (xs : Nat → Int32) (call : Nat → List dm_V → M2 → (Option dm_V → M2 → Prop) → Prop) (Q : Option dm_V → M2 → Prop) (x1 : Int32) (σ : M2) : Prop := dm_Go dmE (m2O L xs) call true mt_121 Q 2 [some (vr 12 0), some (vi x1), none, none] [] σ
abbrev g121_53 (L : Nat) (xs : Nat → Int32) (call : Nat → List dm_V → M2 → (Option dm_V → M2 → Prop) → Prop) (Q : Option dm_V → M2 → Prop) (x1 : Int32) (x2 : Int32) (x3 : Int32) (σ : M2) : Prop := dm_Go dmE (m2O L xs) call true mt_121 Q 53 [some (vr 12 0), some (vi x1), some (vi x2), some (vi x3)] [] σ
abbrev g122_16 (L : Nat) (xs : Nat → Int32) (call : Nat → List dm_V → M2 → (Option dm_V → M2 → Prop) → Prop) (Q : Option dm_V → M2 → Prop) (x1 : Int32) (x2 : Int32) (x3 : Int32) (σ : M2) : Prop := dm_Go dmE (m2O L xs) call true mt_122 Q 16 [some (vr 12 0), some (vi x1), some (vi x2), some (vi x3), none] [] σ
abbrev g122_32 (L : Nat) (xs : Nat → Int32) (call : Nat → List dm_V → M2 → (Option dm_V → M2 → Prop) → Prop) (Q : Option dm_V → M2 → Prop) (x1 : Int32) (x2 : Int32) (x3 : Int32) (x4 : Int32) (σ : M2) : Prop := dm_Go dmE (m2O L xs) call true mt_122 Q 32 [some (vr 12 0), some (vi x1), some (vi x2), some (vi x3), some (vi x4)] [] σ
abbrev g123_3 (L : Nat) (xs : Nat → Int32) (call : Nat → List dm_V → M2 → (Option dm_V → M2 → Prop) → Prop) (Q : Option dm_V → M2 → Prop) (x1 : Int32) (x2 : Int32) (x3 : Int32) (x4 : Int32) (σ : M2) : Prop := dm_Go dmE (m2O L xs) call true mt_123 Q 3 [some (vr 12 0), some (vi x1), some (vi x2), some (vi x3), some (vi x4), none] [] σ
abbrev g132_12 (L : Nat) (xs : Nat → Int32) (call : Nat → List dm_V → M2 → (Option dm_V → M2 → Prop) → Prop) (Q : Option dm_V → M2 → Prop) (o1 : Nat) (x2 : Int32) (x3 : Int32) (x4 : Int32) (σ : M2) : Prop := dm_Go dmE (m2O L xs) call true mt_132 Q 12 [some (vr 12 0), some (vr 10 o1), some (vi x2), some (vi x3), some (vi x4), none] [] σ
abbrev g133_16 (L : Nat) (xs : Nat → Int32) (call : Nat → List dm_V → M2 → (Option dm_V → M2 → Prop) → Prop) (Q : Option dm_V → M2 → Prop) (o1 : Nat) (x2 : Int32) (x3 : Int32) (x4 : Int32) (σ : M2) : Prop := dm_Go dmE (m2O L xs) call true mt_133 Q 16 [some (vr 12 0), some (vr 10 o1), some (vi x2), some (vi x3), some (vi x4)] [] σ
abbrev g134_88 (L : Nat) (xs : Nat → Int32) (call : Nat → List dm_V → M2 → (Option dm_V → M2 → Prop) → Prop) (Q : Option dm_V → M2 → Prop) (x2 : Int32) (x3 : Int32) (x4 : Int32) (x5 : Int32) (x6 : Int32) (x7 : Int32) (σ : M2) : Prop := dm_Go dmE (m2O L xs) call true mt_134 Q 88 [some (vr 12 0), none, some (vi x2), some (vi x3), some (vi x4), some (vi x5), some (vi x6), some (vi x7), none] [] σ
abbrev g137_17 (L : Nat) (xs : Nat → Int32) (call : Nat → List dm_V → M2 → (Option dm_V → M2 → Prop) → Prop) (Q : Option dm_V → M2 → Prop) (x1 : Int32) (x2 : Int32) (σ : M2) : Prop := dm_Go dmE (m2O L xs) call true mt_137 Q 17 [some (vr 12 0), some (vi x1), some (vi x2)] [] σ
abbrev g139_63 (L : Nat) (xs : Nat → Int32) (call : Nat → List dm_V → M2 → (Option dm_V → M2 → Prop) → Prop) (Q : Option dm_V → M2 → Prop) (x1 : Int32) (y0 : Int32) (σ : M2) : Prop := dm_Go dmE (m2O L xs) call true mt_139 Q 63 [some (vr 12 0), some (vi x1), none, none] [vi y0] σ
abbrev g145_4 (L : Nat) (xs : Nat → Int32) (call : Nat → List dm_V → M2 → (Option dm_V → M2 → Prop) → Prop) (Q : Option dm_V → M2 → Prop) (x1 : Int32) (x2 : Int32) (x3 : Int32) (σ : M2) : Prop := dm_Go dmE (m2O L xs) call true mt_145 Q 4 [some (vr 12 0), some (vi x1), some (vi x2), some (vi x3)] [] σ
abbrev g154_4 (L : Nat) (xs : Nat → Int32) (call : Nat → List dm_V → M2 → (Option dm_V → M2 → Prop) → Prop) (Q : Option dm_V → M2 → Prop) (x0 : Int32) (x1 : Int32) (x2 : Int32) (σ : M2) : Prop := dm_Go dmE (m2O L xs) call true mt_154 Q 4 [some (vi x0), some (vi x1), some (vi x2)] [] σ
abbrev g155_63_62_0 (L : Nat) (xs : Nat → Int32) (call : Nat → List dm_V → M2 → (Option dm_V → M2 → Prop) → Prop) (Q : Option dm_V → M2 → Prop) (x1 : Int32) (x3 : Int32) (x4 : Int32) (σ : M2) : Prop := dm_Go dmE (m2O L xs) call true mt_155 Q 0 [some (vr 63 0), some (vi x1), some (vr 62 0), some (vi x3), some (vi x4), none] [] σ
abbrev g155_63_62_3 (L : Nat) (xs : Nat → Int32) (call : Nat → List dm_V → M2 → (Option dm_V → M2 → Prop) → Prop) (Q : Option dm_V → M2 → Prop) (x1 : Int32) (x3 : Int32) (x4 : Int32) (x5 : Int32) (σ : M2) : Prop := dm_Go dmE (m2O L xs) call true mt_155 Q 3 [some (vr 63 0), some (vi x1), some (vr 62 0), some (vi x3), some (vi x4), some (vi x5)] [] σ
abbrev g155_67_70_0 (L : Nat) (xs : Nat → Int32) (call : Nat → List dm_V → M2 → (Option dm_V → M2 → Prop) → Prop) (Q : Option dm_V → M2 → Prop) (x1 : Int32) (x3 : Int32) (x4 : Int32) (σ : M2) : Prop := dm_Go dmE (m2O L xs) call true mt_155 Q 0 [some (vr 67 0), some (vi x1), some (vr 70 0), some (vi x3), some (vi x4), none] [] σ
abbrev g155_67_70_3 (L : Nat) (xs : Nat → Int32) (call : Nat → List dm_V → M2 → (Option dm_V → M2 → Prop) → Prop) (Q : Option dm_V → M2 → Prop) (x1 : Int32) (x3 : Int32) (x4 : Int32) (x5 : Int32) (σ : M2) : Prop := dm_Go dmE (m2O L xs) call true mt_155 Q 3 [some (vr 67 0), some (vi x1), some (vr 70 0), some (vi x3), some (vi x4), some (vi x5)] [] σ
abbrev g155_70_67_0 (L : Nat) (xs : Nat → Int32) (call : Nat → List dm_V → M2 → (Option dm_V → M2 → Prop) → Prop) (Q : Option dm_V → M2 → Prop) (x1 : Int32) (x3 : Int32) (x4 : Int32) (σ : M2) : Prop := dm_Go dmE (m2O L xs) call true mt_155 Q 0 [some (vr 70 0), some (vi x1), some (vr 67 0), some (vi x3), some (vi x4), none] [] σ
abbrev g155_70_67_3 (L : Nat) (xs : Nat → Int32) (call : Nat → List dm_V → M2 → (Option dm_V → M2 → Prop) → Prop) (Q : Option dm_V → M2 → Prop) (x1 : Int32) (x3 : Int32) (x4 : Int32) (x5 : Int32) (σ : M2) : Prop := dm_Go dmE (m2O L xs) call true mt_155 Q 3 [some (vr 70 0), some (vi x1), some (vr 67 0), some (vi x3), some (vi x4), some (vi x5)] [] σ
abbrev g155_73_74_0 (L : Nat) (xs : Nat → Int32) (call : Nat → List dm_V → M2 → (Option dm_V → M2 → Prop) → Prop) (Q : Option dm_V → M2 → Prop) (x1 : Int32) (x3 : Int32) (x4 : Int32) (σ : M2) : Prop := dm_Go dmE (m2O L xs) call true mt_155 Q 0 [some (vr 73 0), some (vi x1), some (vr 74 0), some (vi x3), some (vi x4), none] [] σ
abbrev g155_73_74_3 (L : Nat) (xs : Nat → Int32) (call : Nat → List dm_V → M2 → (Option dm_V → M2 → Prop) → Prop) (Q : Option dm_V → M2 → Prop) (x1 : Int32) (x3 : Int32) (x4 : Int32) (x5 : Int32) (σ : M2) : Prop := dm_Go dmE (m2O L xs) call true mt_155 Q 3 [some (vr 73 0), some (vi x1), some (vr 74 0), some (vi x3), some (vi x4), some (vi x5)] [] σ
abbrev g155_64_65_0 (L : Nat) (xs : Nat → Int32) (call : Nat → List dm_V → M2 → (Option dm_V → M2 → Prop) → Prop) (Q : Option dm_V → M2 → Prop) (x1 : Int32) (x3 : Int32) (x4 : Int32) (σ : M2) : Prop := dm_Go dmE (m2O L xs) call true mt_155 Q 0 [some (vr 64 0), some (vi x1), some (vr 65 0), some (vi x3), some (vi x4), none] [] σ
abbrev g155_64_65_3 (L : Nat) (xs : Nat → Int32) (call : Nat → List dm_V → M2 → (Option dm_V → M2 → Prop) → Prop) (Q : Option dm_V → M2 → Prop) (x1 : Int32) (x3 : Int32) (x4 : Int32) (x5 : Int32) (σ : M2) : Prop := dm_Go dmE (m2O L xs) call true mt_155 Q 3 [some (vr 64 0), some (vi x1), some (vr 65 0), some (vi x3), some (vi x4), some (vi x5)] [] σ
abbrev g155_65_64_0 (L : Nat) (xs : Nat → Int32) (call : Nat → List dm_V → M2 → (Option dm_V → M2 → Prop) → Prop) (Q : Option dm_V → M2 → Prop) (x1 : Int32) (x3 : Int32) (x4 : Int32) (σ : M2) : Prop := dm_Go dmE (m2O L xs) call true mt_155 Q 0 [some (vr 65 0), some (vi x1), some (vr 64 0), some (vi x3), some (vi x4), none] [] σ
abbrev g155_65_64_3 (L : Nat) (xs : Nat → Int32) (call : Nat → List dm_V → M2 → (Option dm_V → M2 → Prop) → Prop) (Q : Option dm_V → M2 → Prop) (x1 : Int32) (x3 : Int32) (x4 : Int32) (x5 : Int32) (σ : M2) : Prop := dm_Go dmE (m2O L xs) call true mt_155 Q 3 [some (vr 65 0), some (vi x1), some (vr 64 0), some (vi x3), some (vi x4), some (vi x5)] [] σ
abbrev g155_64_66_0 (L : Nat) (xs : Nat → Int32) (call : Nat → List dm_V → M2 → (Option dm_V → M2 → Prop) → Prop) (Q : Option dm_V → M2 → Prop) (x1 : Int32) (x3 : Int32) (x4 : Int32) (σ : M2) : Prop := dm_Go dmE (m2O L xs) call true mt_155 Q 0 [some (vr 64 0), some (vi x1), some (vr 66 0), some (vi x3), some (vi x4), none] [] σ
abbrev g155_64_66_3 (L : Nat) (xs : Nat → Int32) (call : Nat → List dm_V → M2 → (Option dm_V → M2 → Prop) → Prop) (Q : Option dm_V → M2 → Prop) (x1 : Int32) (x3 : Int32) (x4 : Int32) (x5 : Int32) (σ : M2) : Prop := dm_Go dmE (m2O L xs) call true mt_155 Q 3 [some (vr 64 0), some (vi x1), some (vr 66 0), some (vi x3), some (vi x4), some (vi x5)] [] σ
abbrev g155_66_64_0 (L : Nat) (xs : Nat → Int32) (call : Nat → List dm_V → M2 → (Option dm_V → M2 → Prop) → Prop) (Q : Option dm_V → M2 → Prop) (x1 : Int32) (x3 : Int32) (x4 : Int32) (σ : M2) : Prop := dm_Go dmE (m2O L xs) call true mt_155 Q 0 [some (vr 66 0), some (vi x1), some (vr 64 0), some (vi x3), some (vi x4), none] [] σ
abbrev g155_66_64_3 (L : Nat) (xs : Nat → Int32) (call : Nat → List dm_V → M2 → (Option dm_V → M2 → Prop) → Prop) (Q : Option dm_V → M2 → Prop) (x1 : Int32) (x3 : Int32) (x4 : Int32) (x5 : Int32) (σ : M2) : Prop := dm_Go dmE (m2O L xs) call true mt_155 Q 3 [some (vr 66 0), some (vi x1), some (vr 64 0), some (vi x3), some (vi x4), some (vi x5)] [] σ
abbrev g156_23 (L : Nat) (xs : Nat → Int32) (call : Nat → List dm_V → M2 → (Option dm_V → M2 → Prop) → Prop) (Q : Option dm_V → M2 → Prop) (x1 : Int32) (x2 : Int32) (x3 : Int32) (x4 : Int32) (x5 : Int32) (x6 : Int32) (σ : M2) : Prop := dm_Go dmE (m2O L xs) call true mt_156 Q 23 [some (vr 13 0), some (vi x1), some (vi x2), some (vi x3), some (vi x4), some (vi x5), some (vi x6), none] [] σ
abbrev g156_76 (L : Nat) (xs : Nat → Int32) (call : Nat → List dm_V → M2 → (Option dm_V → M2 → Prop) → Prop) (Q : Option dm_V → M2 → Prop) (x1 : Int32) (x2 : Int32) (x3 : Int32) (x4 : Int32) (x5 : Int32) (x6 : Int32) (y0 : Int32) (σ : M2) : Prop := dm_Go dmE (m2O L xs) call true mt_156 Q 76 [some (vr 13 0), some (vi x1), some (vi x2), some (vi x3), some (vi x4), some (vi x5), some (vi x6), none] [vi y0] σ
abbrev g160_5 (L : Nat) (xs : Nat → Int32) (call : Nat → List dm_V → M2 → (Option dm_V → M2 → Prop) → Prop) (Q : Option dm_V → M2 → Prop) (x1 : Int32) (σ : M2) : Prop := dm_Go dmE (m2O L xs) call true mt_160 Q 5 [some (vr 13 0), some (vi x1), none, none] [] σ
abbrev g160_67 (L : Nat) (xs : Nat → Int32) (call : Nat → List dm_V → M2 → (Option dm_V → M2 → Prop) → Prop) (Q : Option dm_V → M2 → Prop) (x1 : Int32) (σ : M2) : Prop := dm_Go dmE (m2O L xs) call true mt_160 Q 67 [some (vr 13 0), some (vi x1), none, none] [] σ
abbrev g160_152 (L : Nat) (xs : Nat → Int32) (call : Nat → List dm_V → M2 → (Option dm_V → M2 → Prop) → Prop) (Q : Option dm_V → M2 → Prop) (x1 : Int32) (x3 : Int32) (σ : M2) : Prop := dm_Go dmE (m2O L xs) call true mt_160 Q 152 [some (vr 13 0), some (vi x1), none, some (vi x3)] [] σ
abbrev g162_32 (L : Nat) (xs : Nat → Int32) (call : Nat → List dm_V → M2 → (Option dm_V → M2 → Prop) → Prop) (Q : Option dm_V → M2 → Prop) (o1 : Nat) (x2 : Int32) (x3 : Int32) (σ : M2) : Prop := dm_Go dmE (m2O L xs) call true mt_162 Q 32 [some (vr 13 0), some (vr 90 o1), some (vi x2), some (vi x3)] [] σ
abbrev g165_90 (L : Nat) (xs : Nat → Int32) (call : Nat → List dm_V → M2 → (Option dm_V → M2 → Prop) → Prop) (Q : Option dm_V → M2 → Prop)  (σ : M2) : Prop := dm_Go dmE (m2O L xs) call true mt_165 Q 90 [some (vr 13 0), none] [] σ
abbrev g165_95 (L : Nat) (xs : Nat → Int32) (call : Nat → List dm_V → M2 → (Option dm_V → M2 → Prop) → Prop) (Q : Option dm_V → M2 → Prop) (y0 : Int32) (σ : M2) : Prop := dm_Go dmE (m2O L xs) call true mt_165 Q 95 [some (vr 13 0), none] [vi y0] σ
abbrev g166_2 (L : Nat) (xs : Nat → Int32) (call : Nat → List dm_V → M2 → (Option dm_V → M2 → Prop) → Prop) (Q : Option dm_V → M2 → Prop) (x1 : Int32) (σ : M2) : Prop := dm_Go dmE (m2O L xs) call true mt_166 Q 2 [some (vr 13 0), some (vi x1), none, none] [] σ
abbrev g166_46 (L : Nat) (xs : Nat → Int32) (call : Nat → List dm_V → M2 → (Option dm_V → M2 → Prop) → Prop) (Q : Option dm_V → M2 → Prop) (x1 : Int32) (x2 : Int32) (x3 : Int32) (σ : M2) : Prop := dm_Go dmE (m2O L xs) call true mt_166 Q 46 [some (vr 13 0), some (vi x1), some (vi x2), some (vi x3)] [] σ
abbrev g167_45 (L : Nat) (xs : Nat → Int32) (call : Nat → List dm_V → M2 → (Option dm_V → M2 → Prop) → Prop) (Q : Option dm_V → M2 → Prop) (x1 : Int32) (x2 : Int32) (σ : M2) : Prop := dm_Go dmE (m2O L xs) call true mt_167 Q 45 [some (vr 13 0), some (vi x1), some (vi x2)] [] σ
abbrev g172_50 (L : Nat) (xs : Nat → Int32) (call : Nat → List dm_V → M2 → (Option dm_V → M2 → Prop) → Prop) (Q : Option dm_V → M2 → Prop) (x1 : Int32) (σ : M2) : Prop := dm_Go dmE (m2O L xs) call true mt_172 Q 50 [some (vr 13 0), some (vi x1), none, none] [] σ
abbrev g175_39 (L : Nat) (xs : Nat → Int32) (call : Nat → List dm_V → M2 → (Option dm_V → M2 → Prop) → Prop) (Q : Option dm_V → M2 → Prop) (x1 : Int32) (x2 : Int32) (σ : M2) : Prop := dm_Go dmE (m2O L xs) call true mt_175 Q 39 [some (vr 13 0), some (vi x1), some (vi x2)] [] σ
abbrev g175_77 (L : Nat) (xs : Nat → Int32) (call : Nat → List dm_V → M2 → (Option dm_V → M2 → Prop) → Prop) (Q : Option dm_V → M2 → Prop)  (σ : M2) : Prop := dm_Go dmE (m2O L xs) call true mt_175 Q 77 [some (vr 13 0), none, none] [] σ
abbrev g175_127 (L : Nat) (xs : Nat → Int32) (call : Nat → List dm_V → M2 → (Option dm_V → M2 → Prop) → Prop) (Q : Option dm_V → M2 → Prop)  (σ : M2) : Prop := dm_Go dmE (m2O L xs) call true mt_175 Q 127 [some (vr 13 0), none, none] [] σ
abbrev g175_172 (L : Nat) (xs : Nat → Int32) (call : Nat → List dm_V → M2 → (Option dm_V → M2 → Prop) → Prop) (Q : Option dm_V → M2 → Prop)  (σ : M2) : Prop := dm_Go dmE (m2O L xs) call true mt_175 Q 172 [some (vr 13 0), none, none] [] σ
abbrev g175_203 (L : Nat) (xs : Nat → Int32) (call : Nat → List dm_V → M2 → (Option dm_V → M2 → Prop) → Prop) (Q : Option dm_V → M2 → Prop) (x2 : Int32) (σ : M2) : Prop := dm_Go dmE (m2O L xs) call true mt_175 Q 203 [some (vr 13 0), none, some (vi x2)] [] σ
abbrev g176_23 (L : Nat) (xs : Nat → Int32) (call : Nat → List dm_V → M2 → (Option dm_V → M2 → Prop) → Prop) (Q : Option dm_V → M2 → Prop) (o1 : Nat) (σ : M2) : Prop := dm_Go dmE (m2O L xs) call true mt_176 Q 23 [some (vr 13 0), some (vr 90 o1), none] [] σ
abbrev g176_70 (L : Nat) (xs : Nat → Int32) (call : Nat → List dm_V → M2 → (Option dm_V → M2 → Prop) → Prop) (Q : Option dm_V → M2 → Prop)  (σ : M2) : Prop := dm_Go dmE (m2O L xs) call true mt_176 Q 70 [some (vr 13 0), none, none] [] σ
abbrev g177_34 (L : Nat) (xs : Nat → Int32) (call : Nat → List dm_V → M2 → (Option dm_V → M2 → Prop) → Prop) (Q : Option dm_V → M2 → Prop) (y0 : Int32) (σ : M2) : Prop := dm_Go dmE (m2O L xs) call true mt_177 Q 34 [some (vr 13 0)] [vi y0, vr 90 1, vr 13 0] σ
abbrev g177_67 (L : Nat) (xs : Nat → Int32) (call : Nat → List dm_V → M2 → (Option dm_V → M2 → Prop) → Prop) (Q : Option dm_V → M2 → Prop) (y0 : Int32) (σ : M2) : Prop := dm_Go dmE (m2O L xs) call true mt_177 Q 67 [some (vr 13 0)] [vi y0, vr 90 2, vr 13 0] σ
abbrev g177_99 (L : Nat) (xs : Nat → Int32) (call : Nat → List dm_V → M2 → (Option dm_V → M2 → Prop) → Prop) (Q : Option dm_V → M2 → Prop) (y0 : Int32) (σ : M2) : Prop := dm_Go dmE (m2O L xs) call true mt_177 Q 99 [some (vr 13 0)] [vi y0, vr 90 3, vr 13 0] σ
abbrev g177_131 (L : Nat) (xs : Nat → Int32) (call : Nat → List dm_V → M2 → (Option dm_V → M2 → Prop) → Prop) (Q : Option dm_V → M2 → Prop) (y0 : Int32) (σ : M2) : Prop := dm_Go dmE (m2O L xs) call true mt_177 Q 131 [some (vr 13 0)] [vi y0, vr 90 4, vr 13 0] σ
abbrev g177_164 (L : Nat) (xs : Nat → Int32) (call : Nat → List dm_V → M2 → (Option dm_V → M2 → Prop) → Prop) (Q : Option dm_V → M2 → Prop) (y0 : Int32) (σ : M2) : Prop := dm_Go dmE (m2O L xs) call true mt_177 Q 164 [some (vr 13 0)] [vi y0, vr 90 5, vr 13 0] σ
abbrev g177_196 (L : Nat) (xs : Nat → Int32) (call : Nat → List dm_V → M2 → (Option dm_V → M2 → Prop) → Prop) (Q : Option dm_V → M2 → Prop) (y0 : Int32) (σ : M2) : Prop := dm_Go dmE (m2O L xs) call true mt_177 Q 196 [some (vr 13 0)] [vi y0, vr 90 6, vr 13 0] σ
abbrev g177_229 (L : Nat) (xs : Nat → Int32) (call : Nat → List dm_V → M2 → (Option dm_V → M2 → Prop) → Prop) (Q : Option dm_V → M2 → Prop) (y0 : Int32) (σ : M2) : Prop := dm_Go dmE (m2O L xs) call true mt_177 Q 229 [some (vr 13 0)] [vi y0, vr 90 7, vr 13 0] σ
abbrev g178_18 (L : Nat) (xs : Nat → Int32) (call : Nat → List dm_V → M2 → (Option dm_V → M2 → Prop) → Prop) (Q : Option dm_V → M2 → Prop)  (σ : M2) : Prop := dm_Go dmE (m2O L xs) call true mt_178 Q 18 [some (vr 13 0), none] [] σ
abbrev g182_32 (L : Nat) (xs : Nat → Int32) (call : Nat → List dm_V → M2 → (Option dm_V → M2 → Prop) → Prop) (Q : Option dm_V → M2 → Prop) (x2 : Int32) (x3 : Int32) (σ : M2) : Prop := dm_Go dmE (m2O L xs) call true mt_182 Q 32 [some (vr 13 0), none, some (vi x2), some (vi x3), none, none, none] [] σ
abbrev g182_76 (L : Nat) (xs : Nat → Int32) (call : Nat → List dm_V → M2 → (Option dm_V → M2 → Prop) → Prop) (Q : Option dm_V → M2 → Prop) (x2 : Int32) (x3 : Int32) (x4 : Int32) (σ : M2) : Prop := dm_Go dmE (m2O L xs) call true mt_182 Q 76 [some (vr 13 0), none, some (vi x2), some (vi x3), some (vi x4), none, none] [] σ
abbrev g182_110 (L : Nat) (xs : Nat → Int32) (call : Nat → List dm_V → M2 → (Option dm_V → M2 → Prop) → Prop) (Q : Option dm_V → M2 → Prop) (x2 : Int32) (x3 : Int32) (σ : M2) : Prop := dm_Go dmE (m2O L xs) call true mt_182 Q 110 [some (vr 13 0), none, some (vi x2), some (vi x3), none, none, none] [] σ
abbrev g182_131 (L : Nat) (xs : Nat → Int32) (call : Nat → List dm_V → M2 → (Option dm_V → M2 → Prop) → Prop) (Q : Option dm_V → M2 → Prop) (x2 : Int32) (x3 : Int32) (σ : M2) : Prop := dm_Go dmE (m2O L xs) call true mt_182 Q 131 [some (vr 13 0), none, some (vi x2), some (vi x3), none, none, none] [] σ
abbrev g182_154 (L : Nat) (xs : Nat → Int32) (call : Nat → List dm_V → M2 → (Option dm_V → M2 → Prop) → Prop) (Q : Option dm_V → M2 → Prop) (x2 : Int32) (x3 : Int32) (y0 : Int32) (σ : M2) : Prop := dm_Go dmE (m2O L xs) call true mt_182 Q 154 [some (vr 13 0), none, some (vi x2), some (vi x3), none, none, none] [vi y0] σ
abbrev g182_202 (L : Nat) (xs : Nat → Int32) (call : Nat → List dm_V → M2 → (Option dm_V → M2 → Prop) → Prop) (Q : Option dm_V → M2 → Prop) (x2 : Int32) (x3 : Int32) (x5 : Int32) (x6 : Int32) (σ : M2) : Prop := dm_Go dmE (m2O L xs) call true mt_182 Q 202 [some (vr 13 0), none, some (vi x2), some (vi x3), none, some (vi x5), some (vi x6)] [] σ
abbrev g183_48 (L : Nat) (xs : Nat → Int32) (call : Nat → List dm_V → M2 → (Option dm_V → M2 → Prop) → Prop) (Q : Option dm_V → M2 → Prop) (x2 : Int32) (x3 : Int32) (x4 : Int32) (σ : M2) : Prop := dm_Go dmE (m2O L xs) call true mt_183 Q 48 [some (vr 13 0), none, some (vi x2), some (vi x3), some (vi x4), none] [] σ
abbrev g183_84 (L : Nat) (xs : Nat → Int32) (call : Nat → List dm_V → M2 → (Option dm_V → M2 → Prop) → Prop) (Q : Option dm_V → M2 → Prop) (x2 : Int32) (x3 : Int32) (x5 : Int32) (σ : M2) : Prop := dm_Go dmE (m2O L xs) call true mt_183 Q 84 [some (vr 13 0), none, some (vi x2), some (vi x3), none, some (vi x5)] [] σ
abbrev g184_102 (L : Nat) (xs : Nat → Int32) (call : Nat → List dm_V → M2 → (Option dm_V → M2 → Prop) → Prop) (Q : Option dm_V → M2 → Prop) (x2 : Int32) (y0 : Int32) (σ : M2) : Prop := dm_Go dmE (m2O L xs) call true mt_184 Q 102 [some (vr 13 0), none, some (vi x2), none, none, none, none] [vi y0] σ
abbrev g184_116 (L : Nat) (xs : Nat → Int32) (call : Nat → List dm_V → M2 → (Option dm_V → M2 → Prop) → Prop) (Q : Option dm_V → M2 → Prop) (x2 : Int32) (x3 : Int32) (σ : M2) : Prop := dm_Go dmE (m2O L xs) call true mt_184 Q 116 [some (vr 13 0), none, some (vi x2), some (vi x3), none, none, none] [] σ
abbrev g184_185 (L : Nat) (xs : Nat → Int32) (call : Nat → List dm_V → M2 → (Option dm_V → M2 → Prop) → Prop) (Q : Option dm_V → M2 → Prop) (x2 : Int32) (x3 : Int32) (x4 : Int32) (x5 : Int32) (σ : M2) : Prop := dm_Go dmE (m2O L xs) call true mt_184 Q 185 [some (vr 13 0), none, some (vi x2), some (vi x3), some (vi x4), some (vi x5), none] [] σ
abbrev g184_241 (L : Nat) (xs : Nat → Int32) (call : Nat → List dm_V → M2 → (Option dm_V → M2 → Prop) → Prop) (Q : Option dm_V → M2 → Prop) (x2 : Int32) (x6 : Int32) (y0 : Int32) (y1 : Int32) (σ : M2) : Prop := dm_Go dmE (m2O L xs) call true mt_184 Q 241 [some (vr 13 0), none, some (vi x2), none, none, none, some (vi x6)] [vi y0, vi y1, vr 63 0] σ
abbrev g185_66 (L : Nat) (xs : Nat → Int32) (call : Nat → List dm_V → M2 → (Option dm_V → M2 → Prop) → Prop) (Q : Option dm_V → M2 → Prop) (x1 : Int32) (y0 : Int32) (σ : M2) : Prop := dm_Go dmE (m2O L xs) call true mt_185 Q 66 [some (vr 13 0), some (vi x1), none] [vi y0] σ
abbrev g185_80 (L : Nat) (xs : Nat → Int32) (call : Nat → List dm_V → M2 → (Option dm_V → M2 → Prop) → Prop) (Q : Option dm_V → M2 → Prop) (x1 : Int32) (x2 : Int32) (σ : M2) : Prop := dm_Go dmE (m2O L xs) call true mt_185 Q 80 [some (vr 13 0), some (vi x1), some (vi x2)] [] σ
abbrev g186_43 (L : Nat) (xs : Nat → Int32) (call : Nat → List dm_V → M2 → (Option dm_V → M2 → Prop) → Prop) (Q : Option dm_V → M2 → Prop) (x1 : Int32) (x2 : Int32) (x3 : Int32) (x4 : Int32) (σ : M2) : Prop := dm_Go dmE (m2O L xs) call true mt_186 Q 43 [some (vr 13 0), some (vi x1), some (vi x2), some (vi x3), some (vi x4)] [] σ
abbrev g187_20 (L : Nat) (xs : Nat → Int32) (call : Nat → List dm_V → M2 → (Option dm_V → M2 → Prop) → Prop) (Q : Option dm_V → M2 → Prop)  (σ : M2) : Prop := dm_Go dmE (m2O L xs) call true mt_187 Q 20 [some (vr 13 0), none, none] [] σ
abbrev g187_62 (L : Nat) (xs : Nat → Int32) (call : Nat → List dm_V → M2 → (Option dm_V → M2 → Prop) → Prop) (Q : Option dm_V → M2 → Prop) (x1 : Int32) (x2 : Int32) (σ : M2) : Prop := dm_Go dmE (m2O L xs) call true mt_187 Q 62 [some (vr 13 0), some (vi x1), some (vi x2)] [] σ
abbrev g187_99 (L : Nat) (xs : Nat → Int32) (call : Nat → List dm_V → M2 → (Option dm_V → M2 → Prop) → Prop) (Q : Option dm_V → M2 → Prop) (x1 : Int32) (x2 : Int32) (σ : M2) : Prop := dm_Go dmE (m2O L xs) call true mt_187 Q 99 [some (vr 13 0), some (vi x1), some (vi x2)] [] σ
abbrev g187_147 (L : Nat) (xs : Nat → Int32) (call : Nat → List dm_V → M2 → (Option dm_V → M2 → Prop) → Prop) (Q : Option dm_V → M2 → Prop) (x1 : Int32) (σ : M2) : Prop := dm_Go dmE (m2O L xs) call true mt_187 Q 147 [some (vr 13 0), some (vi x1), none] [] σ
abbrev g202_11 (L : Nat) (xs : Nat → Int32) (call : Nat → List dm_V → M2 → (Option dm_V → M2 → Prop) → Prop) (Q : Option dm_V → M2 → Prop) (x1 : Int32) (x2 : Int32) (σ : M2) : Prop := dm_Go dmE (m2O L xs) call true mt_202 Q 11 [some (vr 13 0), some (vi x1), some (vi x2)] [] σ
abbrev g203_32 (L : Nat) (xs : Nat → Int32) (call : Nat → List dm_V → M2 → (Option dm_V → M2 → Prop) → Prop) (Q : Option dm_V → M2 → Prop) (x1 : Int32) (x2 : Int32) (σ : M2) : Prop := dm_Go dmE (m2O L xs) call true mt_203 Q 32 [some (vr 13 0), some (vi x1), some (vi x2)] [] σ
abbrev g204_5 (L : Nat) (xs : Nat → Int32) (call : Nat → List dm_V → M2 → (Option dm_V → M2 → Prop) → Prop) (Q : Option dm_V → M2 → Prop) (x1 : Int32) (x2 : Int32) (x3 : Int32) (σ : M2) : Prop := dm_Go dmE (m2O L xs) call true mt_204 Q 5 [some (vr 13 0), some (vi x1), some (vi x2), some (vi x3)] [] σ
abbrev g205_61 (L : Nat) (xs : Nat → Int32) (call : Nat → List dm_V → M2 → (Option dm_V → M2 → Prop) → Prop) (Q : Option dm_V → M2 → Prop) (x4 : Int32) (σ : M2) : Prop := dm_Go dmE (m2O L xs) call true mt_205 Q 61 [some (vr 13 0), none, none, none, some (vi x4)] [] σ
abbrev g206_2 (L : Nat) (xs : Nat → Int32) (call : Nat → List dm_V → M2 → (Option dm_V → M2 → Prop) → Prop) (Q : Option dm_V → M2 → Prop) (x1 : Int32) (x2 : Int32) (σ : M2) : Prop := dm_Go dmE (m2O L xs) call true mt_206 Q 2 [some (vr 13 0), some (vi x1), some (vi x2), none, none, none, none] [] σ
abbrev g206_35 (L : Nat) (xs : Nat → Int32) (call : Nat → List dm_V → M2 → (Option dm_V → M2 → Prop) → Prop) (Q : Option dm_V → M2 → Prop) (x1 : Int32) (x2 : Int32) (σ : M2) : Prop := dm_Go dmE (m2O L xs) call true mt_206 Q 35 [some (vr 13 0), some (vi x1), some (vi x2), none, none, none, none] [] σ
abbrev g206_126 (L : Nat) (xs : Nat → Int32) (call : Nat → List dm_V → M2 → (Option dm_V → M2 → Prop) → Prop) (Q : Option dm_V → M2 → Prop) (x1 : Int32) (x2 : Int32) (x3 : Int32) (x4 : Int32) (σ : M2) : Prop := dm_Go dmE (m2O L xs) call true mt_206 Q 126 [some (vr 13 0), some (vi x1), some (vi x2), some (vi x3), some (vi x4), none, none] [] σ
abbrev g206_212 (L : Nat) (xs : Nat → Int32) (call : Nat → List dm_V → M2 → (Option dm_V → M2 → Prop) → Prop) (Q : Option dm_V → M2 → Prop) (x1 : Int32) (x2 : Int32) (x3 : Int32) (x4 : Int32) (x5 : Int32) (y0 : Int32) (y1 : Int32) (σ : M2) : Prop := dm_Go dmE (m2O L xs) call true mt_206 Q 212 [some (vr 13 0), some (vi x1), some (vi x2), some (vi x3), some (vi x4), some (vi x5), none] [vi y0, vi y1] σ
abbrev g208_26 (L : Nat) (xs : Nat → Int32) (call : Nat → List dm_V → M2 → (Option dm_V → M2 → Prop) → Prop) (Q : Option dm_V → M2 → Prop) (x1 : Int32) (x2 : Int32) (σ : M2) : Prop := dm_Go dmE (m2O L xs) call true mt_208 Q 26 [some (vr 13 0), some (vi x1), some (vi x2), none] [] σ
abbrev g211_4 (L : Nat) (xs : Nat → Int32) (call : Nat → List dm_V → M2 → (Option dm_V → M2 → Prop) → Prop) (Q : Option dm_V → M2 → Prop) (x1 : Int32) (x2 : Int32) (σ : M2) : Prop := dm_Go dmE (m2O L xs) call true mt_211 Q 4 [some (vr 13 0), some (vi x1), some (vi x2)] [] σ
abbrev g217_22 (L : Nat) (xs : Nat → Int32) (call : Nat → List dm_V → M2 → (Option dm_V → M2 → Prop) → Prop) (Q : Option dm_V → M2 → Prop) (x1 : Int32) (x2 : Int32) (x3 : Int32) (σ : M2) : Prop := dm_Go dmE (m2O L xs) call true mt_217 Q 22 [some (vr 13 0), some (vi x1), some (vi x2), some (vi x3)] [] σ
abbrev g218_33 (L : Nat) (xs : Nat → Int32) (call : Nat → List dm_V → M2 → (Option dm_V → M2 → Prop) → Prop) (Q : Option dm_V → M2 → Prop) (x1 : Int32) (x2 : Int32) (x3 : Int32) (x4 : Int32) (σ : M2) : Prop := dm_Go dmE (m2O L xs) call true mt_218 Q 33 [some (vr 13 0), some (vi x1), some (vi x2), some (vi x3), some (vi x4)] [] σ
abbrev g219_33 (L : Nat) (xs : Nat → Int32) (call : Nat → List dm_V → M2 → (Option dm_V → M2 → Prop) → Prop) (Q : Option dm_V → M2 → Prop) (x1 : Int32) (x2 : Int32) (x3 : Int32) (x4 : Int32) (σ : M2) : Prop := dm_Go dmE (m2O L xs) call true mt_219 Q 33 [some (vr 13 0), some (vi x1), some (vi x2), some (vi x3), some (vi x4)] [] σ
abbrev g220_27 (L : Nat) (xs : Nat → Int32) (call : Nat → List dm_V → M2 → (Option dm_V → M2 → Prop) → Prop) (Q : Option dm_V → M2 → Prop) (x1 : Int32) (x2 : Int32) (x3 : Int32) (x4 : Int32) (x5 : Int32) (σ : M2) : Prop := dm_Go dmE (m2O L xs) call true mt_220 Q 27 [some (vr 13 0), some (vi x1), some (vi x2), some (vi x3), some (vi x4), some (vi x5), none] [] σ
abbrev g222_22 (L : Nat) (xs : Nat → Int32) (call : Nat → List dm_V → M2 → (Option dm_V → M2 → Prop) → Prop) (Q : Option dm_V → M2 → Prop) (x1 : Int32) (x2 : Int32) (x3 : Int32) (σ : M2) : Prop := dm_Go dmE (m2O L xs) call true mt_222 Q 22 [some (vr 13 0), some (vi x1), some (vi x2), some (vi x3), none] [] σ
abbrev g222_38 (L : Nat) (xs : Nat → Int32) (call : Nat → List dm_V → M2 → (Option dm_V → M2 → Prop) → Prop) (Q : Option dm_V → M2 → Prop) (x1 : Int32) (x2 : Int32) (x3 : Int32) (x4 : Int32) (σ : M2) : Prop := dm_Go dmE (m2O L xs) call true mt_222 Q 38 [some (vr 13 0), some (vi x1), some (vi x2), some (vi x3), some (vi x4)] [] σ
abbrev g223_23 (L : Nat) (xs : Nat → Int32) (call : Nat → List dm_V → M2 → (Option dm_V → M2 → Prop) → Prop) (Q : Option dm_V → M2 → Prop) (x1 : Int32) (x2 : Int32) (x3 : Int32) (x4 : Int32) (σ : M2) : Prop := dm_Go dmE (m2O L xs) call true mt_223 Q 23 [some (vr 13 0), some (vi x1), some (vi x2), some (vi x3), some (vi x4), none] [] σ
abbrev g223_41 (L : Nat) (xs : Nat → Int32) (call : Nat → List dm_V → M2 → (Option dm_V → M2 → Prop) → Prop) (Q : Option dm_V → M2 → Prop) (x1 : Int32) (x2 : Int32) (x3 : Int32) (x4 : Int32) (x5 : Int32) (σ : M2) : Prop := dm_Go dmE (m2O L xs) call true mt_223 Q 41 [some (vr 13 0), some (vi x1), some (vi x2), some (vi x3), some (vi x4), some (vi x5)] [] σ
abbrev g224_22 (L : Nat) (xs : Nat → Int32) (call : Nat → List dm_V → M2 → (Option dm_V → M2 → Prop) → Prop) (Q : Option dm_V → M2 → Prop) (x1 : Int32) (x2 : Int32) (x3 : Int32) (σ : M2) : Prop := dm_Go dmE (m2O L xs) call true mt_224 Q 22 [some (vr 13 0), some (vi x1), some (vi x2), some (vi x3), none, none] [] σ
abbrev g224_36 (L : Nat) (xs : Nat → Int32) (call : Nat → List dm_V → M2 → (Option dm_V → M2 → Prop) → Prop) (Q : Option dm_V → M2 → Prop) (x1 : Int32) (x2 : Int32) (x3 : Int32) (x4 : Int32) (σ : M2) : Prop := dm_Go dmE (m2O L xs) call true mt_224 Q 36 [some (vr 13 0), some (vi x1), some (vi x2), some (vi x3), some (vi x4), none] [] σ
abbrev g226_4 (L : Nat) (xs : Nat → Int32) (call : Nat → List dm_V → M2 → (Option dm_V → M2 → Prop) → Prop) (Q : Option dm_V → M2 → Prop) (x1 : Int32) (x2 : Int32) (σ : M2) : Prop := dm_Go dmE (m2O L xs) call true mt_226 Q 4 [some (vr 13 0), some (vi x1), some (vi x2)] [] σ
abbrev g229_23 (L : Nat) (xs : Nat → Int32) (call : Nat → List dm_V → M2 → (Option dm_V → M2 → Prop) → Prop) (Q : Option dm_V → M2 → Prop) (x2 : Int32) (x3 : Int32) (σ : M2) : Prop := dm_Go dmE (m2O L xs) call true mt_229 Q 23 [some (vr 13 0), none, some (vi x2), some (vi x3)] [] σ
abbrev g231_35 (L : Nat) (xs : Nat → Int32) (call : Nat → List dm_V → M2 → (Option dm_V → M2 → Prop) → Prop) (Q : Option dm_V → M2 → Prop) (y0 : Int32) (σ : M2) : Prop := dm_Go dmE (m2O L xs) call true mt_231 Q 35 [some (vr 13 0), none, none, none, none] [vi y0] σ
abbrev g231_51 (L : Nat) (xs : Nat → Int32) (call : Nat → List dm_V → M2 → (Option dm_V → M2 → Prop) → Prop) (Q : Option dm_V → M2 → Prop) (x2 : Int32) (x3 : Int32) (x4 : Int32) (σ : M2) : Prop := dm_Go dmE (m2O L xs) call true mt_231 Q 51 [some (vr 13 0), none, some (vi x2), some (vi x3), some (vi x4)] [] σ
abbrev g232_11 (L : Nat) (xs : Nat → Int32) (call : Nat → List dm_V → M2 → (Option dm_V → M2 → Prop) → Prop) (Q : Option dm_V → M2 → Prop) (x1 : Int32) (x2 : Int32) (x3 : Int32) (σ : M2) : Prop := dm_Go dmE (m2O L xs) call true mt_232 Q 11 [some (vr 13 0), some (vi x1), some (vi x2), some (vi x3), none, none] [] σ
abbrev g232_23 (L : Nat) (xs : Nat → Int32) (call : Nat → List dm_V → M2 → (Option dm_V → M2 → Prop) → Prop) (Q : Option dm_V → M2 → Prop) (x1 : Int32) (x2 : Int32) (x3 : Int32) (x4 : Int32) (σ : M2) : Prop := dm_Go dmE (m2O L xs) call true mt_232 Q 23 [some (vr 13 0), some (vi x1), some (vi x2), some (vi x3), some (vi x4), none] [] σ
abbrev g233_6 (L : Nat) (xs : Nat → Int32) (call : Nat → List dm_V → M2 → (Option dm_V → M2 → Prop) → Prop) (Q : Option dm_V → M2 → Prop) (x1 : Int32) (x2 : Int32) (x3 : Int32) (x4 : Int32) (x5 : Int32) (σ : M2) : Prop := dm_Go dmE (m2O L xs) call true mt_233 Q 6 [some (vr 13 0), some (vi x1), some (vi x2), some (vi x3), some (vi x4), some (vi x5), none, none, none] [] σ
abbrev g233_50 (L : Nat) (xs : Nat → Int32) (call : Nat → List dm_V → M2 → (Option dm_V → M2 → Prop) → Prop) (Q : Option dm_V → M2 → Prop) (x1 : Int32) (x2 : Int32) (x3 : Int32) (x4 : Int32) (x5 : Int32) (x6 : Int32) (σ : M2) : Prop := dm_Go dmE (m2O L xs) call true mt_233 Q 50 [some (vr 13 0), some (vi x1), some (vi x2), some (vi x3), some (vi x4), some (vi x5), some (vi x6), none, none] [] σ
abbrev g233_94 (L : Nat) (xs : Nat → Int32) (call : Nat → List dm_V → M2 → (Option dm_V → M2 → Prop) → Prop) (Q : Option dm_V → M2 → Prop) (x4 : Int32) (x5 : Int32) (x6 : Int32) (σ : M2) : Prop := dm_Go dmE (m2O L xs) call true mt_233 Q 94 [some (vr 13 0), none, none, none, some (vi x4), some (vi x5), some (vi x6), none, none] [] σ
abbrev g233_107 (L : Nat) (xs : Nat → Int32) (call : Nat → List dm_V → M2 → (Option dm_V → M2 → Prop) → Prop) (Q : Option dm_V → M2 → Prop) (x4 : Int32) (x5 : Int32) (x6 : Int32) (x7 : Int32) (x8 : Int32) (σ : M2) : Prop := dm_Go dmE (m2O L xs) call true mt_233 Q 107 [some (vr 13 0), none, none, none, some (vi x4), some (vi x5), some (vi x6), some (vi x7), some (vi x8)] [] σ
abbrev g237_23 (L : Nat) (xs : Nat → Int32) (call : Nat → List dm_V → M2 → (Option dm_V → M2 → Prop) → Prop) (Q : Option dm_V → M2 → Prop) (x2 : Int32) (x3 : Int32) (x4 : Int32) (σ : M2) : Prop := dm_Go dmE (m2O L xs) call true mt_237 Q 23 [some (vr 13 0), none, some (vi x2), some (vi x3), some (vi x4)] [] σ
abbrev g239_5 (L : Nat) (xs : Nat → Int32) (call : Nat → List dm_V → M2 → (Option dm_V → M2 → Prop) → Prop) (Q : Option dm_V → M2 → Prop) (x1 : Int32) (x2 : Int32) (x3 : Int32) (σ : M2) : Prop := dm_Go dmE (m2O L xs) call true mt_239 Q 5 [some (vr 13 0), some (vi x1), some (vi x2), some (vi x3)] [] σ
abbrev g240_4 (L : Nat) (xs : Nat → Int32) (call : Nat → List dm_V → M2 → (Option dm_V → M2 → Prop) → Prop) (Q : Option dm_V → M2 → Prop) (x2 : Int32) (σ : M2) : Prop := dm_Go dmE (m2O L xs) call true mt_240 Q 4 [some (vr 13 0), none, some (vi x2)] [] σ
abbrev g242_18 (L : Nat) (xs : Nat → Int32) (call : Nat → List dm_V → M2 → (Option dm_V → M2 → Prop) → Prop) (Q : Option dm_V → M2 → Prop) (x1 : Int32) (x2 : Int32) (x3 : Int32) (x4 : Int32) (σ : M2) : Prop := dm_Go dmE (m2O L xs) call true mt_242 Q 18 [some (vr 13 0), some (vi x1), some (vi x2), some (vi x3), some (vi x4), none, none] [] σ
abbrev g242_27 (L : Nat) (xs : Nat → Int32) (call : Nat → List dm_V → M2 → (Option dm_V → M2 → Prop) → Prop) (Q : Option dm_V → M2 → Prop) (x1 : Int32) (x2 : Int32) (x3 : Int32) (x4 : Int32) (x5 : Int32) (σ : M2) : Prop := dm_Go dmE (m2O L xs) call true mt_242 Q 27 [some (vr 13 0), some (vi x1), some (vi x2), some (vi x3), some (vi x4), some (vi x5), none] [] σ
abbrev g243_12 (L : Nat) (xs : Nat → Int32) (call : Nat → List dm_V → M2 → (Option dm_V → M2 → Prop) → Prop) (Q : Option dm_V → M2 → Prop) (x1 : Int32) (x2 : Int32) (x3 : Int32) (σ : M2) : Prop := dm_Go dmE (m2O L xs) call true mt_243 Q 12 [some (vr 13 0), some (vi x1), some (vi x2), some (vi x3)] [] σ
abbrev g246_2 (L : Nat) (xs : Nat → Int32) (call : Nat → List dm_V → M2 → (Option dm_V → M2 → Prop) → Prop) (Q : Option dm_V → M2 → Prop) (x1 : Int32) (σ : M2) : Prop := dm_Go dmE (m2O L xs) call true mt_246 Q 2 [some (vr 13 0), some (vi x1), none] [] σ
abbrev g246_15 (L : Nat) (xs : Nat → Int32) (call : Nat → List dm_V → M2 → (Option dm_V → M2 → Prop) → Prop) (Q : Option dm_V → M2 → Prop) (x1 : Int32) (x2 : Int32) (σ : M2) : Prop := dm_Go dmE (m2O L xs) call true mt_246 Q 15 [some (vr 13 0), some (vi x1), some (vi x2)] [] σ
abbrev g247_5 (L : Nat) (xs : Nat → Int32) (call : Nat → List dm_V → M2 → (Option dm_V → M2 → Prop) → Prop) (Q : Option dm_V → M2 → Prop) (x1 : Int32) (x2 : Int32) (x3 : Int32) (x4 : Int32) (σ : M2) : Prop := dm_Go dmE (m2O L xs) call true mt_247 Q 5 [some (vr 13 0), some (vi x1), some (vi x2), some (vi x3), some (vi x4)] [] σ
abbrev g248_35 (L : Nat) (xs : Nat → Int32) (call : Nat → List dm_V → M2 → (Option dm_V → M2 → Prop) → Prop) (Q : Option dm_V → M2 → Prop) (x1 : Int32) (x2 : Int32) (σ : M2) : Prop := dm_Go dmE (m2O L xs) call true mt_248 Q 35 [some (vr 13 0), some (vi x1), some (vi x2), none, none, none] [] σ
abbrev g248_68 (L : Nat) (xs : Nat → Int32) (call : Nat → List dm_V → M2 → (Option dm_V → M2 → Prop) → Prop) (Q : Option dm_V → M2 → Prop) (x1 : Int32) (x2 : Int32) (x3 : Int32) (x4 : Int32) (σ : M2) : Prop := dm_Go dmE (m2O L xs) call true mt_248 Q 68 [some (vr 13 0), some (vi x1), some (vi x2), some (vi x3), some (vi x4), none] [] σ
abbrev g248_87 (L : Nat) (xs : Nat → Int32) (call : Nat → List dm_V → M2 → (Option dm_V → M2 → Prop) → Prop) (Q : Option dm_V → M2 → Prop) (x1 : Int32) (x2 : Int32) (x3 : Int32) (x4 : Int32) (x5 : Int32) (σ : M2) : Prop := dm_Go dmE (m2O L xs) call true mt_248 Q 87 [some (vr 13 0), some (vi x1), some (vi x2), some (vi x3), some (vi x4), some (vi x5)] [] σ
abbrev g249_25 (L : Nat) (xs : Nat → Int32) (call : Nat → List dm_V → M2 → (Option dm_V → M2 → Prop) → Prop) (Q : Option dm_V → M2 → Prop) (x1 : Int32) (x2 : Int32) (σ : M2) : Prop := dm_Go dmE (m2O L xs) call true mt_249 Q 25 [some (vr 13 0), some (vi x1), some (vi x2), none] [] σ
abbrev g249_38 (L : Nat) (xs : Nat → Int32) (call : Nat → List dm_V → M2 → (Option dm_V → M2 → Prop) → Prop) (Q : Option dm_V → M2 → Prop) (x1 : Int32) (x2 : Int32) (x3 : Int32) (σ : M2) : Prop := dm_Go dmE (m2O L xs) call true mt_249 Q 38 [some (vr 13 0), some (vi x1), some (vi x2), some (vi x3)] [] σ
abbrev g254_20 (L : Nat) (xs : Nat → Int32) (call : Nat → List dm_V → M2 → (Option dm_V → M2 → Prop) → Prop) (Q : Option dm_V → M2 → Prop) (x1 : Int32) (x2 : Int32) (x3 : Int32) (x4 : Int32) (σ : M2) : Prop := dm_Go dmE (m2O L xs) call true mt_254 Q 20 [some (vr 13 0), some (vi x1), some (vi x2), some (vi x3), some (vi x4)] [] σ
abbrev g255_42 (L : Nat) (xs : Nat → Int32) (call : Nat → List dm_V → M2 → (Option dm_V → M2 → Prop) → Prop) (Q : Option dm_V → M2 → Prop) (x1 : Int32) (x2 : Int32) (x3 : Int32) (σ : M2) : Prop := dm_Go dmE (m2O L xs) call true mt_255 Q 42 [some (vr 13 0), some (vi x1), some (vi x2), some (vi x3)] [] σ
abbrev g256_2 (L : Nat) (xs : Nat → Int32) (call : Nat → List dm_V → M2 → (Option dm_V → M2 → Prop) → Prop) (Q : Option dm_V → M2 → Prop) (x1 : Int32) (σ : M2) : Prop := dm_Go dmE (m2O L xs) call true mt_256 Q 2 [some (vr 13 0), some (vi x1)] [] σ
abbrev g259_16 (L : Nat) (xs : Nat → Int32) (call : Nat → List dm_V → M2 → (Option dm_V → M2 → Prop) → Prop) (Q : Option dm_V → M2 → Prop) (x1 : Int32) (x4 : Int32) (y0 : Int32) (y1 : Int32) (σ : M2) : Prop := dm_Go dmE (m2O L xs) call true mt_259 Q 16 [some (vr 13 0), some (vi x1), none, none, some (vi x4)] [vi y0, vi y1, vr 13 0] σ
abbrev g260_6 (L : Nat) (xs : Nat → Int32) (call : Nat → List dm_V → M2 → (Option dm_V → M2 → Prop) → Prop) (Q : Option dm_V → M2 → Prop) (x1 : Int32) (x2 : Int32) (x3 : Int32) (x4 : Int32) (x5 : Int32) (x6 : Int32) (σ : M2) : Prop := dm_Go dmE (m2O L xs) call true mt_260 Q 6 [some (vr 13 0), some (vi x1), some (vi x2), some (vi x3), some (vi x4), some (vi x5), some (vi x6)] [] σ
abbrev g261_11 (L : Nat) (xs : Nat → Int32) (call : Nat → List dm_V → M2 → (Option dm_V → M2 → Prop) → Prop) (Q : Option dm_V → M2 → Prop) (x1 : Int32) (x2 : Int32) (x3 : Int32) (x4 : Int32) (σ : M2) : Prop := dm_Go dmE (m2O L xs) call true mt_261 Q 11 [some (vr 13 0), some (vi x1), some (vi x2), some (vi x3), some (vi x4), none] [] σ
abbrev g261_26 (L : Nat) (xs : Nat → Int32) (call : Nat → List dm_V → M2 → (Option dm_V → M2 → Prop) → Prop) (Q : Option dm_V → M2 → Prop) (x1 : Int32) (x2 : Int32) (x3 : Int32) (x4 : Int32) (x5 : Int32) (σ : M2) : Prop := dm_Go dmE (m2O L xs) call true mt_261 Q 26 [some (vr 13 0), some (vi x1), some (vi x2), some (vi x3), some (vi x4), some (vi x5)] [] σ
abbrev g264_80 (L : Nat) (xs : Nat → Int32) (call : Nat → List dm_V → M2 → (Option dm_V → M2 → Prop) → Prop) (Q : Option dm_V → M2 → Prop) (x2 : Int32) (x3 : Int32) (x4 : Int32) (x5 : Int32) (σ : M2) : Prop := dm_Go dmE (m2O L xs) call true mt_264 Q 80 [some (vr 13 0), none, some (vi x2), some (vi x3), some (vi x4), some (vi x5), none] [] σ
abbrev g267_21 (L : Nat) (xs : Nat → Int32) (call : Nat → List dm_V → M2 → (Option dm_V → M2 → Prop) → Prop) (Q : Option dm_V → M2 → Prop) (x1 : Int32) (x2 : Int32) (σ : M2) : Prop := dm_Go dmE (m2O L xs) call true mt_267 Q 21 [some (vr 13 0), some (vi x1), some (vi x2)] [] σ
abbrev g268_11 (L : Nat) (xs : Nat → Int32) (call : Nat → List dm_V → M2 → (Option dm_V → M2 → Prop) → Prop) (Q : Option dm_V → M2 → Prop) (x1 : Int32) (σ : M2) : Prop := dm_Go dmE (m2O L xs) call true mt_268 Q 11 [some (vr 13 0), some (vi x1)] [] σ
abbrev g268_49 (L : Nat) (xs : Nat → Int32) (call : Nat → List dm_V → M2 → (Option dm_V → M2 → Prop) → Prop) (Q : Option dm_V → M2 → Prop)  (σ : M2) : Prop := dm_Go dmE (m2O L xs) call true mt_268 Q 49 [some (vr 13 0), none] [] σ
abbrev g269_60 (L : Nat) (xs : Nat → Int32) (call : Nat → List dm_V → M2 → (Option dm_V → M2 → Prop) → Prop) (Q : Option dm_V → M2 → Prop) (x1 : Int32) (x2 : Int32) (x3 : Int32) (x4 : Int32) (σ : M2) : Prop := dm_Go dmE (m2O L xs) call true mt_269 Q 60 [some (vr 13 0), some (vi x1), some (vi x2), some (vi x3), some (vi x4)] [] σ
abbrev g270_67 (L : Nat) (xs : Nat → Int32) (call : Nat → List dm_V → M2 → (Option dm_V → M2 → Prop) → Prop) (Q : Option dm_V → M2 → Prop) (x1 : Int32) (y0 : Int32) (σ : M2) : Prop := dm_Go dmE (m2O L xs) call true mt_270 Q 67 [some (vr 13 0), some (vi x1), none, none] [vi y0] σ
abbrev g276_4 (L : Nat) (xs : Nat → Int32) (call : Nat → List dm_V → M2 → (Option dm_V → M2 → Prop) → Prop) (Q : Option dm_V → M2 → Prop) (x1 : Int32) (x2 : Int32) (x3 : Int32) (σ : M2) : Prop := dm_Go dmE (m2O L xs) call true mt_276 Q 4 [some (vr 13 0), some (vi x1), some (vi x2), some (vi x3)] [] σ
theorem p1 : dmP 1 = mt_1 := rfl
theorem p3 : dmP 3 = mt_3 := rfl
theorem p4 : dmP 4 = mt_4 := rfl
theorem p5 : dmP 5 = mt_5 := rfl
theorem p6 : dmP 6 = mt_6 := rfl
theorem p7 : dmP 7 = mt_7 := rfl
theorem p9 : dmP 9 = mt_9 := rfl
theorem p10 : dmP 10 = mt_10 := rfl
theorem p11 : dmP 11 = mt_11 := rfl
theorem p12 : dmP 12 = mt_12 := rfl
theorem p13 : dmP 13 = mt_13 := rfl
theorem p15 : dmP 15 = mt_15 := rfl
theorem p16 : dmP 16 = mt_16 := rfl
theorem p17 : dmP 17 = mt_17 := rfl
theorem p19 : dmP 19 = mt_19 := rfl
theorem p20 : dmP 20 = mt_20 := rfl
theorem p21 : dmP 21 = mt_21 := rfl
theorem p22 : dmP 22 = mt_22 := rfl
theorem p23 : dmP 23 = mt_23 := rfl
theorem p26 : dmP 26 = mt_26 := rfl
theorem p28 : dmP 28 = mt_28 := rfl
theorem p29 : dmP 29 = mt_29 := rfl
theorem p30 : dmP 30 = mt_30 := rfl
theorem p31 : dmP 31 = mt_31 := rfl
theorem p32 : dmP 32 = mt_32 := rfl
theorem p33 : dmP 33 = mt_33 := rfl
theorem p34 : dmP 34 = mt_34 := rfl
theorem p35 : dmP 35 = mt_35 := rfl
theorem p36 : dmP 36 = mt_36 := rfl
theorem p37 : dmP 37 = mt_37 := rfl
theorem p38 : dmP 38 = mt_38 := rfl
theorem p39 : dmP 39 = mt_39 := rfl
theorem p40 : dmP 40 = mt_40 := rfl
theorem p41 : dmP 41 = mt_41 := rfl
theorem p42 : dmP 42 = mt_42 := rfl
theorem p43 : dmP 43 = mt_43 := rfl
theorem p44 : dmP 44 = mt_44 := rfl
theorem p45 : dmP 45 = mt_45 := rfl
theorem p46 : dmP 46 = mt_46 := rfl
theorem p47 : dmP 47 = mt_47 := rfl
theorem p48 : dmP 48 = mt_48 := rfl
theorem p49 : dmP 49 = mt_49 := rfl
theorem p50 : dmP 50 = mt_50 := rfl
theorem p51 : dmP 51 = mt_51 := rfl
theorem p53 : dmP 53 = mt_53 := rfl
theorem p54 : dmP 54 = mt_54 := rfl
theorem p55 : dmP 55 = mt_55 := rfl
theorem p56 : dmP 56 = mt_56 := rfl
theorem p57 : dmP 57 = mt_57 := rfl
theorem p58 : dmP 58 = mt_58 := rfl
theorem p59 : dmP 59 = mt_59 := rfl
theorem p60 : dmP 60 = mt_60 := rfl
theorem p61 : dmP 61 = mt_61 := rfl
theorem p62 : dmP 62 = mt_62 := rfl
theorem p65 : dmP 65 = mt_65 := rfl
theorem p66 : dmP 66 = mt_66 := rfl
theorem p67 : dmP 67 = mt_67 := rfl
theorem p68 : dmP 68 = mt_68 := rfl
theorem p70 : dmP 70 = mt_70 := rfl
theorem p71 : dmP 71 = mt_71 := rfl
theorem p72 : dmP 72 = mt_72 := rfl
theorem p73 : dmP 73 = mt_73 := rfl
theorem p74 : dmP 74 = mt_74 := rfl
theorem p76 : dmP 76 = mt_76 := rfl
theorem p77 : dmP 77 = mt_77 := rfl
theorem p78 : dmP 78 = mt_78 := rfl
theorem p79 : dmP 79 = mt_79 := rfl
theorem p80 : dmP 80 = mt_80 := rfl
theorem p81 : dmP 81 = mt_81 := rfl
theorem p82 : dmP 82 = mt_82 := rfl
theorem p83 : dmP 83 = mt_83 := rfl
theorem p84 : dmP 84 = mt_84 := rfl
theorem p85 : dmP 85 = mt_85 := rfl
theorem p86 : dmP 86 = mt_86 := rfl
theorem p87 : dmP 87 = mt_87 := rfl
theorem p88 : dmP 88 = mt_88 := rfl
theorem p89 : dmP 89 = mt_89 := rfl
theorem p90 : dmP 90 = mt_90 := rfl
theorem p91 : dmP 91 = mt_91 := rfl
theorem p92 : dmP 92 = mt_92 := rfl
theorem p93 : dmP 93 = mt_93 := rfl
theorem p94 : dmP 94 = mt_94 := rfl
theorem p95 : dmP 95 = mt_95 := rfl
theorem p96 : dmP 96 = mt_96 := rfl
theorem p97 : dmP 97 = mt_97 := rfl
theorem p98 : dmP 98 = mt_98 := rfl
theorem p99 : dmP 99 = mt_99 := rfl
theorem p100 : dmP 100 = mt_100 := rfl
theorem p101 : dmP 101 = mt_101 := rfl
theorem p102 : dmP 102 = mt_102 := rfl
theorem p103 : dmP 103 = mt_103 := rfl
theorem p104 : dmP 104 = mt_104 := rfl
theorem p105 : dmP 105 = mt_105 := rfl
theorem p106 : dmP 106 = mt_106 := rfl
theorem p107 : dmP 107 = mt_107 := rfl
theorem p108 : dmP 108 = mt_108 := rfl
theorem p109 : dmP 109 = mt_109 := rfl
theorem p110 : dmP 110 = mt_110 := rfl
theorem p111 : dmP 111 = mt_111 := rfl
theorem p112 : dmP 112 = mt_112 := rfl
theorem p113 : dmP 113 = mt_113 := rfl
theorem p114 : dmP 114 = mt_114 := rfl
theorem p115 : dmP 115 = mt_115 := rfl
theorem p116 : dmP 116 = mt_116 := rfl
theorem p117 : dmP 117 = mt_117 := rfl
theorem p118 : dmP 118 = mt_118 := rfl
theorem p119 : dmP 119 = mt_119 := rfl
theorem p120 : dmP 120 = mt_120 := rfl
theorem p121 : dmP 121 = mt_121 := rfl
theorem p122 : dmP 122 = mt_122 := rfl
theorem p123 : dmP 123 = mt_123 := rfl
theorem p124 : dmP 124 = mt_124 := rfl
theorem p125 : dmP 125 = mt_125 := rfl
theorem p126 : dmP 126 = mt_126 := rfl
theorem p127 : dmP 127 = mt_127 := rfl
theorem p128 : dmP 128 = mt_128 := rfl
theorem p129 : dmP 129 = mt_129 := rfl
theorem p130 : dmP 130 = mt_130 := rfl
theorem p131 : dmP 131 = mt_131 := rfl
theorem p132 : dmP 132 = mt_132 := rfl
theorem p133 : dmP 133 = mt_133 := rfl
theorem p134 : dmP 134 = mt_134 := rfl
theorem p135 : dmP 135 = mt_135 := rfl
theorem p136 : dmP 136 = mt_136 := rfl
theorem p137 : dmP 137 = mt_137 := rfl
theorem p138 : dmP 138 = mt_138 := rfl
theorem p139 : dmP 139 = mt_139 := rfl
theorem p140 : dmP 140 = mt_140 := rfl
theorem p141 : dmP 141 = mt_141 := rfl
theorem p142 : dmP 142 = mt_142 := rfl
theorem p143 : dmP 143 = mt_143 := rfl
theorem p144 : dmP 144 = mt_144 := rfl
theorem p145 : dmP 145 = mt_145 := rfl
theorem p146 : dmP 146 = mt_146 := rfl
theorem p147 : dmP 147 = mt_147 := rfl
theorem p149 : dmP 149 = mt_149 := rfl
theorem p150 : dmP 150 = mt_150 := rfl
theorem p151 : dmP 151 = mt_151 := rfl
theorem p152 : dmP 152 = mt_152 := rfl
theorem p153 : dmP 153 = mt_153 := rfl
theorem p154 : dmP 154 = mt_154 := rfl
theorem p155 : dmP 155 = mt_155 := rfl
theorem p156 : dmP 156 = mt_156 := rfl
theorem p157 : dmP 157 = mt_157 := rfl
theorem p158 : dmP 158 = mt_158 := rfl
theorem p159 : dmP 159 = mt_159 := rfl
theorem p160 : dmP 160 = mt_160 := rfl
theorem p161 : dmP 161 = mt_161 := rfl
theorem p162 : dmP 162 = mt_162 := rfl
theorem p163 : dmP 163 = mt_163 := rfl
theorem p164 : dmP 164 = mt_164 := rfl
theorem p165 : dmP 165 = mt_165 := rfl
theorem p166 : dmP 166 = mt_166 := rfl
theorem p167 : dmP 167 = mt_167 := rfl
theorem p168 : dmP 168 = mt_168 := rfl
theorem p169 : dmP 169 = mt_169 := rfl
theorem p170 : dmP 170 = mt_170 := rfl
theorem p171 : dmP 171 = mt_171 := rfl
theorem p172 : dmP 172 = mt_172 := rfl
theorem p173 : dmP 173 = mt_173 := rfl
theorem p174 : dmP 174 = mt_174 := rfl
theorem p175 : dmP 175 = mt_175 := rfl
theorem p176 : dmP 176 = mt_176 := rfl
theorem p177 : dmP 177 = mt_177 := rfl
theorem p178 : dmP 178 = mt_178 := rfl
theorem p179 : dmP 179 = mt_179 := rfl
theorem p180 : dmP 180 = mt_180 := rfl
theorem p181 : dmP 181 = mt_181 := rfl
theorem p182 : dmP 182 = mt_182 := rfl
theorem p183 : dmP 183 = mt_183 := rfl
theorem p184 : dmP 184 = mt_184 := rfl
theorem p185 : dmP 185 = mt_185 := rfl
theorem p186 : dmP 186 = mt_186 := rfl
theorem p187 : dmP 187 = mt_187 := rfl
theorem p188 : dmP 188 = mt_188 := rfl
theorem p189 : dmP 189 = mt_189 := rfl
theorem p190 : dmP 190 = mt_190 := rfl
theorem p191 : dmP 191 = mt_191 := rfl
theorem p192 : dmP 192 = mt_192 := rfl
theorem p193 : dmP 193 = mt_193 := rfl
theorem p194 : dmP 194 = mt_194 := rfl
theorem p195 : dmP 195 = mt_195 := rfl
theorem p196 : dmP 196 = mt_196 := rfl
theorem p197 : dmP 197 = mt_197 := rfl
theorem p198 : dmP 198 = mt_198 := rfl
theorem p199 : dmP 199 = mt_199 := rfl
theorem p200 : dmP 200 = mt_200 := rfl
theorem p201 : dmP 201 = mt_201 := rfl
theorem p202 : dmP 202 = mt_202 := rfl
theorem p203 : dmP 203 = mt_203 := rfl
theorem p204 : dmP 204 = mt_204 := rfl
theorem p205 : dmP 205 = mt_205 := rfl
theorem p206 : dmP 206 = mt_206 := rfl
theorem p207 : dmP 207 = mt_207 := rfl
theorem p208 : dmP 208 = mt_208 := rfl
theorem p209 : dmP 209 = mt_209 := rfl
theorem p210 : dmP 210 = mt_210 := rfl
theorem p211 : dmP 211 = mt_211 := rfl
theorem p212 : dmP 212 = mt_212 := rfl
theorem p213 : dmP 213 = mt_213 := rfl
theorem p214 : dmP 214 = mt_214 := rfl
theorem p215 : dmP 215 = mt_215 := rfl
theorem p216 : dmP 216 = mt_216 := rfl
theorem p217 : dmP 217 = mt_217 := rfl
theorem p218 : dmP 218 = mt_218 := rfl
theorem p219 : dmP 219 = mt_219 := rfl
theorem p220 : dmP 220 = mt_220 := rfl
theorem p221 : dmP 221 = mt_221 := rfl
theorem p222 : dmP 222 = mt_222 := rfl
theorem p223 : dmP 223 = mt_223 := rfl
theorem p224 : dmP 224 = mt_224 := rfl
theorem p225 : dmP 225 = mt_225 := rfl
theorem p226 : dmP 226 = mt_226 := rfl
theorem p227 : dmP 227 = mt_227 := rfl
theorem p228 : dmP 228 = mt_228 := rfl
theorem p229 : dmP 229 = mt_229 := rfl
theorem p230 : dmP 230 = mt_230 := rfl
theorem p231 : dmP 231 = mt_231 := rfl
theorem p232 : dmP 232 = mt_232 := rfl
theorem p233 : dmP 233 = mt_233 := rfl
theorem p234 : dmP 234 = mt_234 := rfl
theorem p235 : dmP 235 = mt_235 := rfl
theorem p236 : dmP 236 = mt_236 := rfl
theorem p237 : dmP 237 = mt_237 := rfl
theorem p238 : dmP 238 = mt_238 := rfl
theorem p239 : dmP 239 = mt_239 := rfl
theorem p240 : dmP 240 = mt_240 := rfl
theorem p241 : dmP 241 = mt_241 := rfl
theorem p242 : dmP 242 = mt_242 := rfl
theorem p243 : dmP 243 = mt_243 := rfl
theorem p244 : dmP 244 = mt_244 := rfl
theorem p245 : dmP 245 = mt_245 := rfl
theorem p246 : dmP 246 = mt_246 := rfl
theorem p247 : dmP 247 = mt_247 := rfl
theorem p248 : dmP 248 = mt_248 := rfl
theorem p249 : dmP 249 = mt_249 := rfl
theorem p250 : dmP 250 = mt_250 := rfl
theorem p251 : dmP 251 = mt_251 := rfl
theorem p252 : dmP 252 = mt_252 := rfl
theorem p253 : dmP 253 = mt_253 := rfl
theorem p254 : dmP 254 = mt_254 := rfl
theorem p255 : dmP 255 = mt_255 := rfl
theorem p256 : dmP 256 = mt_256 := rfl
theorem p257 : dmP 257 = mt_257 := rfl
theorem p258 : dmP 258 = mt_258 := rfl
theorem p259 : dmP 259 = mt_259 := rfl
theorem p260 : dmP 260 = mt_260 := rfl
theorem p261 : dmP 261 = mt_261 := rfl
theorem p262 : dmP 262 = mt_262 := rfl
theorem p263 : dmP 263 = mt_263 := rfl
theorem p264 : dmP 264 = mt_264 := rfl
theorem p265 : dmP 265 = mt_265 := rfl
theorem p266 : dmP 266 = mt_266 := rfl
theorem p267 : dmP 267 = mt_267 := rfl
theorem p268 : dmP 268 = mt_268 := rfl
theorem p269 : dmP 269 = mt_269 := rfl
theorem p270 : dmP 270 = mt_270 := rfl
theorem p271 : dmP 271 = mt_271 := rfl
theorem p272 : dmP 272 = mt_272 := rfl
theorem p273 : dmP 273 = mt_273 := rfl
theorem p274 : dmP 274 = mt_274 := rfl
theorem p275 : dmP 275 = mt_275 := rfl
theorem p276 : dmP 276 = mt_276 := rfl
theorem p277 : dmP 277 = mt_277 := rfl
theorem p278 : dmP 278 = mt_278 := rfl
theorem p279 : dmP 279 = mt_279 := rfl
