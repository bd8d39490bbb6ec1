-- the constructors (printed by initgen.py)
def zr0 : Rs := (16, fun _ _ => none, fun _ => 0, 0, 0)
def zr1 : Rs := newR zr0 0 8
def zr2 : Rs := newR zr1 0 2
def zr3 : Rs := newR zr2 300 300
def zr4 : Rs := setR zr3 17 0 (some 18)
def zr5 : Rs := setR zr4 16 0 (some 17)
def zr6 : Rs := newR zr5 0 12
def zr7 : Rs := newR zr6 16 16
def zr8 : Rs := setR zr7 19 6 (some 20)
def zr9 : Rs := setR zr8 16 1 (some 19)
def zr10 : Rs := newR zr9 0 10
def zr11 : Rs := newR zr10 4 4
def zr12 : Rs := setR zr11 21 5 (some 22)
def zr13 : Rs := newR zr12 4 4
def zr14 : Rs := setR zr13 21 6 (some 23)
def zr15 : Rs := newR zr14 20 20
def zr16 : Rs := setR zr15 21 9 (some 24)
def zr17 : Rs := setR zr16 16 2 (some 21)
def zr18 : Rs := newR zr17 0 1
def zr19 : Rs := setR zr18 16 3 (some 25)
def zr20 : Rs := newR zr19 0 7
def zr21 : Rs := newR zr20 264 264
def zr22 : Rs := setR zr21 26 3 (some 27)
def zr23 : Rs := newR zr22 264 264
def zr24 : Rs := setR zr23 26 4 (some 28)
def zr25 : Rs := newR zr24 264 264
def zr26 : Rs := setR zr25 26 5 (some 29)
def zr27 : Rs := newR zr26 264 264
def zr28 : Rs := setR zr27 26 6 (some 30)
def zr29 : Rs := setR zr28 16 4 (some 26)
def zr30 : Rs := newR zr29 0 15
def zr31 : Rs := newR zr30 0 8
def zr32 : Rs := newR zr31 5 5
def zr33 : Rs := setR zr32 32 0 (some 33)
def zr34 : Rs := newR zr33 320 320
def zr35 : Rs := setR zr34 32 1 (some 34)
def zr36 : Rs := newR zr35 320 320
def zr37 : Rs := setR zr36 32 2 (some 35)
def zr38 : Rs := newR zr37 320 320
def zr39 : Rs := setR zr38 32 3 (some 36)
def zr40 : Rs := mulR zr39 320
def zr41 : Rs := setR zr40 32 4 (some 37)
def zr42 : Rs := newR zr41 4 4
def zr43 : Rs := setR zr42 32 5 (some 42)
def zr44 : Rs := setR zr43 31 0 (some 32)
def zr45 : Rs := newR zr44 5 5
def zr46 : Rs := setR zr45 31 3 (some 43)
def zr47 : Rs := newR zr46 481 481
def zr48 : Rs := setR zr47 31 4 (some 44)
def zr49 : Rs := newR zr48 4800 4800
def zr50 : Rs := setR zr49 31 5 (some 45)
def zr51 : Rs := newR zr50 4800 4800
def zr52 : Rs := setR zr51 31 6 (some 46)
def zr53 : Rs := newR zr52 480 480
def zr54 : Rs := setR zr53 31 7 (some 47)
def zr55 : Rs := newR zr54 480 480
def zr56 : Rs := setR zr55 31 8 (some 48)
def zr57 : Rs := newR zr56 480 480
def zr58 : Rs := setR zr57 31 9 (some 49)
def zr59 : Rs := newR zr58 480 480
def zr60 : Rs := setR zr59 31 10 (some 50)
def zr61 : Rs := newR zr60 480 480
def zr62 : Rs := setR zr61 31 11 (some 51)
def zr63 : Rs := newR zr62 480 480
def zr64 : Rs := setR zr63 31 12 (some 52)
def zr65 : Rs := newR zr64 336 336
def zr66 : Rs := setR zr65 31 13 (some 53)
def zr67 : Rs := setR zr66 16 5 (some 31)
def zr68 : Rs := newR zr67 0 11
def zr69 : Rs := mulR zr68 480
def zr70 : Rs := setR zr69 54 1 (some 55)
def zr71 : Rs := mulR zr70 480
def zr72 : Rs := setR zr71 54 2 (some 60)
def zr73 : Rs := newR zr72 4 4
def zr74 : Rs := setR zr73 54 3 (some 65)
def zr75 : Rs := newR zr74 4 4
def zr76 : Rs := setR zr75 54 4 (some 66)
def zr77 : Rs := newR zr76 4 4
def zr78 : Rs := setR zr77 54 5 (some 67)
def zr79 : Rs := newR zr78 4 4
def zr80 : Rs := setR zr79 54 6 (some 68)
def zr81 : Rs := newR zr80 4 4
def zr82 : Rs := setR zr81 54 7 (some 69)
def zr83 : Rs := setR zr82 54 0 (some 31)
def zr84 : Rs := setR zr83 16 6 (some 54)
def zr85 : Rs := newR zr84 0 18
def zr86 : Rs := newR zr85 1000 1000
def zr87 : Rs := setR zr86 70 4 (some 71)
def zr88 : Rs := newR zr87 1001 1001
def zr89 : Rs := setR zr88 70 5 (some 72)
def zr90 : Rs := newR zr89 256 256
def zr91 : Rs := setR zr90 70 6 (some 73)
def zr92 : Rs := newR zr91 1000 1000
def zr93 : Rs := setR zr92 70 8 (some 74)
def zr94 : Rs := newR zr93 1000 1000
def zr95 : Rs := setR zr94 70 9 (some 75)
def zr96 : Rs := newR zr95 1000 1000
def zr97 : Rs := setR zr96 70 12 (some 76)
def zr98 : Rs := newR zr97 1000 1000
def zr99 : Rs := setR zr98 70 14 (some 77)
def zr100 : Rs := newR zr99 1000 1000
def zr101 : Rs := setR zr100 70 16 (some 78)
def zr102 : Rs := newR zr101 1000 1000
def zr103 : Rs := setR zr102 70 17 (some 79)
def zr104 : Rs := setR zr103 70 0 (some 31)
def zr105 : Rs := setR zr104 70 1 (some 26)
def zr106 : Rs := setR zr105 16 7 (some 70)
def zr107 : Rs := newR zr106 0 40
def zr108 : Rs := newR zr107 21 21
def zr109 : Rs := setR zr108 80 0 (some 81)
def zr110 : Rs := newR zr109 21 21
def zr111 : Rs := setR zr110 80 1 (some 82)
def zr112 : Rs := newR zr111 320 320
def zr113 : Rs := setR zr112 80 2 (some 83)
def zr114 : Rs := newR zr113 300 300
def zr115 : Rs := setR zr114 80 3 (some 84)
def zr116 : Rs := newR zr115 16 16
def zr117 : Rs := setR zr116 80 18 (some 85)
def zr118 : Rs := newR zr117 4 4
def zr119 : Rs := setR zr118 80 19 (some 86)
def zr120 : Rs := newR zr119 4 4
def zr121 : Rs := setR zr120 80 20 (some 87)
def zr122 : Rs := newR zr121 336 336
def zr123 : Rs := setR zr122 80 21 (some 88)
def zr124 : Rs := newR zr123 16000 16000
def zr125 : Rs := setR zr124 80 31 (some 89)
def zr126 : Rs := newR zr125 16 16
def zr127 : Rs := setR zr126 80 33 (some 90)
def zr128 : Rs := newR zr127 1000 1000
def zr129 : Rs := setR zr128 80 34 (some 91)
def zr130 : Rs := newR zr129 1000 1000
def zr131 : Rs := setR zr130 80 35 (some 92)
def zr132 : Rs := newR zr131 1000 1000
def zr133 : Rs := setR zr132 80 37 (some 93)
def zr134 : Rs := newR zr133 1000 1000
def zr135 : Rs := setR zr134 80 38 (some 94)
theorem fvR_get {ρ : Rs} {S : St} {k j x : Nat} (h : rR ρ k j = some x) (g : GX) : fval g ρ S k 2 j = vmv g (.ref x) := by
  show va_rf ((rR ρ k j).map (ad g)) = _
  rw [h]
  rfl
theorem ez_Ez0 (k : Nat) (_ : 16 ≤ k) (j : Nat) : Ez0 k j = 0 := rfl
theorem ez_Ez1 (k : Nat) (h : 20 ≤ k) (j : Nat) : Ez1 k j = 0 := if_neg (by omega)
theorem ez_Ez2 (k : Nat) (h : 81 ≤ k) (j : Nat) : Ez2 k j = 0 := (if_neg (by omega)).trans (ez_Ez1 k (by omega) j)
theorem df_0 : ∀ j, j < 1 → ∃ t, (fkA 0)[j]? = some t ∧ defaultValue (tyX0 j) = (match t with | 1 => .long 0 | 2 => .null | _ => .int 0) := fun j hj => ⟨(fkA 0).getD j 0, (by decide +kernel : ∀ j, j < 1 → (fkA 0)[j]? = some ((fkA 0).getD j 0) ∧ defaultValue (tyX0 j) = (match (fkA 0).getD j 0 with | 1 => .long 0 | 2 => .null | _ => .int 0)) j hj⟩
theorem df_1 : ∀ j, j < 15 → ∃ t, (fkA 1)[j]? = some t ∧ defaultValue (tyX1 j) = (match t with | 1 => .long 0 | 2 => .null | _ => .int 0) := fun j hj => ⟨(fkA 1).getD j 0, (by decide +kernel : ∀ j, j < 15 → (fkA 1)[j]? = some ((fkA 1).getD j 0) ∧ defaultValue (tyX1 j) = (match (fkA 1).getD j 0 with | 1 => .long 0 | 2 => .null | _ => .int 0)) j hj⟩
theorem df_2 : ∀ j, j < 8 → ∃ t, (fkA 2)[j]? = some t ∧ defaultValue (tyX2 j) = (match t with | 1 => .long 0 | 2 => .null | _ => .int 0) := fun j hj => ⟨(fkA 2).getD j 0, (by decide +kernel : ∀ j, j < 8 → (fkA 2)[j]? = some ((fkA 2).getD j 0) ∧ defaultValue (tyX2 j) = (match (fkA 2).getD j 0 with | 1 => .long 0 | 2 => .null | _ => .int 0)) j hj⟩
theorem df_3 : ∀ j, j < 11 → ∃ t, (fkA 3)[j]? = some t ∧ defaultValue (tyX4 j) = (match t with | 1 => .long 0 | 2 => .null | _ => .int 0) := fun j hj => ⟨(fkA 3).getD j 0, (by decide +kernel : ∀ j, j < 11 → (fkA 3)[j]? = some ((fkA 3).getD j 0) ∧ defaultValue (tyX4 j) = (match (fkA 3).getD j 0 with | 1 => .long 0 | 2 => .null | _ => .int 0)) j hj⟩
theorem df_4 : ∀ j, j < 7 → ∃ t, (fkA 4)[j]? = some t ∧ defaultValue (tyX5 j) = (match t with | 1 => .long 0 | 2 => .null | _ => .int 0) := fun j hj => ⟨(fkA 4).getD j 0, (by decide +kernel : ∀ j, j < 7 → (fkA 4)[j]? = some ((fkA 4).getD j 0) ∧ defaultValue (tyX5 j) = (match (fkA 4).getD j 0 with | 1 => .long 0 | 2 => .null | _ => .int 0)) j hj⟩
theorem df_5 : ∀ j, j < 18 → ∃ t, (fkA 5)[j]? = some t ∧ defaultValue (tyX6 j) = (match t with | 1 => .long 0 | 2 => .null | _ => .int 0) := fun j hj => ⟨(fkA 5).getD j 0, (by decide +kernel : ∀ j, j < 18 → (fkA 5)[j]? = some ((fkA 5).getD j 0) ∧ defaultValue (tyX6 j) = (match (fkA 5).getD j 0 with | 1 => .long 0 | 2 => .null | _ => .int 0)) j hj⟩
theorem df_6 : ∀ j, j < 12 → ∃ t, (fkA 6)[j]? = some t ∧ defaultValue (tyX8 j) = (match t with | 1 => .long 0 | 2 => .null | _ => .int 0) := fun j hj => ⟨(fkA 6).getD j 0, (by decide +kernel : ∀ j, j < 12 → (fkA 6)[j]? = some ((fkA 6).getD j 0) ∧ defaultValue (tyX8 j) = (match (fkA 6).getD j 0 with | 1 => .long 0 | 2 => .null | _ => .int 0)) j hj⟩
theorem df_7 : ∀ j, j < 10 → ∃ t, (fkA 7)[j]? = some t ∧ defaultValue (tyX9 j) = (match t with | 1 => .long 0 | 2 => .null | _ => .int 0) := fun j hj => ⟨(fkA 7).getD j 0, (by decide +kernel : ∀ j, j < 10 → (fkA 7)[j]? = some ((fkA 7).getD j 0) ∧ defaultValue (tyX9 j) = (match (fkA 7).getD j 0 with | 1 => .long 0 | 2 => .null | _ => .int 0)) j hj⟩
theorem df_8 : ∀ j, j < 2 → ∃ t, (fkA 8)[j]? = some t ∧ defaultValue (tyX10 j) = (match t with | 1 => .long 0 | 2 => .null | _ => .int 0) := fun j hj => ⟨(fkA 8).getD j 0, (by decide +kernel : ∀ j, j < 2 → (fkA 8)[j]? = some ((fkA 8).getD j 0) ∧ defaultValue (tyX10 j) = (match (fkA 8).getD j 0 with | 1 => .long 0 | 2 => .null | _ => .int 0)) j hj⟩
theorem df_9 : ∀ j, j < 8 → ∃ t, (fkA 9)[j]? = some t ∧ defaultValue (tyX11 j) = (match t with | 1 => .long 0 | 2 => .null | _ => .int 0) := fun j hj => ⟨(fkA 9).getD j 0, (by decide +kernel : ∀ j, j < 8 → (fkA 9)[j]? = some ((fkA 9).getD j 0) ∧ defaultValue (tyX11 j) = (match (fkA 9).getD j 0 with | 1 => .long 0 | 2 => .null | _ => .int 0)) j hj⟩
theorem df_10 : ∀ j, j < 40 → ∃ t, (fkA 10)[j]? = some t ∧ defaultValue (tyX12 j) = (match t with | 1 => .long 0 | 2 => .null | _ => .int 0) := fun j hj => ⟨(fkA 10).getD j 0, (by decide +kernel : ∀ j, j < 40 → (fkA 10)[j]? = some ((fkA 10).getD j 0) ∧ defaultValue (tyX12 j) = (match (fkA 10).getD j 0 with | 1 => .long 0 | 2 => .null | _ => .int 0)) j hj⟩
set_option maxRecDepth 20000 in
theorem in_X10_init {g : GX} {d : Nat} {S : St} (hA : ∀ k, 16 ≤ k → gF g k) (hAO : AOk g) (hZ : Zs 18 Ez0 S) : CALLv g (d + 1) mX10_init [.ref 17] zr2 zr4 S (Zs 19 Ez0) := by
  refine CALL.of mdX10_init.2.2.2.2 (Nat.le_of_ble_eq_true rfl) (by decide +kernel) (by decide +kernel) ?_
  show AW g zr4 (QV (Zs 19 Ez0)) (d + 1) mX10_init 0 [(0, .ref 17)] [] zr2 S
  refine AW_aload_n 0 (n := 0) rfl dX10_init_0 rfl ?_
  refine AW_objInit dX10_init_1 mlX10_1 wObjI wObjC (by decide) ?_
  refine AW_aload_n 0 (n := 0) rfl dX10_init_4 rfl ?_
  refine AW_sipush (v := 300) dX10_init_5 rfl ?_
  refine AW_newarrK (atype := .int) (t := 0) (n := 300) (K := 18) (ρ1 := zr3) dX10_init_8 (Or.inl ⟨rfl, rfl⟩) wArr_int (by decide) rfl (Nat.le_of_ble_eq_true rfl) (by decide +kernel) rfl rfl (by decide +kernel) (by decide +kernel) (hA _ (Nat.le_of_ble_eq_true rfl)) (Nat.le_of_ble_eq_true rfl) ?_
  replace hZ := hZ.newS (ez_Ez0 18 (by decide +kernel))
  generalize newS S 18 = S1 at hZ ⊢
  refine AW_putFR (ρ2 := zr4) dX10_init_10 flX10_9 fp_8_0 rfl (fun q hq => by cases hq; rfl) (Nat.le_of_ble_eq_true rfl) (by decide +kernel) rfl (fun _ => rfl) (fun _ => rfl) rfl (hA _ (Nat.le_of_ble_eq_true rfl)) ?_
  exact AW_retv dX10_init_13 rfl hZ
set_option maxRecDepth 20000 in
theorem in_X8_init {g : GX} {d : Nat} {S : St} (hA : ∀ k, 16 ≤ k → gF g k) (hAO : AOk g) (hZ : Zs 20 Ez0 S) : CALLv g (d + 1) mX8_init [.ref 19] zr6 zr8 S (Zs 21 Ez1) := by
  refine CALL.of mdX8_init.2.2.2.2 (Nat.le_of_ble_eq_true rfl) (by decide +kernel) (by decide +kernel) ?_
  show AW g zr8 (QV (Zs 21 Ez1)) (d + 1) mX8_init 0 [(0, .ref 19)] [] zr6 S
  refine AW_aload_n 0 (n := 0) rfl dX8_init_0 rfl ?_
  refine AW_objInit dX8_init_1 mlX8_3 wObjI wObjC (by decide) ?_
  refine AW_aload_n 0 (n := 0) rfl dX8_init_4 rfl ?_
  refine AW_iconst (v := (-1)) dX8_init_5 rfl ?_
  refine AW_put dX8_init_6 flX8_9 fp_6_1 (Nat.le_of_ble_eq_true rfl) (by decide +kernel) rfl (fun _ => rfl) (fun _ => rfl) rfl rfl rfl rfl (Fr.setI _ _ _ rfl) (fun _ _ => rfl) (ρ2 := zr6) (S2 := setI S 19 1 (-1)) (fun _ => rfl) (fun _ _ _ q1 _ => fvI_o q1) (hA _ (Nat.le_of_ble_eq_true rfl)) ?_
  replace hZ : Zs 20 Ez1 (setI S 19 1 (-1)) := hZ.setI (fun _ _ => rfl)
  generalize setI S 19 1 (-1) = S1 at hZ ⊢
  refine AW_aload_n 0 (n := 0) rfl dX8_init_9 rfl ?_
  refine AW_bipush (v := 16) dX8_init_10 rfl ?_
  refine AW_newarrK (atype := .int) (t := 0) (n := 16) (K := 20) (ρ1 := zr7) dX8_init_12 (Or.inl ⟨rfl, rfl⟩) wArr_int (by decide) rfl (Nat.le_of_ble_eq_true rfl) (by decide +kernel) rfl rfl (by decide +kernel) (by decide +kernel) (hA _ (Nat.le_of_ble_eq_true rfl)) (Nat.le_of_ble_eq_true rfl) ?_
  replace hZ := hZ.newS (ez_Ez1 20 (by decide +kernel))
  generalize newS S1 20 = S2 at hZ ⊢
  refine AW_putFR (ρ2 := zr8) dX8_init_14 flX8_15 fp_6_6 rfl (fun q hq => by cases hq; rfl) (Nat.le_of_ble_eq_true rfl) (by decide +kernel) rfl (fun _ => rfl) (fun _ => rfl) rfl (hA _ (Nat.le_of_ble_eq_true rfl)) ?_
  exact AW_retv dX8_init_17 rfl hZ
set_option maxRecDepth 20000 in
theorem in_X9_init {g : GX} {d : Nat} {S : St} (hA : ∀ k, 16 ≤ k → gF g k) (hAO : AOk g) (hZ : Zs 22 Ez1 S) : CALLv g (d + 1) mX9_init [.ref 21] zr10 zr16 S (Zs 25 Ez1) := by
  refine CALL.of mdX9_init.2.2.2.2 (Nat.le_of_ble_eq_true rfl) (by decide +kernel) (by decide +kernel) ?_
  show AW g zr16 (QV (Zs 25 Ez1)) (d + 1) mX9_init 0 [(0, .ref 21)] [] zr10 S
  refine AW_aload_n 0 (n := 0) rfl dX9_init_0 rfl ?_
  refine AW_objInit dX9_init_1 mlX9_3 wObjI wObjC (by decide) ?_
  refine AW_aload_n 0 (n := 0) rfl dX9_init_4 rfl ?_
  refine AW_iconst (v := 4) dX9_init_5 rfl ?_
  refine AW_newarrK (atype := .int) (t := 0) (n := 4) (K := 22) (ρ1 := zr11) dX9_init_6 (Or.inl ⟨rfl, rfl⟩) wArr_int (by decide) rfl (Nat.le_of_ble_eq_true rfl) (by decide +kernel) rfl rfl (by decide +kernel) (by decide +kernel) (hA _ (Nat.le_of_ble_eq_true rfl)) (Nat.le_of_ble_eq_true rfl) ?_
  replace hZ := hZ.newS (ez_Ez1 22 (by decide +kernel))
  generalize newS S 22 = S1 at hZ ⊢
  refine AW_putFR (ρ2 := zr12) dX9_init_8 flX9_9 fp_7_5 rfl (fun q hq => by cases hq; rfl) (Nat.le_of_ble_eq_true rfl) (by decide +kernel) rfl (fun _ => rfl) (fun _ => rfl) rfl (hA _ (Nat.le_of_ble_eq_true rfl)) ?_
  refine AW_aload_n 0 (n := 0) rfl dX9_init_11 rfl ?_
  refine AW_iconst (v := 4) dX9_init_12 rfl ?_
  refine AW_newarrK (atype := .int) (t := 0) (n := 4) (K := 23) (ρ1 := zr13) dX9_init_13 (Or.inl ⟨rfl, rfl⟩) wArr_int (by decide) rfl (Nat.le_of_ble_eq_true rfl) (by decide +kernel) rfl rfl (by decide +kernel) (by decide +kernel) (hA _ (Nat.le_of_ble_eq_true rfl)) (Nat.le_of_ble_eq_true rfl) ?_
  replace hZ := hZ.newS (ez_Ez1 23 (by decide +kernel))
  generalize newS S1 23 = S2 at hZ ⊢
  refine AW_putFR (ρ2 := zr14) dX9_init_15 flX9_15 fp_7_6 rfl (fun q hq => by cases hq; rfl) (Nat.le_of_ble_eq_true rfl) (by decide +kernel) rfl (fun _ => rfl) (fun _ => rfl) rfl (hA _ (Nat.le_of_ble_eq_true rfl)) ?_
  refine AW_aload_n 0 (n := 0) rfl dX9_init_18 rfl ?_
  refine AW_bipush (v := 20) dX9_init_19 rfl ?_
  refine AW_newarrK (atype := .long) (t := 1) (n := 20) (K := 24) (ρ1 := zr15) dX9_init_21 (Or.inr (Or.inl ⟨rfl, rfl⟩)) wArr_long (by decide) rfl (Nat.le_of_ble_eq_true rfl) (by decide +kernel) rfl rfl (by decide +kernel) (by decide +kernel) (hA _ (Nat.le_of_ble_eq_true rfl)) (Nat.le_of_ble_eq_true rfl) ?_
  replace hZ := hZ.newS (ez_Ez1 24 (by decide +kernel))
  generalize newS S2 24 = S3 at hZ ⊢
  refine AW_putFR (ρ2 := zr16) dX9_init_23 flX9_18 fp_7_9 rfl (fun q hq => by cases hq; rfl) (Nat.le_of_ble_eq_true rfl) (by decide +kernel) rfl (fun _ => rfl) (fun _ => rfl) rfl (hA _ (Nat.le_of_ble_eq_true rfl)) ?_
  exact AW_retv dX9_init_26 rfl hZ
set_option maxRecDepth 20000 in
theorem in_X0_init {g : GX} {d : Nat} {S : St} (hA : ∀ k, 16 ≤ k → gF g k) (hAO : AOk g) (hZ : Zs 26 Ez1 S) : CALLv g (d + 1) mX0_init [.ref 25] zr18 zr18 S (Zs 26 Ez1) := by
  refine CALL.of mdX0_init.2.2.2.2 (Nat.le_of_ble_eq_true rfl) (by decide +kernel) (by decide +kernel) ?_
  show AW g zr18 (QV (Zs 26 Ez1)) (d + 1) mX0_init 0 [(0, .ref 25)] [] zr18 S
  refine AW_aload_n 0 (n := 0) rfl dX0_init_0 rfl ?_
  refine AW_objInit dX0_init_1 mlX0_1 wObjI wObjC (by decide) ?_
  exact AW_retv dX0_init_4 rfl hZ
set_option maxRecDepth 20000 in
theorem in_X5_init {g : GX} {d : Nat} {S : St} (hA : ∀ k, 16 ≤ k → gF g k) (hAO : AOk g) (hZ : Zs 27 Ez1 S) : CALLv g (d + 1) mX5_init [.ref 26] zr20 zr28 S (Zs 31 Ez1) := by
  refine CALL.of mdX5_init.2.2.2.2 (Nat.le_of_ble_eq_true rfl) (by decide +kernel) (by decide +kernel) ?_
  show AW g zr28 (QV (Zs 31 Ez1)) (d + 1) mX5_init 0 [(0, .ref 26)] [] zr20 S
  refine AW_aload_n 0 (n := 0) rfl dX5_init_0 rfl ?_
  refine AW_objInit dX5_init_1 mlX5_3 wObjI wObjC (by decide) ?_
  refine AW_aload_n 0 (n := 0) rfl dX5_init_4 rfl ?_
  refine AW_sipush (v := 264) dX5_init_5 rfl ?_
  refine AW_newarrK (atype := .long) (t := 1) (n := 264) (K := 27) (ρ1 := zr21) dX5_init_8 (Or.inr (Or.inl ⟨rfl, rfl⟩)) wArr_long (by decide) rfl (Nat.le_of_ble_eq_true rfl) (by decide +kernel) rfl rfl (by decide +kernel) (by decide +kernel) (hA _ (Nat.le_of_ble_eq_true rfl)) (Nat.le_of_ble_eq_true rfl) ?_
  replace hZ := hZ.newS (ez_Ez1 27 (by decide +kernel))
  generalize newS S 27 = S1 at hZ ⊢
  refine AW_putFR (ρ2 := zr22) dX5_init_10 flX5_9 fp_4_3 rfl (fun q hq => by cases hq; rfl) (Nat.le_of_ble_eq_true rfl) (by decide +kernel) rfl (fun _ => rfl) (fun _ => rfl) rfl (hA _ (Nat.le_of_ble_eq_true rfl)) ?_
  refine AW_aload_n 0 (n := 0) rfl dX5_init_13 rfl ?_
  refine AW_sipush (v := 264) dX5_init_14 rfl ?_
  refine AW_newarrK (atype := .int) (t := 0) (n := 264) (K := 28) (ρ1 := zr23) dX5_init_17 (Or.inl ⟨rfl, rfl⟩) wArr_int (by decide) rfl (Nat.le_of_ble_eq_true rfl) (by decide +kernel) rfl rfl (by decide +kernel) (by decide +kernel) (hA _ (Nat.le_of_ble_eq_true rfl)) (Nat.le_of_ble_eq_true rfl) ?_
  replace hZ := hZ.newS (ez_Ez1 28 (by decide +kernel))
  generalize newS S1 28 = S2 at hZ ⊢
  refine AW_putFR (ρ2 := zr24) dX5_init_19 flX5_13 fp_4_4 rfl (fun q hq => by cases hq; rfl) (Nat.le_of_ble_eq_true rfl) (by decide +kernel) rfl (fun _ => rfl) (fun _ => rfl) rfl (hA _ (Nat.le_of_ble_eq_true rfl)) ?_
  refine AW_aload_n 0 (n := 0) rfl dX5_init_22 rfl ?_
  refine AW_sipush (v := 264) dX5_init_23 rfl ?_
  refine AW_newarrK (atype := .int) (t := 0) (n := 264) (K := 29) (ρ1 := zr25) dX5_init_26 (Or.inl ⟨rfl, rfl⟩) wArr_int (by decide) rfl (Nat.le_of_ble_eq_true rfl) (by decide +kernel) rfl rfl (by decide +kernel) (by decide +kernel) (hA _ (Nat.le_of_ble_eq_true rfl)) (Nat.le_of_ble_eq_true rfl) ?_
  replace hZ := hZ.newS (ez_Ez1 29 (by decide +kernel))
  generalize newS S2 29 = S3 at hZ ⊢
  refine AW_putFR (ρ2 := zr26) dX5_init_28 flX5_17 fp_4_5 rfl (fun q hq => by cases hq; rfl) (Nat.le_of_ble_eq_true rfl) (by decide +kernel) rfl (fun _ => rfl) (fun _ => rfl) rfl (hA _ (Nat.le_of_ble_eq_true rfl)) ?_
  refine AW_aload_n 0 (n := 0) rfl dX5_init_31 rfl ?_
  refine AW_sipush (v := 264) dX5_init_32 rfl ?_
  refine AW_newarrK (atype := .int) (t := 0) (n := 264) (K := 30) (ρ1 := zr27) dX5_init_35 (Or.inl ⟨rfl, rfl⟩) wArr_int (by decide) rfl (Nat.le_of_ble_eq_true rfl) (by decide +kernel) rfl rfl (by decide +kernel) (by decide +kernel) (hA _ (Nat.le_of_ble_eq_true rfl)) (Nat.le_of_ble_eq_true rfl) ?_
  replace hZ := hZ.newS (ez_Ez1 30 (by decide +kernel))
  generalize newS S3 30 = S4 at hZ ⊢
  refine AW_putFR (ρ2 := zr28) dX5_init_37 flX5_20 fp_4_6 rfl (fun q hq => by cases hq; rfl) (Nat.le_of_ble_eq_true rfl) (by decide +kernel) rfl (fun _ => rfl) (fun _ => rfl) rfl (hA _ (Nat.le_of_ble_eq_true rfl)) ?_
  exact AW_retv dX5_init_40 rfl hZ
set_option maxRecDepth 20000 in
theorem in_X2_init {g : GX} {d : Nat} {S : St} (hA : ∀ k, 16 ≤ k → gF g k) (hAO : AOk g) (hZ : Zs 33 Ez1 S) : CALLv g (d + 1) mX2_init [.ref 32] zr31 zr43 S (Zs 43 Ez1) := by
  refine CALL.of mdX2_init.2.2.2.2 (Nat.le_of_ble_eq_true rfl) (by decide +kernel) (by decide +kernel) ?_
  show AW g zr43 (QV (Zs 43 Ez1)) (d + 1) mX2_init 0 [(0, .ref 32)] [] zr31 S
  refine AW_aload_n 0 (n := 0) rfl dX2_init_0 rfl ?_
  refine AW_objInit dX2_init_1 mlX2_3 wObjI wObjC (by decide) ?_
  refine AW_aload_n 0 (n := 0) rfl dX2_init_4 rfl ?_
  refine AW_iconst (v := 5) dX2_init_5 rfl ?_
  refine AW_newarrK (atype := .int) (t := 0) (n := 5) (K := 33) (ρ1 := zr32) dX2_init_6 (Or.inl ⟨rfl, rfl⟩) wArr_int (by decide) rfl (Nat.le_of_ble_eq_true rfl) (by decide +kernel) rfl rfl (by decide +kernel) (by decide +kernel) (hA _ (Nat.le_of_ble_eq_true rfl)) (Nat.le_of_ble_eq_true rfl) ?_
  replace hZ := hZ.newS (ez_Ez1 33 (by decide +kernel))
  generalize newS S 33 = S1 at hZ ⊢
  refine AW_putFR (ρ2 := zr33) dX2_init_8 flX2_9 fp_2_0 rfl (fun q hq => by cases hq; rfl) (Nat.le_of_ble_eq_true rfl) (by decide +kernel) rfl (fun _ => rfl) (fun _ => rfl) rfl (hA _ (Nat.le_of_ble_eq_true rfl)) ?_
  refine AW_aload_n 0 (n := 0) rfl dX2_init_11 rfl ?_
  refine AW_sipush (v := 320) dX2_init_12 rfl ?_
  refine AW_newarrK (atype := .int) (t := 0) (n := 320) (K := 34) (ρ1 := zr34) dX2_init_15 (Or.inl ⟨rfl, rfl⟩) wArr_int (by decide) rfl (Nat.le_of_ble_eq_true rfl) (by decide +kernel) rfl rfl (by decide +kernel) (by decide +kernel) (hA _ (Nat.le_of_ble_eq_true rfl)) (Nat.le_of_ble_eq_true rfl) ?_
  replace hZ := hZ.newS (ez_Ez1 34 (by decide +kernel))
  generalize newS S1 34 = S2 at hZ ⊢
  refine AW_putFR (ρ2 := zr35) dX2_init_17 flX2_15 fp_2_1 rfl (fun q hq => by cases hq; rfl) (Nat.le_of_ble_eq_true rfl) (by decide +kernel) rfl (fun _ => rfl) (fun _ => rfl) rfl (hA _ (Nat.le_of_ble_eq_true rfl)) ?_
  refine AW_aload_n 0 (n := 0) rfl dX2_init_20 rfl ?_
  refine AW_sipush (v := 320) dX2_init_21 rfl ?_
  refine AW_newarrK (atype := .int) (t := 0) (n := 320) (K := 35) (ρ1 := zr36) dX2_init_24 (Or.inl ⟨rfl, rfl⟩) wArr_int (by decide) rfl (Nat.le_of_ble_eq_true rfl) (by decide +kernel) rfl rfl (by decide +kernel) (by decide +kernel) (hA _ (Nat.le_of_ble_eq_true rfl)) (Nat.le_of_ble_eq_true rfl) ?_
  replace hZ := hZ.newS (ez_Ez1 35 (by decide +kernel))
  generalize newS S2 35 = S3 at hZ ⊢
  refine AW_putFR (ρ2 := zr37) dX2_init_26 flX2_18 fp_2_2 rfl (fun q hq => by cases hq; rfl) (Nat.le_of_ble_eq_true rfl) (by decide +kernel) rfl (fun _ => rfl) (fun _ => rfl) rfl (hA _ (Nat.le_of_ble_eq_true rfl)) ?_
  refine AW_aload_n 0 (n := 0) rfl dX2_init_29 rfl ?_
  refine AW_sipush (v := 320) dX2_init_30 rfl ?_
  refine AW_newarrK (atype := .int) (t := 0) (n := 320) (K := 36) (ρ1 := zr38) dX2_init_33 (Or.inl ⟨rfl, rfl⟩) wArr_int (by decide) rfl (Nat.le_of_ble_eq_true rfl) (by decide +kernel) rfl rfl (by decide +kernel) (by decide +kernel) (hA _ (Nat.le_of_ble_eq_true rfl)) (Nat.le_of_ble_eq_true rfl) ?_
  replace hZ := hZ.newS (ez_Ez1 36 (by decide +kernel))
  generalize newS S3 36 = S4 at hZ ⊢
  refine AW_putFR (ρ2 := zr39) dX2_init_35 flX2_21 fp_2_3 rfl (fun q hq => by cases hq; rfl) (Nat.le_of_ble_eq_true rfl) (by decide +kernel) rfl (fun _ => rfl) (fun _ => rfl) rfl (hA _ (Nat.le_of_ble_eq_true rfl)) ?_
  refine AW_aload_n 0 (n := 0) rfl dX2_init_38 rfl ?_
  refine AW_sipush (v := 1280) dX2_init_39 rfl ?_
  refine AW_newflatK (k := 320) (K := 37) (ρ1 := zr40) dX2_init_42 (by decide) rfl (Nat.le_of_ble_eq_true rfl) (by decide +kernel) rfl rfl (by decide +kernel) (by decide +kernel) hA (Nat.le_of_ble_eq_true rfl) ?_
  replace hZ := hZ.mulS (fun i hi => ez_Ez1 (37 + i) (by omega))
  generalize mulS S4 37 = S5 at hZ ⊢
  refine AW_putFR (ρ2 := zr41) dX2_init_44 flX2_24 fp_2_4 rfl (fun q hq => by cases hq; rfl) (Nat.le_of_ble_eq_true rfl) (by decide +kernel) rfl (fun _ => rfl) (fun _ => rfl) rfl (hA _ (Nat.le_of_ble_eq_true rfl)) ?_
  refine AW_aload_n 0 (n := 0) rfl dX2_init_47 rfl ?_
  refine AW_iconst (v := 4) dX2_init_48 rfl ?_
  refine AW_newarrK (atype := .int) (t := 0) (n := 4) (K := 42) (ρ1 := zr42) dX2_init_49 (Or.inl ⟨rfl, rfl⟩) wArr_int (by decide) rfl (Nat.le_of_ble_eq_true rfl) (by decide +kernel) rfl rfl (by decide +kernel) (by decide +kernel) (hA _ (Nat.le_of_ble_eq_true rfl)) (Nat.le_of_ble_eq_true rfl) ?_
  replace hZ := hZ.newS (ez_Ez1 42 (by decide +kernel))
  generalize newS S5 42 = S6 at hZ ⊢
  refine AW_putFR (ρ2 := zr43) dX2_init_51 flX2_28 fp_2_5 rfl (fun q hq => by cases hq; rfl) (Nat.le_of_ble_eq_true rfl) (by decide +kernel) rfl (fun _ => rfl) (fun _ => rfl) rfl (hA _ (Nat.le_of_ble_eq_true rfl)) ?_
  exact AW_retv dX2_init_54 rfl hZ
set_option maxRecDepth 20000 in
theorem in_X1_init {g : GX} {d : Nat} {S : St} (hA : ∀ k, 16 ≤ k → gF g k) (hAO : AOk g) (hZ : Zs 32 Ez1 S) : CALLv g (d + 2) mX1_init [.ref 31] zr30 zr66 S (Zs 54 Ez1) := by
  refine CALL.of mdX1_init.2.2.2.2 (Nat.le_of_ble_eq_true rfl) (by decide +kernel) (by decide +kernel) ?_
  show AW g zr66 (QV (Zs 54 Ez1)) (d + 2) mX1_init 0 [(0, .ref 31)] [] zr30 S
  refine AW_aload_n 0 (n := 0) rfl dX1_init_0 rfl ?_
  refine AW_objInit dX1_init_1 mlX1_3 wObjI wObjC (by decide) ?_
  refine AW_aload_n 0 (n := 0) rfl dX1_init_4 rfl ?_
  refine AW_newK (ci := 2) (C := RX2) (T := TX2) (N := 8) (ty := tyX2) (K := 32) (ρ1 := zr31) dX1_init_5 rfl wcl_2 tyX2_ok clX1_9 wIns_2 wIni_2 df_2 (by decide +kernel) rfl rfl (by decide +kernel) (by decide +kernel) (hA _ (Nat.le_of_ble_eq_true rfl)) (Nat.le_of_ble_eq_true rfl) ?_
  replace hZ := hZ.newS (ez_Ez1 32 (by decide +kernel))
  generalize newS S 32 = S1 at hZ ⊢
  refine AW_dup dX1_init_8 rfl ?_
  refine AW_callNv (As := []) (k := 32) (ρ1 := zr43) (host := "CountTables") dX1_init_9 mdX2_init (List.mem_of_getElem? (i := 6) rfl) imX2_init rfl rfl ⟨rfl, npX2_init⟩ (by decide) (by decide +kernel) (by decide +kernel) rfl ?_
  refine CALLv.mono (in_X2_init (d := d) hA hAO hZ) (fun S2 _ hZ => ?_)
  refine AW_putFR (ρ2 := zr44) dX1_init_12 flX1_12 fp_1_0 rfl (fun q hq => by cases hq; rfl) (Nat.le_of_ble_eq_true rfl) (by decide +kernel) rfl (fun _ => rfl) (fun _ => rfl) rfl (hA _ (Nat.le_of_ble_eq_true rfl)) ?_
  refine AW_aload_n 0 (n := 0) rfl dX1_init_15 rfl ?_
  refine AW_iconst (v := 5) dX1_init_16 rfl ?_
  refine AW_newarrK (atype := .int) (t := 0) (n := 5) (K := 43) (ρ1 := zr45) dX1_init_17 (Or.inl ⟨rfl, rfl⟩) wArr_int (by decide) rfl (Nat.le_of_ble_eq_true rfl) (by decide +kernel) rfl rfl (by decide +kernel) (by decide +kernel) (hA _ (Nat.le_of_ble_eq_true rfl)) (Nat.le_of_ble_eq_true rfl) ?_
  replace hZ := hZ.newS (ez_Ez1 43 (by decide +kernel))
  generalize newS S2 43 = S3 at hZ ⊢
  refine AW_putFR (ρ2 := zr46) dX1_init_19 flX1_18 fp_1_3 rfl (fun q hq => by cases hq; rfl) (Nat.le_of_ble_eq_true rfl) (by decide +kernel) rfl (fun _ => rfl) (fun _ => rfl) rfl (hA _ (Nat.le_of_ble_eq_true rfl)) ?_
  refine AW_aload_n 0 (n := 0) rfl dX1_init_22 rfl ?_
  refine AW_sipush (v := 481) dX1_init_23 rfl ?_
  refine AW_newarrK (atype := .int) (t := 0) (n := 481) (K := 44) (ρ1 := zr47) dX1_init_26 (Or.inl ⟨rfl, rfl⟩) wArr_int (by decide) rfl (Nat.le_of_ble_eq_true rfl) (by decide +kernel) rfl rfl (by decide +kernel) (by decide +kernel) (hA _ (Nat.le_of_ble_eq_true rfl)) (Nat.le_of_ble_eq_true rfl) ?_
  replace hZ := hZ.newS (ez_Ez1 44 (by decide +kernel))
  generalize newS S3 44 = S4 at hZ ⊢
  refine AW_putFR (ρ2 := zr48) dX1_init_28 flX1_22 fp_1_4 rfl (fun q hq => by cases hq; rfl) (Nat.le_of_ble_eq_true rfl) (by decide +kernel) rfl (fun _ => rfl) (fun _ => rfl) rfl (hA _ (Nat.le_of_ble_eq_true rfl)) ?_
  refine AW_aload_n 0 (n := 0) rfl dX1_init_31 rfl ?_
  refine AW_sipush (v := 4800) dX1_init_32 rfl ?_
  refine AW_newarrK (atype := .int) (t := 0) (n := 4800) (K := 45) (ρ1 := zr49) dX1_init_35 (Or.inl ⟨rfl, rfl⟩) wArr_int (by decide) rfl (Nat.le_of_ble_eq_true rfl) (by decide +kernel) rfl rfl (by decide +kernel) (by decide +kernel) (hA _ (Nat.le_of_ble_eq_true rfl)) (Nat.le_of_ble_eq_true rfl) ?_
  replace hZ := hZ.newS (ez_Ez1 45 (by decide +kernel))
  generalize newS S4 45 = S5 at hZ ⊢
  refine AW_putFR (ρ2 := zr50) dX1_init_37 flX1_25 fp_1_5 rfl (fun q hq => by cases hq; rfl) (Nat.le_of_ble_eq_true rfl) (by decide +kernel) rfl (fun _ => rfl) (fun _ => rfl) rfl (hA _ (Nat.le_of_ble_eq_true rfl)) ?_
  refine AW_aload_n 0 (n := 0) rfl dX1_init_40 rfl ?_
  refine AW_sipush (v := 4800) dX1_init_41 rfl ?_
  refine AW_newarrK (atype := .int) (t := 0) (n := 4800) (K := 46) (ρ1 := zr51) dX1_init_44 (Or.inl ⟨rfl, rfl⟩) wArr_int (by decide) rfl (Nat.le_of_ble_eq_true rfl) (by decide +kernel) rfl rfl (by decide +kernel) (by decide +kernel) (hA _ (Nat.le_of_ble_eq_true rfl)) (Nat.le_of_ble_eq_true rfl) ?_
  replace hZ := hZ.newS (ez_Ez1 46 (by decide +kernel))
  generalize newS S5 46 = S6 at hZ ⊢
  refine AW_putFR (ρ2 := zr52) dX1_init_46 flX1_28 fp_1_6 rfl (fun q hq => by cases hq; rfl) (Nat.le_of_ble_eq_true rfl) (by decide +kernel) rfl (fun _ => rfl) (fun _ => rfl) rfl (hA _ (Nat.le_of_ble_eq_true rfl)) ?_
  refine AW_aload_n 0 (n := 0) rfl dX1_init_49 rfl ?_
  refine AW_sipush (v := 480) dX1_init_50 rfl ?_
  refine AW_newarrK (atype := .long) (t := 1) (n := 480) (K := 47) (ρ1 := zr53) dX1_init_53 (Or.inr (Or.inl ⟨rfl, rfl⟩)) wArr_long (by decide) rfl (Nat.le_of_ble_eq_true rfl) (by decide +kernel) rfl rfl (by decide +kernel) (by decide +kernel) (hA _ (Nat.le_of_ble_eq_true rfl)) (Nat.le_of_ble_eq_true rfl) ?_
  replace hZ := hZ.newS (ez_Ez1 47 (by decide +kernel))
  generalize newS S6 47 = S7 at hZ ⊢
  refine AW_putFR (ρ2 := zr54) dX1_init_55 flX1_31 fp_1_7 rfl (fun q hq => by cases hq; rfl) (Nat.le_of_ble_eq_true rfl) (by decide +kernel) rfl (fun _ => rfl) (fun _ => rfl) rfl (hA _ (Nat.le_of_ble_eq_true rfl)) ?_
  refine AW_aload_n 0 (n := 0) rfl dX1_init_58 rfl ?_
  refine AW_sipush (v := 480) dX1_init_59 rfl ?_
  refine AW_newarrK (atype := .long) (t := 1) (n := 480) (K := 48) (ρ1 := zr55) dX1_init_62 (Or.inr (Or.inl ⟨rfl, rfl⟩)) wArr_long (by decide) rfl (Nat.le_of_ble_eq_true rfl) (by decide +kernel) rfl rfl (by decide +kernel) (by decide +kernel) (hA _ (Nat.le_of_ble_eq_true rfl)) (Nat.le_of_ble_eq_true rfl) ?_
  replace hZ := hZ.newS (ez_Ez1 48 (by decide +kernel))
  generalize newS S7 48 = S8 at hZ ⊢
  refine AW_putFR (ρ2 := zr56) dX1_init_64 flX1_35 fp_1_8 rfl (fun q hq => by cases hq; rfl) (Nat.le_of_ble_eq_true rfl) (by decide +kernel) rfl (fun _ => rfl) (fun _ => rfl) rfl (hA _ (Nat.le_of_ble_eq_true rfl)) ?_
  refine AW_aload_n 0 (n := 0) rfl dX1_init_67 rfl ?_
  refine AW_sipush (v := 480) dX1_init_68 rfl ?_
  refine AW_newarrK (atype := .long) (t := 1) (n := 480) (K := 49) (ρ1 := zr57) dX1_init_71 (Or.inr (Or.inl ⟨rfl, rfl⟩)) wArr_long (by decide) rfl (Nat.le_of_ble_eq_true rfl) (by decide +kernel) rfl rfl (by decide +kernel) (by decide +kernel) (hA _ (Nat.le_of_ble_eq_true rfl)) (Nat.le_of_ble_eq_true rfl) ?_
  replace hZ := hZ.newS (ez_Ez1 49 (by decide +kernel))
  generalize newS S8 49 = S9 at hZ ⊢
  refine AW_putFR (ρ2 := zr58) dX1_init_73 flX1_38 fp_1_9 rfl (fun q hq => by cases hq; rfl) (Nat.le_of_ble_eq_true rfl) (by decide +kernel) rfl (fun _ => rfl) (fun _ => rfl) rfl (hA _ (Nat.le_of_ble_eq_true rfl)) ?_
  refine AW_aload_n 0 (n := 0) rfl dX1_init_76 rfl ?_
  refine AW_sipush (v := 480) dX1_init_77 rfl ?_
  refine AW_newarrK (atype := .int) (t := 0) (n := 480) (K := 50) (ρ1 := zr59) dX1_init_80 (Or.inl ⟨rfl, rfl⟩) wArr_int (by decide) rfl (Nat.le_of_ble_eq_true rfl) (by decide +kernel) rfl rfl (by decide +kernel) (by decide +kernel) (hA _ (Nat.le_of_ble_eq_true rfl)) (Nat.le_of_ble_eq_true rfl) ?_
  replace hZ := hZ.newS (ez_Ez1 50 (by decide +kernel))
  generalize newS S9 50 = S10 at hZ ⊢
  refine AW_putFR (ρ2 := zr60) dX1_init_82 flX1_41 fp_1_10 rfl (fun q hq => by cases hq; rfl) (Nat.le_of_ble_eq_true rfl) (by decide +kernel) rfl (fun _ => rfl) (fun _ => rfl) rfl (hA _ (Nat.le_of_ble_eq_true rfl)) ?_
  refine AW_aload_n 0 (n := 0) rfl dX1_init_85 rfl ?_
  refine AW_sipush (v := 480) dX1_init_86 rfl ?_
  refine AW_newarrK (atype := .int) (t := 0) (n := 480) (K := 51) (ρ1 := zr61) dX1_init_89 (Or.inl ⟨rfl, rfl⟩) wArr_int (by decide) rfl (Nat.le_of_ble_eq_true rfl) (by decide +kernel) rfl rfl (by decide +kernel) (by decide +kernel) (hA _ (Nat.le_of_ble_eq_true rfl)) (Nat.le_of_ble_eq_true rfl) ?_
  replace hZ := hZ.newS (ez_Ez1 51 (by decide +kernel))
  generalize newS S10 51 = S11 at hZ ⊢
  refine AW_putFR (ρ2 := zr62) dX1_init_91 flX1_44 fp_1_11 rfl (fun q hq => by cases hq; rfl) (Nat.le_of_ble_eq_true rfl) (by decide +kernel) rfl (fun _ => rfl) (fun _ => rfl) rfl (hA _ (Nat.le_of_ble_eq_true rfl)) ?_
  refine AW_aload_n 0 (n := 0) rfl dX1_init_94 rfl ?_
  refine AW_sipush (v := 480) dX1_init_95 rfl ?_
  refine AW_newarrK (atype := .int) (t := 0) (n := 480) (K := 52) (ρ1 := zr63) dX1_init_98 (Or.inl ⟨rfl, rfl⟩) wArr_int (by decide) rfl (Nat.le_of_ble_eq_true rfl) (by decide +kernel) rfl rfl (by decide +kernel) (by decide +kernel) (hA _ (Nat.le_of_ble_eq_true rfl)) (Nat.le_of_ble_eq_true rfl) ?_
  replace hZ := hZ.newS (ez_Ez1 52 (by decide +kernel))
  generalize newS S11 52 = S12 at hZ ⊢
  refine AW_putFR (ρ2 := zr64) dX1_init_100 flX1_47 fp_1_12 rfl (fun q hq => by cases hq; rfl) (Nat.le_of_ble_eq_true rfl) (by decide +kernel) rfl (fun _ => rfl) (fun _ => rfl) rfl (hA _ (Nat.le_of_ble_eq_true rfl)) ?_
  refine AW_aload_n 0 (n := 0) rfl dX1_init_103 rfl ?_
  refine AW_sipush (v := 336) dX1_init_104 rfl ?_
  refine AW_newarrK (atype := .long) (t := 1) (n := 336) (K := 53) (ρ1 := zr65) dX1_init_107 (Or.inr (Or.inl ⟨rfl, rfl⟩)) wArr_long (by decide) rfl (Nat.le_of_ble_eq_true rfl) (by decide +kernel) rfl rfl (by decide +kernel) (by decide +kernel) (hA _ (Nat.le_of_ble_eq_true rfl)) (Nat.le_of_ble_eq_true rfl) ?_
  replace hZ := hZ.newS (ez_Ez1 53 (by decide +kernel))
  generalize newS S12 53 = S13 at hZ ⊢
  refine AW_putFR (ρ2 := zr66) dX1_init_109 flX1_50 fp_1_13 rfl (fun q hq => by cases hq; rfl) (Nat.le_of_ble_eq_true rfl) (by decide +kernel) rfl (fun _ => rfl) (fun _ => rfl) rfl (hA _ (Nat.le_of_ble_eq_true rfl)) ?_
  exact AW_retv dX1_init_112 rfl hZ
set_option maxRecDepth 20000 in
theorem in_X4_init {g : GX} {d : Nat} {S : St} (hA : ∀ k, 16 ≤ k → gF g k) (hAO : AOk g) (hZ : Zs 55 Ez1 S) : CALLv g (d + 1) mX4_init [.ref 54, .ref 31] zr68 zr83 S (Zs 70 Ez1) := by
  refine CALL.of mdX4_init.2.2.2.2 (Nat.le_of_ble_eq_true rfl) (by decide +kernel) (by decide +kernel) ?_
  show AW g zr83 (QV (Zs 70 Ez1)) (d + 1) mX4_init 0 [(0, .ref 54), (1, .ref 31)] [] zr68 S
  refine AW_aload_n 0 (n := 0) rfl dX4_init_0 rfl ?_
  refine AW_objInit dX4_init_1 mlX4_5 wObjI wObjC (by decide) ?_
  refine AW_aload_n 0 (n := 0) rfl dX4_init_4 rfl ?_
  refine AW_sipush (v := 1920) dX4_init_5 rfl ?_
  refine AW_newflatK (k := 480) (K := 55) (ρ1 := zr69) dX4_init_8 (by decide) rfl (Nat.le_of_ble_eq_true rfl) (by decide +kernel) rfl rfl (by decide +kernel) (by decide +kernel) hA (Nat.le_of_ble_eq_true rfl) ?_
  replace hZ := hZ.mulS (fun i hi => ez_Ez1 (55 + i) (by omega))
  generalize mulS S 55 = S1 at hZ ⊢
  refine AW_putFR (ρ2 := zr70) dX4_init_10 flX4_13 fp_3_1 rfl (fun q hq => by cases hq; rfl) (Nat.le_of_ble_eq_true rfl) (by decide +kernel) rfl (fun _ => rfl) (fun _ => rfl) rfl (hA _ (Nat.le_of_ble_eq_true rfl)) ?_
  refine AW_aload_n 0 (n := 0) rfl dX4_init_13 rfl ?_
  refine AW_sipush (v := 1920) dX4_init_14 rfl ?_
  refine AW_newflatK (k := 480) (K := 60) (ρ1 := zr71) dX4_init_17 (by decide) rfl (Nat.le_of_ble_eq_true rfl) (by decide +kernel) rfl rfl (by decide +kernel) (by decide +kernel) hA (Nat.le_of_ble_eq_true rfl) ?_
  replace hZ := hZ.mulS (fun i hi => ez_Ez1 (60 + i) (by omega))
  generalize mulS S1 60 = S2 at hZ ⊢
  refine AW_putFR (ρ2 := zr72) dX4_init_19 flX4_17 fp_3_2 rfl (fun q hq => by cases hq; rfl) (Nat.le_of_ble_eq_true rfl) (by decide +kernel) rfl (fun _ => rfl) (fun _ => rfl) rfl (hA _ (Nat.le_of_ble_eq_true rfl)) ?_
  refine AW_aload_n 0 (n := 0) rfl dX4_init_22 rfl ?_
  refine AW_iconst (v := 4) dX4_init_23 rfl ?_
  refine AW_newarrK (atype := .boolean) (t := 2) (n := 4) (K := 65) (ρ1 := zr73) dX4_init_24 (Or.inr (Or.inr ⟨rfl, rfl⟩)) wArr_boolean (by decide) rfl (Nat.le_of_ble_eq_true rfl) (by decide +kernel) rfl rfl (by decide +kernel) (by decide +kernel) (hA _ (Nat.le_of_ble_eq_true rfl)) (Nat.le_of_ble_eq_true rfl) ?_
  replace hZ := hZ.newS (ez_Ez1 65 (by decide +kernel))
  generalize newS S2 65 = S3 at hZ ⊢
  refine AW_putFR (ρ2 := zr74) dX4_init_26 flX4_20 fp_3_3 rfl (fun q hq => by cases hq; rfl) (Nat.le_of_ble_eq_true rfl) (by decide +kernel) rfl (fun _ => rfl) (fun _ => rfl) rfl (hA _ (Nat.le_of_ble_eq_true rfl)) ?_
  refine AW_aload_n 0 (n := 0) rfl dX4_init_29 rfl ?_
  refine AW_iconst (v := 4) dX4_init_30 rfl ?_
  refine AW_newarrK (atype := .boolean) (t := 2) (n := 4) (K := 66) (ρ1 := zr75) dX4_init_31 (Or.inr (Or.inr ⟨rfl, rfl⟩)) wArr_boolean (by decide) rfl (Nat.le_of_ble_eq_true rfl) (by decide +kernel) rfl rfl (by decide +kernel) (by decide +kernel) (hA _ (Nat.le_of_ble_eq_true rfl)) (Nat.le_of_ble_eq_true rfl) ?_
  replace hZ := hZ.newS (ez_Ez1 66 (by decide +kernel))
  generalize newS S3 66 = S4 at hZ ⊢
  refine AW_putFR (ρ2 := zr76) dX4_init_33 flX4_24 fp_3_4 rfl (fun q hq => by cases hq; rfl) (Nat.le_of_ble_eq_true rfl) (by decide +kernel) rfl (fun _ => rfl) (fun _ => rfl) rfl (hA _ (Nat.le_of_ble_eq_true rfl)) ?_
  refine AW_aload_n 0 (n := 0) rfl dX4_init_36 rfl ?_
  refine AW_iconst (v := 4) dX4_init_37 rfl ?_
  refine AW_newarrK (atype := .long) (t := 1) (n := 4) (K := 67) (ρ1 := zr77) dX4_init_38 (Or.inr (Or.inl ⟨rfl, rfl⟩)) wArr_long (by decide) rfl (Nat.le_of_ble_eq_true rfl) (by decide +kernel) rfl rfl (by decide +kernel) (by decide +kernel) (hA _ (Nat.le_of_ble_eq_true rfl)) (Nat.le_of_ble_eq_true rfl) ?_
  replace hZ := hZ.newS (ez_Ez1 67 (by decide +kernel))
  generalize newS S4 67 = S5 at hZ ⊢
  refine AW_putFR (ρ2 := zr78) dX4_init_40 flX4_27 fp_3_5 rfl (fun q hq => by cases hq; rfl) (Nat.le_of_ble_eq_true rfl) (by decide +kernel) rfl (fun _ => rfl) (fun _ => rfl) rfl (hA _ (Nat.le_of_ble_eq_true rfl)) ?_
  refine AW_aload_n 0 (n := 0) rfl dX4_init_43 rfl ?_
  refine AW_iconst (v := 4) dX4_init_44 rfl ?_
  refine AW_newarrK (atype := .long) (t := 1) (n := 4) (K := 68) (ρ1 := zr79) dX4_init_45 (Or.inr (Or.inl ⟨rfl, rfl⟩)) wArr_long (by decide) rfl (Nat.le_of_ble_eq_true rfl) (by decide +kernel) rfl rfl (by decide +kernel) (by decide +kernel) (hA _ (Nat.le_of_ble_eq_true rfl)) (Nat.le_of_ble_eq_true rfl) ?_
  replace hZ := hZ.newS (ez_Ez1 68 (by decide +kernel))
  generalize newS S5 68 = S6 at hZ ⊢
  refine AW_putFR (ρ2 := zr80) dX4_init_47 flX4_30 fp_3_6 rfl (fun q hq => by cases hq; rfl) (Nat.le_of_ble_eq_true rfl) (by decide +kernel) rfl (fun _ => rfl) (fun _ => rfl) rfl (hA _ (Nat.le_of_ble_eq_true rfl)) ?_
  refine AW_aload_n 0 (n := 0) rfl dX4_init_50 rfl ?_
  refine AW_iconst (v := 4) dX4_init_51 rfl ?_
  refine AW_newarrK (atype := .long) (t := 1) (n := 4) (K := 69) (ρ1 := zr81) dX4_init_52 (Or.inr (Or.inl ⟨rfl, rfl⟩)) wArr_long (by decide) rfl (Nat.le_of_ble_eq_true rfl) (by decide +kernel) rfl rfl (by decide +kernel) (by decide +kernel) (hA _ (Nat.le_of_ble_eq_true rfl)) (Nat.le_of_ble_eq_true rfl) ?_
  replace hZ := hZ.newS (ez_Ez1 69 (by decide +kernel))
  generalize newS S6 69 = S7 at hZ ⊢
  refine AW_putFR (ρ2 := zr82) dX4_init_54 flX4_33 fp_3_7 rfl (fun q hq => by cases hq; rfl) (Nat.le_of_ble_eq_true rfl) (by decide +kernel) rfl (fun _ => rfl) (fun _ => rfl) rfl (hA _ (Nat.le_of_ble_eq_true rfl)) ?_
  refine AW_aload_n 0 (n := 0) rfl dX4_init_57 rfl ?_
  refine AW_aload_n 1 (n := 1) rfl dX4_init_58 rfl ?_
  refine AW_putFR (ρ2 := zr83) dX4_init_59 flX4_36 fp_3_0 rfl (fun q hq => by cases hq; rfl) (Nat.le_of_ble_eq_true rfl) (by decide +kernel) rfl (fun _ => rfl) (fun _ => rfl) rfl (hA _ (Nat.le_of_ble_eq_true rfl)) ?_
  exact AW_retv dX4_init_62 rfl hZ
set_option maxRecDepth 20000 in
theorem in_X6_init {g : GX} {d : Nat} {S : St} (hA : ∀ k, 16 ≤ k → gF g k) (hAO : AOk g) (hZ : Zs 71 Ez1 S) : CALLv g (d + 1) mX6_init [.ref 70, .ref 31, .ref 26] zr85 zr105 S (Zs 80 Ez1) := by
  refine CALL.of mdX6_init.2.2.2.2 (Nat.le_of_ble_eq_true rfl) (by decide +kernel) (by decide +kernel) ?_
  show AW g zr105 (QV (Zs 80 Ez1)) (d + 1) mX6_init 0 [(0, .ref 70), (1, .ref 31), (2, .ref 26)] [] zr85 S
  refine AW_aload_n 0 (n := 0) rfl dX6_init_0 rfl ?_
  refine AW_objInit dX6_init_1 mlX6_5 wObjI wObjC (by decide) ?_
  refine AW_aload_n 0 (n := 0) rfl dX6_init_4 rfl ?_
  refine AW_sipush (v := 1000) dX6_init_5 rfl ?_
  refine AW_newarrK (atype := .long) (t := 1) (n := 1000) (K := 71) (ρ1 := zr86) dX6_init_8 (Or.inr (Or.inl ⟨rfl, rfl⟩)) wArr_long (by decide) rfl (Nat.le_of_ble_eq_true rfl) (by decide +kernel) rfl rfl (by decide +kernel) (by decide +kernel) (hA _ (Nat.le_of_ble_eq_true rfl)) (Nat.le_of_ble_eq_true rfl) ?_
  replace hZ := hZ.newS (ez_Ez1 71 (by decide +kernel))
  generalize newS S 71 = S1 at hZ ⊢
  refine AW_putFR (ρ2 := zr87) dX6_init_10 flX6_11 fp_5_4 rfl (fun q hq => by cases hq; rfl) (Nat.le_of_ble_eq_true rfl) (by decide +kernel) rfl (fun _ => rfl) (fun _ => rfl) rfl (hA _ (Nat.le_of_ble_eq_true rfl)) ?_
  refine AW_aload_n 0 (n := 0) rfl dX6_init_13 rfl ?_
  refine AW_sipush (v := 1001) dX6_init_14 rfl ?_
  refine AW_newarrK (atype := .int) (t := 0) (n := 1001) (K := 72) (ρ1 := zr88) dX6_init_17 (Or.inl ⟨rfl, rfl⟩) wArr_int (by decide) rfl (Nat.le_of_ble_eq_true rfl) (by decide +kernel) rfl rfl (by decide +kernel) (by decide +kernel) (hA _ (Nat.le_of_ble_eq_true rfl)) (Nat.le_of_ble_eq_true rfl) ?_
  replace hZ := hZ.newS (ez_Ez1 72 (by decide +kernel))
  generalize newS S1 72 = S2 at hZ ⊢
  refine AW_putFR (ρ2 := zr89) dX6_init_19 flX6_17 fp_5_5 rfl (fun q hq => by cases hq; rfl) (Nat.le_of_ble_eq_true rfl) (by decide +kernel) rfl (fun _ => rfl) (fun _ => rfl) rfl (hA _ (Nat.le_of_ble_eq_true rfl)) ?_
  refine AW_aload_n 0 (n := 0) rfl dX6_init_22 rfl ?_
  refine AW_sipush (v := 256) dX6_init_23 rfl ?_
  refine AW_newarrK (atype := .int) (t := 0) (n := 256) (K := 73) (ρ1 := zr90) dX6_init_26 (Or.inl ⟨rfl, rfl⟩) wArr_int (by decide) rfl (Nat.le_of_ble_eq_true rfl) (by decide +kernel) rfl rfl (by decide +kernel) (by decide +kernel) (hA _ (Nat.le_of_ble_eq_true rfl)) (Nat.le_of_ble_eq_true rfl) ?_
  replace hZ := hZ.newS (ez_Ez1 73 (by decide +kernel))
  generalize newS S2 73 = S3 at hZ ⊢
  refine AW_putR (ρ2 := zr91) dX6_init_28 flX6_21 fp_5_6 (Nat.le_of_ble_eq_true rfl) (by decide +kernel) rfl (fun _ => rfl) (fun _ => rfl) rfl (hA _ (Nat.le_of_ble_eq_true rfl)) ?_
  refine AW_aload_n 0 (n := 0) rfl dX6_init_31 rfl ?_
  refine AW_sipush (v := 1000) dX6_init_32 rfl ?_
  refine AW_newarrK (atype := .int) (t := 0) (n := 1000) (K := 74) (ρ1 := zr92) dX6_init_35 (Or.inl ⟨rfl, rfl⟩) wArr_int (by decide) rfl (Nat.le_of_ble_eq_true rfl) (by decide +kernel) rfl rfl (by decide +kernel) (by decide +kernel) (hA _ (Nat.le_of_ble_eq_true rfl)) (Nat.le_of_ble_eq_true rfl) ?_
  replace hZ := hZ.newS (ez_Ez1 74 (by decide +kernel))
  generalize newS S3 74 = S4 at hZ ⊢
  refine AW_putFR (ρ2 := zr93) dX6_init_37 flX6_24 fp_5_8 rfl (fun q hq => by cases hq; rfl) (Nat.le_of_ble_eq_true rfl) (by decide +kernel) rfl (fun _ => rfl) (fun _ => rfl) rfl (hA _ (Nat.le_of_ble_eq_true rfl)) ?_
  refine AW_aload_n 0 (n := 0) rfl dX6_init_40 rfl ?_
  refine AW_sipush (v := 1000) dX6_init_41 rfl ?_
  refine AW_newarrK (atype := .int) (t := 0) (n := 1000) (K := 75) (ρ1 := zr94) dX6_init_44 (Or.inl ⟨rfl, rfl⟩) wArr_int (by decide) rfl (Nat.le_of_ble_eq_true rfl) (by decide +kernel) rfl rfl (by decide +kernel) (by decide +kernel) (hA _ (Nat.le_of_ble_eq_true rfl)) (Nat.le_of_ble_eq_true rfl) ?_
  replace hZ := hZ.newS (ez_Ez1 75 (by decide +kernel))
  generalize newS S4 75 = S5 at hZ ⊢
  refine AW_putFR (ρ2 := zr95) dX6_init_46 flX6_27 fp_5_9 rfl (fun q hq => by cases hq; rfl) (Nat.le_of_ble_eq_true rfl) (by decide +kernel) rfl (fun _ => rfl) (fun _ => rfl) rfl (hA _ (Nat.le_of_ble_eq_true rfl)) ?_
  refine AW_aload_n 0 (n := 0) rfl dX6_init_49 rfl ?_
  refine AW_sipush (v := 1000) dX6_init_50 rfl ?_
  refine AW_newarrK (atype := .int) (t := 0) (n := 1000) (K := 76) (ρ1 := zr96) dX6_init_53 (Or.inl ⟨rfl, rfl⟩) wArr_int (by decide) rfl (Nat.le_of_ble_eq_true rfl) (by decide +kernel) rfl rfl (by decide +kernel) (by decide +kernel) (hA _ (Nat.le_of_ble_eq_true rfl)) (Nat.le_of_ble_eq_true rfl) ?_
  replace hZ := hZ.newS (ez_Ez1 76 (by decide +kernel))
  generalize newS S5 76 = S6 at hZ ⊢
  refine AW_putFR (ρ2 := zr97) dX6_init_55 flX6_30 fp_5_12 rfl (fun q hq => by cases hq; rfl) (Nat.le_of_ble_eq_true rfl) (by decide +kernel) rfl (fun _ => rfl) (fun _ => rfl) rfl (hA _ (Nat.le_of_ble_eq_true rfl)) ?_
  refine AW_aload_n 0 (n := 0) rfl dX6_init_58 rfl ?_
  refine AW_sipush (v := 1000) dX6_init_59 rfl ?_
  refine AW_newarrK (atype := .int) (t := 0) (n := 1000) (K := 77) (ρ1 := zr98) dX6_init_62 (Or.inl ⟨rfl, rfl⟩) wArr_int (by decide) rfl (Nat.le_of_ble_eq_true rfl) (by decide +kernel) rfl rfl (by decide +kernel) (by decide +kernel) (hA _ (Nat.le_of_ble_eq_true rfl)) (Nat.le_of_ble_eq_true rfl) ?_
  replace hZ := hZ.newS (ez_Ez1 77 (by decide +kernel))
  generalize newS S6 77 = S7 at hZ ⊢
  refine AW_putFR (ρ2 := zr99) dX6_init_64 flX6_33 fp_5_14 rfl (fun q hq => by cases hq; rfl) (Nat.le_of_ble_eq_true rfl) (by decide +kernel) rfl (fun _ => rfl) (fun _ => rfl) rfl (hA _ (Nat.le_of_ble_eq_true rfl)) ?_
  refine AW_aload_n 0 (n := 0) rfl dX6_init_67 rfl ?_
  refine AW_sipush (v := 1000) dX6_init_68 rfl ?_
  refine AW_newarrK (atype := .long) (t := 1) (n := 1000) (K := 78) (ρ1 := zr100) dX6_init_71 (Or.inr (Or.inl ⟨rfl, rfl⟩)) wArr_long (by decide) rfl (Nat.le_of_ble_eq_true rfl) (by decide +kernel) rfl rfl (by decide +kernel) (by decide +kernel) (hA _ (Nat.le_of_ble_eq_true rfl)) (Nat.le_of_ble_eq_true rfl) ?_
  replace hZ := hZ.newS (ez_Ez1 78 (by decide +kernel))
  generalize newS S7 78 = S8 at hZ ⊢
  refine AW_putR (ρ2 := zr101) dX6_init_73 flX6_36 fp_5_16 (Nat.le_of_ble_eq_true rfl) (by decide +kernel) rfl (fun _ => rfl) (fun _ => rfl) rfl (hA _ (Nat.le_of_ble_eq_true rfl)) ?_
  refine AW_aload_n 0 (n := 0) rfl dX6_init_76 rfl ?_
  refine AW_sipush (v := 1000) dX6_init_77 rfl ?_
  refine AW_newarrK (atype := .long) (t := 1) (n := 1000) (K := 79) (ρ1 := zr102) dX6_init_80 (Or.inr (Or.inl ⟨rfl, rfl⟩)) wArr_long (by decide) rfl (Nat.le_of_ble_eq_true rfl) (by decide +kernel) rfl rfl (by decide +kernel) (by decide +kernel) (hA _ (Nat.le_of_ble_eq_true rfl)) (Nat.le_of_ble_eq_true rfl) ?_
  replace hZ := hZ.newS (ez_Ez1 79 (by decide +kernel))
  generalize newS S8 79 = S9 at hZ ⊢
  refine AW_putR (ρ2 := zr103) dX6_init_82 flX6_39 fp_5_17 (Nat.le_of_ble_eq_true rfl) (by decide +kernel) rfl (fun _ => rfl) (fun _ => rfl) rfl (hA _ (Nat.le_of_ble_eq_true rfl)) ?_
  refine AW_aload_n 0 (n := 0) rfl dX6_init_85 rfl ?_
  refine AW_aload_n 1 (n := 1) rfl dX6_init_86 rfl ?_
  refine AW_putFR (ρ2 := zr104) dX6_init_87 flX6_42 fp_5_0 rfl (fun q hq => by cases hq; rfl) (Nat.le_of_ble_eq_true rfl) (by decide +kernel) rfl (fun _ => rfl) (fun _ => rfl) rfl (hA _ (Nat.le_of_ble_eq_true rfl)) ?_
  refine AW_aload_n 0 (n := 0) rfl dX6_init_90 rfl ?_
  refine AW_aload_n 2 (n := 2) rfl dX6_init_91 rfl ?_
  refine AW_putFR (ρ2 := zr105) dX6_init_92 flX6_46 fp_5_1 rfl (fun q hq => by cases hq; rfl) (Nat.le_of_ble_eq_true rfl) (by decide +kernel) rfl (fun _ => rfl) (fun _ => rfl) rfl (hA _ (Nat.le_of_ble_eq_true rfl)) ?_
  exact AW_retv dX6_init_95 rfl hZ
set_option maxRecDepth 20000 in
theorem in_X11_init {g : GX} {d : Nat} {S : St} (hA : ∀ k, 16 ≤ k → gF g k) (hAO : AOk g) (hZ : Zs 17 Ez0 S) : CALLv g (d + 3) mX11_init [.ref 16] zr1 zr106 S (Zs 80 Ez1) := by
  refine CALL.of mdX11_init.2.2.2.2 (Nat.le_of_ble_eq_true rfl) (by decide +kernel) (by decide +kernel) ?_
  show AW g zr106 (QV (Zs 80 Ez1)) (d + 3) mX11_init 0 [(0, .ref 16)] [] zr1 S
  refine AW_aload_n 0 (n := 0) rfl dX11_init_0 rfl ?_
  refine AW_objInit dX11_init_1 mlX11_3 wObjI wObjC (by decide) ?_
  refine AW_aload_n 0 (n := 0) rfl dX11_init_4 rfl ?_
  refine AW_newK (ci := 8) (C := RX10) (T := TX10) (N := 2) (ty := tyX10) (K := 17) (ρ1 := zr2) dX11_init_5 rfl wcl_8 tyX10_ok clX11_9 wIns_8 wIni_8 df_8 (by decide +kernel) rfl rfl (by decide +kernel) (by decide +kernel) (hA _ (Nat.le_of_ble_eq_true rfl)) (Nat.le_of_ble_eq_true rfl) ?_
  replace hZ := hZ.newS (ez_Ez0 17 (by decide +kernel))
  generalize newS S 17 = S1 at hZ ⊢
  refine AW_dup dX11_init_8 rfl ?_
  refine AW_callNv (As := []) (k := 17) (ρ1 := zr4) (host := "CountTables") dX11_init_9 mdX10_init (List.mem_of_getElem? (i := 0) rfl) imX10_init rfl rfl ⟨rfl, npX10_init⟩ (by decide) (by decide +kernel) (by decide +kernel) rfl ?_
  refine CALLv.mono (in_X10_init (d := d + 1) hA hAO hZ) (fun S2 _ hZ => ?_)
  refine AW_putFR (ρ2 := zr5) dX11_init_12 flX11_12 fp_9_0 rfl (fun q hq => by cases hq; rfl) (Nat.le_of_ble_eq_true rfl) (by decide +kernel) rfl (fun _ => rfl) (fun _ => rfl) rfl (hA _ (Nat.le_of_ble_eq_true rfl)) ?_
  refine AW_aload_n 0 (n := 0) rfl dX11_init_15 rfl ?_
  refine AW_newK (ci := 6) (C := RX8) (T := TX8) (N := 12) (ty := tyX8) (K := 19) (ρ1 := zr6) dX11_init_16 rfl wcl_6 tyX8_ok clX11_16 wIns_6 wIni_6 df_6 (by decide +kernel) rfl rfl (by decide +kernel) (by decide +kernel) (hA _ (Nat.le_of_ble_eq_true rfl)) (Nat.le_of_ble_eq_true rfl) ?_
  replace hZ := hZ.newS (ez_Ez0 19 (by decide +kernel))
  generalize newS S2 19 = S3 at hZ ⊢
  refine AW_dup dX11_init_19 rfl ?_
  refine AW_callNv (As := []) (k := 19) (ρ1 := zr8) (host := "CountTables") dX11_init_20 mdX8_init (List.mem_of_getElem? (i := 1) rfl) imX8_init rfl rfl ⟨rfl, npX8_init⟩ (by decide) (by decide +kernel) (by decide +kernel) rfl ?_
  refine CALLv.mono (in_X8_init (d := d + 1) hA hAO hZ) (fun S4 _ hZ => ?_)
  refine AW_putFR (ρ2 := zr9) dX11_init_23 flX11_19 fp_9_1 rfl (fun q hq => by cases hq; rfl) (Nat.le_of_ble_eq_true rfl) (by decide +kernel) rfl (fun _ => rfl) (fun _ => rfl) rfl (hA _ (Nat.le_of_ble_eq_true rfl)) ?_
  refine AW_aload_n 0 (n := 0) rfl dX11_init_26 rfl ?_
  refine AW_newK (ci := 7) (C := RX9) (T := TX9) (N := 10) (ty := tyX9) (K := 21) (ρ1 := zr10) dX11_init_27 rfl wcl_7 tyX9_ok clX11_23 wIns_7 wIni_7 df_7 (by decide +kernel) rfl rfl (by decide +kernel) (by decide +kernel) (hA _ (Nat.le_of_ble_eq_true rfl)) (Nat.le_of_ble_eq_true rfl) ?_
  replace hZ := hZ.newS (ez_Ez1 21 (by decide +kernel))
  generalize newS S4 21 = S5 at hZ ⊢
  refine AW_dup dX11_init_30 rfl ?_
  refine AW_callNv (As := []) (k := 21) (ρ1 := zr16) (host := "CountTables") dX11_init_31 mdX9_init (List.mem_of_getElem? (i := 2) rfl) imX9_init rfl rfl ⟨rfl, npX9_init⟩ (by decide) (by decide +kernel) (by decide +kernel) rfl ?_
  refine CALLv.mono (in_X9_init (d := d + 1) hA hAO hZ) (fun S6 _ hZ => ?_)
  refine AW_putFR (ρ2 := zr17) dX11_init_34 flX11_26 fp_9_2 rfl (fun q hq => by cases hq; rfl) (Nat.le_of_ble_eq_true rfl) (by decide +kernel) rfl (fun _ => rfl) (fun _ => rfl) rfl (hA _ (Nat.le_of_ble_eq_true rfl)) ?_
  refine AW_aload_n 0 (n := 0) rfl dX11_init_37 rfl ?_
  refine AW_newK (ci := 0) (C := RX0) (T := TX0) (N := 1) (ty := tyX0) (K := 25) (ρ1 := zr18) dX11_init_38 rfl wcl_0 tyX0_ok clX11_30 wIns_0 wIni_0 df_0 (by decide +kernel) rfl rfl (by decide +kernel) (by decide +kernel) (hA _ (Nat.le_of_ble_eq_true rfl)) (Nat.le_of_ble_eq_true rfl) ?_
  replace hZ := hZ.newS (ez_Ez1 25 (by decide +kernel))
  generalize newS S6 25 = S7 at hZ ⊢
  refine AW_dup dX11_init_41 rfl ?_
  refine AW_callNv (As := []) (k := 25) (ρ1 := zr18) (host := "CountTables") dX11_init_42 mdX0_init (List.mem_of_getElem? (i := 3) rfl) imX0_init rfl rfl ⟨rfl, npX0_init⟩ (by decide) (by decide +kernel) (by decide +kernel) rfl ?_
  refine CALLv.mono (in_X0_init (d := d + 1) hA hAO hZ) (fun S8 _ hZ => ?_)
  refine AW_putFR (ρ2 := zr19) dX11_init_45 flX11_33 fp_9_3 rfl (fun q hq => by cases hq; rfl) (Nat.le_of_ble_eq_true rfl) (by decide +kernel) rfl (fun _ => rfl) (fun _ => rfl) rfl (hA _ (Nat.le_of_ble_eq_true rfl)) ?_
  refine AW_aload_n 0 (n := 0) rfl dX11_init_48 rfl ?_
  refine AW_newK (ci := 4) (C := RX5) (T := TX5) (N := 7) (ty := tyX5) (K := 26) (ρ1 := zr20) dX11_init_49 rfl wcl_4 tyX5_ok clX11_37 wIns_4 wIni_4 df_4 (by decide +kernel) rfl rfl (by decide +kernel) (by decide +kernel) (hA _ (Nat.le_of_ble_eq_true rfl)) (Nat.le_of_ble_eq_true rfl) ?_
  replace hZ := hZ.newS (ez_Ez1 26 (by decide +kernel))
  generalize newS S8 26 = S9 at hZ ⊢
  refine AW_dup dX11_init_52 rfl ?_
  refine AW_callNv (As := []) (k := 26) (ρ1 := zr28) (host := "CountTables") dX11_init_53 mdX5_init (List.mem_of_getElem? (i := 4) rfl) imX5_init rfl rfl ⟨rfl, npX5_init⟩ (by decide) (by decide +kernel) (by decide +kernel) rfl ?_
  refine CALLv.mono (in_X5_init (d := d + 1) hA hAO hZ) (fun S10 _ hZ => ?_)
  refine AW_putFR (ρ2 := zr29) dX11_init_56 flX11_40 fp_9_4 rfl (fun q hq => by cases hq; rfl) (Nat.le_of_ble_eq_true rfl) (by decide +kernel) rfl (fun _ => rfl) (fun _ => rfl) rfl (hA _ (Nat.le_of_ble_eq_true rfl)) ?_
  refine AW_aload_n 0 (n := 0) rfl dX11_init_59 rfl ?_
  refine AW_newK (ci := 1) (C := RX1) (T := TX1) (N := 15) (ty := tyX1) (K := 31) (ρ1 := zr30) dX11_init_60 rfl wcl_1 tyX1_ok clX11_44 wIns_1 wIni_1 df_1 (by decide +kernel) rfl rfl (by decide +kernel) (by decide +kernel) (hA _ (Nat.le_of_ble_eq_true rfl)) (Nat.le_of_ble_eq_true rfl) ?_
  replace hZ := hZ.newS (ez_Ez1 31 (by decide +kernel))
  generalize newS S10 31 = S11 at hZ ⊢
  refine AW_dup dX11_init_63 rfl ?_
  refine AW_callNv (As := []) (k := 31) (ρ1 := zr66) (host := "CountTables") dX11_init_64 mdX1_init (List.mem_of_getElem? (i := 5) rfl) imX1_init rfl rfl ⟨rfl, npX1_init⟩ (by decide) (by decide +kernel) (by decide +kernel) rfl ?_
  refine CALLv.mono (in_X1_init (d := d) hA hAO hZ) (fun S12 _ hZ => ?_)
  refine AW_putFR (ρ2 := zr67) dX11_init_67 flX11_47 fp_9_5 rfl (fun q hq => by cases hq; rfl) (Nat.le_of_ble_eq_true rfl) (by decide +kernel) rfl (fun _ => rfl) (fun _ => rfl) rfl (hA _ (Nat.le_of_ble_eq_true rfl)) ?_
  refine AW_aload_n 0 (n := 0) rfl dX11_init_70 rfl ?_
  refine AW_newK (ci := 3) (C := RX4) (T := TX4) (N := 11) (ty := tyX4) (K := 54) (ρ1 := zr68) dX11_init_71 rfl wcl_3 tyX4_ok clX11_51 wIns_3 wIni_3 df_3 (by decide +kernel) rfl rfl (by decide +kernel) (by decide +kernel) (hA _ (Nat.le_of_ble_eq_true rfl)) (Nat.le_of_ble_eq_true rfl) ?_
  replace hZ := hZ.newS (ez_Ez1 54 (by decide +kernel))
  generalize newS S12 54 = S13 at hZ ⊢
  refine AW_dup dX11_init_74 rfl ?_
  refine AW_aload_n 0 (n := 0) rfl dX11_init_75 rfl ?_
  refine AW_get dX11_init_76 flX11_47 (Nat.le_of_ble_eq_true rfl) (by decide +kernel) rfl (v := .ref 31) (fvR_get (by decide +kernel)) ?_
  refine AW_callIv (As := [.ref 31]) (k := 54) (ρ1 := zr83) dX11_init_79 mdX4_init mlX11_53 imX4_init rfl rfl ⟨rfl, npX4_init⟩ (by decide) (by decide +kernel) (by decide +kernel) rfl ?_
  refine CALLv.mono (in_X4_init (d := d + 1) hA hAO hZ) (fun S14 _ hZ => ?_)
  refine AW_putFR (ρ2 := zr84) dX11_init_82 flX11_56 fp_9_6 rfl (fun q hq => by cases hq; rfl) (Nat.le_of_ble_eq_true rfl) (by decide +kernel) rfl (fun _ => rfl) (fun _ => rfl) rfl (hA _ (Nat.le_of_ble_eq_true rfl)) ?_
  refine AW_aload_n 0 (n := 0) rfl dX11_init_85 rfl ?_
  refine AW_newK (ci := 5) (C := RX6) (T := TX6) (N := 18) (ty := tyX6) (K := 70) (ρ1 := zr85) dX11_init_86 rfl wcl_5 tyX6_ok clX11_60 wIns_5 wIni_5 df_5 (by decide +kernel) rfl rfl (by decide +kernel) (by decide +kernel) (hA _ (Nat.le_of_ble_eq_true rfl)) (Nat.le_of_ble_eq_true rfl) ?_
  replace hZ := hZ.newS (ez_Ez1 70 (by decide +kernel))
  generalize newS S14 70 = S15 at hZ ⊢
  refine AW_dup dX11_init_89 rfl ?_
  refine AW_aload_n 0 (n := 0) rfl dX11_init_90 rfl ?_
  refine AW_get dX11_init_91 flX11_47 (Nat.le_of_ble_eq_true rfl) (by decide +kernel) rfl (v := .ref 31) (fvR_get (by decide +kernel)) ?_
  refine AW_aload_n 0 (n := 0) rfl dX11_init_94 rfl ?_
  refine AW_get dX11_init_95 flX11_40 (Nat.le_of_ble_eq_true rfl) (by decide +kernel) rfl (v := .ref 26) (fvR_get (by decide +kernel)) ?_
  refine AW_callIv (As := [.ref 31, .ref 26]) (k := 70) (ρ1 := zr105) dX11_init_98 mdX6_init mlX11_62 imX6_init rfl rfl ⟨rfl, npX6_init⟩ (by decide) (by decide +kernel) (by decide +kernel) rfl ?_
  refine CALLv.mono (in_X6_init (d := d + 1) hA hAO hZ) (fun S16 _ hZ => ?_)
  refine AW_putFR (ρ2 := zr106) dX11_init_101 flX11_65 fp_9_7 rfl (fun q hq => by cases hq; rfl) (Nat.le_of_ble_eq_true rfl) (by decide +kernel) rfl (fun _ => rfl) (fun _ => rfl) rfl (hA _ (Nat.le_of_ble_eq_true rfl)) ?_
  exact AW_retv dX11_init_104 rfl hZ
set_option maxRecDepth 20000 in
theorem in_X12_init {g : GX} {d : Nat} {S : St} (hA : ∀ k, 16 ≤ k → gF g k) (hAO : AOk g) (hZ : Zs 81 Ez1 S) : CALLv g (d + 1) mX12_init [.ref 80] zr107 zr135 S (Zs 95 Ez2) := by
  refine CALL.of mdX12_init.2.2.2.2 (Nat.le_of_ble_eq_true rfl) (by decide +kernel) (by decide +kernel) ?_
  show AW g zr135 (QV (Zs 95 Ez2)) (d + 1) mX12_init 0 [(0, .ref 80)] [] zr107 S
  refine AW_aload_n 0 (n := 0) rfl dX12_init_0 rfl ?_
  refine AW_objInit dX12_init_1 mlX12_3 wObjI wObjC (by decide) ?_
  refine AW_aload_n 0 (n := 0) rfl dX12_init_4 rfl ?_
  refine AW_bipush (v := 21) dX12_init_5 rfl ?_
  refine AW_newarrK (atype := .int) (t := 0) (n := 21) (K := 81) (ρ1 := zr108) dX12_init_7 (Or.inl ⟨rfl, rfl⟩) wArr_int (by decide) rfl (Nat.le_of_ble_eq_true rfl) (by decide +kernel) rfl rfl (by decide +kernel) (by decide +kernel) (hA _ (Nat.le_of_ble_eq_true rfl)) (Nat.le_of_ble_eq_true rfl) ?_
  replace hZ := hZ.newS (ez_Ez1 81 (by decide +kernel))
  generalize newS S 81 = S1 at hZ ⊢
  refine AW_putFR (ρ2 := zr109) dX12_init_9 flX12_9 fp_10_0 rfl (fun q hq => by cases hq; rfl) (Nat.le_of_ble_eq_true rfl) (by decide +kernel) rfl (fun _ => rfl) (fun _ => rfl) rfl (hA _ (Nat.le_of_ble_eq_true rfl)) ?_
  refine AW_aload_n 0 (n := 0) rfl dX12_init_12 rfl ?_
  refine AW_bipush (v := 21) dX12_init_13 rfl ?_
  refine AW_newarrK (atype := .int) (t := 0) (n := 21) (K := 82) (ρ1 := zr110) dX12_init_15 (Or.inl ⟨rfl, rfl⟩) wArr_int (by decide) rfl (Nat.le_of_ble_eq_true rfl) (by decide +kernel) rfl rfl (by decide +kernel) (by decide +kernel) (hA _ (Nat.le_of_ble_eq_true rfl)) (Nat.le_of_ble_eq_true rfl) ?_
  replace hZ := hZ.newS (ez_Ez1 82 (by decide +kernel))
  generalize newS S1 82 = S2 at hZ ⊢
  refine AW_putFR (ρ2 := zr111) dX12_init_17 flX12_13 fp_10_1 rfl (fun q hq => by cases hq; rfl) (Nat.le_of_ble_eq_true rfl) (by decide +kernel) rfl (fun _ => rfl) (fun _ => rfl) rfl (hA _ (Nat.le_of_ble_eq_true rfl)) ?_
  refine AW_aload_n 0 (n := 0) rfl dX12_init_20 rfl ?_
  refine AW_sipush (v := 320) dX12_init_21 rfl ?_
  refine AW_newarrK (atype := .int) (t := 0) (n := 320) (K := 83) (ρ1 := zr112) dX12_init_24 (Or.inl ⟨rfl, rfl⟩) wArr_int (by decide) rfl (Nat.le_of_ble_eq_true rfl) (by decide +kernel) rfl rfl (by decide +kernel) (by decide +kernel) (hA _ (Nat.le_of_ble_eq_true rfl)) (Nat.le_of_ble_eq_true rfl) ?_
  replace hZ := hZ.newS (ez_Ez1 83 (by decide +kernel))
  generalize newS S2 83 = S3 at hZ ⊢
  refine AW_putFR (ρ2 := zr113) dX12_init_26 flX12_16 fp_10_2 rfl (fun q hq => by cases hq; rfl) (Nat.le_of_ble_eq_true rfl) (by decide +kernel) rfl (fun _ => rfl) (fun _ => rfl) rfl (hA _ (Nat.le_of_ble_eq_true rfl)) ?_
  refine AW_aload_n 0 (n := 0) rfl dX12_init_29 rfl ?_
  refine AW_sipush (v := 300) dX12_init_30 rfl ?_
  refine AW_newarrK (atype := .int) (t := 0) (n := 300) (K := 84) (ρ1 := zr114) dX12_init_33 (Or.inl ⟨rfl, rfl⟩) wArr_int (by decide) rfl (Nat.le_of_ble_eq_true rfl) (by decide +kernel) rfl rfl (by decide +kernel) (by decide +kernel) (hA _ (Nat.le_of_ble_eq_true rfl)) (Nat.le_of_ble_eq_true rfl) ?_
  replace hZ := hZ.newS (ez_Ez1 84 (by decide +kernel))
  generalize newS S3 84 = S4 at hZ ⊢
  refine AW_putFR (ρ2 := zr115) dX12_init_35 flX12_19 fp_10_3 rfl (fun q hq => by cases hq; rfl) (Nat.le_of_ble_eq_true rfl) (by decide +kernel) rfl (fun _ => rfl) (fun _ => rfl) rfl (hA _ (Nat.le_of_ble_eq_true rfl)) ?_
  refine AW_aload_n 0 (n := 0) rfl dX12_init_38 rfl ?_
  refine AW_iconst (v := (-1)) dX12_init_39 rfl ?_
  refine AW_put dX12_init_40 flX12_22 fp_10_6 (Nat.le_of_ble_eq_true rfl) (by decide +kernel) rfl (fun _ => rfl) (fun _ => rfl) rfl rfl rfl rfl (Fr.setI _ _ _ rfl) (fun _ _ => rfl) (ρ2 := zr115) (S2 := setI S4 80 6 (-1)) (fun _ => rfl) (fun _ _ _ q1 _ => fvI_o q1) (hA _ (Nat.le_of_ble_eq_true rfl)) ?_
  replace hZ : Zs 85 Ez2 (setI S4 80 6 (-1)) := hZ.setI (fun _ _ => rfl)
  generalize setI S4 80 6 (-1) = S5 at hZ ⊢
  refine AW_aload_n 0 (n := 0) rfl dX12_init_43 rfl ?_
  refine AW_bipush (v := 16) dX12_init_44 rfl ?_
  refine AW_newarrK (atype := .int) (t := 0) (n := 16) (K := 85) (ρ1 := zr116) dX12_init_46 (Or.inl ⟨rfl, rfl⟩) wArr_int (by decide) rfl (Nat.le_of_ble_eq_true rfl) (by decide +kernel) rfl rfl (by decide +kernel) (by decide +kernel) (hA _ (Nat.le_of_ble_eq_true rfl)) (Nat.le_of_ble_eq_true rfl) ?_
  replace hZ := hZ.newS (ez_Ez2 85 (by decide +kernel))
  generalize newS S5 85 = S6 at hZ ⊢
  refine AW_putFR (ρ2 := zr117) dX12_init_48 flX12_26 fp_10_18 rfl (fun q hq => by cases hq; rfl) (Nat.le_of_ble_eq_true rfl) (by decide +kernel) rfl (fun _ => rfl) (fun _ => rfl) rfl (hA _ (Nat.le_of_ble_eq_true rfl)) ?_
  refine AW_aload_n 0 (n := 0) rfl dX12_init_51 rfl ?_
  refine AW_iconst (v := 4) dX12_init_52 rfl ?_
  refine AW_newarrK (atype := .int) (t := 0) (n := 4) (K := 86) (ρ1 := zr118) dX12_init_53 (Or.inl ⟨rfl, rfl⟩) wArr_int (by decide) rfl (Nat.le_of_ble_eq_true rfl) (by decide +kernel) rfl rfl (by decide +kernel) (by decide +kernel) (hA _ (Nat.le_of_ble_eq_true rfl)) (Nat.le_of_ble_eq_true rfl) ?_
  replace hZ := hZ.newS (ez_Ez2 86 (by decide +kernel))
  generalize newS S6 86 = S7 at hZ ⊢
  refine AW_putFR (ρ2 := zr119) dX12_init_55 flX12_29 fp_10_19 rfl (fun q hq => by cases hq; rfl) (Nat.le_of_ble_eq_true rfl) (by decide +kernel) rfl (fun _ => rfl) (fun _ => rfl) rfl (hA _ (Nat.le_of_ble_eq_true rfl)) ?_
  refine AW_aload_n 0 (n := 0) rfl dX12_init_58 rfl ?_
  refine AW_iconst (v := 4) dX12_init_59 rfl ?_
  refine AW_newarrK (atype := .int) (t := 0) (n := 4) (K := 87) (ρ1 := zr120) dX12_init_60 (Or.inl ⟨rfl, rfl⟩) wArr_int (by decide) rfl (Nat.le_of_ble_eq_true rfl) (by decide +kernel) rfl rfl (by decide +kernel) (by decide +kernel) (hA _ (Nat.le_of_ble_eq_true rfl)) (Nat.le_of_ble_eq_true rfl) ?_
  replace hZ := hZ.newS (ez_Ez2 87 (by decide +kernel))
  generalize newS S7 87 = S8 at hZ ⊢
  refine AW_putFR (ρ2 := zr121) dX12_init_62 flX12_32 fp_10_20 rfl (fun q hq => by cases hq; rfl) (Nat.le_of_ble_eq_true rfl) (by decide +kernel) rfl (fun _ => rfl) (fun _ => rfl) rfl (hA _ (Nat.le_of_ble_eq_true rfl)) ?_
  refine AW_aload_n 0 (n := 0) rfl dX12_init_65 rfl ?_
  refine AW_sipush (v := 336) dX12_init_66 rfl ?_
  refine AW_newarrK (atype := .long) (t := 1) (n := 336) (K := 88) (ρ1 := zr122) dX12_init_69 (Or.inr (Or.inl ⟨rfl, rfl⟩)) wArr_long (by decide) rfl (Nat.le_of_ble_eq_true rfl) (by decide +kernel) rfl rfl (by decide +kernel) (by decide +kernel) (hA _ (Nat.le_of_ble_eq_true rfl)) (Nat.le_of_ble_eq_true rfl) ?_
  replace hZ := hZ.newS (ez_Ez2 88 (by decide +kernel))
  generalize newS S8 88 = S9 at hZ ⊢
  refine AW_putFR (ρ2 := zr123) dX12_init_71 flX12_35 fp_10_21 rfl (fun q hq => by cases hq; rfl) (Nat.le_of_ble_eq_true rfl) (by decide +kernel) rfl (fun _ => rfl) (fun _ => rfl) rfl (hA _ (Nat.le_of_ble_eq_true rfl)) ?_
  refine AW_aload_n 0 (n := 0) rfl dX12_init_74 rfl ?_
  refine AW_sipush (v := 16000) dX12_init_75 rfl ?_
  refine AW_newarrK (atype := .int) (t := 0) (n := 16000) (K := 89) (ρ1 := zr124) dX12_init_78 (Or.inl ⟨rfl, rfl⟩) wArr_int (by decide) rfl (Nat.le_of_ble_eq_true rfl) (by decide +kernel) rfl rfl (by decide +kernel) (by decide +kernel) (hA _ (Nat.le_of_ble_eq_true rfl)) (Nat.le_of_ble_eq_true rfl) ?_
  replace hZ := hZ.newS (ez_Ez2 89 (by decide +kernel))
  generalize newS S9 89 = S10 at hZ ⊢
  refine AW_putFR (ρ2 := zr125) dX12_init_80 flX12_39 fp_10_31 rfl (fun q hq => by cases hq; rfl) (Nat.le_of_ble_eq_true rfl) (by decide +kernel) rfl (fun _ => rfl) (fun _ => rfl) rfl (hA _ (Nat.le_of_ble_eq_true rfl)) ?_
  refine AW_aload_n 0 (n := 0) rfl dX12_init_83 rfl ?_
  refine AW_bipush (v := 16) dX12_init_84 rfl ?_
  refine AW_newarrK (atype := .int) (t := 0) (n := 16) (K := 90) (ρ1 := zr126) dX12_init_86 (Or.inl ⟨rfl, rfl⟩) wArr_int (by decide) rfl (Nat.le_of_ble_eq_true rfl) (by decide +kernel) rfl rfl (by decide +kernel) (by decide +kernel) (hA _ (Nat.le_of_ble_eq_true rfl)) (Nat.le_of_ble_eq_true rfl) ?_
  replace hZ := hZ.newS (ez_Ez2 90 (by decide +kernel))
  generalize newS S10 90 = S11 at hZ ⊢
  refine AW_putFR (ρ2 := zr127) dX12_init_88 flX12_42 fp_10_33 rfl (fun q hq => by cases hq; rfl) (Nat.le_of_ble_eq_true rfl) (by decide +kernel) rfl (fun _ => rfl) (fun _ => rfl) rfl (hA _ (Nat.le_of_ble_eq_true rfl)) ?_
  refine AW_aload_n 0 (n := 0) rfl dX12_init_91 rfl ?_
  refine AW_sipush (v := 1000) dX12_init_92 rfl ?_
  refine AW_newarrK (atype := .int) (t := 0) (n := 1000) (K := 91) (ρ1 := zr128) dX12_init_95 (Or.inl ⟨rfl, rfl⟩) wArr_int (by decide) rfl (Nat.le_of_ble_eq_true rfl) (by decide +kernel) rfl rfl (by decide +kernel) (by decide +kernel) (hA _ (Nat.le_of_ble_eq_true rfl)) (Nat.le_of_ble_eq_true rfl) ?_
  replace hZ := hZ.newS (ez_Ez2 91 (by decide +kernel))
  generalize newS S11 91 = S12 at hZ ⊢
  refine AW_putFR (ρ2 := zr129) dX12_init_97 flX12_45 fp_10_34 rfl (fun q hq => by cases hq; rfl) (Nat.le_of_ble_eq_true rfl) (by decide +kernel) rfl (fun _ => rfl) (fun _ => rfl) rfl (hA _ (Nat.le_of_ble_eq_true rfl)) ?_
  refine AW_aload_n 0 (n := 0) rfl dX12_init_100 rfl ?_
  refine AW_sipush (v := 1000) dX12_init_101 rfl ?_
  refine AW_newarrK (atype := .int) (t := 0) (n := 1000) (K := 92) (ρ1 := zr130) dX12_init_104 (Or.inl ⟨rfl, rfl⟩) wArr_int (by decide) rfl (Nat.le_of_ble_eq_true rfl) (by decide +kernel) rfl rfl (by decide +kernel) (by decide +kernel) (hA _ (Nat.le_of_ble_eq_true rfl)) (Nat.le_of_ble_eq_true rfl) ?_
  replace hZ := hZ.newS (ez_Ez2 92 (by decide +kernel))
  generalize newS S12 92 = S13 at hZ ⊢
  refine AW_putFR (ρ2 := zr131) dX12_init_106 flX12_48 fp_10_35 rfl (fun q hq => by cases hq; rfl) (Nat.le_of_ble_eq_true rfl) (by decide +kernel) rfl (fun _ => rfl) (fun _ => rfl) rfl (hA _ (Nat.le_of_ble_eq_true rfl)) ?_
  refine AW_aload_n 0 (n := 0) rfl dX12_init_109 rfl ?_
  refine AW_sipush (v := 1000) dX12_init_110 rfl ?_
  refine AW_newarrK (atype := .long) (t := 1) (n := 1000) (K := 93) (ρ1 := zr132) dX12_init_113 (Or.inr (Or.inl ⟨rfl, rfl⟩)) wArr_long (by decide) rfl (Nat.le_of_ble_eq_true rfl) (by decide +kernel) rfl rfl (by decide +kernel) (by decide +kernel) (hA _ (Nat.le_of_ble_eq_true rfl)) (Nat.le_of_ble_eq_true rfl) ?_
  replace hZ := hZ.newS (ez_Ez2 93 (by decide +kernel))
  generalize newS S13 93 = S14 at hZ ⊢
  refine AW_putFR (ρ2 := zr133) dX12_init_115 flX12_51 fp_10_37 rfl (fun q hq => by cases hq; rfl) (Nat.le_of_ble_eq_true rfl) (by decide +kernel) rfl (fun _ => rfl) (fun _ => rfl) rfl (hA _ (Nat.le_of_ble_eq_true rfl)) ?_
  refine AW_aload_n 0 (n := 0) rfl dX12_init_118 rfl ?_
  refine AW_sipush (v := 1000) dX12_init_119 rfl ?_
  refine AW_newarrK (atype := .long) (t := 1) (n := 1000) (K := 94) (ρ1 := zr134) dX12_init_122 (Or.inr (Or.inl ⟨rfl, rfl⟩)) wArr_long (by decide) rfl (Nat.le_of_ble_eq_true rfl) (by decide +kernel) rfl rfl (by decide +kernel) (by decide +kernel) (hA _ (Nat.le_of_ble_eq_true rfl)) (Nat.le_of_ble_eq_true rfl) ?_
  replace hZ := hZ.newS (ez_Ez2 94 (by decide +kernel))
  generalize newS S14 94 = S15 at hZ ⊢
  refine AW_putFR (ρ2 := zr135) dX12_init_124 flX12_54 fp_10_38 rfl (fun q hq => by cases hq; rfl) (Nat.le_of_ble_eq_true rfl) (by decide +kernel) rfl (fun _ => rfl) (fun _ => rfl) rfl (hA _ (Nat.le_of_ble_eq_true rfl)) ?_
  exact AW_retv dX12_init_127 rfl hZ
