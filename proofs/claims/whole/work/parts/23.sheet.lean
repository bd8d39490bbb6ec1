set_option maxRecDepth 20000 in
theorem eX9_take_72 {g : GX} {Q : St → Prop} {d : Nat} {ρ : Rs} {S : St} (hρ : Ok ρ) {x2 : Int32} {x3 : Int32} (hF : ∀ k ∈ ([21, 22, 23] : List Nat), gF g k) (h : if (4 : Int32) ≤ x3 then AW g ρ (QV Q) (d + 2) mX9_take 65 [(0, .ref 21), (1, .ref 19), (2, .int (x2 + 1))] [] ρ S else vp_in ((4 * x2) + x3) 16 ∧ (vp_in x2 4 ∧ (vp_in x2 4 ∧ (vp_in x3 4 ∧ (vp_in x3 4 ∧ (CALLi g (d + 1) mX3_shift [.int x2, .int x3] ρ ρ (setI (setI (setI S 21 3 ((S.1 21 3) + (S.1 20 (((4 * x2) + x3).toNatClampNeg)))) 22 x2.toNatClampNeg ((S.1 22 x2.toNatClampNeg) + (S.1 20 (((4 * x2) + x3).toNatClampNeg)))) 23 x3.toNatClampNeg ((S.1 23 x3.toNatClampNeg) + (S.1 20 (((4 * x2) + x3).toNatClampNeg)))) (fun v1 S1 => AW g ρ (QV Q) (d + 2) mX9_take 72 [(0, .ref 21), (1, .ref 19), (2, .int x2), (3, .int (x3 + 1))] [] ρ (setL S1 21 7 ((S.2 21 7) ||| (((S.1 20 (((4 * x2) + x3).toNatClampNeg)).toInt64) <<< (v1.toInt64 &&& 63))))))))))) : AW g ρ (QV Q) (d + 2) mX9_take 72 [(0, .ref 21), (1, .ref 19), (2, .int x2), (3, .int x3)] [] ρ S := by
  refine AW_iload_n 3 (n := 3) rfl dX9_take_72 rfl ?_
  refine AW_iconst (v := 4) dX9_take_73 rfl ?_
  refine AW_icmp_ge dX9_take_74 rfl (iteM h (fun h => ?_) (fun h => ?_))
  · refine AW_iinc 2 (v := x2 + 1) dX9_take_142 rfl rfl (Nat.le_of_ble_eq_true rfl) rfl ?_
    refine AW_goto (tgt := 65) dX9_take_145 rfl ?_
    exact AW.sub [1, 2, 0] rfl h
  · refine AW_aload_n 1 (n := 1) rfl dX9_take_77 rfl ?_
    refine AW_iload_n 2 (n := 2) rfl dX9_take_78 rfl ?_
    refine AW_iload_n 3 (n := 3) rfl dX9_take_79 rfl ?_
    refine AW_callVi (M := mX9_take) (pc := 80) (As := [.int x2, .int x3]) (ρ1 := ρ) (st := []) dX9_take_80 mdX8_countAt rfl mlX9_57 imX8_countAt seX8_countAt (rcv_of (q := (RX8, TX8, 12)) (Nat.le_of_ble_eq_true rfl) (okn hρ (Nat.le_of_ble_eq_true rfl)) rfl rfl) ⟨rfl, npX8_countAt⟩ (Nat.le_of_ble_eq_true rfl) (Nat.le_refl _) (Nat.le_refl _) rfl (iX8_countAt hρ h.1 (v := (S.1 20 (((4 * x2) + x3).toNatClampNeg))) rfl ?_)
    replace h := h.2
    refine AW_istore dX9_take_83 (Nat.le_of_ble_eq_true rfl) rfl ?_
    refine AW_aload_n 1 (n := 0) rfl dX9_take_85 rfl ?_
    refine AW_dup dX9_take_86 rfl ?_
    refine AW_get dX9_take_87 flX9_41 (Nat.le_of_ble_eq_true rfl) (okn hρ (Nat.le_of_ble_eq_true rfl)) rfl (v := .int (S.1 21 3)) (fun _ => rfl) ?_
    refine AW_iload 0 dX9_take_90 rfl ?_
    refine AW_iadd dX9_take_92 ?_
    refine AW_put dX9_take_93 flX9_41 fp_7_3 (Nat.le_of_ble_eq_true rfl) (okn hρ (Nat.le_of_ble_eq_true rfl)) rfl (fun _ => rfl) (fun _ => rfl) rfl rfl rfl rfl (Fr.setI _ _ _ rfl) (fun _ _ => rfl) (ρ2 := ρ) (S2 := setI S 21 3 ((S.1 21 3) + (S.1 20 (((4 * x2) + x3).toNatClampNeg)))) (fun _ => rfl) (fun _ _ _ q1 _ => fvI_o q1) (hF _ (List.mem_of_getElem? (i := 0) rfl)) ?_
    refine AW_aload_n 1 (n := 0) rfl dX9_take_96 rfl ?_
    refine AW_get dX9_take_97 flX9_9 (Nat.le_of_ble_eq_true rfl) (okn hρ (Nat.le_of_ble_eq_true rfl)) rfl (v := .ref 22) (fvR (okR hρ 10 rfl)) ?_
    refine AW_iload_n 3 (n := 2) rfl dX9_take_100 rfl ?_
    refine AW_dup2_11 dX9_take_101 rfl rfl ?_
    refine AW_iaload dX9_take_102 (Nat.le_of_ble_eq_true rfl) (okn hρ (Nat.le_of_ble_eq_true rfl)) rfl h.1 (v := S.1 22 x2.toNatClampNeg) rfl ?_
    replace h := h.2
    refine AW_iload 0 dX9_take_103 rfl ?_
    refine AW_iadd dX9_take_105 ?_
    refine AW_iastore dX9_take_106 (Nat.le_of_ble_eq_true rfl) (okn hρ (Nat.le_of_ble_eq_true rfl)) rfl h.1 (hF _ (List.mem_of_getElem? (i := 1) rfl)) (jx := x2.toNatClampNeg) rfl ?_
    replace h := h.2
    refine AW_aload_n 1 (n := 0) rfl dX9_take_107 rfl ?_
    refine AW_get dX9_take_108 flX9_15 (Nat.le_of_ble_eq_true rfl) (okn hρ (Nat.le_of_ble_eq_true rfl)) rfl (v := .ref 23) (fvR (okR hρ 11 rfl)) ?_
    refine AW_iload_n 4 (n := 3) rfl dX9_take_111 rfl ?_
    refine AW_dup2_11 dX9_take_112 rfl rfl ?_
    refine AW_iaload dX9_take_113 (Nat.le_of_ble_eq_true rfl) (okn hρ (Nat.le_of_ble_eq_true rfl)) rfl h.1 (v := S.1 23 x3.toNatClampNeg) rfl ?_
    replace h := h.2
    refine AW_iload 0 dX9_take_114 rfl ?_
    refine AW_iadd dX9_take_116 ?_
    refine AW_iastore dX9_take_117 (Nat.le_of_ble_eq_true rfl) (okn hρ (Nat.le_of_ble_eq_true rfl)) rfl h.1 (hF _ (List.mem_of_getElem? (i := 2) rfl)) (jx := x3.toNatClampNeg) rfl ?_
    replace h := h.2
    refine AW_aload_n 1 (n := 0) rfl dX9_take_118 rfl ?_
    refine AW_dup dX9_take_119 rfl ?_
    refine AW_get dX9_take_120 flX9_44 (Nat.le_of_ble_eq_true rfl) (okn hρ (Nat.le_of_ble_eq_true rfl)) rfl (v := .long (S.2 21 7)) (fun _ => rfl) ?_
    refine AW_iload 0 dX9_take_123 rfl ?_
    refine AW_i2l dX9_take_125 ?_
    refine AW_iload_n 3 (n := 2) rfl dX9_take_126 rfl ?_
    refine AW_iload_n 4 (n := 3) rfl dX9_take_127 rfl ?_
    refine AW_callSi (M := mX9_take) (pc := 128) (As := [.int x2, .int x3]) (ρ1 := ρ) (st := [.long ((S.1 20 (((4 * x2) + x3).toNatClampNeg)).toInt64), .long (S.2 21 7), .ref 21]) dX9_take_128 mdX3_shift mlX9_61 smX3_shift ⟨rfl, npX3_shift⟩ (Nat.le_of_ble_eq_true rfl) (Nat.le_refl _) (Nat.le_refl _) rfl (CALLi.mono h (fun v1 S1 _ h => ?_))
    refine AW_lshl dX9_take_131 ?_
    refine AW_lor dX9_take_132 ?_
    refine AW_put dX9_take_133 flX9_44 fp_7_7 (Nat.le_of_ble_eq_true rfl) (okn hρ (Nat.le_of_ble_eq_true rfl)) rfl (fun _ => rfl) (fun _ => rfl) rfl rfl rfl rfl (Fr.setL _ _ _ rfl) (fun _ _ => rfl) (ρ2 := ρ) (S2 := setL S1 21 7 ((S.2 21 7) ||| (((S.1 20 (((4 * x2) + x3).toNatClampNeg)).toInt64) <<< (v1.toInt64 &&& 63)))) (fun _ => rfl) (fun _ _ _ q1 _ => fvL_o q1) (hF _ (List.mem_of_getElem? (i := 0) rfl)) ?_
    refine AW_iinc 4 (v := x3 + 1) dX9_take_136 rfl rfl (Nat.le_of_ble_eq_true rfl) rfl ?_
    refine AW_goto (tgt := 72) dX9_take_139 rfl ?_
    exact AW.sub [2, 3, 4, 0] rfl h
set_option maxRecDepth 20000 in
theorem eX9_take_65 {g : GX} {Q : St → Prop} {d : Nat} {ρ : Rs} {S : St} (hρ : Ok ρ) {x2 : Int32} (h : if (4 : Int32) ≤ x2 then Q S else AW g ρ (QV Q) (d + 2) mX9_take 72 [(0, .ref 21), (1, .ref 19), (2, .int x2), (3, .int 0)] [] ρ S) : AW g ρ (QV Q) (d + 2) mX9_take 65 [(0, .ref 21), (1, .ref 19), (2, .int x2)] [] ρ S := by
  refine AW_iload_n 2 (n := 2) rfl dX9_take_65 rfl ?_
  refine AW_iconst (v := 4) dX9_take_66 rfl ?_
  refine AW_icmp_ge dX9_take_67 rfl (iteM h (fun h => ?_) (fun h => ?_))
  · exact AW_retv dX9_take_148 rfl h
  · refine AW_iconst (v := 0) dX9_take_70 rfl ?_
    refine AW_istore_n (n := 3) (i := 3) rfl dX9_take_71 (Nat.le_of_ble_eq_true rfl) rfl ?_
    exact AW.sub [1, 2, 3, 0] rfl h
set_option maxRecDepth 20000 in
theorem eX9_take {g : GX} {Q : St → Prop} {d : Nat} {ρ : Rs} {S : St} (hρ : Ok ρ) (hF : ∀ k ∈ ([21] : List Nat), gF g k) (h : CALLv g (d + 1) mJ7_fill_53178 [.ref 22, .int 0] ρ ρ (setI (setL (setI (setI (setI (setI (setI S 21 0 (S.1 19 2)) 21 1 (S.1 19 3)) 21 2 (S.1 19 4)) 21 4 (S.1 19 5)) 21 3 0) 21 7 0) 21 8 0) (fun S1 => CALLv g (d + 1) mJ7_fill_53178 [.ref 23, .int 0] ρ ρ S1 (fun S2 => AW g ρ (QV Q) (d + 2) mX9_take 65 [(0, .ref 21), (1, .ref 19), (2, .int 0)] [] ρ S2))) : CALLv g (d + 2) mX9_take [.ref 21, .ref 19] ρ ρ S Q := by
  refine CALL.of mdX9_take.2.2.2.2 (Nat.le_of_ble_eq_true rfl) (Nat.le_refl _) (Nat.le_refl _) ?_
  show AW g ρ (QV Q) (d + 2) mX9_take 0 [(0, .ref 21), (1, .ref 19)] [] ρ S
  refine AW_aload_n 0 (n := 0) rfl dX9_take_0 rfl ?_
  refine AW_aload_n 1 (n := 1) rfl dX9_take_1 rfl ?_
  refine AW_get dX9_take_2 flX9_22 (Nat.le_of_ble_eq_true rfl) (okn hρ (Nat.le_of_ble_eq_true rfl)) rfl (v := .int (S.1 19 2)) (fun _ => rfl) ?_
  refine AW_put dX9_take_5 flX9_28 fp_7_0 (Nat.le_of_ble_eq_true rfl) (okn hρ (Nat.le_of_ble_eq_true rfl)) rfl (fun _ => rfl) (fun _ => rfl) rfl rfl rfl rfl (Fr.setI _ _ _ rfl) (fun _ _ => rfl) (ρ2 := ρ) (S2 := setI S 21 0 (S.1 19 2)) (fun _ => rfl) (fun _ _ _ q1 _ => fvI_o q1) (hF _ (List.mem_of_getElem? (i := 0) rfl)) ?_
  refine AW_aload_n 0 (n := 0) rfl dX9_take_8 rfl ?_
  refine AW_aload_n 1 (n := 1) rfl dX9_take_9 rfl ?_
  refine AW_get dX9_take_10 flX9_29 (Nat.le_of_ble_eq_true rfl) (okn hρ (Nat.le_of_ble_eq_true rfl)) rfl (v := .int (S.1 19 3)) (fun _ => rfl) ?_
  refine AW_put dX9_take_13 flX9_32 fp_7_1 (Nat.le_of_ble_eq_true rfl) (okn hρ (Nat.le_of_ble_eq_true rfl)) rfl (fun _ => rfl) (fun _ => rfl) rfl rfl rfl rfl (Fr.setI _ _ _ rfl) (fun _ _ => rfl) (ρ2 := ρ) (S2 := setI (setI S 21 0 (S.1 19 2)) 21 1 (S.1 19 3)) (fun _ => rfl) (fun _ _ _ q1 _ => fvI_o q1) (hF _ (List.mem_of_getElem? (i := 0) rfl)) ?_
  refine AW_aload_n 0 (n := 0) rfl dX9_take_16 rfl ?_
  refine AW_aload_n 1 (n := 1) rfl dX9_take_17 rfl ?_
  refine AW_get dX9_take_18 flX9_33 (Nat.le_of_ble_eq_true rfl) (okn hρ (Nat.le_of_ble_eq_true rfl)) rfl (v := .int (S.1 19 4)) (fun _ => rfl) ?_
  refine AW_put dX9_take_21 flX9_36 fp_7_2 (Nat.le_of_ble_eq_true rfl) (okn hρ (Nat.le_of_ble_eq_true rfl)) rfl (fun _ => rfl) (fun _ => rfl) rfl rfl rfl rfl (Fr.setI _ _ _ rfl) (fun _ _ => rfl) (ρ2 := ρ) (S2 := setI (setI (setI S 21 0 (S.1 19 2)) 21 1 (S.1 19 3)) 21 2 (S.1 19 4)) (fun _ => rfl) (fun _ _ _ q1 _ => fvI_o q1) (hF _ (List.mem_of_getElem? (i := 0) rfl)) ?_
  refine AW_aload_n 0 (n := 0) rfl dX9_take_24 rfl ?_
  refine AW_aload_n 1 (n := 1) rfl dX9_take_25 rfl ?_
  refine AW_get dX9_take_26 flX9_37 (Nat.le_of_ble_eq_true rfl) (okn hρ (Nat.le_of_ble_eq_true rfl)) rfl (v := .int (S.1 19 5)) (fun _ => rfl) ?_
  refine AW_put dX9_take_29 flX9_40 fp_7_4 (Nat.le_of_ble_eq_true rfl) (okn hρ (Nat.le_of_ble_eq_true rfl)) rfl (fun _ => rfl) (fun _ => rfl) rfl rfl rfl rfl (Fr.setI _ _ _ rfl) (fun _ _ => rfl) (ρ2 := ρ) (S2 := setI (setI (setI (setI S 21 0 (S.1 19 2)) 21 1 (S.1 19 3)) 21 2 (S.1 19 4)) 21 4 (S.1 19 5)) (fun _ => rfl) (fun _ _ _ q1 _ => fvI_o q1) (hF _ (List.mem_of_getElem? (i := 0) rfl)) ?_
  refine AW_aload_n 0 (n := 0) rfl dX9_take_32 rfl ?_
  refine AW_iconst (v := 0) dX9_take_33 rfl ?_
  refine AW_put dX9_take_34 flX9_41 fp_7_3 (Nat.le_of_ble_eq_true rfl) (okn hρ (Nat.le_of_ble_eq_true rfl)) rfl (fun _ => rfl) (fun _ => rfl) rfl rfl rfl rfl (Fr.setI _ _ _ rfl) (fun _ _ => rfl) (ρ2 := ρ) (S2 := setI (setI (setI (setI (setI S 21 0 (S.1 19 2)) 21 1 (S.1 19 3)) 21 2 (S.1 19 4)) 21 4 (S.1 19 5)) 21 3 0) (fun _ => rfl) (fun _ _ _ q1 _ => fvI_o q1) (hF _ (List.mem_of_getElem? (i := 0) rfl)) ?_
  refine AW_aload_n 0 (n := 0) rfl dX9_take_37 rfl ?_
  refine AW_lconst (v := 0) dX9_take_38 rfl ?_
  refine AW_put dX9_take_39 flX9_44 fp_7_7 (Nat.le_of_ble_eq_true rfl) (okn hρ (Nat.le_of_ble_eq_true rfl)) rfl (fun _ => rfl) (fun _ => rfl) rfl rfl rfl rfl (Fr.setL _ _ _ rfl) (fun _ _ => rfl) (ρ2 := ρ) (S2 := setL (setI (setI (setI (setI (setI S 21 0 (S.1 19 2)) 21 1 (S.1 19 3)) 21 2 (S.1 19 4)) 21 4 (S.1 19 5)) 21 3 0) 21 7 0) (fun _ => rfl) (fun _ _ _ q1 _ => fvL_o q1) (hF _ (List.mem_of_getElem? (i := 0) rfl)) ?_
  refine AW_aload_n 0 (n := 0) rfl dX9_take_42 rfl ?_
  refine AW_iconst (v := 0) dX9_take_43 rfl ?_
  refine AW_put dX9_take_44 flX9_48 fp_7_8 (Nat.le_of_ble_eq_true rfl) (okn hρ (Nat.le_of_ble_eq_true rfl)) rfl (fun _ => rfl) (fun _ => rfl) rfl rfl rfl rfl (Fr.setI _ _ _ rfl) (fun _ _ => rfl) (ρ2 := ρ) (S2 := setI (setL (setI (setI (setI (setI (setI S 21 0 (S.1 19 2)) 21 1 (S.1 19 3)) 21 2 (S.1 19 4)) 21 4 (S.1 19 5)) 21 3 0) 21 7 0) 21 8 0) (fun _ => rfl) (fun _ _ _ q1 _ => fvI_o q1) (hF _ (List.mem_of_getElem? (i := 0) rfl)) ?_
  refine AW_aload_n 0 (n := 0) rfl dX9_take_47 rfl ?_
  refine AW_get dX9_take_48 flX9_9 (Nat.le_of_ble_eq_true rfl) (okn hρ (Nat.le_of_ble_eq_true rfl)) rfl (v := .ref 22) (fvR (okR hρ 10 rfl)) ?_
  refine AW_iconst (v := 0) dX9_take_51 rfl ?_
  refine AW_callSv (M := mX9_take) (pc := 52) (As := [.ref 22, .int 0]) (ρ1 := ρ) (st := []) dX9_take_52 mdJ7_fill_53178 mlX9_51 smJ7_fill_53178 ⟨rfl, npJ7_fill_53178⟩ (Nat.le_of_ble_eq_true rfl) (Nat.le_refl _) (Nat.le_refl _) rfl (CALLv.mono h (fun S1 _ h => ?_))
  refine AW_aload_n 0 (n := 0) rfl dX9_take_55 rfl ?_
  refine AW_get dX9_take_56 flX9_15 (Nat.le_of_ble_eq_true rfl) (okn hρ (Nat.le_of_ble_eq_true rfl)) rfl (v := .ref 23) (fvR (okR hρ 11 rfl)) ?_
  refine AW_iconst (v := 0) dX9_take_59 rfl ?_
  refine AW_callSv (M := mX9_take) (pc := 60) (As := [.ref 23, .int 0]) (ρ1 := ρ) (st := []) dX9_take_60 mdJ7_fill_53178 mlX9_51 smJ7_fill_53178 ⟨rfl, npJ7_fill_53178⟩ (Nat.le_of_ble_eq_true rfl) (Nat.le_refl _) (Nat.le_refl _) rfl (CALLv.mono h (fun S2 _ h => ?_))
  refine AW_iconst (v := 0) dX9_take_63 rfl ?_
  refine AW_istore_n (n := 2) (i := 2) rfl dX9_take_64 (Nat.le_of_ble_eq_true rfl) rfl ?_
  exact AW.sub [1, 2, 0] rfl h
set_option maxRecDepth 20000 in
theorem eX9_isTold {g : GX} {Q : Int32 → St → Prop} {d : Nat} {ρ : Rs} {S : St} (hρ : Ok ρ) (h : if (S.1 21 0) ≤ 0 then Q 0 S else Q 1 S) : CALLi g d mX9_isTold [.ref 21] ρ ρ S Q := by
  refine CALL.of mdX9_isTold.2.2.2.2 (Nat.le_of_ble_eq_true rfl) (Nat.le_refl _) (Nat.le_refl _) ?_
  show AW g ρ (QI Q) d mX9_isTold 0 [(0, .ref 21)] [] ρ S
  refine AW_aload_n 0 (n := 0) rfl dX9_isTold_0 rfl ?_
  refine AW_get dX9_isTold_1 flX9_28 (Nat.le_of_ble_eq_true rfl) (okn hρ (Nat.le_of_ble_eq_true rfl)) rfl (v := .int (S.1 21 0)) (fun _ => rfl) ?_
  refine AW_if_le dX9_isTold_4 rfl (iteM h (fun h => ?_) (fun h => ?_))
  · refine AW_iconst (v := 0) dX9_isTold_11 rfl ?_
    exact AW_retz dX9_isTold_12 rfl Bz0 h
  · refine AW_iconst (v := 1) dX9_isTold_7 rfl ?_
    refine AW_goto (tgt := 12) dX9_isTold_8 rfl ?_
    exact AW_retz dX9_isTold_12 rfl Bz1 h
set_option maxRecDepth 20000 in
theorem eX9_has {g : GX} {Q : Int32 → St → Prop} {d : Nat} {ρ : Rs} {S : St} (hρ : Ok ρ) {x1 : Int32} {x2 : Int32} (h : if x1 < 0 then Q 0 S else if (S.1 21 0) ≤ x1 then Q 0 S else if x2 < 0 then Q 0 S else if (S.1 21 1) ≤ x2 then Q 0 S else Q 1 S) : CALLi g d mX9_has [.ref 21, .int x1, .int x2] ρ ρ S Q := by
  refine CALL.of mdX9_has.2.2.2.2 (Nat.le_of_ble_eq_true rfl) (Nat.le_refl _) (Nat.le_refl _) ?_
  show AW g ρ (QI Q) d mX9_has 0 [(0, .ref 21), (1, .int x1), (2, .int x2)] [] ρ S
  refine AW_iload_n 1 (n := 1) rfl dX9_has_0 rfl ?_
  refine AW_if_lt dX9_has_1 rfl (iteM h (fun h => ?_) (fun h => ?_))
  · refine AW_iconst (v := 0) dX9_has_28 rfl ?_
    exact AW_retz dX9_has_29 rfl Bz0 h
  · refine AW_iload_n 1 (n := 1) rfl dX9_has_4 rfl ?_
    refine AW_aload_n 0 (n := 0) rfl dX9_has_5 rfl ?_
    refine AW_get dX9_has_6 flX9_28 (Nat.le_of_ble_eq_true rfl) (okn hρ (Nat.le_of_ble_eq_true rfl)) rfl (v := .int (S.1 21 0)) (fun _ => rfl) ?_
    refine AW_icmp_ge dX9_has_9 rfl (iteM h (fun h => ?_) (fun h => ?_))
    · refine AW_iconst (v := 0) dX9_has_28 rfl ?_
      exact AW_retz dX9_has_29 rfl Bz0 h
    · refine AW_iload_n 2 (n := 2) rfl dX9_has_12 rfl ?_
      refine AW_if_lt dX9_has_13 rfl (iteM h (fun h => ?_) (fun h => ?_))
      · refine AW_iconst (v := 0) dX9_has_28 rfl ?_
        exact AW_retz dX9_has_29 rfl Bz0 h
      · refine AW_iload_n 2 (n := 2) rfl dX9_has_16 rfl ?_
        refine AW_aload_n 0 (n := 0) rfl dX9_has_17 rfl ?_
        refine AW_get dX9_has_18 flX9_32 (Nat.le_of_ble_eq_true rfl) (okn hρ (Nat.le_of_ble_eq_true rfl)) rfl (v := .int (S.1 21 1)) (fun _ => rfl) ?_
        refine AW_icmp_ge dX9_has_21 rfl (iteM h (fun h => ?_) (fun h => ?_))
        · refine AW_iconst (v := 0) dX9_has_28 rfl ?_
          exact AW_retz dX9_has_29 rfl Bz0 h
        · refine AW_iconst (v := 1) dX9_has_24 rfl ?_
          refine AW_goto (tgt := 29) dX9_has_25 rfl ?_
          exact AW_retz dX9_has_29 rfl Bz1 h
set_option maxRecDepth 20000 in
theorem eX9_at {g : GX} {Q : Int32 → St → Prop} {d : Nat} {ρ : Rs} {S : St} (hρ : Ok ρ) {x1 : Int32} {x2 : Int32} (h : CALLi g d mX3_shift [.int x1, .int x2] ρ ρ S (fun v1 S1 => CALLi g d mX3_get [.long (S.2 21 7), .int v1] ρ ρ S1 (fun v2 S2 => Q v2 S2))) : CALLi g (d + 1) mX9_at [.ref 21, .int x1, .int x2] ρ ρ S Q := by
  refine CALL.of mdX9_at.2.2.2.2 (Nat.le_of_ble_eq_true rfl) (Nat.le_refl _) (Nat.le_refl _) ?_
  show AW g ρ (QI Q) (d + 1) mX9_at 0 [(0, .ref 21), (1, .int x1), (2, .int x2)] [] ρ S
  refine AW_aload_n 0 (n := 0) rfl dX9_at_0 rfl ?_
  refine AW_get dX9_at_1 flX9_44 (Nat.le_of_ble_eq_true rfl) (okn hρ (Nat.le_of_ble_eq_true rfl)) rfl (v := .long (S.2 21 7)) (fun _ => rfl) ?_
  refine AW_iload_n 1 (n := 1) rfl dX9_at_4 rfl ?_
  refine AW_iload_n 2 (n := 2) rfl dX9_at_5 rfl ?_
  refine AW_callSi (M := mX9_at) (pc := 6) (As := [.int x1, .int x2]) (ρ1 := ρ) (st := [.long (S.2 21 7)]) dX9_at_6 mdX3_shift mlX9_61 smX3_shift ⟨rfl, npX3_shift⟩ (Nat.le_of_ble_eq_true rfl) (Nat.le_refl _) (Nat.le_refl _) rfl (CALLi.mono h (fun v1 S1 _ h => ?_))
  refine AW_callSi (M := mX9_at) (pc := 9) (As := [.long (S.2 21 7), .int v1]) (ρ1 := ρ) (st := []) dX9_at_9 mdX3_get mlX9_66 smX3_get ⟨rfl, npX3_get⟩ (Nat.le_of_ble_eq_true rfl) (Nat.le_refl _) (Nat.le_refl _) rfl (CALLi.mono h (fun v2 S2 _ h => ?_))
  exact AW_reti dX9_at_12 rfl h
set_option maxRecDepth 20000 in
theorem eX9_isHole {g : GX} {Q : Int32 → St → Prop} {d : Nat} {ρ : Rs} {S : St} (hρ : Ok ρ) {x1 : Int32} {x2 : Int32} (h : if (((S.1 21 4) >>> (((4 * x1) + x2) &&& 31)) &&& 1) = 0 then Q 0 S else Q 1 S) : CALLi g d mX9_isHole [.ref 21, .int x1, .int x2] ρ ρ S Q := by
  refine CALL.of mdX9_isHole.2.2.2.2 (Nat.le_of_ble_eq_true rfl) (Nat.le_refl _) (Nat.le_refl _) ?_
  show AW g ρ (QI Q) d mX9_isHole 0 [(0, .ref 21), (1, .int x1), (2, .int x2)] [] ρ S
  refine AW_aload_n 0 (n := 0) rfl dX9_isHole_0 rfl ?_
  refine AW_get dX9_isHole_1 flX9_40 (Nat.le_of_ble_eq_true rfl) (okn hρ (Nat.le_of_ble_eq_true rfl)) rfl (v := .int (S.1 21 4)) (fun _ => rfl) ?_
  refine AW_iconst (v := 4) dX9_isHole_4 rfl ?_
  refine AW_iload_n 1 (n := 1) rfl dX9_isHole_5 rfl ?_
  refine AW_imul dX9_isHole_6 ?_
  refine AW_iload_n 2 (n := 2) rfl dX9_isHole_7 rfl ?_
  refine AW_iadd dX9_isHole_8 ?_
  refine AW_ishr dX9_isHole_9 ?_
  refine AW_iconst (v := 1) dX9_isHole_10 rfl ?_
  refine AW_iand dX9_isHole_11 ?_
  refine AW_if_eq dX9_isHole_12 rfl (iteM h (fun h => ?_) (fun h => ?_))
  · refine AW_iconst (v := 0) dX9_isHole_19 rfl ?_
    exact AW_retz dX9_isHole_20 rfl Bz0 h
  · refine AW_iconst (v := 1) dX9_isHole_15 rfl ?_
    refine AW_goto (tgt := 20) dX9_isHole_16 rfl ?_
    exact AW_retz dX9_isHole_20 rfl Bz1 h
set_option maxRecDepth 20000 in
theorem eX9_isFull {g : GX} {Q : Int32 → St → Prop} {d : Nat} {ρ : Rs} {S : St} (hρ : Ok ρ) (h : if (S.1 21 8) < 20 then Q 0 S else Q 1 S) : CALLi g d mX9_isFull [.ref 21] ρ ρ S Q := by
  refine CALL.of mdX9_isFull.2.2.2.2 (Nat.le_of_ble_eq_true rfl) (Nat.le_refl _) (Nat.le_refl _) ?_
  show AW g ρ (QI Q) d mX9_isFull 0 [(0, .ref 21)] [] ρ S
  refine AW_aload_n 0 (n := 0) rfl dX9_isFull_0 rfl ?_
  refine AW_get dX9_isFull_1 flX9_48 (Nat.le_of_ble_eq_true rfl) (okn hρ (Nat.le_of_ble_eq_true rfl)) rfl (v := .int (S.1 21 8)) (fun _ => rfl) ?_
  refine AW_bipush (v := 20) dX9_isFull_4 rfl ?_
  refine AW_icmp_lt dX9_isFull_6 rfl (iteM h (fun h => ?_) (fun h => ?_))
  · refine AW_iconst (v := 0) dX9_isFull_13 rfl ?_
    exact AW_retz dX9_isFull_14 rfl Bz0 h
  · refine AW_iconst (v := 1) dX9_isFull_9 rfl ?_
    refine AW_goto (tgt := 14) dX9_isFull_10 rfl ?_
    exact AW_retz dX9_isFull_14 rfl Bz1 h
set_option maxRecDepth 20000 in
theorem eX9_remember {g : GX} {Q : St → Prop} {d : Nat} {ρ : Rs} {S : St} (hρ : Ok ρ) (hF : ∀ k ∈ ([24, 21] : List Nat), gF g k) (h : if (S.1 21 8) < 0 then Q S else if (20 : Int32) ≤ (S.1 21 8) then Q S else vp_in (S.1 21 8) 20 ∧ (Q (setI (setL S 24 ((S.1 21 8).toNatClampNeg) (S.2 21 7)) 21 8 ((S.1 21 8) + 1)))) : CALLv g d mX9_remember [.ref 21] ρ ρ S Q := by
  refine CALL.of mdX9_remember.2.2.2.2 (Nat.le_of_ble_eq_true rfl) (Nat.le_refl _) (Nat.le_refl _) ?_
  show AW g ρ (QV Q) d mX9_remember 0 [(0, .ref 21)] [] ρ S
  refine AW_aload_n 0 (n := 0) rfl dX9_remember_0 rfl ?_
  refine AW_get dX9_remember_1 flX9_48 (Nat.le_of_ble_eq_true rfl) (okn hρ (Nat.le_of_ble_eq_true rfl)) rfl (v := .int (S.1 21 8)) (fun _ => rfl) ?_
  refine AW_if_lt dX9_remember_4 rfl (iteM h (fun h => ?_) (fun h => ?_))
  · exact AW_retv dX9_remember_39 rfl h
  · refine AW_aload_n 0 (n := 0) rfl dX9_remember_7 rfl ?_
    refine AW_get dX9_remember_8 flX9_48 (Nat.le_of_ble_eq_true rfl) (okn hρ (Nat.le_of_ble_eq_true rfl)) rfl (v := .int (S.1 21 8)) (fun _ => rfl) ?_
    refine AW_bipush (v := 20) dX9_remember_11 rfl ?_
    refine AW_icmp_ge dX9_remember_13 rfl (iteM h (fun h => ?_) (fun h => ?_))
    · exact AW_retv dX9_remember_39 rfl h
    · refine AW_aload_n 0 (n := 0) rfl dX9_remember_16 rfl ?_
      refine AW_get dX9_remember_17 flX9_18 (Nat.le_of_ble_eq_true rfl) (okn hρ (Nat.le_of_ble_eq_true rfl)) rfl (v := .ref 24) (fvR (okR hρ 12 rfl)) ?_
      refine AW_aload_n 0 (n := 0) rfl dX9_remember_20 rfl ?_
      refine AW_get dX9_remember_21 flX9_48 (Nat.le_of_ble_eq_true rfl) (okn hρ (Nat.le_of_ble_eq_true rfl)) rfl (v := .int (S.1 21 8)) (fun _ => rfl) ?_
      refine AW_aload_n 0 (n := 0) rfl dX9_remember_24 rfl ?_
      refine AW_get dX9_remember_25 flX9_44 (Nat.le_of_ble_eq_true rfl) (okn hρ (Nat.le_of_ble_eq_true rfl)) rfl (v := .long (S.2 21 7)) (fun _ => rfl) ?_
      refine AW_lastore dX9_remember_28 (Nat.le_of_ble_eq_true rfl) (okn hρ (Nat.le_of_ble_eq_true rfl)) rfl h.1 (hF _ (List.mem_of_getElem? (i := 0) rfl)) (jx := (S.1 21 8).toNatClampNeg) rfl ?_
      replace h := h.2
      refine AW_aload_n 0 (n := 0) rfl dX9_remember_29 rfl ?_
      refine AW_dup dX9_remember_30 rfl ?_
      refine AW_get dX9_remember_31 flX9_48 (Nat.le_of_ble_eq_true rfl) (okn hρ (Nat.le_of_ble_eq_true rfl)) rfl (v := .int (S.1 21 8)) (fun _ => rfl) ?_
      refine AW_iconst (v := 1) dX9_remember_34 rfl ?_
      refine AW_iadd dX9_remember_35 ?_
      refine AW_put dX9_remember_36 flX9_48 fp_7_8 (Nat.le_of_ble_eq_true rfl) (okn hρ (Nat.le_of_ble_eq_true rfl)) rfl (fun _ => rfl) (fun _ => rfl) rfl rfl rfl rfl (Fr.setI _ _ _ rfl) (fun _ _ => rfl) (ρ2 := ρ) (S2 := setI (setL S 24 ((S.1 21 8).toNatClampNeg) (S.2 21 7)) 21 8 ((S.1 21 8) + 1)) (fun _ => rfl) (fun _ _ _ q1 _ => fvI_o q1) (hF _ (List.mem_of_getElem? (i := 1) rfl)) ?_
      exact AW_retv dX9_remember_39 rfl h
set_option maxRecDepth 20000 in
theorem eX9_goBackTo {g : GX} {Q : St → Prop} {d : Nat} {ρ : Rs} {S : St} (hρ : Ok ρ) {x1 : Int32} (hF : ∀ k ∈ ([21] : List Nat), gF g k) (h : if x1 < 0 then Q S else if (S.1 21 8) ≤ x1 then Q S else if (20 : Int32) ≤ x1 then Q S else vp_in x1 20 ∧ (Q (setI (setL S 21 7 (S.2 24 x1.toNatClampNeg)) 21 8 x1))) : CALLv g d mX9_goBackTo [.ref 21, .int x1] ρ ρ S Q := by
  refine CALL.of mdX9_goBackTo.2.2.2.2 (Nat.le_of_ble_eq_true rfl) (Nat.le_refl _) (Nat.le_refl _) ?_
  show AW g ρ (QV Q) d mX9_goBackTo 0 [(0, .ref 21), (1, .int x1)] [] ρ S
  refine AW_iload_n 1 (n := 1) rfl dX9_goBackTo_0 rfl ?_
  refine AW_if_lt dX9_goBackTo_1 rfl (iteM h (fun h => ?_) (fun h => ?_))
  · exact AW_retv dX9_goBackTo_33 rfl h
  · refine AW_iload_n 1 (n := 1) rfl dX9_goBackTo_4 rfl ?_
    refine AW_aload_n 0 (n := 0) rfl dX9_goBackTo_5 rfl ?_
    refine AW_get dX9_goBackTo_6 flX9_48 (Nat.le_of_ble_eq_true rfl) (okn hρ (Nat.le_of_ble_eq_true rfl)) rfl (v := .int (S.1 21 8)) (fun _ => rfl) ?_
    refine AW_icmp_ge dX9_goBackTo_9 rfl (iteM h (fun h => ?_) (fun h => ?_))
    · exact AW_retv dX9_goBackTo_33 rfl h
    · refine AW_iload_n 1 (n := 1) rfl dX9_goBackTo_12 rfl ?_
      refine AW_bipush (v := 20) dX9_goBackTo_13 rfl ?_
      refine AW_icmp_ge dX9_goBackTo_15 rfl (iteM h (fun h => ?_) (fun h => ?_))
      · exact AW_retv dX9_goBackTo_33 rfl h
      · refine AW_aload_n 0 (n := 0) rfl dX9_goBackTo_18 rfl ?_
        refine AW_aload_n 0 (n := 0) rfl dX9_goBackTo_19 rfl ?_
        refine AW_get dX9_goBackTo_20 flX9_18 (Nat.le_of_ble_eq_true rfl) (okn hρ (Nat.le_of_ble_eq_true rfl)) rfl (v := .ref 24) (fvR (okR hρ 12 rfl)) ?_
        refine AW_iload_n 1 (n := 1) rfl dX9_goBackTo_23 rfl ?_
        refine AW_laload dX9_goBackTo_24 (Nat.le_of_ble_eq_true rfl) (okn hρ (Nat.le_of_ble_eq_true rfl)) rfl h.1 (v := S.2 24 x1.toNatClampNeg) rfl ?_
        replace h := h.2
        refine AW_put dX9_goBackTo_25 flX9_44 fp_7_7 (Nat.le_of_ble_eq_true rfl) (okn hρ (Nat.le_of_ble_eq_true rfl)) rfl (fun _ => rfl) (fun _ => rfl) rfl rfl rfl rfl (Fr.setL _ _ _ rfl) (fun _ _ => rfl) (ρ2 := ρ) (S2 := setL S 21 7 (S.2 24 x1.toNatClampNeg)) (fun _ => rfl) (fun _ _ _ q1 _ => fvL_o q1) (hF _ (List.mem_of_getElem? (i := 0) rfl)) ?_
        refine AW_aload_n 0 (n := 0) rfl dX9_goBackTo_28 rfl ?_
        refine AW_iload_n 1 (n := 1) rfl dX9_goBackTo_29 rfl ?_
        refine AW_put dX9_goBackTo_30 flX9_48 fp_7_8 (Nat.le_of_ble_eq_true rfl) (okn hρ (Nat.le_of_ble_eq_true rfl)) rfl (fun _ => rfl) (fun _ => rfl) rfl rfl rfl rfl (Fr.setI _ _ _ rfl) (fun _ _ => rfl) (ρ2 := ρ) (S2 := setI (setL S 21 7 (S.2 24 x1.toNatClampNeg)) 21 8 x1) (fun _ => rfl) (fun _ _ _ q1 _ => fvI_o q1) (hF _ (List.mem_of_getElem? (i := 0) rfl)) ?_
        exact AW_retv dX9_goBackTo_33 rfl h
set_option maxRecDepth 20000 in
theorem eX9_canSwap {g : GX} {Q : Int32 → St → Prop} {d : Nat} {ρ : Rs} {S : St} (hρ : Ok ρ) {x1 : Int32} {x2 : Int32} {x3 : Int32} {x4 : Int32} (h : CALLi g d mX9_at [.ref 21, .int x1, .int x4] ρ ρ S (fun v1 S1 => if v1 ≤ 0 then Q 0 S1 else CALLi g d mX9_at [.ref 21, .int x2, .int x3] ρ ρ S1 (fun v2 S2 => if v2 ≤ 0 then Q 0 S2 else CALLi g d mX9_isHole [.ref 21, .int x1, .int x3] ρ ρ S2 (fun v3 S3 => if v3 = 0 then CALLi g d mX9_isHole [.ref 21, .int x2, .int x4] ρ ρ S3 (fun v4 S4 => if v4 = 0 then Q 1 S4 else Q 0 S4) else Q 0 S3)))) : CALLi g (d + 1) mX9_canSwap [.ref 21, .int x1, .int x2, .int x3, .int x4] ρ ρ S Q := by
  refine CALL.of mdX9_canSwap.2.2.2.2 (Nat.le_of_ble_eq_true rfl) (Nat.le_refl _) (Nat.le_refl _) ?_
  show AW g ρ (QI Q) (d + 1) mX9_canSwap 0 [(0, .ref 21), (1, .int x1), (2, .int x2), (3, .int x3), (4, .int x4)] [] ρ S
  refine AW_aload_n 0 (n := 0) rfl dX9_canSwap_0 rfl ?_
  refine AW_iload_n 1 (n := 1) rfl dX9_canSwap_1 rfl ?_
  refine AW_iload 4 dX9_canSwap_2 rfl ?_
  refine AW_callVi (M := mX9_canSwap) (pc := 4) (As := [.int x1, .int x4]) (ρ1 := ρ) (st := []) dX9_canSwap_4 mdX9_at rfl mlX9_75 imX9_at seX9_at (rcv_of (q := (RX9, TX9, 10)) (Nat.le_of_ble_eq_true rfl) (okn hρ (Nat.le_of_ble_eq_true rfl)) rfl rfl) ⟨rfl, npX9_at⟩ (Nat.le_of_ble_eq_true rfl) (Nat.le_refl _) (Nat.le_refl _) rfl (CALLi.mono h (fun v1 S1 _ h => ?_))
  refine AW_if_le dX9_canSwap_7 rfl (iteM h (fun h => ?_) (fun h => ?_))
  · refine AW_iconst (v := 0) dX9_canSwap_42 rfl ?_
    exact AW_retz dX9_canSwap_43 rfl Bz0 h
  · refine AW_aload_n 0 (n := 0) rfl dX9_canSwap_10 rfl ?_
    refine AW_iload_n 2 (n := 2) rfl dX9_canSwap_11 rfl ?_
    refine AW_iload_n 3 (n := 3) rfl dX9_canSwap_12 rfl ?_
    refine AW_callVi (M := mX9_canSwap) (pc := 13) (As := [.int x2, .int x3]) (ρ1 := ρ) (st := []) dX9_canSwap_13 mdX9_at rfl mlX9_75 imX9_at seX9_at (rcv_of (q := (RX9, TX9, 10)) (Nat.le_of_ble_eq_true rfl) (okn hρ (Nat.le_of_ble_eq_true rfl)) rfl rfl) ⟨rfl, npX9_at⟩ (Nat.le_of_ble_eq_true rfl) (Nat.le_refl _) (Nat.le_refl _) rfl (CALLi.mono h (fun v2 S2 _ h => ?_))
    refine AW_if_le dX9_canSwap_16 rfl (iteM h (fun h => ?_) (fun h => ?_))
    · refine AW_iconst (v := 0) dX9_canSwap_42 rfl ?_
      exact AW_retz dX9_canSwap_43 rfl Bz0 h
    · refine AW_aload_n 0 (n := 0) rfl dX9_canSwap_19 rfl ?_
      refine AW_iload_n 1 (n := 1) rfl dX9_canSwap_20 rfl ?_
      refine AW_iload_n 3 (n := 3) rfl dX9_canSwap_21 rfl ?_
      refine AW_callVi (M := mX9_canSwap) (pc := 22) (As := [.int x1, .int x3]) (ρ1 := ρ) (st := []) dX9_canSwap_22 mdX9_isHole rfl mlX9_78 imX9_isHole seX9_isHole (rcv_of (q := (RX9, TX9, 10)) (Nat.le_of_ble_eq_true rfl) (okn hρ (Nat.le_of_ble_eq_true rfl)) rfl rfl) ⟨rfl, npX9_isHole⟩ (Nat.le_of_ble_eq_true rfl) (Nat.le_refl _) (Nat.le_refl _) rfl (CALLi.mono h (fun v3 S3 _ h => ?_))
      refine AW_if_ne dX9_canSwap_25 rfl (iteM h (fun h => ?_) (fun h => ?_))
      · refine AW_aload_n 0 (n := 0) rfl dX9_canSwap_28 rfl ?_
        refine AW_iload_n 2 (n := 2) rfl dX9_canSwap_29 rfl ?_
        refine AW_iload 4 dX9_canSwap_30 rfl ?_
        refine AW_callVi (M := mX9_canSwap) (pc := 32) (As := [.int x2, .int x4]) (ρ1 := ρ) (st := []) dX9_canSwap_32 mdX9_isHole rfl mlX9_78 imX9_isHole seX9_isHole (rcv_of (q := (RX9, TX9, 10)) (Nat.le_of_ble_eq_true rfl) (okn hρ (Nat.le_of_ble_eq_true rfl)) rfl rfl) ⟨rfl, npX9_isHole⟩ (Nat.le_of_ble_eq_true rfl) (Nat.le_refl _) (Nat.le_refl _) rfl (CALLi.mono h (fun v4 S4 _ h => ?_))
        refine AW_if_ne dX9_canSwap_35 rfl (iteM h (fun h => ?_) (fun h => ?_))
        · refine AW_iconst (v := 1) dX9_canSwap_38 rfl ?_
          refine AW_goto (tgt := 43) dX9_canSwap_39 rfl ?_
          exact AW_retz dX9_canSwap_43 rfl Bz1 h
        · refine AW_iconst (v := 0) dX9_canSwap_42 rfl ?_
          exact AW_retz dX9_canSwap_43 rfl Bz0 h
      · refine AW_iconst (v := 0) dX9_canSwap_42 rfl ?_
        exact AW_retz dX9_canSwap_43 rfl Bz0 h
set_option maxRecDepth 20000 in
theorem eX9_doSwap {g : GX} {Q : St → Prop} {d : Nat} {ρ : Rs} {S : St} (hρ : Ok ρ) {x1 : Int32} {x2 : Int32} {x3 : Int32} {x4 : Int32} (hF : ∀ k ∈ ([21] : List Nat), gF g k) (h : CALLl g d mX3_swapStep [.int x1, .int x2, .int x3, .int x4] ρ ρ S (fun v1 S1 => Q (setL S1 21 7 ((S.2 21 7) + v1)))) : CALLv g (d + 1) mX9_doSwap [.ref 21, .int x1, .int x2, .int x3, .int x4] ρ ρ S Q := by
  refine CALL.of mdX9_doSwap.2.2.2.2 (Nat.le_of_ble_eq_true rfl) (Nat.le_refl _) (Nat.le_refl _) ?_
  show AW g ρ (QV Q) (d + 1) mX9_doSwap 0 [(0, .ref 21), (1, .int x1), (2, .int x2), (3, .int x3), (4, .int x4)] [] ρ S
  refine AW_aload_n 0 (n := 0) rfl dX9_doSwap_0 rfl ?_
  refine AW_dup dX9_doSwap_1 rfl ?_
  refine AW_get dX9_doSwap_2 flX9_44 (Nat.le_of_ble_eq_true rfl) (okn hρ (Nat.le_of_ble_eq_true rfl)) rfl (v := .long (S.2 21 7)) (fun _ => rfl) ?_
  refine AW_iload_n 1 (n := 1) rfl dX9_doSwap_5 rfl ?_
  refine AW_iload_n 2 (n := 2) rfl dX9_doSwap_6 rfl ?_
  refine AW_iload_n 3 (n := 3) rfl dX9_doSwap_7 rfl ?_
  refine AW_iload 4 dX9_doSwap_8 rfl ?_
  refine AW_callSl (M := mX9_doSwap) (pc := 10) (As := [.int x1, .int x2, .int x3, .int x4]) (ρ1 := ρ) (st := [.long (S.2 21 7), .ref 21]) dX9_doSwap_10 mdX3_swapStep mlX9_82 smX3_swapStep ⟨rfl, npX3_swapStep⟩ (Nat.le_of_ble_eq_true rfl) (Nat.le_refl _) (Nat.le_refl _) rfl (CALLl.mono h (fun v1 S1 _ h => ?_))
  refine AW_ladd dX9_doSwap_13 ?_
  refine AW_put dX9_doSwap_14 flX9_44 fp_7_7 (Nat.le_of_ble_eq_true rfl) (okn hρ (Nat.le_of_ble_eq_true rfl)) rfl (fun _ => rfl) (fun _ => rfl) rfl rfl rfl rfl (Fr.setL _ _ _ rfl) (fun _ _ => rfl) (ρ2 := ρ) (S2 := setL S1 21 7 ((S.2 21 7) + v1)) (fun _ => rfl) (fun _ _ _ q1 _ => fvL_o q1) (hF _ (List.mem_of_getElem? (i := 0) rfl)) ?_
  exact AW_retv dX9_doSwap_17 rfl h
set_option maxRecDepth 20000 in
theorem eX9_choose {g : GX} {Q : Int32 → St → Prop} {d : Nat} {ρ : Rs} {S : St} (hρ : Ok ρ) (h : CALLi g d mX0_draw [.ref 25, .int (S.1 21 0)] ρ ρ S (fun v1 S1 => CALLi g d mX0_drawOther [.ref 25, .int (S1.1 21 0), .int v1] ρ ρ S1 (fun v2 S2 => CALLi g d mX0_draw [.ref 25, .int (S2.1 21 1)] ρ ρ S2 (fun v3 S3 => CALLi g d mX0_drawOther [.ref 25, .int (S3.1 21 1), .int v3] ρ ρ S3 (fun v4 S4 => CALLi g d mX9_canSwap [.ref 21, .int v1, .int v2, .int v3, .int v4] ρ ρ S4 (fun v5 S5 => if v5 = 0 then Bz v5 ∧ (Q v5 S5) else CALLv g d mX9_doSwap [.ref 21, .int v1, .int v2, .int v3, .int v4] ρ ρ S5 (fun S6 => Bz v5 ∧ (Q v5 S6)))))))) : CALLi g (d + 1) mX9_choose [.ref 21, .ref 25] ρ ρ S Q := by
  refine CALL.of mdX9_choose.2.2.2.2 (Nat.le_of_ble_eq_true rfl) (Nat.le_refl _) (Nat.le_refl _) ?_
  show AW g ρ (QI Q) (d + 1) mX9_choose 0 [(0, .ref 21), (1, .ref 25)] [] ρ S
  refine AW_aload_n 1 (n := 1) rfl dX9_choose_0 rfl ?_
  refine AW_aload_n 0 (n := 0) rfl dX9_choose_1 rfl ?_
  refine AW_get dX9_choose_2 flX9_28 (Nat.le_of_ble_eq_true rfl) (okn hρ (Nat.le_of_ble_eq_true rfl)) rfl (v := .int (S.1 21 0)) (fun _ => rfl) ?_
  refine AW_callVi (M := mX9_choose) (pc := 5) (As := [.int (S.1 21 0)]) (ρ1 := ρ) (st := []) dX9_choose_5 mdX0_draw rfl mlX9_86 imX0_draw seX0_draw (rcv_of (q := (RX0, TX0, 1)) (Nat.le_of_ble_eq_true rfl) (okn hρ (Nat.le_of_ble_eq_true rfl)) rfl rfl) ⟨rfl, npX0_draw⟩ (Nat.le_of_ble_eq_true rfl) (Nat.le_refl _) (Nat.le_refl _) rfl (CALLi.mono h (fun v1 S1 _ h => ?_))
  refine AW_istore_n (n := 2) (i := 2) rfl dX9_choose_8 (Nat.le_of_ble_eq_true rfl) rfl ?_
  refine AW_aload_n 2 (n := 1) rfl dX9_choose_9 rfl ?_
  refine AW_aload_n 1 (n := 0) rfl dX9_choose_10 rfl ?_
  refine AW_get dX9_choose_11 flX9_28 (Nat.le_of_ble_eq_true rfl) (okn hρ (Nat.le_of_ble_eq_true rfl)) rfl (v := .int (S1.1 21 0)) (fun _ => rfl) ?_
  refine AW_iload_n 0 (n := 2) rfl dX9_choose_14 rfl ?_
  refine AW_callVi (M := mX9_choose) (pc := 15) (As := [.int (S1.1 21 0), .int v1]) (ρ1 := ρ) (st := []) dX9_choose_15 mdX0_drawOther rfl mlX9_92 imX0_drawOther seX0_drawOther (rcv_of (q := (RX0, TX0, 1)) (Nat.le_of_ble_eq_true rfl) (okn hρ (Nat.le_of_ble_eq_true rfl)) rfl rfl) ⟨rfl, npX0_drawOther⟩ (Nat.le_of_ble_eq_true rfl) (Nat.le_refl _) (Nat.le_refl _) rfl (CALLi.mono h (fun v2 S2 _ h => ?_))
  refine AW_istore_n (n := 3) (i := 3) rfl dX9_choose_18 (Nat.le_of_ble_eq_true rfl) rfl ?_
  refine AW_aload_n 3 (n := 1) rfl dX9_choose_19 rfl ?_
  refine AW_aload_n 2 (n := 0) rfl dX9_choose_20 rfl ?_
  refine AW_get dX9_choose_21 flX9_32 (Nat.le_of_ble_eq_true rfl) (okn hρ (Nat.le_of_ble_eq_true rfl)) rfl (v := .int (S2.1 21 1)) (fun _ => rfl) ?_
  refine AW_callVi (M := mX9_choose) (pc := 24) (As := [.int (S2.1 21 1)]) (ρ1 := ρ) (st := []) dX9_choose_24 mdX0_draw rfl mlX9_86 imX0_draw seX0_draw (rcv_of (q := (RX0, TX0, 1)) (Nat.le_of_ble_eq_true rfl) (okn hρ (Nat.le_of_ble_eq_true rfl)) rfl rfl) ⟨rfl, npX0_draw⟩ (Nat.le_of_ble_eq_true rfl) (Nat.le_refl _) (Nat.le_refl _) rfl (CALLi.mono h (fun v3 S3 _ h => ?_))
  refine AW_istore dX9_choose_27 (Nat.le_of_ble_eq_true rfl) rfl ?_
  refine AW_aload_n 4 (n := 1) rfl dX9_choose_29 rfl ?_
  refine AW_aload_n 3 (n := 0) rfl dX9_choose_30 rfl ?_
  refine AW_get dX9_choose_31 flX9_32 (Nat.le_of_ble_eq_true rfl) (okn hρ (Nat.le_of_ble_eq_true rfl)) rfl (v := .int (S3.1 21 1)) (fun _ => rfl) ?_
  refine AW_iload 0 dX9_choose_34 rfl ?_
  refine AW_callVi (M := mX9_choose) (pc := 36) (As := [.int (S3.1 21 1), .int v3]) (ρ1 := ρ) (st := []) dX9_choose_36 mdX0_drawOther rfl mlX9_92 imX0_drawOther seX0_drawOther (rcv_of (q := (RX0, TX0, 1)) (Nat.le_of_ble_eq_true rfl) (okn hρ (Nat.le_of_ble_eq_true rfl)) rfl rfl) ⟨rfl, npX0_drawOther⟩ (Nat.le_of_ble_eq_true rfl) (Nat.le_refl _) (Nat.le_refl _) rfl (CALLi.mono h (fun v4 S4 _ h => ?_))
  refine AW_istore dX9_choose_39 (Nat.le_of_ble_eq_true rfl) rfl ?_
  refine AW_aload_n 4 (n := 0) rfl dX9_choose_41 rfl ?_
  refine AW_iload_n 3 (n := 2) rfl dX9_choose_42 rfl ?_
  refine AW_iload_n 2 (n := 3) rfl dX9_choose_43 rfl ?_
  refine AW_iload 1 dX9_choose_44 rfl ?_
  refine AW_iload 0 dX9_choose_46 rfl ?_
  refine AW_callVi (M := mX9_choose) (pc := 48) (As := [.int v1, .int v2, .int v3, .int v4]) (ρ1 := ρ) (st := []) dX9_choose_48 mdX9_canSwap rfl mlX9_95 imX9_canSwap seX9_canSwap (rcv_of (q := (RX9, TX9, 10)) (Nat.le_of_ble_eq_true rfl) (okn hρ (Nat.le_of_ble_eq_true rfl)) rfl rfl) ⟨rfl, npX9_canSwap⟩ (Nat.le_of_ble_eq_true rfl) (Nat.le_refl _) (Nat.le_refl _) rfl (CALLi.mono h (fun v5 S5 _ h => ?_))
  refine AW_istore dX9_choose_51 (Nat.le_of_ble_eq_true rfl) rfl ?_
  refine AW_iload 0 dX9_choose_53 rfl ?_
  refine AW_if_eq dX9_choose_55 rfl (iteM h (fun h => ?_) (fun h => ?_))
  · refine AW_iload 0 dX9_choose_68 rfl ?_
    exact AW_retz dX9_choose_70 rfl h.1 h.2
  · refine AW_aload_n 5 (n := 0) rfl dX9_choose_58 rfl ?_
    refine AW_iload_n 4 (n := 2) rfl dX9_choose_59 rfl ?_
    refine AW_iload_n 3 (n := 3) rfl dX9_choose_60 rfl ?_
    refine AW_iload 2 dX9_choose_61 rfl ?_
    refine AW_iload 1 dX9_choose_63 rfl ?_
    refine AW_callVv (M := mX9_choose) (pc := 65) (As := [.int v1, .int v2, .int v3, .int v4]) (ρ1 := ρ) (st := []) dX9_choose_65 mdX9_doSwap rfl mlX9_99 imX9_doSwap seX9_doSwap (rcv_of (q := (RX9, TX9, 10)) (Nat.le_of_ble_eq_true rfl) (okn hρ (Nat.le_of_ble_eq_true rfl)) rfl rfl) ⟨rfl, npX9_doSwap⟩ (Nat.le_of_ble_eq_true rfl) (Nat.le_refl _) (Nat.le_refl _) rfl (CALLv.mono h (fun S6 _ h => ?_))
    refine AW_iload 0 dX9_choose_68 rfl ?_
    exact AW_retz dX9_choose_70 rfl h.1 h.2
set_option maxRecDepth 20000 in
theorem eX9_product {g : GX} {Q : Int32 → St → Prop} {d : Nat} {ρ : Rs} {S : St} (hρ : Ok ρ) {x1 : Int32} {x2 : Int32} (h : vp_in x1 4 ∧ (vp_in x2 4 ∧ (Q ((S.1 22 x1.toNatClampNeg) * (S.1 23 x2.toNatClampNeg)) S))) : CALLi g (d + 2) mX9_product [.ref 21, .int x1, .int x2] ρ ρ S Q := by
  refine CALL.of mdX9_product.2.2.2.2 (Nat.le_of_ble_eq_true rfl) (Nat.le_refl _) (Nat.le_refl _) ?_
  show AW g ρ (QI Q) (d + 2) mX9_product 0 [(0, .ref 21), (1, .int x1), (2, .int x2)] [] ρ S
  refine AW_aload_n 0 (n := 0) rfl dX9_product_0 rfl ?_
  refine AW_iload_n 1 (n := 1) rfl dX9_product_1 rfl ?_
  refine AW_callVi (M := mX9_product) (pc := 2) (As := [.int x1]) (ρ1 := ρ) (st := []) dX9_product_2 mdX9_rowSum rfl mlX9_103 imX9_rowSum seX9_rowSum (rcv_of (q := (RX9, TX9, 10)) (Nat.le_of_ble_eq_true rfl) (okn hρ (Nat.le_of_ble_eq_true rfl)) rfl rfl) ⟨rfl, npX9_rowSum⟩ (Nat.le_of_ble_eq_true rfl) (Nat.le_refl _) (Nat.le_refl _) rfl (iX9_rowSum hρ h.1 (v := (S.1 22 x1.toNatClampNeg)) rfl ?_)
  replace h := h.2
  refine AW_aload_n 0 (n := 0) rfl dX9_product_5 rfl ?_
  refine AW_iload_n 2 (n := 2) rfl dX9_product_6 rfl ?_
  refine AW_callVi (M := mX9_product) (pc := 7) (As := [.int x2]) (ρ1 := ρ) (st := [.int (S.1 22 x1.toNatClampNeg)]) dX9_product_7 mdX9_columnSum rfl mlX9_106 imX9_columnSum seX9_columnSum (rcv_of (q := (RX9, TX9, 10)) (Nat.le_of_ble_eq_true rfl) (okn hρ (Nat.le_of_ble_eq_true rfl)) rfl rfl) ⟨rfl, npX9_columnSum⟩ (Nat.le_of_ble_eq_true rfl) (Nat.le_refl _) (Nat.le_refl _) rfl (iX9_columnSum hρ h.1 (v := (S.1 23 x2.toNatClampNeg)) rfl ?_)
  replace h := h.2
  refine AW_imul dX9_product_10 ?_
  exact AW_reti dX9_product_11 rfl h
set_option maxRecDepth 20000 in
theorem eX9_over {g : GX} {Q : UInt32 → St → Prop} {d : Nat} {ρ : Rs} {S : St} (hρ : Ok ρ) {x1 : Int32} {x2 : Int32} (h : if 0 < (S.1 21 3) then CALLi g d mX9_product [.ref 21, .int x1, .int x2] ρ ρ S (fun v1 S1 => vf_n32 (FP.fdiv (FP.i2f v1) (FP.i2f (S1.1 21 3))) ∧ (CALLi g d mX9_at [.ref 21, .int x1, .int x2] ρ ρ S1 (fun v2 S2 => vf_n32 (FP.fsub (FP.i2f v2) (FP.fdiv (FP.i2f v1) (FP.i2f (S1.1 21 3)))) ∧ (Q (FP.fsub (FP.i2f v2) (FP.fdiv (FP.i2f v1) (FP.i2f (S1.1 21 3)))) S2)))) else CALLi g d mX9_at [.ref 21, .int x1, .int x2] ρ ρ S (fun v3 S3 => vf_n32 (FP.fsub (FP.i2f v3) FP.fconst0) ∧ (Q (FP.fsub (FP.i2f v3) FP.fconst0) S3))) : CALLf g (d + 1) mX9_over [.ref 21, .int x1, .int x2] ρ ρ S Q := by
  refine CALL.of mdX9_over.2.2.2.2 (Nat.le_of_ble_eq_true rfl) (Nat.le_refl _) (Nat.le_refl _) ?_
  show AW g ρ (QF Q) (d + 1) mX9_over 0 [(0, .ref 21), (1, .int x1), (2, .int x2)] [] ρ S
  refine AW_aload_n 0 (n := 0) rfl dX9_over_0 rfl ?_
  refine AW_get dX9_over_1 flX9_41 (Nat.le_of_ble_eq_true rfl) (okn hρ (Nat.le_of_ble_eq_true rfl)) rfl (v := .int (S.1 21 3)) (fun _ => rfl) ?_
  refine AW_if_gt dX9_over_4 rfl (iteM h (fun h => ?_) (fun h => ?_))
  · refine AW_aload_n 0 (n := 0) rfl dX9_over_11 rfl ?_
    refine AW_iload_n 1 (n := 1) rfl dX9_over_12 rfl ?_
    refine AW_iload_n 2 (n := 2) rfl dX9_over_13 rfl ?_
    refine AW_callVi (M := mX9_over) (pc := 14) (As := [.int x1, .int x2]) (ρ1 := ρ) (st := []) dX9_over_14 mdX9_product rfl mlX9_109 imX9_product seX9_product (rcv_of (q := (RX9, TX9, 10)) (Nat.le_of_ble_eq_true rfl) (okn hρ (Nat.le_of_ble_eq_true rfl)) rfl rfl) ⟨rfl, npX9_product⟩ (Nat.le_of_ble_eq_true rfl) (Nat.le_refl _) (Nat.le_refl _) rfl (CALLi.mono h (fun v1 S1 _ h => ?_))
    refine AW_i2f dX9_over_17 ?_
    refine AW_aload_n 0 (n := 0) rfl dX9_over_18 rfl ?_
    refine AW_get dX9_over_19 flX9_41 (Nat.le_of_ble_eq_true rfl) (okn hρ (Nat.le_of_ble_eq_true rfl)) rfl (v := .int (S1.1 21 3)) (fun _ => rfl) ?_
    refine AW_i2f dX9_over_22 ?_
    refine AW_fdiv dX9_over_23 h.1 ?_
    replace h := h.2
    refine AW_fstore_n (n := 3) (i := 3) rfl dX9_over_24 (Nat.le_of_ble_eq_true rfl) rfl ?_
    refine AW_aload_n 1 (n := 0) rfl dX9_over_25 rfl ?_
    refine AW_iload_n 2 (n := 1) rfl dX9_over_26 rfl ?_
    refine AW_iload_n 3 (n := 2) rfl dX9_over_27 rfl ?_
    refine AW_callVi (M := mX9_over) (pc := 28) (As := [.int x1, .int x2]) (ρ1 := ρ) (st := []) dX9_over_28 mdX9_at rfl mlX9_75 imX9_at seX9_at (rcv_of (q := (RX9, TX9, 10)) (Nat.le_of_ble_eq_true rfl) (okn hρ (Nat.le_of_ble_eq_true rfl)) rfl rfl) ⟨rfl, npX9_at⟩ (Nat.le_of_ble_eq_true rfl) (Nat.le_refl _) (Nat.le_refl _) rfl (CALLi.mono h (fun v2 S2 _ h => ?_))
    refine AW_i2f dX9_over_31 ?_
    refine AW_fload_n 0 (n := 3) rfl dX9_over_32 rfl ?_
    refine AW_fsub dX9_over_33 h.1 ?_
    replace h := h.2
    exact AW_retf dX9_over_34 rfl h
  · refine AW_fconst0 dX9_over_7 ?_
    refine AW_goto (tgt := 24) dX9_over_8 rfl ?_
    refine AW_fstore_n (n := 3) (i := 3) rfl dX9_over_24 (Nat.le_of_ble_eq_true rfl) rfl ?_
    refine AW_aload_n 1 (n := 0) rfl dX9_over_25 rfl ?_
    refine AW_iload_n 2 (n := 1) rfl dX9_over_26 rfl ?_
    refine AW_iload_n 3 (n := 2) rfl dX9_over_27 rfl ?_
    refine AW_callVi (M := mX9_over) (pc := 28) (As := [.int x1, .int x2]) (ρ1 := ρ) (st := []) dX9_over_28 mdX9_at rfl mlX9_75 imX9_at seX9_at (rcv_of (q := (RX9, TX9, 10)) (Nat.le_of_ble_eq_true rfl) (okn hρ (Nat.le_of_ble_eq_true rfl)) rfl rfl) ⟨rfl, npX9_at⟩ (Nat.le_of_ble_eq_true rfl) (Nat.le_refl _) (Nat.le_refl _) rfl (CALLi.mono h (fun v3 S3 _ h => ?_))
    refine AW_i2f dX9_over_31 ?_
    refine AW_fload_n 0 (n := 3) rfl dX9_over_32 rfl ?_
    refine AW_fsub dX9_over_33 h.1 ?_
    replace h := h.2
    exact AW_retf dX9_over_34 rfl h
set_option maxRecDepth 20000 in
theorem eX9_chiSum_49 {g : GX} {Q : UInt64 → St → Prop} {d : Nat} {ρ : Rs} {S : St} (hρ : Ok ρ) {x1 : UInt64} {x3 : Int32} {x4 : Int32} {s0 : UInt64} (h : if (Op.cmpValue (FP.dcmp s0 FP.dconst0) .l) ≤ 0 then AW g ρ (QD Q) (d + 1) mX9_chiSum 15 [(0, .ref 21), (1, .double x1), (3, .int x3), (4, .int (x4 + 1))] [] ρ S else CALLi g d mX9_at [.ref 21, .int x3, .int x4] ρ ρ S (fun v1 S1 => vf_n64 (FP.dsub (FP.i2d v1) s0) ∧ (vf_n64 (FP.dmul (FP.dsub (FP.i2d v1) s0) (FP.dsub (FP.i2d v1) s0)) ∧ (vf_n64 (FP.ddiv (FP.dmul (FP.dsub (FP.i2d v1) s0) (FP.dsub (FP.i2d v1) s0)) s0) ∧ (vf_n64 (FP.dadd x1 (FP.ddiv (FP.dmul (FP.dsub (FP.i2d v1) s0) (FP.dsub (FP.i2d v1) s0)) s0)) ∧ (AW g ρ (QD Q) (d + 1) mX9_chiSum 15 [(0, .ref 21), (1, .double (FP.dadd x1 (FP.ddiv (FP.dmul (FP.dsub (FP.i2d v1) s0) (FP.dsub (FP.i2d v1) s0)) s0))), (3, .int x3), (4, .int (x4 + 1))] [] ρ S1)))))) : AW g ρ (QD Q) (d + 1) mX9_chiSum 49 [(0, .ref 21), (1, .double x1), (3, .int x3), (4, .int x4)] [.double s0] ρ S := by
  refine AW_dstore dX9_chiSum_49 (Nat.le_of_ble_eq_true rfl) rfl ?_
  refine AW_dload 0 dX9_chiSum_51 rfl ?_
  refine AW_dconst0 dX9_chiSum_53 ?_
  refine AW_dcmp dX9_chiSum_54 ?_
  refine AW_if_le dX9_chiSum_55 rfl (iteM h (fun h => ?_) (fun h => ?_))
  · refine AW_iinc 4 (v := x4 + 1) dX9_chiSum_82 rfl rfl (Nat.le_of_ble_eq_true rfl) rfl ?_
    refine AW_goto (tgt := 15) dX9_chiSum_85 rfl ?_
    exact AW.sub [2, 3, 4, 0] rfl h
  · refine AW_aload_n 1 (n := 0) rfl dX9_chiSum_58 rfl ?_
    refine AW_iload_n 3 (n := 3) rfl dX9_chiSum_59 rfl ?_
    refine AW_iload 4 dX9_chiSum_60 rfl ?_
    refine AW_callVi (M := mX9_chiSum) (pc := 62) (As := [.int x3, .int x4]) (ρ1 := ρ) (st := []) dX9_chiSum_62 mdX9_at rfl mlX9_75 imX9_at seX9_at (rcv_of (q := (RX9, TX9, 10)) (Nat.le_of_ble_eq_true rfl) (okn hρ (Nat.le_of_ble_eq_true rfl)) rfl rfl) ⟨rfl, npX9_at⟩ (Nat.le_of_ble_eq_true rfl) (Nat.le_refl _) (Nat.le_refl _) rfl (CALLi.mono h (fun v1 S1 _ h => ?_))
    refine AW_i2d dX9_chiSum_65 ?_
    refine AW_dload 0 dX9_chiSum_66 rfl ?_
    refine AW_dsub dX9_chiSum_68 h.1 ?_
    replace h := h.2
    refine AW_dstore dX9_chiSum_69 (Nat.le_of_ble_eq_true rfl) rfl ?_
    refine AW_dload_n 3 (n := 1) rfl dX9_chiSum_71 rfl ?_
    refine AW_dload 0 dX9_chiSum_72 rfl ?_
    refine AW_dload 0 dX9_chiSum_74 rfl ?_
    refine AW_dmul dX9_chiSum_76 h.1 ?_
    replace h := h.2
    refine AW_dload 1 dX9_chiSum_77 rfl ?_
    refine AW_ddiv dX9_chiSum_79 h.1 ?_
    replace h := h.2
    refine AW_dadd dX9_chiSum_80 h.1 ?_
    replace h := h.2
    refine AW_dstore_n (n := 1) (i := 1) rfl dX9_chiSum_81 (Nat.le_of_ble_eq_true rfl) rfl ?_
    refine AW_iinc 5 (v := x4 + 1) dX9_chiSum_82 rfl rfl (Nat.le_of_ble_eq_true rfl) rfl ?_
    refine AW_goto (tgt := 15) dX9_chiSum_85 rfl ?_
    exact AW.sub [4, 1, 5, 0] rfl h
set_option maxRecDepth 20000 in
theorem eX9_chiSum_15 {g : GX} {Q : UInt64 → St → Prop} {d : Nat} {ρ : Rs} {S : St} (hρ : Ok ρ) {x1 : UInt64} {x3 : Int32} {x4 : Int32} (h : if (S.1 21 1) ≤ x4 then AW g ρ (QD Q) (d + 1) mX9_chiSum 4 [(0, .ref 21), (1, .double x1), (3, .int (x3 + 1))] [] ρ S else if 0 < (S.1 21 3) then CALLi g d mX9_product [.ref 21, .int x3, .int x4] ρ ρ S (fun v1 S1 => vf_n64 (FP.ddiv (FP.i2d v1) (FP.i2d (S1.1 21 3))) ∧ (AW g ρ (QD Q) (d + 1) mX9_chiSum 49 [(0, .ref 21), (1, .double x1), (3, .int x3), (4, .int x4)] [.double (FP.ddiv (FP.i2d v1) (FP.i2d (S1.1 21 3)))] ρ S1)) else AW g ρ (QD Q) (d + 1) mX9_chiSum 49 [(0, .ref 21), (1, .double x1), (3, .int x3), (4, .int x4)] [.double FP.dconst0] ρ S) : AW g ρ (QD Q) (d + 1) mX9_chiSum 15 [(0, .ref 21), (1, .double x1), (3, .int x3), (4, .int x4)] [] ρ S := by
  refine AW_iload 3 dX9_chiSum_15 rfl ?_
  refine AW_aload_n 0 (n := 0) rfl dX9_chiSum_17 rfl ?_
  refine AW_get dX9_chiSum_18 flX9_32 (Nat.le_of_ble_eq_true rfl) (okn hρ (Nat.le_of_ble_eq_true rfl)) rfl (v := .int (S.1 21 1)) (fun _ => rfl) ?_
  refine AW_icmp_ge dX9_chiSum_21 rfl (iteM h (fun h => ?_) (fun h => ?_))
  · refine AW_iinc 2 (v := x3 + 1) dX9_chiSum_88 rfl rfl (Nat.le_of_ble_eq_true rfl) rfl ?_
    refine AW_goto (tgt := 4) dX9_chiSum_91 rfl ?_
    exact AW.sub [1, 2, 0] rfl h
  · refine AW_aload_n 0 (n := 0) rfl dX9_chiSum_24 rfl ?_
    refine AW_get dX9_chiSum_25 flX9_41 (Nat.le_of_ble_eq_true rfl) (okn hρ (Nat.le_of_ble_eq_true rfl)) rfl (v := .int (S.1 21 3)) (fun _ => rfl) ?_
    refine AW_if_gt dX9_chiSum_28 rfl (iteM h (fun h => ?_) (fun h => ?_))
    · refine AW_aload_n 0 (n := 0) rfl dX9_chiSum_35 rfl ?_
      refine AW_iload_n 2 (n := 3) rfl dX9_chiSum_36 rfl ?_
      refine AW_iload 3 dX9_chiSum_37 rfl ?_
      refine AW_callVi (M := mX9_chiSum) (pc := 39) (As := [.int x3, .int x4]) (ρ1 := ρ) (st := []) dX9_chiSum_39 mdX9_product rfl mlX9_109 imX9_product seX9_product (rcv_of (q := (RX9, TX9, 10)) (Nat.le_of_ble_eq_true rfl) (okn hρ (Nat.le_of_ble_eq_true rfl)) rfl rfl) ⟨rfl, npX9_product⟩ (Nat.le_of_ble_eq_true rfl) (Nat.le_refl _) (Nat.le_refl _) rfl (CALLi.mono h (fun v1 S1 _ h => ?_))
      refine AW_i2d dX9_chiSum_42 ?_
      refine AW_aload_n 0 (n := 0) rfl dX9_chiSum_43 rfl ?_
      refine AW_get dX9_chiSum_44 flX9_41 (Nat.le_of_ble_eq_true rfl) (okn hρ (Nat.le_of_ble_eq_true rfl)) rfl (v := .int (S1.1 21 3)) (fun _ => rfl) ?_
      refine AW_i2d dX9_chiSum_47 ?_
      refine AW_ddiv dX9_chiSum_48 h.1 ?_
      replace h := h.2
      exact AW.sub [0, 1, 2, 3] rfl h
    · refine AW_dconst0 dX9_chiSum_31 ?_
      refine AW_goto (tgt := 49) dX9_chiSum_32 rfl ?_
      exact AW.sub [0, 1, 2, 3] rfl h
set_option maxRecDepth 20000 in
theorem eX9_chiSum_4 {g : GX} {Q : UInt64 → St → Prop} {d : Nat} {ρ : Rs} {S : St} (hρ : Ok ρ) {x1 : UInt64} {x3 : Int32} (h : if (S.1 21 0) ≤ x3 then Q x1 S else AW g ρ (QD Q) (d + 1) mX9_chiSum 15 [(0, .ref 21), (1, .double x1), (3, .int x3), (4, .int 0)] [] ρ S) : AW g ρ (QD Q) (d + 1) mX9_chiSum 4 [(0, .ref 21), (1, .double x1), (3, .int x3)] [] ρ S := by
  refine AW_iload_n 2 (n := 3) rfl dX9_chiSum_4 rfl ?_
  refine AW_aload_n 0 (n := 0) rfl dX9_chiSum_5 rfl ?_
  refine AW_get dX9_chiSum_6 flX9_28 (Nat.le_of_ble_eq_true rfl) (okn hρ (Nat.le_of_ble_eq_true rfl)) rfl (v := .int (S.1 21 0)) (fun _ => rfl) ?_
  refine AW_icmp_ge dX9_chiSum_9 rfl (iteM h (fun h => ?_) (fun h => ?_))
  · refine AW_dload_n 1 (n := 1) rfl dX9_chiSum_94 rfl ?_
    exact AW_retd dX9_chiSum_95 rfl h
  · refine AW_iconst (v := 0) dX9_chiSum_12 rfl ?_
    refine AW_istore dX9_chiSum_13 (Nat.le_of_ble_eq_true rfl) rfl ?_
    exact AW.sub [1, 2, 3, 0] rfl h
set_option maxRecDepth 20000 in
theorem eX9_chiSum {g : GX} {Q : UInt64 → St → Prop} {d : Nat} {ρ : Rs} {S : St} (hρ : Ok ρ) (h : AW g ρ (QD Q) (d + 1) mX9_chiSum 4 [(0, .ref 21), (1, .double FP.dconst0), (3, .int 0)] [] ρ S) : CALLd g (d + 1) mX9_chiSum [.ref 21] ρ ρ S Q := by
  refine CALL.of mdX9_chiSum.2.2.2.2 (Nat.le_of_ble_eq_true rfl) (Nat.le_refl _) (Nat.le_refl _) ?_
  show AW g ρ (QD Q) (d + 1) mX9_chiSum 0 [(0, .ref 21)] [] ρ S
  refine AW_dconst0 dX9_chiSum_0 ?_
  refine AW_dstore_n (n := 1) (i := 1) rfl dX9_chiSum_1 (Nat.le_of_ble_eq_true rfl) rfl ?_
  refine AW_iconst (v := 0) dX9_chiSum_2 rfl ?_
  refine AW_istore_n (n := 3) (i := 3) rfl dX9_chiSum_3 (Nat.le_of_ble_eq_true rfl) rfl ?_
  exact AW.sub [2, 1, 0] rfl h
