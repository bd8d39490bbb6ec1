set_option maxRecDepth 20000 in
theorem eX8_read_101 {g : GX} {Q : Int32 → St → Prop} {d : Nat} {ρ : Rs} {S : St} (hρ : Ok ρ) {x2 : Int32} (h : if (16 : Int32) < x2 then Q 1 S else if (S.1 19 8) = 0 then Q 1 S else CALLi g d mX8_readHole [.ref 19, .ref 17] ρ ρ S (fun v1 S1 => if v1 = 0 then Q 0 S1 else AW g ρ (QI Q) (d + 1) mX8_read 101 [(0, .ref 19), (1, .ref 17), (2, .int (x2 + 1))] [] ρ S1)) : AW g ρ (QI Q) (d + 1) mX8_read 101 [(0, .ref 19), (1, .ref 17), (2, .int x2)] [] ρ S := by
  refine AW_iload_n 2 (n := 2) rfl dX8_read_101 rfl ?_
  refine AW_bipush (v := 16) dX8_read_102 rfl ?_
  refine AW_icmp_gt dX8_read_104 rfl (iteM h (fun h => ?_) (fun h => ?_))
  · refine AW_iconst (v := 1) dX8_read_130 rfl ?_
    exact AW_retz dX8_read_131 rfl Bz1 h
  · refine AW_aload_n 0 (n := 0) rfl dX8_read_107 rfl ?_
    refine AW_get dX8_read_108 flX8_50 (Nat.le_of_ble_eq_true rfl) (okn hρ (Nat.le_of_ble_eq_true rfl)) rfl (v := .int (S.1 19 8)) (fun _ => rfl) ?_
    refine AW_if_eq dX8_read_111 rfl (iteM h (fun h => ?_) (fun h => ?_))
    · refine AW_iconst (v := 1) dX8_read_130 rfl ?_
      exact AW_retz dX8_read_131 rfl Bz1 h
    · refine AW_aload_n 0 (n := 0) rfl dX8_read_114 rfl ?_
      refine AW_aload_n 1 (n := 1) rfl dX8_read_115 rfl ?_
      refine AW_callVi (M := mX8_read) (pc := 116) (As := [.ref 17]) (ρ1 := ρ) (st := []) dX8_read_116 mdX8_readHole rfl mlX8_61 imX8_readHole seX8_readHole (rcv_of (q := (RX8, TX8, 12)) (Nat.le_of_ble_eq_true rfl) (okn hρ (Nat.le_of_ble_eq_true rfl)) rfl rfl) ⟨rfl, npX8_readHole⟩ (Nat.le_of_ble_eq_true rfl) (Nat.le_refl _) (Nat.le_refl _) rfl (CALLi.mono h (fun v1 S1 _ h => ?_))
      refine AW_if_ne dX8_read_119 rfl (iteM h (fun h => ?_) (fun h => ?_))
      · refine AW_iconst (v := 0) dX8_read_122 rfl ?_
        exact AW_retz dX8_read_123 rfl Bz0 h
      · refine AW_iinc 2 (v := x2 + 1) dX8_read_124 rfl rfl (Nat.le_of_ble_eq_true rfl) rfl ?_
        refine AW_goto (tgt := 101) dX8_read_127 rfl ?_
        exact AW.sub [1, 2, 0] rfl h
set_option maxRecDepth 20000 in
theorem eX8_read_74 {g : GX} {Q : Int32 → St → Prop} {d : Nat} {ρ : Rs} {S : St} (hρ : Ok ρ) {x2 : Int32} (h : if (S.1 19 2) ≤ x2 then AW g ρ (QI Q) (d + 1) mX8_read 101 [(0, .ref 19), (1, .ref 17), (2, .int 0)] [] ρ S else CALLi g d mX8_readCounts [.ref 19, .ref 17, .int x2] ρ ρ S (fun v1 S1 => if v1 = 0 then Q 0 S1 else AW g ρ (QI Q) (d + 1) mX8_read 74 [(0, .ref 19), (1, .ref 17), (2, .int (x2 + 1))] [] ρ S1)) : AW g ρ (QI Q) (d + 1) mX8_read 74 [(0, .ref 19), (1, .ref 17), (2, .int x2)] [] ρ S := by
  refine AW_iload_n 2 (n := 2) rfl dX8_read_74 rfl ?_
  refine AW_aload_n 0 (n := 0) rfl dX8_read_75 rfl ?_
  refine AW_get dX8_read_76 flX8_22 (Nat.le_of_ble_eq_true rfl) (okn hρ (Nat.le_of_ble_eq_true rfl)) rfl (v := .int (S.1 19 2)) (fun _ => rfl) ?_
  refine AW_icmp_ge dX8_read_79 rfl (iteM h (fun h => ?_) (fun h => ?_))
  · refine AW_iconst (v := 0) dX8_read_99 rfl ?_
    refine AW_istore_n (n := 2) (i := 2) rfl dX8_read_100 (Nat.le_of_ble_eq_true rfl) rfl ?_
    exact AW.sub [1, 2, 0] rfl h
  · refine AW_aload_n 0 (n := 0) rfl dX8_read_82 rfl ?_
    refine AW_aload_n 1 (n := 1) rfl dX8_read_83 rfl ?_
    refine AW_iload_n 2 (n := 2) rfl dX8_read_84 rfl ?_
    refine AW_callVi (M := mX8_read) (pc := 85) (As := [.ref 17, .int x2]) (ρ1 := ρ) (st := []) dX8_read_85 mdX8_readCounts rfl mlX8_57 imX8_readCounts seX8_readCounts (rcv_of (q := (RX8, TX8, 12)) (Nat.le_of_ble_eq_true rfl) (okn hρ (Nat.le_of_ble_eq_true rfl)) rfl rfl) ⟨rfl, npX8_readCounts⟩ (Nat.le_of_ble_eq_true rfl) (Nat.le_refl _) (Nat.le_refl _) rfl (CALLi.mono h (fun v1 S1 _ h => ?_))
    refine AW_if_ne dX8_read_88 rfl (iteM h (fun h => ?_) (fun h => ?_))
    · refine AW_iconst (v := 0) dX8_read_91 rfl ?_
      exact AW_retz dX8_read_92 rfl Bz0 h
    · refine AW_iinc 2 (v := x2 + 1) dX8_read_93 rfl rfl (Nat.le_of_ble_eq_true rfl) rfl ?_
      refine AW_goto (tgt := 74) dX8_read_96 rfl ?_
      exact AW.sub [1, 2, 0] rfl h
set_option maxRecDepth 20000 in
theorem eX8_read {g : GX} {Q : Int32 → St → Prop} {d : Nat} {ρ : Rs} {S : St} (hρ : Ok ρ) (hF : ∀ k ∈ ([19] : List Nat), gF g k) (h : CALLv g d mJ7_fill_53178 [.ref 20, .int 0] ρ ρ (setI (setI (setI (setI (setI (setI (setI (setI S 19 0 0) 19 1 (-1)) 19 2 0) 19 3 0) 19 4 0) 19 5 0) 19 7 0) 19 10 0) (fun S1 => CALLv g d mX8_advance [.ref 19, .ref 17] ρ ρ S1 (fun S2 => if (S2.1 19 8) = 0 then Q 1 S2 else CALLi g d mX8_readSizes [.ref 19, .ref 17] ρ ρ S2 (fun v3 S3 => if v3 = 0 then Q 0 S3 else AW g ρ (QI Q) (d + 1) mX8_read 74 [(0, .ref 19), (1, .ref 17), (2, .int 0)] [] ρ S3)))) : CALLi g (d + 1) mX8_read [.ref 19, .ref 17] ρ ρ S Q := by
  refine CALL.of mdX8_read.2.2.2.2 (Nat.le_of_ble_eq_true rfl) (Nat.le_refl _) (Nat.le_refl _) ?_
  show AW g ρ (QI Q) (d + 1) mX8_read 0 [(0, .ref 19), (1, .ref 17)] [] ρ S
  refine AW_aload_n 0 (n := 0) rfl dX8_read_0 rfl ?_
  refine AW_iconst (v := 0) dX8_read_1 rfl ?_
  refine AW_put dX8_read_2 flX8_19 fp_6_0 (Nat.le_of_ble_eq_true rfl) (okn hρ (Nat.le_of_ble_eq_true rfl)) rfl (fun _ => rfl) (fun _ => rfl) rfl rfl rfl rfl (Fr.setI _ _ _ rfl) (fun _ _ => rfl) (ρ2 := ρ) (S2 := setI S 19 0 0) (fun _ => rfl) (fun _ _ _ q1 _ => fvI_o q1) (hF _ (List.mem_of_getElem? (i := 0) rfl)) ?_
  refine AW_aload_n 0 (n := 0) rfl dX8_read_5 rfl ?_
  refine AW_iconst (v := (-1)) dX8_read_6 rfl ?_
  refine AW_put dX8_read_7 flX8_9 fp_6_1 (Nat.le_of_ble_eq_true rfl) (okn hρ (Nat.le_of_ble_eq_true rfl)) rfl (fun _ => rfl) (fun _ => rfl) rfl rfl rfl rfl (Fr.setI _ _ _ rfl) (fun _ _ => rfl) (ρ2 := ρ) (S2 := setI (setI S 19 0 0) 19 1 (-1)) (fun _ => rfl) (fun _ _ _ q1 _ => fvI_o q1) (hF _ (List.mem_of_getElem? (i := 0) rfl)) ?_
  refine AW_aload_n 0 (n := 0) rfl dX8_read_10 rfl ?_
  refine AW_iconst (v := 0) dX8_read_11 rfl ?_
  refine AW_put dX8_read_12 flX8_22 fp_6_2 (Nat.le_of_ble_eq_true rfl) (okn hρ (Nat.le_of_ble_eq_true rfl)) rfl (fun _ => rfl) (fun _ => rfl) rfl rfl rfl rfl (Fr.setI _ _ _ rfl) (fun _ _ => rfl) (ρ2 := ρ) (S2 := setI (setI (setI S 19 0 0) 19 1 (-1)) 19 2 0) (fun _ => rfl) (fun _ _ _ q1 _ => fvI_o q1) (hF _ (List.mem_of_getElem? (i := 0) rfl)) ?_
  refine AW_aload_n 0 (n := 0) rfl dX8_read_15 rfl ?_
  refine AW_iconst (v := 0) dX8_read_16 rfl ?_
  refine AW_put dX8_read_17 flX8_25 fp_6_3 (Nat.le_of_ble_eq_true rfl) (okn hρ (Nat.le_of_ble_eq_true rfl)) rfl (fun _ => rfl) (fun _ => rfl) rfl rfl rfl rfl (Fr.setI _ _ _ rfl) (fun _ _ => rfl) (ρ2 := ρ) (S2 := setI (setI (setI (setI S 19 0 0) 19 1 (-1)) 19 2 0) 19 3 0) (fun _ => rfl) (fun _ _ _ q1 _ => fvI_o q1) (hF _ (List.mem_of_getElem? (i := 0) rfl)) ?_
  refine AW_aload_n 0 (n := 0) rfl dX8_read_20 rfl ?_
  refine AW_iconst (v := 0) dX8_read_21 rfl ?_
  refine AW_put dX8_read_22 flX8_28 fp_6_4 (Nat.le_of_ble_eq_true rfl) (okn hρ (Nat.le_of_ble_eq_true rfl)) rfl (fun _ => rfl) (fun _ => rfl) rfl rfl rfl rfl (Fr.setI _ _ _ rfl) (fun _ _ => rfl) (ρ2 := ρ) (S2 := setI (setI (setI (setI (setI S 19 0 0) 19 1 (-1)) 19 2 0) 19 3 0) 19 4 0) (fun _ => rfl) (fun _ _ _ q1 _ => fvI_o q1) (hF _ (List.mem_of_getElem? (i := 0) rfl)) ?_
  refine AW_aload_n 0 (n := 0) rfl dX8_read_25 rfl ?_
  refine AW_iconst (v := 0) dX8_read_26 rfl ?_
  refine AW_put dX8_read_27 flX8_31 fp_6_5 (Nat.le_of_ble_eq_true rfl) (okn hρ (Nat.le_of_ble_eq_true rfl)) rfl (fun _ => rfl) (fun _ => rfl) rfl rfl rfl rfl (Fr.setI _ _ _ rfl) (fun _ _ => rfl) (ρ2 := ρ) (S2 := setI (setI (setI (setI (setI (setI S 19 0 0) 19 1 (-1)) 19 2 0) 19 3 0) 19 4 0) 19 5 0) (fun _ => rfl) (fun _ _ _ q1 _ => fvI_o q1) (hF _ (List.mem_of_getElem? (i := 0) rfl)) ?_
  refine AW_aload_n 0 (n := 0) rfl dX8_read_30 rfl ?_
  refine AW_iconst (v := 0) dX8_read_31 rfl ?_
  refine AW_put dX8_read_32 flX8_34 fp_6_7 (Nat.le_of_ble_eq_true rfl) (okn hρ (Nat.le_of_ble_eq_true rfl)) rfl (fun _ => rfl) (fun _ => rfl) rfl rfl rfl rfl (Fr.setI _ _ _ rfl) (fun _ _ => rfl) (ρ2 := ρ) (S2 := setI (setI (setI (setI (setI (setI (setI S 19 0 0) 19 1 (-1)) 19 2 0) 19 3 0) 19 4 0) 19 5 0) 19 7 0) (fun _ => rfl) (fun _ _ _ q1 _ => fvI_o q1) (hF _ (List.mem_of_getElem? (i := 0) rfl)) ?_
  refine AW_aload_n 0 (n := 0) rfl dX8_read_35 rfl ?_
  refine AW_iconst (v := 0) dX8_read_36 rfl ?_
  refine AW_put dX8_read_37 flX8_37 fp_6_10 (Nat.le_of_ble_eq_true rfl) (okn hρ (Nat.le_of_ble_eq_true rfl)) rfl (fun _ => rfl) (fun _ => rfl) rfl rfl rfl rfl (Fr.setI _ _ _ rfl) (fun _ _ => rfl) (ρ2 := ρ) (S2 := setI (setI (setI (setI (setI (setI (setI (setI S 19 0 0) 19 1 (-1)) 19 2 0) 19 3 0) 19 4 0) 19 5 0) 19 7 0) 19 10 0) (fun _ => rfl) (fun _ _ _ q1 _ => fvI_o q1) (hF _ (List.mem_of_getElem? (i := 0) rfl)) ?_
  refine AW_aload_n 0 (n := 0) rfl dX8_read_40 rfl ?_
  refine AW_get dX8_read_41 flX8_15 (Nat.le_of_ble_eq_true rfl) (okn hρ (Nat.le_of_ble_eq_true rfl)) rfl (v := .ref 20) (fvR (okR hρ 9 rfl)) ?_
  refine AW_iconst (v := 0) dX8_read_44 rfl ?_
  refine AW_callSv (M := mX8_read) (pc := 45) (As := [.ref 20, .int 0]) (ρ1 := ρ) (st := []) dX8_read_45 mdJ7_fill_53178 mlX8_40 smJ7_fill_53178 ⟨rfl, npJ7_fill_53178⟩ (Nat.le_of_ble_eq_true rfl) (Nat.le_refl _) (Nat.le_refl _) rfl (CALLv.mono h (fun S1 _ h => ?_))
  refine AW_aload_n 0 (n := 0) rfl dX8_read_48 rfl ?_
  refine AW_aload_n 1 (n := 1) rfl dX8_read_49 rfl ?_
  refine AW_callVv (M := mX8_read) (pc := 50) (As := [.ref 17]) (ρ1 := ρ) (st := []) dX8_read_50 mdX8_advance rfl mlX8_46 imX8_advance seX8_advance (rcv_of (q := (RX8, TX8, 12)) (Nat.le_of_ble_eq_true rfl) (okn hρ (Nat.le_of_ble_eq_true rfl)) rfl rfl) ⟨rfl, npX8_advance⟩ (Nat.le_of_ble_eq_true rfl) (Nat.le_refl _) (Nat.le_refl _) rfl (CALLv.mono h (fun S2 _ h => ?_))
  refine AW_aload_n 0 (n := 0) rfl dX8_read_53 rfl ?_
  refine AW_get dX8_read_54 flX8_50 (Nat.le_of_ble_eq_true rfl) (okn hρ (Nat.le_of_ble_eq_true rfl)) rfl (v := .int (S2.1 19 8)) (fun _ => rfl) ?_
  refine AW_if_ne dX8_read_57 rfl (iteM h (fun h => ?_) (fun h => ?_))
  · refine AW_iconst (v := 1) dX8_read_60 rfl ?_
    exact AW_retz dX8_read_61 rfl Bz1 h
  · refine AW_aload_n 0 (n := 0) rfl dX8_read_62 rfl ?_
    refine AW_aload_n 1 (n := 1) rfl dX8_read_63 rfl ?_
    refine AW_callVi (M := mX8_read) (pc := 64) (As := [.ref 17]) (ρ1 := ρ) (st := []) dX8_read_64 mdX8_readSizes rfl mlX8_53 imX8_readSizes seX8_readSizes (rcv_of (q := (RX8, TX8, 12)) (Nat.le_of_ble_eq_true rfl) (okn hρ (Nat.le_of_ble_eq_true rfl)) rfl rfl) ⟨rfl, npX8_readSizes⟩ (Nat.le_of_ble_eq_true rfl) (Nat.le_refl _) (Nat.le_refl _) rfl (CALLi.mono h (fun v3 S3 _ h => ?_))
    refine AW_if_ne dX8_read_67 rfl (iteM h (fun h => ?_) (fun h => ?_))
    · refine AW_iconst (v := 0) dX8_read_70 rfl ?_
      exact AW_retz dX8_read_71 rfl Bz0 h
    · refine AW_iconst (v := 0) dX8_read_72 rfl ?_
      refine AW_istore_n (n := 2) (i := 2) rfl dX8_read_73 (Nat.le_of_ble_eq_true rfl) rfl ?_
      exact AW.sub [1, 2, 0] rfl h
set_option maxRecDepth 20000 in
theorem eX8_readSizes {g : GX} {Q : Int32 → St → Prop} {d : Nat} {ρ : Rs} {S : St} (hρ : Ok ρ) (hF : ∀ k ∈ ([19] : List Nat), gF g k) (h : CALLi g d mX8_passWord [.ref 19, .ref 17, .ref 0] ρ ρ S (fun v1 S1 => if v1 = 0 then Q 0 S1 else CALLi g d mX8_passWord [.ref 19, .ref 17, .ref 1] ρ ρ S1 (fun v2 S2 => if v2 = 0 then Q 0 S2 else CALLi g d mX8_isNumber [.ref 19, .int 2, .int 4] ρ ρ S2 (fun v3 S3 => if v3 = 0 then Q 0 S3 else CALLv g d mX8_advance [.ref 19, .ref 17] ρ ρ S3 (fun S4 => CALLi g d mX8_passWord [.ref 19, .ref 17, .ref 2] ρ ρ S4 (fun v5 S5 => if v5 = 0 then Q 0 S5 else CALLi g d mX8_isNumber [.ref 19, .int 2, .int 4] ρ ρ S5 (fun v6 S6 => if v6 = 0 then Q 0 S6 else CALLv g d mX8_advance [.ref 19, .ref 17] ρ ρ S6 (fun S7 => CALLi g d mX8_passSign [.ref 19, .ref 17] ρ ρ S7 (fun v8 S8 => if v8 = 0 then Q 0 S8 else Q 1 (setI (setI S8 19 2 (S3.1 19 11)) 19 3 (S6.1 19 11))))))))))) : CALLi g (d + 1) mX8_readSizes [.ref 19, .ref 17] ρ ρ S Q := by
  refine CALL.of mdX8_readSizes.2.2.2.2 (Nat.le_of_ble_eq_true rfl) (Nat.le_refl _) (Nat.le_refl _) ?_
  show AW g ρ (QI Q) (d + 1) mX8_readSizes 0 [(0, .ref 19), (1, .ref 17)] [] ρ S
  refine AW_aload_n 0 (n := 0) rfl dX8_readSizes_0 rfl ?_
  refine AW_aload_n 1 (n := 1) rfl dX8_readSizes_1 rfl ?_
  refine AW_ldcS (i := 0) dX8_readSizes_2 (by decide) (Or.inl ⟨rfl, rfl⟩) ?_
  refine AW_callVi (M := mX8_readSizes) (pc := 4) (As := [.ref 17, .ref 0]) (ρ1 := ρ) (st := []) dX8_readSizes_4 mdX8_passWord rfl mlX8_72 imX8_passWord seX8_passWord (rcv_of (q := (RX8, TX8, 12)) (Nat.le_of_ble_eq_true rfl) (okn hρ (Nat.le_of_ble_eq_true rfl)) rfl rfl) ⟨rfl, npX8_passWord⟩ (Nat.le_of_ble_eq_true rfl) (Nat.le_refl _) (Nat.le_refl _) rfl (CALLi.mono h (fun v1 S1 _ h => ?_))
  refine AW_if_eq dX8_readSizes_7 rfl (iteM h (fun h => ?_) (fun h => ?_))
  · refine AW_iconst (v := 0) dX8_readSizes_29 rfl ?_
    exact AW_retz dX8_readSizes_30 rfl Bz0 h
  · refine AW_aload_n 0 (n := 0) rfl dX8_readSizes_10 rfl ?_
    refine AW_aload_n 1 (n := 1) rfl dX8_readSizes_11 rfl ?_
    refine AW_ldcS (i := 1) dX8_readSizes_12 (by decide) (Or.inl ⟨rfl, rfl⟩) ?_
    refine AW_callVi (M := mX8_readSizes) (pc := 14) (As := [.ref 17, .ref 1]) (ρ1 := ρ) (st := []) dX8_readSizes_14 mdX8_passWord rfl mlX8_72 imX8_passWord seX8_passWord (rcv_of (q := (RX8, TX8, 12)) (Nat.le_of_ble_eq_true rfl) (okn hρ (Nat.le_of_ble_eq_true rfl)) rfl rfl) ⟨rfl, npX8_passWord⟩ (Nat.le_of_ble_eq_true rfl) (Nat.le_refl _) (Nat.le_refl _) rfl (CALLi.mono h (fun v2 S2 _ h => ?_))
    refine AW_if_eq dX8_readSizes_17 rfl (iteM h (fun h => ?_) (fun h => ?_))
    · refine AW_iconst (v := 0) dX8_readSizes_29 rfl ?_
      exact AW_retz dX8_readSizes_30 rfl Bz0 h
    · refine AW_aload_n 0 (n := 0) rfl dX8_readSizes_20 rfl ?_
      refine AW_iconst (v := 2) dX8_readSizes_21 rfl ?_
      refine AW_iconst (v := 4) dX8_readSizes_22 rfl ?_
      refine AW_callVi (M := mX8_readSizes) (pc := 23) (As := [.int 2, .int 4]) (ρ1 := ρ) (st := []) dX8_readSizes_23 mdX8_isNumber rfl mlX8_77 imX8_isNumber seX8_isNumber (rcv_of (q := (RX8, TX8, 12)) (Nat.le_of_ble_eq_true rfl) (okn hρ (Nat.le_of_ble_eq_true rfl)) rfl rfl) ⟨rfl, npX8_isNumber⟩ (Nat.le_of_ble_eq_true rfl) (Nat.le_refl _) (Nat.le_refl _) rfl (CALLi.mono h (fun v3 S3 _ h => ?_))
      refine AW_if_ne dX8_readSizes_26 rfl (iteM h (fun h => ?_) (fun h => ?_))
      · refine AW_iconst (v := 0) dX8_readSizes_29 rfl ?_
        exact AW_retz dX8_readSizes_30 rfl Bz0 h
      · refine AW_aload_n 0 (n := 0) rfl dX8_readSizes_31 rfl ?_
        refine AW_get dX8_readSizes_32 flX8_81 (Nat.le_of_ble_eq_true rfl) (okn hρ (Nat.le_of_ble_eq_true rfl)) rfl (v := .int (S3.1 19 11)) (fun _ => rfl) ?_
        refine AW_istore_n (n := 2) (i := 2) rfl dX8_readSizes_35 (Nat.le_of_ble_eq_true rfl) rfl ?_
        refine AW_aload_n 1 (n := 0) rfl dX8_readSizes_36 rfl ?_
        refine AW_aload_n 2 (n := 1) rfl dX8_readSizes_37 rfl ?_
        refine AW_callVv (M := mX8_readSizes) (pc := 38) (As := [.ref 17]) (ρ1 := ρ) (st := []) dX8_readSizes_38 mdX8_advance rfl mlX8_46 imX8_advance seX8_advance (rcv_of (q := (RX8, TX8, 12)) (Nat.le_of_ble_eq_true rfl) (okn hρ (Nat.le_of_ble_eq_true rfl)) rfl rfl) ⟨rfl, npX8_advance⟩ (Nat.le_of_ble_eq_true rfl) (Nat.le_refl _) (Nat.le_refl _) rfl (CALLv.mono h (fun S4 _ h => ?_))
        refine AW_aload_n 1 (n := 0) rfl dX8_readSizes_41 rfl ?_
        refine AW_aload_n 2 (n := 1) rfl dX8_readSizes_42 rfl ?_
        refine AW_ldcS (i := 2) dX8_readSizes_43 (by decide) (Or.inl ⟨rfl, rfl⟩) ?_
        refine AW_callVi (M := mX8_readSizes) (pc := 45) (As := [.ref 17, .ref 2]) (ρ1 := ρ) (st := []) dX8_readSizes_45 mdX8_passWord rfl mlX8_72 imX8_passWord seX8_passWord (rcv_of (q := (RX8, TX8, 12)) (Nat.le_of_ble_eq_true rfl) (okn hρ (Nat.le_of_ble_eq_true rfl)) rfl rfl) ⟨rfl, npX8_passWord⟩ (Nat.le_of_ble_eq_true rfl) (Nat.le_refl _) (Nat.le_refl _) rfl (CALLi.mono h (fun v5 S5 _ h => ?_))
        refine AW_if_eq dX8_readSizes_48 rfl (iteM h (fun h => ?_) (fun h => ?_))
        · refine AW_iconst (v := 0) dX8_readSizes_60 rfl ?_
          exact AW_retz dX8_readSizes_61 rfl Bz0 h
        · refine AW_aload_n 1 (n := 0) rfl dX8_readSizes_51 rfl ?_
          refine AW_iconst (v := 2) dX8_readSizes_52 rfl ?_
          refine AW_iconst (v := 4) dX8_readSizes_53 rfl ?_
          refine AW_callVi (M := mX8_readSizes) (pc := 54) (As := [.int 2, .int 4]) (ρ1 := ρ) (st := []) dX8_readSizes_54 mdX8_isNumber rfl mlX8_77 imX8_isNumber seX8_isNumber (rcv_of (q := (RX8, TX8, 12)) (Nat.le_of_ble_eq_true rfl) (okn hρ (Nat.le_of_ble_eq_true rfl)) rfl rfl) ⟨rfl, npX8_isNumber⟩ (Nat.le_of_ble_eq_true rfl) (Nat.le_refl _) (Nat.le_refl _) rfl (CALLi.mono h (fun v6 S6 _ h => ?_))
          refine AW_if_ne dX8_readSizes_57 rfl (iteM h (fun h => ?_) (fun h => ?_))
          · refine AW_iconst (v := 0) dX8_readSizes_60 rfl ?_
            exact AW_retz dX8_readSizes_61 rfl Bz0 h
          · refine AW_aload_n 1 (n := 0) rfl dX8_readSizes_62 rfl ?_
            refine AW_get dX8_readSizes_63 flX8_81 (Nat.le_of_ble_eq_true rfl) (okn hρ (Nat.le_of_ble_eq_true rfl)) rfl (v := .int (S6.1 19 11)) (fun _ => rfl) ?_
            refine AW_istore_n (n := 3) (i := 3) rfl dX8_readSizes_66 (Nat.le_of_ble_eq_true rfl) rfl ?_
            refine AW_aload_n 2 (n := 0) rfl dX8_readSizes_67 rfl ?_
            refine AW_aload_n 3 (n := 1) rfl dX8_readSizes_68 rfl ?_
            refine AW_callVv (M := mX8_readSizes) (pc := 69) (As := [.ref 17]) (ρ1 := ρ) (st := []) dX8_readSizes_69 mdX8_advance rfl mlX8_46 imX8_advance seX8_advance (rcv_of (q := (RX8, TX8, 12)) (Nat.le_of_ble_eq_true rfl) (okn hρ (Nat.le_of_ble_eq_true rfl)) rfl rfl) ⟨rfl, npX8_advance⟩ (Nat.le_of_ble_eq_true rfl) (Nat.le_refl _) (Nat.le_refl _) rfl (CALLv.mono h (fun S7 _ h => ?_))
            refine AW_aload_n 2 (n := 0) rfl dX8_readSizes_72 rfl ?_
            refine AW_aload_n 3 (n := 1) rfl dX8_readSizes_73 rfl ?_
            refine AW_callVi (M := mX8_readSizes) (pc := 74) (As := [.ref 17]) (ρ1 := ρ) (st := []) dX8_readSizes_74 mdX8_passSign rfl mlX8_85 imX8_passSign seX8_passSign (rcv_of (q := (RX8, TX8, 12)) (Nat.le_of_ble_eq_true rfl) (okn hρ (Nat.le_of_ble_eq_true rfl)) rfl rfl) ⟨rfl, npX8_passSign⟩ (Nat.le_of_ble_eq_true rfl) (Nat.le_refl _) (Nat.le_refl _) rfl (CALLi.mono h (fun v8 S8 _ h => ?_))
            refine AW_if_ne dX8_readSizes_77 rfl (iteM h (fun h => ?_) (fun h => ?_))
            · refine AW_iconst (v := 0) dX8_readSizes_80 rfl ?_
              exact AW_retz dX8_readSizes_81 rfl Bz0 h
            · refine AW_aload_n 2 (n := 0) rfl dX8_readSizes_82 rfl ?_
              refine AW_iload_n 1 (n := 2) rfl dX8_readSizes_83 rfl ?_
              refine AW_put dX8_readSizes_84 flX8_22 fp_6_2 (Nat.le_of_ble_eq_true rfl) (okn hρ (Nat.le_of_ble_eq_true rfl)) rfl (fun _ => rfl) (fun _ => rfl) rfl rfl rfl rfl (Fr.setI _ _ _ rfl) (fun _ _ => rfl) (ρ2 := ρ) (S2 := setI S8 19 2 (S3.1 19 11)) (fun _ => rfl) (fun _ _ _ q1 _ => fvI_o q1) (hF _ (List.mem_of_getElem? (i := 0) rfl)) ?_
              refine AW_aload_n 2 (n := 0) rfl dX8_readSizes_87 rfl ?_
              refine AW_iload_n 0 (n := 3) rfl dX8_readSizes_88 rfl ?_
              refine AW_put dX8_readSizes_89 flX8_25 fp_6_3 (Nat.le_of_ble_eq_true rfl) (okn hρ (Nat.le_of_ble_eq_true rfl)) rfl (fun _ => rfl) (fun _ => rfl) rfl rfl rfl rfl (Fr.setI _ _ _ rfl) (fun _ _ => rfl) (ρ2 := ρ) (S2 := setI (setI S8 19 2 (S3.1 19 11)) 19 3 (S6.1 19 11)) (fun _ => rfl) (fun _ _ _ q1 _ => fvI_o q1) (hF _ (List.mem_of_getElem? (i := 0) rfl)) ?_
              refine AW_iconst (v := 1) dX8_readSizes_92 rfl ?_
              exact AW_retz dX8_readSizes_93 rfl Bz1 h
set_option maxRecDepth 20000 in
theorem eX8_readCounts_14 {g : GX} {Q : Int32 → St → Prop} {d : Nat} {ρ : Rs} {S : St} (hρ : Ok ρ) {x2 : Int32} {x3 : Int32} (hF : ∀ k ∈ ([19, 20] : List Nat), gF g k) (h : if (S.1 19 3) ≤ x3 then CALLi g d mX8_passSign [.ref 19, .ref 17] ρ ρ S (fun v1 S1 => Bz v1 ∧ (Q v1 S1)) else CALLi g d mX8_isNumber [.ref 19, .int 0, .int 9] ρ ρ S (fun v2 S2 => if v2 = 0 then Q 0 S2 else if ((S2.1 19 7) + (S2.1 19 11)) ≤ 20 then vp_in ((4 * x2) + x3) 16 ∧ (CALLv g d mX8_advance [.ref 19, .ref 17] ρ ρ (setI (setI S2 19 7 ((S2.1 19 7) + (S2.1 19 11))) 20 (((4 * x2) + x3).toNatClampNeg) (S2.1 19 11)) (fun S3 => AW g ρ (QI Q) (d + 1) mX8_readCounts 14 [(0, .ref 19), (1, .ref 17), (2, .int x2), (3, .int (x3 + 1))] [] ρ S3)) else CALLi g d mX8_fail [.ref 19, .int 2] ρ ρ S2 (fun v4 S4 => Bz v4 ∧ (Q v4 S4)))) : AW g ρ (QI Q) (d + 1) mX8_readCounts 14 [(0, .ref 19), (1, .ref 17), (2, .int x2), (3, .int x3)] [] ρ S := by
  refine AW_iload_n 3 (n := 3) rfl dX8_readCounts_14 rfl ?_
  refine AW_aload_n 0 (n := 0) rfl dX8_readCounts_15 rfl ?_
  refine AW_get dX8_readCounts_16 flX8_25 (Nat.le_of_ble_eq_true rfl) (okn hρ (Nat.le_of_ble_eq_true rfl)) rfl (v := .int (S.1 19 3)) (fun _ => rfl) ?_
  refine AW_icmp_ge dX8_readCounts_19 rfl (iteM h (fun h => ?_) (fun h => ?_))
  · refine AW_aload_n 0 (n := 0) rfl dX8_readCounts_94 rfl ?_
    refine AW_aload_n 1 (n := 1) rfl dX8_readCounts_95 rfl ?_
    refine AW_callVi (M := mX8_readCounts) (pc := 96) (As := [.ref 17]) (ρ1 := ρ) (st := []) dX8_readCounts_96 mdX8_passSign rfl mlX8_85 imX8_passSign seX8_passSign (rcv_of (q := (RX8, TX8, 12)) (Nat.le_of_ble_eq_true rfl) (okn hρ (Nat.le_of_ble_eq_true rfl)) rfl rfl) ⟨rfl, npX8_passSign⟩ (Nat.le_of_ble_eq_true rfl) (Nat.le_refl _) (Nat.le_refl _) rfl (CALLi.mono h (fun v1 S1 _ h => ?_))
    exact AW_retz dX8_readCounts_99 rfl h.1 h.2
  · refine AW_aload_n 0 (n := 0) rfl dX8_readCounts_22 rfl ?_
    refine AW_iconst (v := 0) dX8_readCounts_23 rfl ?_
    refine AW_bipush (v := 9) dX8_readCounts_24 rfl ?_
    refine AW_callVi (M := mX8_readCounts) (pc := 26) (As := [.int 0, .int 9]) (ρ1 := ρ) (st := []) dX8_readCounts_26 mdX8_isNumber rfl mlX8_77 imX8_isNumber seX8_isNumber (rcv_of (q := (RX8, TX8, 12)) (Nat.le_of_ble_eq_true rfl) (okn hρ (Nat.le_of_ble_eq_true rfl)) rfl rfl) ⟨rfl, npX8_isNumber⟩ (Nat.le_of_ble_eq_true rfl) (Nat.le_refl _) (Nat.le_refl _) rfl (CALLi.mono h (fun v2 S2 _ h => ?_))
    refine AW_if_ne dX8_readCounts_29 rfl (iteM h (fun h => ?_) (fun h => ?_))
    · refine AW_iconst (v := 0) dX8_readCounts_32 rfl ?_
      exact AW_retz dX8_readCounts_33 rfl Bz0 h
    · refine AW_aload_n 0 (n := 0) rfl dX8_readCounts_34 rfl ?_
      refine AW_get dX8_readCounts_35 flX8_34 (Nat.le_of_ble_eq_true rfl) (okn hρ (Nat.le_of_ble_eq_true rfl)) rfl (v := .int (S2.1 19 7)) (fun _ => rfl) ?_
      refine AW_aload_n 0 (n := 0) rfl dX8_readCounts_38 rfl ?_
      refine AW_get dX8_readCounts_39 flX8_81 (Nat.le_of_ble_eq_true rfl) (okn hρ (Nat.le_of_ble_eq_true rfl)) rfl (v := .int (S2.1 19 11)) (fun _ => rfl) ?_
      refine AW_iadd dX8_readCounts_42 ?_
      refine AW_bipush (v := 20) dX8_readCounts_43 rfl ?_
      refine AW_icmp_le dX8_readCounts_45 rfl (iteM h (fun h => ?_) (fun h => ?_))
      · refine AW_aload_n 0 (n := 0) rfl dX8_readCounts_54 rfl ?_
        refine AW_dup dX8_readCounts_55 rfl ?_
        refine AW_get dX8_readCounts_56 flX8_34 (Nat.le_of_ble_eq_true rfl) (okn hρ (Nat.le_of_ble_eq_true rfl)) rfl (v := .int (S2.1 19 7)) (fun _ => rfl) ?_
        refine AW_aload_n 0 (n := 0) rfl dX8_readCounts_59 rfl ?_
        refine AW_get dX8_readCounts_60 flX8_81 (Nat.le_of_ble_eq_true rfl) (okn hρ (Nat.le_of_ble_eq_true rfl)) rfl (v := .int (S2.1 19 11)) (fun _ => rfl) ?_
        refine AW_iadd dX8_readCounts_63 ?_
        refine AW_put dX8_readCounts_64 flX8_34 fp_6_7 (Nat.le_of_ble_eq_true rfl) (okn hρ (Nat.le_of_ble_eq_true rfl)) rfl (fun _ => rfl) (fun _ => rfl) rfl rfl rfl rfl (Fr.setI _ _ _ rfl) (fun _ _ => rfl) (ρ2 := ρ) (S2 := setI S2 19 7 ((S2.1 19 7) + (S2.1 19 11))) (fun _ => rfl) (fun _ _ _ q1 _ => fvI_o q1) (hF _ (List.mem_of_getElem? (i := 0) rfl)) ?_
        refine AW_aload_n 0 (n := 0) rfl dX8_readCounts_67 rfl ?_
        refine AW_get dX8_readCounts_68 flX8_15 (Nat.le_of_ble_eq_true rfl) (okn hρ (Nat.le_of_ble_eq_true rfl)) rfl (v := .ref 20) (fvR (okR hρ 9 rfl)) ?_
        refine AW_iconst (v := 4) dX8_readCounts_71 rfl ?_
        refine AW_iload_n 2 (n := 2) rfl dX8_readCounts_72 rfl ?_
        refine AW_imul dX8_readCounts_73 ?_
        refine AW_iload_n 3 (n := 3) rfl dX8_readCounts_74 rfl ?_
        refine AW_iadd dX8_readCounts_75 ?_
        refine AW_aload_n 0 (n := 0) rfl dX8_readCounts_76 rfl ?_
        refine AW_get dX8_readCounts_77 flX8_81 (Nat.le_of_ble_eq_true rfl) (okn hρ (Nat.le_of_ble_eq_true rfl)) rfl (v := .int (S2.1 19 11)) (fun _ => rfl) ?_
        refine AW_callSv (M := mX8_readCounts) (pc := 80) (As := [.ref 20, .int ((4 * x2) + x3), .int (S2.1 19 11)]) (ρ1 := ρ) (st := []) dX8_readCounts_80 mdX7_put mlX8_94 smX7_put ⟨rfl, npX7_put⟩ (Nat.le_of_ble_eq_true rfl) (Nat.le_refl _) (Nat.le_refl _) rfl (iX7_put hρ (Nat.le_of_ble_eq_true rfl) (okn hρ (Nat.le_of_ble_eq_true rfl)) rfl (hF _ (List.mem_of_getElem? (i := 1) rfl)) (jx := ((4 * x2) + x3).toNatClampNeg) rfl (by decide) h.1 ?_)
        replace h := h.2
        refine AW_aload_n 0 (n := 0) rfl dX8_readCounts_83 rfl ?_
        refine AW_aload_n 1 (n := 1) rfl dX8_readCounts_84 rfl ?_
        refine AW_callVv (M := mX8_readCounts) (pc := 85) (As := [.ref 17]) (ρ1 := ρ) (st := []) dX8_readCounts_85 mdX8_advance rfl mlX8_46 imX8_advance seX8_advance (rcv_of (q := (RX8, TX8, 12)) (Nat.le_of_ble_eq_true rfl) (okn hρ (Nat.le_of_ble_eq_true rfl)) rfl rfl) ⟨rfl, npX8_advance⟩ (Nat.le_of_ble_eq_true rfl) (Nat.le_refl _) (Nat.le_refl _) rfl (CALLv.mono h (fun S3 _ h => ?_))
        refine AW_iinc 3 (v := x3 + 1) dX8_readCounts_88 rfl rfl (Nat.le_of_ble_eq_true rfl) rfl ?_
        refine AW_goto (tgt := 14) dX8_readCounts_91 rfl ?_
        exact AW.sub [1, 2, 3, 0] rfl h
      · refine AW_aload_n 0 (n := 0) rfl dX8_readCounts_48 rfl ?_
        refine AW_iconst (v := 2) dX8_readCounts_49 rfl ?_
        refine AW_callVi (M := mX8_readCounts) (pc := 50) (As := [.int 2]) (ρ1 := ρ) (st := []) dX8_readCounts_50 mdX8_fail rfl mlX8_90 imX8_fail seX8_fail (rcv_of (q := (RX8, TX8, 12)) (Nat.le_of_ble_eq_true rfl) (okn hρ (Nat.le_of_ble_eq_true rfl)) rfl rfl) ⟨rfl, npX8_fail⟩ (Nat.le_of_ble_eq_true rfl) (Nat.le_refl _) (Nat.le_refl _) rfl (CALLi.mono h (fun v4 S4 _ h => ?_))
        exact AW_retz dX8_readCounts_53 rfl h.1 h.2
set_option maxRecDepth 20000 in
theorem eX8_readCounts {g : GX} {Q : Int32 → St → Prop} {d : Nat} {ρ : Rs} {S : St} (hρ : Ok ρ) {x2 : Int32} (h : CALLi g d mX8_passWord [.ref 19, .ref 17, .ref 3] ρ ρ S (fun v1 S1 => if v1 = 0 then Q 0 S1 else AW g ρ (QI Q) (d + 1) mX8_readCounts 14 [(0, .ref 19), (1, .ref 17), (2, .int x2), (3, .int 0)] [] ρ S1)) : CALLi g (d + 1) mX8_readCounts [.ref 19, .ref 17, .int x2] ρ ρ S Q := by
  refine CALL.of mdX8_readCounts.2.2.2.2 (Nat.le_of_ble_eq_true rfl) (Nat.le_refl _) (Nat.le_refl _) ?_
  show AW g ρ (QI Q) (d + 1) mX8_readCounts 0 [(0, .ref 19), (1, .ref 17), (2, .int x2)] [] ρ S
  refine AW_aload_n 0 (n := 0) rfl dX8_readCounts_0 rfl ?_
  refine AW_aload_n 1 (n := 1) rfl dX8_readCounts_1 rfl ?_
  refine AW_ldcS (i := 3) dX8_readCounts_2 (by decide) (Or.inl ⟨rfl, rfl⟩) ?_
  refine AW_callVi (M := mX8_readCounts) (pc := 4) (As := [.ref 17, .ref 3]) (ρ1 := ρ) (st := []) dX8_readCounts_4 mdX8_passWord rfl mlX8_72 imX8_passWord seX8_passWord (rcv_of (q := (RX8, TX8, 12)) (Nat.le_of_ble_eq_true rfl) (okn hρ (Nat.le_of_ble_eq_true rfl)) rfl rfl) ⟨rfl, npX8_passWord⟩ (Nat.le_of_ble_eq_true rfl) (Nat.le_refl _) (Nat.le_refl _) rfl (CALLi.mono h (fun v1 S1 _ h => ?_))
  refine AW_if_ne dX8_readCounts_7 rfl (iteM h (fun h => ?_) (fun h => ?_))
  · refine AW_iconst (v := 0) dX8_readCounts_10 rfl ?_
    exact AW_retz dX8_readCounts_11 rfl Bz0 h
  · refine AW_iconst (v := 0) dX8_readCounts_12 rfl ?_
    refine AW_istore_n (n := 3) (i := 3) rfl dX8_readCounts_13 (Nat.le_of_ble_eq_true rfl) rfl ?_
    exact AW.sub [1, 2, 3, 0] rfl h
set_option maxRecDepth 20000 in
theorem eX8_readHole {g : GX} {Q : Int32 → St → Prop} {d : Nat} {ρ : Rs} {S : St} (hρ : Ok ρ) (hF : ∀ k ∈ ([19] : List Nat), gF g k) (h : CALLi g d mX8_passWord [.ref 19, .ref 17, .ref 4] ρ ρ S (fun v1 S1 => if v1 = 0 then Q 0 S1 else CALLi g d mX8_isNumber [.ref 19, .int 0, .int ((S1.1 19 2) - 1)] ρ ρ S1 (fun v2 S2 => if v2 = 0 then Q 0 S2 else CALLv g d mX8_advance [.ref 19, .ref 17] ρ ρ S2 (fun S3 => CALLi g d mX8_isNumber [.ref 19, .int 0, .int ((S3.1 19 3) - 1)] ρ ρ S3 (fun v4 S4 => if v4 = 0 then Q 0 S4 else if (((S4.1 19 5) >>> (((4 * (S2.1 19 11)) + (S4.1 19 11)) &&& 31)) &&& 1) = 0 then vp_in ((4 * (S2.1 19 11)) + (S4.1 19 11)) 16 ∧ (if (S4.1 20 (((4 * (S2.1 19 11)) + (S4.1 19 11)).toNatClampNeg)) = 0 then CALLv g d mX8_advance [.ref 19, .ref 17] ρ ρ (setI S4 19 5 ((S4.1 19 5) ||| (1 <<< (((4 * (S2.1 19 11)) + (S4.1 19 11)) &&& 31)))) (fun S5 => CALLi g d mX8_passSign [.ref 19, .ref 17] ρ ρ S5 (fun v6 S6 => Bz v6 ∧ (Q v6 S6))) else CALLi g d mX8_fail [.ref 19, .int 2] ρ ρ S4 (fun v7 S7 => Bz v7 ∧ (Q v7 S7))) else CALLi g d mX8_fail [.ref 19, .int 2] ρ ρ S4 (fun v8 S8 => Bz v8 ∧ (Q v8 S8))))))) : CALLi g (d + 1) mX8_readHole [.ref 19, .ref 17] ρ ρ S Q := by
  refine CALL.of mdX8_readHole.2.2.2.2 (Nat.le_of_ble_eq_true rfl) (Nat.le_refl _) (Nat.le_refl _) ?_
  show AW g ρ (QI Q) (d + 1) mX8_readHole 0 [(0, .ref 19), (1, .ref 17)] [] ρ S
  refine AW_aload_n 0 (n := 0) rfl dX8_readHole_0 rfl ?_
  refine AW_aload_n 1 (n := 1) rfl dX8_readHole_1 rfl ?_
  refine AW_ldcS (i := 4) dX8_readHole_2 (by decide) (Or.inl ⟨rfl, rfl⟩) ?_
  refine AW_callVi (M := mX8_readHole) (pc := 4) (As := [.ref 17, .ref 4]) (ρ1 := ρ) (st := []) dX8_readHole_4 mdX8_passWord rfl mlX8_72 imX8_passWord seX8_passWord (rcv_of (q := (RX8, TX8, 12)) (Nat.le_of_ble_eq_true rfl) (okn hρ (Nat.le_of_ble_eq_true rfl)) rfl rfl) ⟨rfl, npX8_passWord⟩ (Nat.le_of_ble_eq_true rfl) (Nat.le_refl _) (Nat.le_refl _) rfl (CALLi.mono h (fun v1 S1 _ h => ?_))
  refine AW_if_eq dX8_readHole_7 rfl (iteM h (fun h => ?_) (fun h => ?_))
  · refine AW_iconst (v := 0) dX8_readHole_24 rfl ?_
    exact AW_retz dX8_readHole_25 rfl Bz0 h
  · refine AW_aload_n 0 (n := 0) rfl dX8_readHole_10 rfl ?_
    refine AW_iconst (v := 0) dX8_readHole_11 rfl ?_
    refine AW_aload_n 0 (n := 0) rfl dX8_readHole_12 rfl ?_
    refine AW_get dX8_readHole_13 flX8_22 (Nat.le_of_ble_eq_true rfl) (okn hρ (Nat.le_of_ble_eq_true rfl)) rfl (v := .int (S1.1 19 2)) (fun _ => rfl) ?_
    refine AW_iconst (v := 1) dX8_readHole_16 rfl ?_
    refine AW_isub dX8_readHole_17 ?_
    refine AW_callVi (M := mX8_readHole) (pc := 18) (As := [.int 0, .int ((S1.1 19 2) - 1)]) (ρ1 := ρ) (st := []) dX8_readHole_18 mdX8_isNumber rfl mlX8_77 imX8_isNumber seX8_isNumber (rcv_of (q := (RX8, TX8, 12)) (Nat.le_of_ble_eq_true rfl) (okn hρ (Nat.le_of_ble_eq_true rfl)) rfl rfl) ⟨rfl, npX8_isNumber⟩ (Nat.le_of_ble_eq_true rfl) (Nat.le_refl _) (Nat.le_refl _) rfl (CALLi.mono h (fun v2 S2 _ h => ?_))
    refine AW_if_ne dX8_readHole_21 rfl (iteM h (fun h => ?_) (fun h => ?_))
    · refine AW_iconst (v := 0) dX8_readHole_24 rfl ?_
      exact AW_retz dX8_readHole_25 rfl Bz0 h
    · refine AW_aload_n 0 (n := 0) rfl dX8_readHole_26 rfl ?_
      refine AW_get dX8_readHole_27 flX8_81 (Nat.le_of_ble_eq_true rfl) (okn hρ (Nat.le_of_ble_eq_true rfl)) rfl (v := .int (S2.1 19 11)) (fun _ => rfl) ?_
      refine AW_istore_n (n := 2) (i := 2) rfl dX8_readHole_30 (Nat.le_of_ble_eq_true rfl) rfl ?_
      refine AW_aload_n 1 (n := 0) rfl dX8_readHole_31 rfl ?_
      refine AW_aload_n 2 (n := 1) rfl dX8_readHole_32 rfl ?_
      refine AW_callVv (M := mX8_readHole) (pc := 33) (As := [.ref 17]) (ρ1 := ρ) (st := []) dX8_readHole_33 mdX8_advance rfl mlX8_46 imX8_advance seX8_advance (rcv_of (q := (RX8, TX8, 12)) (Nat.le_of_ble_eq_true rfl) (okn hρ (Nat.le_of_ble_eq_true rfl)) rfl rfl) ⟨rfl, npX8_advance⟩ (Nat.le_of_ble_eq_true rfl) (Nat.le_refl _) (Nat.le_refl _) rfl (CALLv.mono h (fun S3 _ h => ?_))
      refine AW_aload_n 1 (n := 0) rfl dX8_readHole_36 rfl ?_
      refine AW_iconst (v := 0) dX8_readHole_37 rfl ?_
      refine AW_aload_n 1 (n := 0) rfl dX8_readHole_38 rfl ?_
      refine AW_get dX8_readHole_39 flX8_25 (Nat.le_of_ble_eq_true rfl) (okn hρ (Nat.le_of_ble_eq_true rfl)) rfl (v := .int (S3.1 19 3)) (fun _ => rfl) ?_
      refine AW_iconst (v := 1) dX8_readHole_42 rfl ?_
      refine AW_isub dX8_readHole_43 ?_
      refine AW_callVi (M := mX8_readHole) (pc := 44) (As := [.int 0, .int ((S3.1 19 3) - 1)]) (ρ1 := ρ) (st := []) dX8_readHole_44 mdX8_isNumber rfl mlX8_77 imX8_isNumber seX8_isNumber (rcv_of (q := (RX8, TX8, 12)) (Nat.le_of_ble_eq_true rfl) (okn hρ (Nat.le_of_ble_eq_true rfl)) rfl rfl) ⟨rfl, npX8_isNumber⟩ (Nat.le_of_ble_eq_true rfl) (Nat.le_refl _) (Nat.le_refl _) rfl (CALLi.mono h (fun v4 S4 _ h => ?_))
      refine AW_if_ne dX8_readHole_47 rfl (iteM h (fun h => ?_) (fun h => ?_))
      · refine AW_iconst (v := 0) dX8_readHole_50 rfl ?_
        exact AW_retz dX8_readHole_51 rfl Bz0 h
      · refine AW_iconst (v := 4) dX8_readHole_52 rfl ?_
        refine AW_iload_n 0 (n := 2) rfl dX8_readHole_53 rfl ?_
        refine AW_imul dX8_readHole_54 ?_
        refine AW_aload_n 1 (n := 0) rfl dX8_readHole_55 rfl ?_
        refine AW_get dX8_readHole_56 flX8_81 (Nat.le_of_ble_eq_true rfl) (okn hρ (Nat.le_of_ble_eq_true rfl)) rfl (v := .int (S4.1 19 11)) (fun _ => rfl) ?_
        refine AW_iadd dX8_readHole_59 ?_
        refine AW_istore_n (n := 3) (i := 3) rfl dX8_readHole_60 (Nat.le_of_ble_eq_true rfl) rfl ?_
        refine AW_aload_n 2 (n := 0) rfl dX8_readHole_61 rfl ?_
        refine AW_get dX8_readHole_62 flX8_31 (Nat.le_of_ble_eq_true rfl) (okn hρ (Nat.le_of_ble_eq_true rfl)) rfl (v := .int (S4.1 19 5)) (fun _ => rfl) ?_
        refine AW_iload_n 0 (n := 3) rfl dX8_readHole_65 rfl ?_
        refine AW_ishr dX8_readHole_66 ?_
        refine AW_iconst (v := 1) dX8_readHole_67 rfl ?_
        refine AW_iand dX8_readHole_68 ?_
        refine AW_if_ne dX8_readHole_69 rfl (iteM h (fun h => ?_) (fun h => ?_))
        · refine AW_aload_n 2 (n := 0) rfl dX8_readHole_72 rfl ?_
          refine AW_get dX8_readHole_73 flX8_15 (Nat.le_of_ble_eq_true rfl) (okn hρ (Nat.le_of_ble_eq_true rfl)) rfl (v := .ref 20) (fvR (okR hρ 9 rfl)) ?_
          refine AW_iload_n 0 (n := 3) rfl dX8_readHole_76 rfl ?_
          refine AW_callSi (M := mX8_readHole) (pc := 77) (As := [.ref 20, .int ((4 * (S2.1 19 11)) + (S4.1 19 11))]) (ρ1 := ρ) (st := []) dX8_readHole_77 mdX7_get mlX8_64 smX7_get ⟨rfl, npX7_get⟩ (Nat.le_of_ble_eq_true rfl) (Nat.le_refl _) (Nat.le_refl _) rfl (iX7_get hρ (Nat.le_of_ble_eq_true rfl) (okn hρ (Nat.le_of_ble_eq_true rfl)) rfl (by decide) h.1 (v := (S4.1 20 (((4 * (S2.1 19 11)) + (S4.1 19 11)).toNatClampNeg))) rfl ?_)
          replace h := h.2
          refine AW_if_eq dX8_readHole_80 rfl (iteM h (fun h => ?_) (fun h => ?_))
          · refine AW_aload_n 2 (n := 0) rfl dX8_readHole_89 rfl ?_
            refine AW_dup dX8_readHole_90 rfl ?_
            refine AW_get dX8_readHole_91 flX8_31 (Nat.le_of_ble_eq_true rfl) (okn hρ (Nat.le_of_ble_eq_true rfl)) rfl (v := .int (S4.1 19 5)) (fun _ => rfl) ?_
            refine AW_iconst (v := 1) dX8_readHole_94 rfl ?_
            refine AW_iload_n 0 (n := 3) rfl dX8_readHole_95 rfl ?_
            refine AW_ishl dX8_readHole_96 ?_
            refine AW_ior dX8_readHole_97 ?_
            refine AW_put dX8_readHole_98 flX8_31 fp_6_5 (Nat.le_of_ble_eq_true rfl) (okn hρ (Nat.le_of_ble_eq_true rfl)) rfl (fun _ => rfl) (fun _ => rfl) rfl rfl rfl rfl (Fr.setI _ _ _ rfl) (fun _ _ => rfl) (ρ2 := ρ) (S2 := setI S4 19 5 ((S4.1 19 5) ||| (1 <<< (((4 * (S2.1 19 11)) + (S4.1 19 11)) &&& 31)))) (fun _ => rfl) (fun _ _ _ q1 _ => fvI_o q1) (hF _ (List.mem_of_getElem? (i := 0) rfl)) ?_
            refine AW_aload_n 2 (n := 0) rfl dX8_readHole_101 rfl ?_
            refine AW_aload_n 3 (n := 1) rfl dX8_readHole_102 rfl ?_
            refine AW_callVv (M := mX8_readHole) (pc := 103) (As := [.ref 17]) (ρ1 := ρ) (st := []) dX8_readHole_103 mdX8_advance rfl mlX8_46 imX8_advance seX8_advance (rcv_of (q := (RX8, TX8, 12)) (Nat.le_of_ble_eq_true rfl) (okn hρ (Nat.le_of_ble_eq_true rfl)) rfl rfl) ⟨rfl, npX8_advance⟩ (Nat.le_of_ble_eq_true rfl) (Nat.le_refl _) (Nat.le_refl _) rfl (CALLv.mono h (fun S5 _ h => ?_))
            refine AW_aload_n 2 (n := 0) rfl dX8_readHole_106 rfl ?_
            refine AW_aload_n 3 (n := 1) rfl dX8_readHole_107 rfl ?_
            refine AW_callVi (M := mX8_readHole) (pc := 108) (As := [.ref 17]) (ρ1 := ρ) (st := []) dX8_readHole_108 mdX8_passSign rfl mlX8_85 imX8_passSign seX8_passSign (rcv_of (q := (RX8, TX8, 12)) (Nat.le_of_ble_eq_true rfl) (okn hρ (Nat.le_of_ble_eq_true rfl)) rfl rfl) ⟨rfl, npX8_passSign⟩ (Nat.le_of_ble_eq_true rfl) (Nat.le_refl _) (Nat.le_refl _) rfl (CALLi.mono h (fun v6 S6 _ h => ?_))
            exact AW_retz dX8_readHole_111 rfl h.1 h.2
          · refine AW_aload_n 2 (n := 0) rfl dX8_readHole_83 rfl ?_
            refine AW_iconst (v := 2) dX8_readHole_84 rfl ?_
            refine AW_callVi (M := mX8_readHole) (pc := 85) (As := [.int 2]) (ρ1 := ρ) (st := []) dX8_readHole_85 mdX8_fail rfl mlX8_90 imX8_fail seX8_fail (rcv_of (q := (RX8, TX8, 12)) (Nat.le_of_ble_eq_true rfl) (okn hρ (Nat.le_of_ble_eq_true rfl)) rfl rfl) ⟨rfl, npX8_fail⟩ (Nat.le_of_ble_eq_true rfl) (Nat.le_refl _) (Nat.le_refl _) rfl (CALLi.mono h (fun v7 S7 _ h => ?_))
            exact AW_retz dX8_readHole_88 rfl h.1 h.2
        · refine AW_aload_n 2 (n := 0) rfl dX8_readHole_83 rfl ?_
          refine AW_iconst (v := 2) dX8_readHole_84 rfl ?_
          refine AW_callVi (M := mX8_readHole) (pc := 85) (As := [.int 2]) (ρ1 := ρ) (st := []) dX8_readHole_85 mdX8_fail rfl mlX8_90 imX8_fail seX8_fail (rcv_of (q := (RX8, TX8, 12)) (Nat.le_of_ble_eq_true rfl) (okn hρ (Nat.le_of_ble_eq_true rfl)) rfl rfl) ⟨rfl, npX8_fail⟩ (Nat.le_of_ble_eq_true rfl) (Nat.le_refl _) (Nat.le_refl _) rfl (CALLi.mono h (fun v8 S8 _ h => ?_))
          exact AW_retz dX8_readHole_88 rfl h.1 h.2
set_option maxRecDepth 20000 in
theorem eX8_passWord {g : GX} {Q : Int32 → St → Prop} {d : Nat} {ρ : Rs} {S : St} (hρ : Ok ρ) {w2 : Nat} (hw_2 : w2 < 5) (h : if (S.1 19 8) = 1 then CALLi g d mX8_isWord [.ref 19, .ref 17, .ref w2] ρ ρ S (fun v1 S1 => if v1 = 0 then CALLi g d mX8_fail [.ref 19, .int 1] ρ ρ S1 (fun v2 S2 => Bz v2 ∧ (Q v2 S2)) else CALLv g d mX8_advance [.ref 19, .ref 17] ρ ρ S1 (fun S3 => Q 1 S3)) else CALLi g d mX8_fail [.ref 19, .int 1] ρ ρ S (fun v4 S4 => Bz v4 ∧ (Q v4 S4))) : CALLi g (d + 1) mX8_passWord [.ref 19, .ref 17, .ref w2] ρ ρ S Q := by
  refine CALL.of mdX8_passWord.2.2.2.2 (Nat.le_of_ble_eq_true rfl) (Nat.le_refl _) (Nat.le_refl _) ?_
  show AW g ρ (QI Q) (d + 1) mX8_passWord 0 [(0, .ref 19), (1, .ref 17), (2, .ref w2)] [] ρ S
  refine AW_aload_n 0 (n := 0) rfl dX8_passWord_0 rfl ?_
  refine AW_get dX8_passWord_1 flX8_50 (Nat.le_of_ble_eq_true rfl) (okn hρ (Nat.le_of_ble_eq_true rfl)) rfl (v := .int (S.1 19 8)) (fun _ => rfl) ?_
  refine AW_iconst (v := 1) dX8_passWord_4 rfl ?_
  refine AW_icmp_ne dX8_passWord_5 rfl (iteM h (fun h => ?_) (fun h => ?_))
  · refine AW_aload_n 0 (n := 0) rfl dX8_passWord_8 rfl ?_
    refine AW_aload_n 1 (n := 1) rfl dX8_passWord_9 rfl ?_
    refine AW_aload_n 2 (n := 2) rfl dX8_passWord_10 rfl ?_
    refine AW_callVi (M := mX8_passWord) (pc := 11) (As := [.ref 17, .ref w2]) (ρ1 := ρ) (st := []) dX8_passWord_11 mdX8_isWord rfl mlX8_100 imX8_isWord seX8_isWord (rcv_of (q := (RX8, TX8, 12)) (Nat.le_of_ble_eq_true rfl) (okn hρ (Nat.le_of_ble_eq_true rfl)) rfl rfl) ⟨rfl, npX8_isWord⟩ (Nat.le_of_ble_eq_true rfl) (Nat.le_refl _) (Nat.le_refl _) rfl (CALLi.mono h (fun v1 S1 _ h => ?_))
    refine AW_if_ne dX8_passWord_14 rfl (iteM h (fun h => ?_) (fun h => ?_))
    · refine AW_aload_n 0 (n := 0) rfl dX8_passWord_17 rfl ?_
      refine AW_iconst (v := 1) dX8_passWord_18 rfl ?_
      refine AW_callVi (M := mX8_passWord) (pc := 19) (As := [.int 1]) (ρ1 := ρ) (st := []) dX8_passWord_19 mdX8_fail rfl mlX8_90 imX8_fail seX8_fail (rcv_of (q := (RX8, TX8, 12)) (Nat.le_of_ble_eq_true rfl) (okn hρ (Nat.le_of_ble_eq_true rfl)) rfl rfl) ⟨rfl, npX8_fail⟩ (Nat.le_of_ble_eq_true rfl) (Nat.le_refl _) (Nat.le_refl _) rfl (CALLi.mono h (fun v2 S2 _ h => ?_))
      exact AW_retz dX8_passWord_22 rfl h.1 h.2
    · refine AW_aload_n 0 (n := 0) rfl dX8_passWord_23 rfl ?_
      refine AW_aload_n 1 (n := 1) rfl dX8_passWord_24 rfl ?_
      refine AW_callVv (M := mX8_passWord) (pc := 25) (As := [.ref 17]) (ρ1 := ρ) (st := []) dX8_passWord_25 mdX8_advance rfl mlX8_46 imX8_advance seX8_advance (rcv_of (q := (RX8, TX8, 12)) (Nat.le_of_ble_eq_true rfl) (okn hρ (Nat.le_of_ble_eq_true rfl)) rfl rfl) ⟨rfl, npX8_advance⟩ (Nat.le_of_ble_eq_true rfl) (Nat.le_refl _) (Nat.le_refl _) rfl (CALLv.mono h (fun S3 _ h => ?_))
      refine AW_iconst (v := 1) dX8_passWord_28 rfl ?_
      exact AW_retz dX8_passWord_29 rfl Bz1 h
  · refine AW_aload_n 0 (n := 0) rfl dX8_passWord_17 rfl ?_
    refine AW_iconst (v := 1) dX8_passWord_18 rfl ?_
    refine AW_callVi (M := mX8_passWord) (pc := 19) (As := [.int 1]) (ρ1 := ρ) (st := []) dX8_passWord_19 mdX8_fail rfl mlX8_90 imX8_fail seX8_fail (rcv_of (q := (RX8, TX8, 12)) (Nat.le_of_ble_eq_true rfl) (okn hρ (Nat.le_of_ble_eq_true rfl)) rfl rfl) ⟨rfl, npX8_fail⟩ (Nat.le_of_ble_eq_true rfl) (Nat.le_refl _) (Nat.le_refl _) rfl (CALLi.mono h (fun v4 S4 _ h => ?_))
    exact AW_retz dX8_passWord_22 rfl h.1 h.2
set_option maxRecDepth 20000 in
theorem eX8_passSign {g : GX} {Q : Int32 → St → Prop} {d : Nat} {ρ : Rs} {S : St} (hρ : Ok ρ) (hF : ∀ k ∈ ([19] : List Nat), gF g k) (h : if (S.1 19 8) = 3 then CALLv g d mX8_advance [.ref 19, .ref 17] ρ ρ (setI S 19 4 ((S.1 19 4) + 1)) (fun S1 => Q 1 S1) else CALLi g d mX8_fail [.ref 19, .int 1] ρ ρ S (fun v2 S2 => Bz v2 ∧ (Q v2 S2))) : CALLi g (d + 1) mX8_passSign [.ref 19, .ref 17] ρ ρ S Q := by
  refine CALL.of mdX8_passSign.2.2.2.2 (Nat.le_of_ble_eq_true rfl) (Nat.le_refl _) (Nat.le_refl _) ?_
  show AW g ρ (QI Q) (d + 1) mX8_passSign 0 [(0, .ref 19), (1, .ref 17)] [] ρ S
  refine AW_aload_n 0 (n := 0) rfl dX8_passSign_0 rfl ?_
  refine AW_get dX8_passSign_1 flX8_50 (Nat.le_of_ble_eq_true rfl) (okn hρ (Nat.le_of_ble_eq_true rfl)) rfl (v := .int (S.1 19 8)) (fun _ => rfl) ?_
  refine AW_iconst (v := 3) dX8_passSign_4 rfl ?_
  refine AW_icmp_eq dX8_passSign_5 rfl (iteM h (fun h => ?_) (fun h => ?_))
  · refine AW_aload_n 0 (n := 0) rfl dX8_passSign_14 rfl ?_
    refine AW_dup dX8_passSign_15 rfl ?_
    refine AW_get dX8_passSign_16 flX8_28 (Nat.le_of_ble_eq_true rfl) (okn hρ (Nat.le_of_ble_eq_true rfl)) rfl (v := .int (S.1 19 4)) (fun _ => rfl) ?_
    refine AW_iconst (v := 1) dX8_passSign_19 rfl ?_
    refine AW_iadd dX8_passSign_20 ?_
    refine AW_put dX8_passSign_21 flX8_28 fp_6_4 (Nat.le_of_ble_eq_true rfl) (okn hρ (Nat.le_of_ble_eq_true rfl)) rfl (fun _ => rfl) (fun _ => rfl) rfl rfl rfl rfl (Fr.setI _ _ _ rfl) (fun _ _ => rfl) (ρ2 := ρ) (S2 := setI S 19 4 ((S.1 19 4) + 1)) (fun _ => rfl) (fun _ _ _ q1 _ => fvI_o q1) (hF _ (List.mem_of_getElem? (i := 0) rfl)) ?_
    refine AW_aload_n 0 (n := 0) rfl dX8_passSign_24 rfl ?_
    refine AW_aload_n 1 (n := 1) rfl dX8_passSign_25 rfl ?_
    refine AW_callVv (M := mX8_passSign) (pc := 26) (As := [.ref 17]) (ρ1 := ρ) (st := []) dX8_passSign_26 mdX8_advance rfl mlX8_46 imX8_advance seX8_advance (rcv_of (q := (RX8, TX8, 12)) (Nat.le_of_ble_eq_true rfl) (okn hρ (Nat.le_of_ble_eq_true rfl)) rfl rfl) ⟨rfl, npX8_advance⟩ (Nat.le_of_ble_eq_true rfl) (Nat.le_refl _) (Nat.le_refl _) rfl (CALLv.mono h (fun S1 _ h => ?_))
    refine AW_iconst (v := 1) dX8_passSign_29 rfl ?_
    exact AW_retz dX8_passSign_30 rfl Bz1 h
  · refine AW_aload_n 0 (n := 0) rfl dX8_passSign_8 rfl ?_
    refine AW_iconst (v := 1) dX8_passSign_9 rfl ?_
    refine AW_callVi (M := mX8_passSign) (pc := 10) (As := [.int 1]) (ρ1 := ρ) (st := []) dX8_passSign_10 mdX8_fail rfl mlX8_90 imX8_fail seX8_fail (rcv_of (q := (RX8, TX8, 12)) (Nat.le_of_ble_eq_true rfl) (okn hρ (Nat.le_of_ble_eq_true rfl)) rfl rfl) ⟨rfl, npX8_fail⟩ (Nat.le_of_ble_eq_true rfl) (Nat.le_refl _) (Nat.le_refl _) rfl (CALLi.mono h (fun v2 S2 _ h => ?_))
    exact AW_retz dX8_passSign_13 rfl h.1 h.2
set_option maxRecDepth 20000 in
theorem eX8_isNumber {g : GX} {Q : Int32 → St → Prop} {d : Nat} {ρ : Rs} {S : St} (hρ : Ok ρ) {x1 : Int32} {x2 : Int32} (h : if (S.1 19 8) = 2 then if (S.1 19 11) < x1 then CALLi g d mX8_fail [.ref 19, .int 2] ρ ρ S (fun v1 S1 => if v1 = 0 then Q 0 S1 else Q 1 S1) else if (S.1 19 11) ≤ x2 then Q 1 S else CALLi g d mX8_fail [.ref 19, .int 2] ρ ρ S (fun v2 S2 => if v2 = 0 then Q 0 S2 else Q 1 S2) else CALLi g d mX8_fail [.ref 19, .int 1] ρ ρ S (fun v3 S3 => Bz v3 ∧ (Q v3 S3))) : CALLi g (d + 1) mX8_isNumber [.ref 19, .int x1, .int x2] ρ ρ S Q := by
  refine CALL.of mdX8_isNumber.2.2.2.2 (Nat.le_of_ble_eq_true rfl) (Nat.le_refl _) (Nat.le_refl _) ?_
  show AW g ρ (QI Q) (d + 1) mX8_isNumber 0 [(0, .ref 19), (1, .int x1), (2, .int x2)] [] ρ S
  refine AW_aload_n 0 (n := 0) rfl dX8_isNumber_0 rfl ?_
  refine AW_get dX8_isNumber_1 flX8_50 (Nat.le_of_ble_eq_true rfl) (okn hρ (Nat.le_of_ble_eq_true rfl)) rfl (v := .int (S.1 19 8)) (fun _ => rfl) ?_
  refine AW_iconst (v := 2) dX8_isNumber_4 rfl ?_
  refine AW_icmp_eq dX8_isNumber_5 rfl (iteM h (fun h => ?_) (fun h => ?_))
  · refine AW_aload_n 0 (n := 0) rfl dX8_isNumber_14 rfl ?_
    refine AW_get dX8_isNumber_15 flX8_81 (Nat.le_of_ble_eq_true rfl) (okn hρ (Nat.le_of_ble_eq_true rfl)) rfl (v := .int (S.1 19 11)) (fun _ => rfl) ?_
    refine AW_iload_n 1 (n := 1) rfl dX8_isNumber_18 rfl ?_
    refine AW_icmp_lt dX8_isNumber_19 rfl (iteM h (fun h => ?_) (fun h => ?_))
    · refine AW_aload_n 0 (n := 0) rfl dX8_isNumber_30 rfl ?_
      refine AW_iconst (v := 2) dX8_isNumber_31 rfl ?_
      refine AW_callVi (M := mX8_isNumber) (pc := 32) (As := [.int 2]) (ρ1 := ρ) (st := []) dX8_isNumber_32 mdX8_fail rfl mlX8_90 imX8_fail seX8_fail (rcv_of (q := (RX8, TX8, 12)) (Nat.le_of_ble_eq_true rfl) (okn hρ (Nat.le_of_ble_eq_true rfl)) rfl rfl) ⟨rfl, npX8_fail⟩ (Nat.le_of_ble_eq_true rfl) (Nat.le_refl _) (Nat.le_refl _) rfl (CALLi.mono h (fun v1 S1 _ h => ?_))
      refine AW_if_eq dX8_isNumber_35 rfl (iteM h (fun h => ?_) (fun h => ?_))
      · refine AW_iconst (v := 0) dX8_isNumber_42 rfl ?_
        exact AW_retz dX8_isNumber_43 rfl Bz0 h
      · refine AW_iconst (v := 1) dX8_isNumber_38 rfl ?_
        refine AW_goto (tgt := 43) dX8_isNumber_39 rfl ?_
        exact AW_retz dX8_isNumber_43 rfl Bz1 h
    · refine AW_aload_n 0 (n := 0) rfl dX8_isNumber_22 rfl ?_
      refine AW_get dX8_isNumber_23 flX8_81 (Nat.le_of_ble_eq_true rfl) (okn hρ (Nat.le_of_ble_eq_true rfl)) rfl (v := .int (S.1 19 11)) (fun _ => rfl) ?_
      refine AW_iload_n 2 (n := 2) rfl dX8_isNumber_26 rfl ?_
      refine AW_icmp_le dX8_isNumber_27 rfl (iteM h (fun h => ?_) (fun h => ?_))
      · refine AW_iconst (v := 1) dX8_isNumber_38 rfl ?_
        refine AW_goto (tgt := 43) dX8_isNumber_39 rfl ?_
        exact AW_retz dX8_isNumber_43 rfl Bz1 h
      · refine AW_aload_n 0 (n := 0) rfl dX8_isNumber_30 rfl ?_
        refine AW_iconst (v := 2) dX8_isNumber_31 rfl ?_
        refine AW_callVi (M := mX8_isNumber) (pc := 32) (As := [.int 2]) (ρ1 := ρ) (st := []) dX8_isNumber_32 mdX8_fail rfl mlX8_90 imX8_fail seX8_fail (rcv_of (q := (RX8, TX8, 12)) (Nat.le_of_ble_eq_true rfl) (okn hρ (Nat.le_of_ble_eq_true rfl)) rfl rfl) ⟨rfl, npX8_fail⟩ (Nat.le_of_ble_eq_true rfl) (Nat.le_refl _) (Nat.le_refl _) rfl (CALLi.mono h (fun v2 S2 _ h => ?_))
        refine AW_if_eq dX8_isNumber_35 rfl (iteM h (fun h => ?_) (fun h => ?_))
        · refine AW_iconst (v := 0) dX8_isNumber_42 rfl ?_
          exact AW_retz dX8_isNumber_43 rfl Bz0 h
        · refine AW_iconst (v := 1) dX8_isNumber_38 rfl ?_
          refine AW_goto (tgt := 43) dX8_isNumber_39 rfl ?_
          exact AW_retz dX8_isNumber_43 rfl Bz1 h
  · refine AW_aload_n 0 (n := 0) rfl dX8_isNumber_8 rfl ?_
    refine AW_iconst (v := 1) dX8_isNumber_9 rfl ?_
    refine AW_callVi (M := mX8_isNumber) (pc := 10) (As := [.int 1]) (ρ1 := ρ) (st := []) dX8_isNumber_10 mdX8_fail rfl mlX8_90 imX8_fail seX8_fail (rcv_of (q := (RX8, TX8, 12)) (Nat.le_of_ble_eq_true rfl) (okn hρ (Nat.le_of_ble_eq_true rfl)) rfl rfl) ⟨rfl, npX8_fail⟩ (Nat.le_of_ble_eq_true rfl) (Nat.le_refl _) (Nat.le_refl _) rfl (CALLi.mono h (fun v3 S3 _ h => ?_))
    exact AW_retz dX8_isNumber_13 rfl h.1 h.2
set_option maxRecDepth 20000 in
theorem eX8_isWord_20 {g : GX} {Q : Int32 → St → Prop} {d : Nat} {ρ : Rs} {S : St} (hρ : Ok ρ) {w2 : Nat} (hw_2 : w2 < 5) {x3 : Int32} (h : CALLi g d mJ0_length_8abf5 [.ref w2] ρ ρ S (fun v1 S1 => if v1 ≤ x3 then Q 1 S1 else CALLi g d mX10_byteAt [.ref 17, .int ((S1.1 19 9) + x3)] ρ ρ S1 (fun v2 S2 => CALLi g d mJ0_charAt_5068e [.ref w2, .int x3] ρ ρ S2 (fun v3 S3 => if v2 = v3 then AW g ρ (QI Q) (d + 1) mX8_isWord 20 [(0, .ref 19), (1, .ref 17), (2, .ref w2), (3, .int (x3 + 1))] [] ρ S3 else Q 0 S3)))) : AW g ρ (QI Q) (d + 1) mX8_isWord 20 [(0, .ref 19), (1, .ref 17), (2, .ref w2), (3, .int x3)] [] ρ S := by
  refine AW_iload_n 3 (n := 3) rfl dX8_isWord_20 rfl ?_
  refine AW_aload_n 2 (n := 2) rfl dX8_isWord_21 rfl ?_
  refine AW_callVi (M := mX8_isWord) (pc := 22) (As := []) (ρ1 := ρ) (st := [.int x3]) dX8_isWord_22 mdJ0_length_8abf5 rfl mlX8_106 imJ0_length_8abf5 seJ0_length_8abf5 (rcv_S hw_2) ⟨rfl, npJ0_length_8abf5⟩ (Nat.le_of_ble_eq_true rfl) (Nat.le_refl _) (Nat.le_refl _) rfl (CALLi.mono h (fun v1 S1 _ h => ?_))
  refine AW_icmp_ge dX8_isWord_25 rfl (iteM h (fun h => ?_) (fun h => ?_))
  · refine AW_iconst (v := 1) dX8_isWord_54 rfl ?_
    exact AW_retz dX8_isWord_55 rfl Bz1 h
  · refine AW_aload_n 1 (n := 1) rfl dX8_isWord_28 rfl ?_
    refine AW_aload_n 0 (n := 0) rfl dX8_isWord_29 rfl ?_
    refine AW_get dX8_isWord_30 flX8_103 (Nat.le_of_ble_eq_true rfl) (okn hρ (Nat.le_of_ble_eq_true rfl)) rfl (v := .int (S1.1 19 9)) (fun _ => rfl) ?_
    refine AW_iload_n 3 (n := 3) rfl dX8_isWord_33 rfl ?_
    refine AW_iadd dX8_isWord_34 ?_
    refine AW_callVi (M := mX8_isWord) (pc := 35) (As := [.int ((S1.1 19 9) + x3)]) (ρ1 := ρ) (st := []) dX8_isWord_35 mdX10_byteAt rfl mlX8_112 imX10_byteAt seX10_byteAt (rcv_of (q := (RX10, TX10, 2)) (Nat.le_of_ble_eq_true rfl) (okn hρ (Nat.le_of_ble_eq_true rfl)) rfl rfl) ⟨rfl, npX10_byteAt⟩ (Nat.le_of_ble_eq_true rfl) (Nat.le_refl _) (Nat.le_refl _) rfl (CALLi.mono h (fun v2 S2 _ h => ?_))
    refine AW_aload_n 2 (n := 2) rfl dX8_isWord_38 rfl ?_
    refine AW_iload_n 3 (n := 3) rfl dX8_isWord_39 rfl ?_
    refine AW_callVi (M := mX8_isWord) (pc := 40) (As := [.int x3]) (ρ1 := ρ) (st := [.int v2]) dX8_isWord_40 mdJ0_charAt_5068e rfl mlX8_118 imJ0_charAt_5068e seJ0_charAt_5068e (rcv_S hw_2) ⟨rfl, npJ0_charAt_5068e⟩ (Nat.le_of_ble_eq_true rfl) (Nat.le_refl _) (Nat.le_refl _) rfl (CALLi.mono h (fun v3 S3 _ h => ?_))
    refine AW_icmp_eq dX8_isWord_43 rfl (iteM h (fun h => ?_) (fun h => ?_))
    · refine AW_iinc 3 (v := x3 + 1) dX8_isWord_48 rfl rfl (Nat.le_of_ble_eq_true rfl) rfl ?_
      refine AW_goto (tgt := 20) dX8_isWord_51 rfl ?_
      exact AW.sub [1, 2, 3, 0] rfl h
    · refine AW_iconst (v := 0) dX8_isWord_46 rfl ?_
      exact AW_retz dX8_isWord_47 rfl Bz0 h
set_option maxRecDepth 20000 in
theorem eX8_isWord {g : GX} {Q : Int32 → St → Prop} {d : Nat} {ρ : Rs} {S : St} (hρ : Ok ρ) {w2 : Nat} (hw_2 : w2 < 5) (h : CALLi g d mJ0_length_8abf5 [.ref w2] ρ ρ S (fun v1 S1 => if ((S.1 19 10) - (S.1 19 9)) = v1 then AW g ρ (QI Q) (d + 1) mX8_isWord 20 [(0, .ref 19), (1, .ref 17), (2, .ref w2), (3, .int 0)] [] ρ S1 else Q 0 S1)) : CALLi g (d + 1) mX8_isWord [.ref 19, .ref 17, .ref w2] ρ ρ S Q := by
  refine CALL.of mdX8_isWord.2.2.2.2 (Nat.le_of_ble_eq_true rfl) (Nat.le_refl _) (Nat.le_refl _) ?_
  show AW g ρ (QI Q) (d + 1) mX8_isWord 0 [(0, .ref 19), (1, .ref 17), (2, .ref w2)] [] ρ S
  refine AW_aload_n 0 (n := 0) rfl dX8_isWord_0 rfl ?_
  refine AW_get dX8_isWord_1 flX8_37 (Nat.le_of_ble_eq_true rfl) (okn hρ (Nat.le_of_ble_eq_true rfl)) rfl (v := .int (S.1 19 10)) (fun _ => rfl) ?_
  refine AW_aload_n 0 (n := 0) rfl dX8_isWord_4 rfl ?_
  refine AW_get dX8_isWord_5 flX8_103 (Nat.le_of_ble_eq_true rfl) (okn hρ (Nat.le_of_ble_eq_true rfl)) rfl (v := .int (S.1 19 9)) (fun _ => rfl) ?_
  refine AW_isub dX8_isWord_8 ?_
  refine AW_aload_n 2 (n := 2) rfl dX8_isWord_9 rfl ?_
  refine AW_callVi (M := mX8_isWord) (pc := 10) (As := []) (ρ1 := ρ) (st := [.int ((S.1 19 10) - (S.1 19 9))]) dX8_isWord_10 mdJ0_length_8abf5 rfl mlX8_106 imJ0_length_8abf5 seJ0_length_8abf5 (rcv_S hw_2) ⟨rfl, npJ0_length_8abf5⟩ (Nat.le_of_ble_eq_true rfl) (Nat.le_refl _) (Nat.le_refl _) rfl (CALLi.mono h (fun v1 S1 _ h => ?_))
  refine AW_icmp_eq dX8_isWord_13 rfl (iteM h (fun h => ?_) (fun h => ?_))
  · refine AW_iconst (v := 0) dX8_isWord_18 rfl ?_
    refine AW_istore_n (n := 3) (i := 3) rfl dX8_isWord_19 (Nat.le_of_ble_eq_true rfl) rfl ?_
    exact AW.sub [1, 2, 3, 0] rfl h
  · refine AW_iconst (v := 0) dX8_isWord_16 rfl ?_
    exact AW_retz dX8_isWord_17 rfl Bz0 h
set_option maxRecDepth 20000 in
theorem eX8_fail {g : GX} {Q : Int32 → St → Prop} {d : Nat} {ρ : Rs} {S : St} (hρ : Ok ρ) {x1 : Int32} (hF : ∀ k ∈ ([19] : List Nat), gF g k) (h : Q 0 (setI (setI S 19 0 x1) 19 1 (S.1 19 9))) : CALLi g d mX8_fail [.ref 19, .int x1] ρ ρ S Q := by
  refine CALL.of mdX8_fail.2.2.2.2 (Nat.le_of_ble_eq_true rfl) (Nat.le_refl _) (Nat.le_refl _) ?_
  show AW g ρ (QI Q) d mX8_fail 0 [(0, .ref 19), (1, .int x1)] [] ρ S
  refine AW_aload_n 0 (n := 0) rfl dX8_fail_0 rfl ?_
  refine AW_iload_n 1 (n := 1) rfl dX8_fail_1 rfl ?_
  refine AW_put dX8_fail_2 flX8_19 fp_6_0 (Nat.le_of_ble_eq_true rfl) (okn hρ (Nat.le_of_ble_eq_true rfl)) rfl (fun _ => rfl) (fun _ => rfl) rfl rfl rfl rfl (Fr.setI _ _ _ rfl) (fun _ _ => rfl) (ρ2 := ρ) (S2 := setI S 19 0 x1) (fun _ => rfl) (fun _ _ _ q1 _ => fvI_o q1) (hF _ (List.mem_of_getElem? (i := 0) rfl)) ?_
  refine AW_aload_n 0 (n := 0) rfl dX8_fail_5 rfl ?_
  refine AW_aload_n 0 (n := 0) rfl dX8_fail_6 rfl ?_
  refine AW_get dX8_fail_7 flX8_103 (Nat.le_of_ble_eq_true rfl) (okn hρ (Nat.le_of_ble_eq_true rfl)) rfl (v := .int (S.1 19 9)) (fun _ => rfl) ?_
  refine AW_put dX8_fail_10 flX8_9 fp_6_1 (Nat.le_of_ble_eq_true rfl) (okn hρ (Nat.le_of_ble_eq_true rfl)) rfl (fun _ => rfl) (fun _ => rfl) rfl rfl rfl rfl (Fr.setI _ _ _ rfl) (fun _ _ => rfl) (ρ2 := ρ) (S2 := setI (setI S 19 0 x1) 19 1 (S.1 19 9)) (fun _ => rfl) (fun _ _ _ q1 _ => fvI_o q1) (hF _ (List.mem_of_getElem? (i := 0) rfl)) ?_
  refine AW_iconst (v := 0) dX8_fail_13 rfl ?_
  exact AW_retz dX8_fail_14 rfl Bz0 h
set_option maxRecDepth 20000 in
theorem eX8_advance_121 {g : GX} {Q : St → Prop} {d : Nat} {ρ : Rs} {S : St} (hρ : Ok ρ) (hF : ∀ k ∈ ([19] : List Nat), gF g k) (h : if (S.1 19 8) = 2 then CALLi g d mX8_numberIn [.ref 19, .ref 17] ρ ρ S (fun v1 S1 => Q (setI S1 19 11 v1)) else Q (setI S 19 11 0)) : AW g ρ (QV Q) (d + 1) mX8_advance 121 [(0, .ref 19), (1, .ref 17)] [] ρ S := by
  refine AW_aload_n 0 (n := 0) rfl dX8_advance_121 rfl ?_
  refine AW_aload_n 0 (n := 0) rfl dX8_advance_122 rfl ?_
  refine AW_get dX8_advance_123 flX8_50 (Nat.le_of_ble_eq_true rfl) (okn hρ (Nat.le_of_ble_eq_true rfl)) rfl (v := .int (S.1 19 8)) (fun _ => rfl) ?_
  refine AW_iconst (v := 2) dX8_advance_126 rfl ?_
  refine AW_icmp_ne dX8_advance_127 rfl (iteM h (fun h => ?_) (fun h => ?_))
  · refine AW_aload_n 0 (n := 0) rfl dX8_advance_130 rfl ?_
    refine AW_aload_n 1 (n := 1) rfl dX8_advance_131 rfl ?_
    refine AW_callVi (M := mX8_advance) (pc := 132) (As := [.ref 17]) (ρ1 := ρ) (st := [.ref 19]) dX8_advance_132 mdX8_numberIn rfl mlX8_131 imX8_numberIn seX8_numberIn (rcv_of (q := (RX8, TX8, 12)) (Nat.le_of_ble_eq_true rfl) (okn hρ (Nat.le_of_ble_eq_true rfl)) rfl rfl) ⟨rfl, npX8_numberIn⟩ (Nat.le_of_ble_eq_true rfl) (Nat.le_refl _) (Nat.le_refl _) rfl (CALLi.mono h (fun v1 S1 _ h => ?_))
    refine AW_goto (tgt := 139) dX8_advance_135 rfl ?_
    refine AW_put dX8_advance_139 flX8_81 fp_6_11 (Nat.le_of_ble_eq_true rfl) (okn hρ (Nat.le_of_ble_eq_true rfl)) rfl (fun _ => rfl) (fun _ => rfl) rfl rfl rfl rfl (Fr.setI _ _ _ rfl) (fun _ _ => rfl) (ρ2 := ρ) (S2 := setI S1 19 11 v1) (fun _ => rfl) (fun _ _ _ q1 _ => fvI_o q1) (hF _ (List.mem_of_getElem? (i := 0) rfl)) ?_
    refine AW_goto (tgt := 162) dX8_advance_142 rfl ?_
    exact AW_retv dX8_advance_162 rfl h
  · refine AW_iconst (v := 0) dX8_advance_138 rfl ?_
    refine AW_put dX8_advance_139 flX8_81 fp_6_11 (Nat.le_of_ble_eq_true rfl) (okn hρ (Nat.le_of_ble_eq_true rfl)) rfl (fun _ => rfl) (fun _ => rfl) rfl rfl rfl rfl (Fr.setI _ _ _ rfl) (fun _ _ => rfl) (ρ2 := ρ) (S2 := setI S 19 11 0) (fun _ => rfl) (fun _ _ _ q1 _ => fvI_o q1) (hF _ (List.mem_of_getElem? (i := 0) rfl)) ?_
    refine AW_goto (tgt := 162) dX8_advance_142 rfl ?_
    exact AW_retv dX8_advance_162 rfl h
set_option maxRecDepth 20000 in
theorem eX8_advance_82 {g : GX} {Q : St → Prop} {d : Nat} {ρ : Rs} {S : St} (hρ : Ok ρ) (hF : ∀ k ∈ ([19] : List Nat), gF g k) (h : if (S.1 17 1) ≤ (S.1 19 10) then AW g ρ (QV Q) (d + 1) mX8_advance 121 [(0, .ref 19), (1, .ref 17)] [] ρ S else CALLi g d mX8_kindOf [.ref 17, .int (S.1 19 10)] ρ ρ S (fun v1 S1 => if v1 = (S1.1 19 8) then AW g ρ (QV Q) (d + 1) mX8_advance 82 [(0, .ref 19), (1, .ref 17)] [] ρ (setI S1 19 10 ((S1.1 19 10) + 1)) else AW g ρ (QV Q) (d + 1) mX8_advance 121 [(0, .ref 19), (1, .ref 17)] [] ρ S1)) : AW g ρ (QV Q) (d + 1) mX8_advance 82 [(0, .ref 19), (1, .ref 17)] [] ρ S := by
  refine AW_aload_n 0 (n := 0) rfl dX8_advance_82 rfl ?_
  refine AW_get dX8_advance_83 flX8_37 (Nat.le_of_ble_eq_true rfl) (okn hρ (Nat.le_of_ble_eq_true rfl)) rfl (v := .int (S.1 19 10)) (fun _ => rfl) ?_
  refine AW_aload_n 1 (n := 1) rfl dX8_advance_86 rfl ?_
  refine AW_get dX8_advance_87 flX8_122 (Nat.le_of_ble_eq_true rfl) (okn hρ (Nat.le_of_ble_eq_true rfl)) rfl (v := .int (S.1 17 1)) (fun _ => rfl) ?_
  refine AW_icmp_ge dX8_advance_90 rfl (iteM h (fun h => ?_) (fun h => ?_))
  · exact AW.sub [0, 1] rfl h
  · refine AW_aload_n 1 (n := 1) rfl dX8_advance_93 rfl ?_
    refine AW_aload_n 0 (n := 0) rfl dX8_advance_94 rfl ?_
    refine AW_get dX8_advance_95 flX8_37 (Nat.le_of_ble_eq_true rfl) (okn hρ (Nat.le_of_ble_eq_true rfl)) rfl (v := .int (S.1 19 10)) (fun _ => rfl) ?_
    refine AW_callSi (M := mX8_advance) (pc := 98) (As := [.ref 17, .int (S.1 19 10)]) (ρ1 := ρ) (st := []) dX8_advance_98 mdX8_kindOf mlX8_127 smX8_kindOf ⟨rfl, npX8_kindOf⟩ (Nat.le_of_ble_eq_true rfl) (Nat.le_refl _) (Nat.le_refl _) rfl (CALLi.mono h (fun v1 S1 _ h => ?_))
    refine AW_aload_n 0 (n := 0) rfl dX8_advance_101 rfl ?_
    refine AW_get dX8_advance_102 flX8_50 (Nat.le_of_ble_eq_true rfl) (okn hρ (Nat.le_of_ble_eq_true rfl)) rfl (v := .int (S1.1 19 8)) (fun _ => rfl) ?_
    refine AW_icmp_ne dX8_advance_105 rfl (iteM h (fun h => ?_) (fun h => ?_))
    · refine AW_aload_n 0 (n := 0) rfl dX8_advance_108 rfl ?_
      refine AW_dup dX8_advance_109 rfl ?_
      refine AW_get dX8_advance_110 flX8_37 (Nat.le_of_ble_eq_true rfl) (okn hρ (Nat.le_of_ble_eq_true rfl)) rfl (v := .int (S1.1 19 10)) (fun _ => rfl) ?_
      refine AW_iconst (v := 1) dX8_advance_113 rfl ?_
      refine AW_iadd dX8_advance_114 ?_
      refine AW_put dX8_advance_115 flX8_37 fp_6_10 (Nat.le_of_ble_eq_true rfl) (okn hρ (Nat.le_of_ble_eq_true rfl)) rfl (fun _ => rfl) (fun _ => rfl) rfl rfl rfl rfl (Fr.setI _ _ _ rfl) (fun _ _ => rfl) (ρ2 := ρ) (S2 := setI S1 19 10 ((S1.1 19 10) + 1)) (fun _ => rfl) (fun _ _ _ q1 _ => fvI_o q1) (hF _ (List.mem_of_getElem? (i := 0) rfl)) ?_
      refine AW_goto (tgt := 82) dX8_advance_118 rfl ?_
      exact AW.sub [0, 1] rfl h
    · exact AW.sub [0, 1] rfl h
set_option maxRecDepth 20000 in
theorem eX8_advance_46 {g : GX} {Q : St → Prop} {d : Nat} {ρ : Rs} {S : St} (hρ : Ok ρ) (hF : ∀ k ∈ ([19] : List Nat), gF g k) (h : CALLi g d mX8_kindOf [.ref 17, .int (S.1 19 9)] ρ ρ (setI S 19 10 (S.1 19 9)) (fun v1 S1 => if v1 = 1 then AW g ρ (QV Q) (d + 1) mX8_advance 82 [(0, .ref 19), (1, .ref 17)] [] ρ (setI S1 19 8 v1) else if v1 = 2 then AW g ρ (QV Q) (d + 1) mX8_advance 82 [(0, .ref 19), (1, .ref 17)] [] ρ (setI S1 19 8 v1) else if v1 = 0 then Q (setI S1 19 8 v1) else Q (setI (setI S1 19 8 v1) 19 10 ((S1.1 19 10) + 1)))) : AW g ρ (QV Q) (d + 1) mX8_advance 46 [(0, .ref 19), (1, .ref 17)] [] ρ S := by
  refine AW_aload_n 0 (n := 0) rfl dX8_advance_46 rfl ?_
  refine AW_aload_n 0 (n := 0) rfl dX8_advance_47 rfl ?_
  refine AW_get dX8_advance_48 flX8_103 (Nat.le_of_ble_eq_true rfl) (okn hρ (Nat.le_of_ble_eq_true rfl)) rfl (v := .int (S.1 19 9)) (fun _ => rfl) ?_
  refine AW_put dX8_advance_51 flX8_37 fp_6_10 (Nat.le_of_ble_eq_true rfl) (okn hρ (Nat.le_of_ble_eq_true rfl)) rfl (fun _ => rfl) (fun _ => rfl) rfl rfl rfl rfl (Fr.setI _ _ _ rfl) (fun _ _ => rfl) (ρ2 := ρ) (S2 := setI S 19 10 (S.1 19 9)) (fun _ => rfl) (fun _ _ _ q1 _ => fvI_o q1) (hF _ (List.mem_of_getElem? (i := 0) rfl)) ?_
  refine AW_aload_n 0 (n := 0) rfl dX8_advance_54 rfl ?_
  refine AW_aload_n 1 (n := 1) rfl dX8_advance_55 rfl ?_
  refine AW_aload_n 0 (n := 0) rfl dX8_advance_56 rfl ?_
  refine AW_get dX8_advance_57 flX8_103 (Nat.le_of_ble_eq_true rfl) (okn hρ (Nat.le_of_ble_eq_true rfl)) rfl (v := .int (S.1 19 9)) (fun _ => rfl) ?_
  refine AW_callSi (M := mX8_advance) (pc := 60) (As := [.ref 17, .int (S.1 19 9)]) (ρ1 := ρ) (st := [.ref 19]) dX8_advance_60 mdX8_kindOf mlX8_127 smX8_kindOf ⟨rfl, npX8_kindOf⟩ (Nat.le_of_ble_eq_true rfl) (Nat.le_refl _) (Nat.le_refl _) rfl (CALLi.mono h (fun v1 S1 _ h => ?_))
  refine AW_put dX8_advance_63 flX8_50 fp_6_8 (Nat.le_of_ble_eq_true rfl) (okn hρ (Nat.le_of_ble_eq_true rfl)) rfl (fun _ => rfl) (fun _ => rfl) rfl rfl rfl rfl (Fr.setI _ _ _ rfl) (fun _ _ => rfl) (ρ2 := ρ) (S2 := setI S1 19 8 v1) (fun _ => rfl) (fun _ _ _ q1 _ => fvI_o q1) (hF _ (List.mem_of_getElem? (i := 0) rfl)) ?_
  refine AW_aload_n 0 (n := 0) rfl dX8_advance_66 rfl ?_
  refine AW_get dX8_advance_67 flX8_50 (Nat.le_of_ble_eq_true rfl) (okn hρ (Nat.le_of_ble_eq_true rfl)) rfl (v := .int v1) (fun _ => rfl) ?_
  refine AW_iconst (v := 1) dX8_advance_70 rfl ?_
  refine AW_icmp_eq dX8_advance_71 rfl (iteM h (fun h => ?_) (fun h => ?_))
  · exact AW.sub [0, 1] rfl h
  · refine AW_aload_n 0 (n := 0) rfl dX8_advance_74 rfl ?_
    refine AW_get dX8_advance_75 flX8_50 (Nat.le_of_ble_eq_true rfl) (okn hρ (Nat.le_of_ble_eq_true rfl)) rfl (v := .int v1) (fun _ => rfl) ?_
    refine AW_iconst (v := 2) dX8_advance_78 rfl ?_
    refine AW_icmp_ne dX8_advance_79 rfl (iteM h (fun h => ?_) (fun h => ?_))
    · exact AW.sub [0, 1] rfl h
    · refine AW_aload_n 0 (n := 0) rfl dX8_advance_145 rfl ?_
      refine AW_get dX8_advance_146 flX8_50 (Nat.le_of_ble_eq_true rfl) (okn hρ (Nat.le_of_ble_eq_true rfl)) rfl (v := .int v1) (fun _ => rfl) ?_
      refine AW_if_eq dX8_advance_149 rfl (iteM h (fun h => ?_) (fun h => ?_))
      · exact AW_retv dX8_advance_162 rfl h
      · refine AW_aload_n 0 (n := 0) rfl dX8_advance_152 rfl ?_
        refine AW_dup dX8_advance_153 rfl ?_
        refine AW_get dX8_advance_154 flX8_37 (Nat.le_of_ble_eq_true rfl) (okn hρ (Nat.le_of_ble_eq_true rfl)) rfl (v := .int (S1.1 19 10)) (fun _ => rfl) ?_
        refine AW_iconst (v := 1) dX8_advance_157 rfl ?_
        refine AW_iadd dX8_advance_158 ?_
        refine AW_put dX8_advance_159 flX8_37 fp_6_10 (Nat.le_of_ble_eq_true rfl) (okn hρ (Nat.le_of_ble_eq_true rfl)) rfl (fun _ => rfl) (fun _ => rfl) rfl rfl rfl rfl (Fr.setI _ _ _ rfl) (fun _ _ => rfl) (ρ2 := ρ) (S2 := setI (setI S1 19 8 v1) 19 10 ((S1.1 19 10) + 1)) (fun _ => rfl) (fun _ _ _ q1 _ => fvI_o q1) (hF _ (List.mem_of_getElem? (i := 0) rfl)) ?_
        exact AW_retv dX8_advance_162 rfl h
set_option maxRecDepth 20000 in
theorem eX8_advance_8 {g : GX} {Q : St → Prop} {d : Nat} {ρ : Rs} {S : St} (hρ : Ok ρ) (hF : ∀ k ∈ ([19] : List Nat), gF g k) (h : if (S.1 17 1) ≤ (S.1 19 9) then AW g ρ (QV Q) (d + 1) mX8_advance 46 [(0, .ref 19), (1, .ref 17)] [] ρ S else CALLi g d mX10_byteAt [.ref 17, .int (S.1 19 9)] ρ ρ S (fun v1 S1 => CALLi g d mX8_isBlank [.int v1] ρ ρ S1 (fun v2 S2 => if v2 = 0 then AW g ρ (QV Q) (d + 1) mX8_advance 46 [(0, .ref 19), (1, .ref 17)] [] ρ S2 else AW g ρ (QV Q) (d + 1) mX8_advance 8 [(0, .ref 19), (1, .ref 17)] [] ρ (setI S2 19 9 ((S2.1 19 9) + 1))))) : AW g ρ (QV Q) (d + 1) mX8_advance 8 [(0, .ref 19), (1, .ref 17)] [] ρ S := by
  refine AW_aload_n 0 (n := 0) rfl dX8_advance_8 rfl ?_
  refine AW_get dX8_advance_9 flX8_103 (Nat.le_of_ble_eq_true rfl) (okn hρ (Nat.le_of_ble_eq_true rfl)) rfl (v := .int (S.1 19 9)) (fun _ => rfl) ?_
  refine AW_aload_n 1 (n := 1) rfl dX8_advance_12 rfl ?_
  refine AW_get dX8_advance_13 flX8_122 (Nat.le_of_ble_eq_true rfl) (okn hρ (Nat.le_of_ble_eq_true rfl)) rfl (v := .int (S.1 17 1)) (fun _ => rfl) ?_
  refine AW_icmp_ge dX8_advance_16 rfl (iteM h (fun h => ?_) (fun h => ?_))
  · exact AW.sub [0, 1] rfl h
  · refine AW_aload_n 1 (n := 1) rfl dX8_advance_19 rfl ?_
    refine AW_aload_n 0 (n := 0) rfl dX8_advance_20 rfl ?_
    refine AW_get dX8_advance_21 flX8_103 (Nat.le_of_ble_eq_true rfl) (okn hρ (Nat.le_of_ble_eq_true rfl)) rfl (v := .int (S.1 19 9)) (fun _ => rfl) ?_
    refine AW_callVi (M := mX8_advance) (pc := 24) (As := [.int (S.1 19 9)]) (ρ1 := ρ) (st := []) dX8_advance_24 mdX10_byteAt rfl mlX8_112 imX10_byteAt seX10_byteAt (rcv_of (q := (RX10, TX10, 2)) (Nat.le_of_ble_eq_true rfl) (okn hρ (Nat.le_of_ble_eq_true rfl)) rfl rfl) ⟨rfl, npX10_byteAt⟩ (Nat.le_of_ble_eq_true rfl) (Nat.le_refl _) (Nat.le_refl _) rfl (CALLi.mono h (fun v1 S1 _ h => ?_))
    refine AW_callSi (M := mX8_advance) (pc := 27) (As := [.int v1]) (ρ1 := ρ) (st := []) dX8_advance_27 mdX8_isBlank mlX8_124 smX8_isBlank ⟨rfl, npX8_isBlank⟩ (Nat.le_of_ble_eq_true rfl) (Nat.le_refl _) (Nat.le_refl _) rfl (CALLi.mono h (fun v2 S2 _ h => ?_))
    refine AW_if_eq dX8_advance_30 rfl (iteM h (fun h => ?_) (fun h => ?_))
    · exact AW.sub [0, 1] rfl h
    · refine AW_aload_n 0 (n := 0) rfl dX8_advance_33 rfl ?_
      refine AW_dup dX8_advance_34 rfl ?_
      refine AW_get dX8_advance_35 flX8_103 (Nat.le_of_ble_eq_true rfl) (okn hρ (Nat.le_of_ble_eq_true rfl)) rfl (v := .int (S2.1 19 9)) (fun _ => rfl) ?_
      refine AW_iconst (v := 1) dX8_advance_38 rfl ?_
      refine AW_iadd dX8_advance_39 ?_
      refine AW_put dX8_advance_40 flX8_103 fp_6_9 (Nat.le_of_ble_eq_true rfl) (okn hρ (Nat.le_of_ble_eq_true rfl)) rfl (fun _ => rfl) (fun _ => rfl) rfl rfl rfl rfl (Fr.setI _ _ _ rfl) (fun _ _ => rfl) (ρ2 := ρ) (S2 := setI S2 19 9 ((S2.1 19 9) + 1)) (fun _ => rfl) (fun _ _ _ q1 _ => fvI_o q1) (hF _ (List.mem_of_getElem? (i := 0) rfl)) ?_
      refine AW_goto (tgt := 8) dX8_advance_43 rfl ?_
      exact AW.sub [0, 1] rfl h
set_option maxRecDepth 20000 in
theorem eX8_advance {g : GX} {Q : St → Prop} {d : Nat} {ρ : Rs} {S : St} (hρ : Ok ρ) (hF : ∀ k ∈ ([19] : List Nat), gF g k) (h : AW g ρ (QV Q) (d + 1) mX8_advance 8 [(0, .ref 19), (1, .ref 17)] [] ρ (setI S 19 9 (S.1 19 10))) : CALLv g (d + 1) mX8_advance [.ref 19, .ref 17] ρ ρ S Q := by
  refine CALL.of mdX8_advance.2.2.2.2 (Nat.le_of_ble_eq_true rfl) (Nat.le_refl _) (Nat.le_refl _) ?_
  show AW g ρ (QV Q) (d + 1) mX8_advance 0 [(0, .ref 19), (1, .ref 17)] [] ρ S
  refine AW_aload_n 0 (n := 0) rfl dX8_advance_0 rfl ?_
  refine AW_aload_n 0 (n := 0) rfl dX8_advance_1 rfl ?_
  refine AW_get dX8_advance_2 flX8_37 (Nat.le_of_ble_eq_true rfl) (okn hρ (Nat.le_of_ble_eq_true rfl)) rfl (v := .int (S.1 19 10)) (fun _ => rfl) ?_
  refine AW_put dX8_advance_5 flX8_103 fp_6_9 (Nat.le_of_ble_eq_true rfl) (okn hρ (Nat.le_of_ble_eq_true rfl)) rfl (fun _ => rfl) (fun _ => rfl) rfl rfl rfl rfl (Fr.setI _ _ _ rfl) (fun _ _ => rfl) (ρ2 := ρ) (S2 := setI S 19 9 (S.1 19 10)) (fun _ => rfl) (fun _ _ _ q1 _ => fvI_o q1) (hF _ (List.mem_of_getElem? (i := 0) rfl)) ?_
  exact AW.sub [0, 1] rfl h
set_option maxRecDepth 20000 in
theorem eX8_numberIn_7 {g : GX} {Q : Int32 → St → Prop} {d : Nat} {ρ : Rs} {S : St} (hρ : Ok ρ) {x2 : Int32} {x3 : Int32} (h : if (S.1 19 10) ≤ x3 then Q x2 S else CALLi g d mX10_byteAt [.ref 17, .int x3] ρ ρ S (fun v1 S1 => AW g ρ (QI Q) (d + 1) mX8_numberIn 7 [(0, .ref 19), (1, .ref 17), (2, .int (if (((10 * x2) + v1) - 48) < 1000 then (((10 * x2) + v1) - 48) else 1000)), (3, .int (x3 + 1))] [] ρ S1)) : AW g ρ (QI Q) (d + 1) mX8_numberIn 7 [(0, .ref 19), (1, .ref 17), (2, .int x2), (3, .int x3)] [] ρ S := by
  refine AW_iload_n 3 (n := 3) rfl dX8_numberIn_7 rfl ?_
  refine AW_aload_n 0 (n := 0) rfl dX8_numberIn_8 rfl ?_
  refine AW_get dX8_numberIn_9 flX8_37 (Nat.le_of_ble_eq_true rfl) (okn hρ (Nat.le_of_ble_eq_true rfl)) rfl (v := .int (S.1 19 10)) (fun _ => rfl) ?_
  refine AW_icmp_ge dX8_numberIn_12 rfl (iteM h (fun h => ?_) (fun h => ?_))
  · refine AW_iload_n 2 (n := 2) rfl dX8_numberIn_41 rfl ?_
    exact AW_reti dX8_numberIn_42 rfl h
  · refine AW_sipush (v := 1000) dX8_numberIn_15 rfl ?_
    refine AW_bipush (v := 10) dX8_numberIn_18 rfl ?_
    refine AW_iload_n 2 (n := 2) rfl dX8_numberIn_20 rfl ?_
    refine AW_imul dX8_numberIn_21 ?_
    refine AW_aload_n 1 (n := 1) rfl dX8_numberIn_22 rfl ?_
    refine AW_iload_n 3 (n := 3) rfl dX8_numberIn_23 rfl ?_
    refine AW_callVi (M := mX8_numberIn) (pc := 24) (As := [.int x3]) (ρ1 := ρ) (st := [.int (10 * x2), .int 1000]) dX8_numberIn_24 mdX10_byteAt rfl mlX8_112 imX10_byteAt seX10_byteAt (rcv_of (q := (RX10, TX10, 2)) (Nat.le_of_ble_eq_true rfl) (okn hρ (Nat.le_of_ble_eq_true rfl)) rfl rfl) ⟨rfl, npX10_byteAt⟩ (Nat.le_of_ble_eq_true rfl) (Nat.le_refl _) (Nat.le_refl _) rfl (CALLi.mono h (fun v1 S1 _ h => ?_))
    refine AW_iadd dX8_numberIn_27 ?_
    refine AW_bipush (v := 48) dX8_numberIn_28 rfl ?_
    refine AW_isub dX8_numberIn_30 ?_
    refine AW_mminI (M := mX8_numberIn) (pc := 31) dX8_numberIn_31 mlX8_135 wmminIS wMath wmminIC (Nat.le_of_ble_eq_true rfl) ?_ (Nat.le_refl _) (Nat.le_refl _)
    refine AW_istore_n (n := 2) (i := 2) rfl dX8_numberIn_34 (Nat.le_of_ble_eq_true rfl) rfl ?_
    refine AW_iinc 3 (v := x3 + 1) dX8_numberIn_35 rfl rfl (Nat.le_of_ble_eq_true rfl) rfl ?_
    refine AW_goto (tgt := 7) dX8_numberIn_38 rfl ?_
    exact AW.sub [2, 3, 1, 0] rfl h
set_option maxRecDepth 20000 in
theorem eX8_numberIn {g : GX} {Q : Int32 → St → Prop} {d : Nat} {ρ : Rs} {S : St} (hρ : Ok ρ) (h : AW g ρ (QI Q) (d + 1) mX8_numberIn 7 [(0, .ref 19), (1, .ref 17), (2, .int 0), (3, .int (S.1 19 9))] [] ρ S) : CALLi g (d + 1) mX8_numberIn [.ref 19, .ref 17] ρ ρ S Q := by
  refine CALL.of mdX8_numberIn.2.2.2.2 (Nat.le_of_ble_eq_true rfl) (Nat.le_refl _) (Nat.le_refl _) ?_
  show AW g ρ (QI Q) (d + 1) mX8_numberIn 0 [(0, .ref 19), (1, .ref 17)] [] ρ S
  refine AW_iconst (v := 0) dX8_numberIn_0 rfl ?_
  refine AW_istore_n (n := 2) (i := 2) rfl dX8_numberIn_1 (Nat.le_of_ble_eq_true rfl) rfl ?_
  refine AW_aload_n 1 (n := 0) rfl dX8_numberIn_2 rfl ?_
  refine AW_get dX8_numberIn_3 flX8_103 (Nat.le_of_ble_eq_true rfl) (okn hρ (Nat.le_of_ble_eq_true rfl)) rfl (v := .int (S.1 19 9)) (fun _ => rfl) ?_
  refine AW_istore_n (n := 3) (i := 3) rfl dX8_numberIn_6 (Nat.le_of_ble_eq_true rfl) rfl ?_
  exact AW.sub [2, 3, 1, 0] rfl h
set_option maxRecDepth 20000 in
theorem eX8_isBlank {g : GX} {Q : Int32 → St → Prop} {d : Nat} {ρ : Rs} {S : St} (hρ : Ok ρ) {x0 : Int32} (h : if x0 = 32 then Q 1 S else if x0 = 10 then Q 1 S else Q 0 S) : CALLi g d mX8_isBlank [.int x0] ρ ρ S Q := by
  refine CALL.of mdX8_isBlank.2.2.2.2 (Nat.le_of_ble_eq_true rfl) (Nat.le_refl _) (Nat.le_refl _) ?_
  show AW g ρ (QI Q) d mX8_isBlank 0 [(0, .int x0)] [] ρ S
  refine AW_iload_n 0 (n := 0) rfl dX8_isBlank_0 rfl ?_
  refine AW_bipush (v := 32) dX8_isBlank_1 rfl ?_
  refine AW_icmp_eq dX8_isBlank_3 rfl (iteM h (fun h => ?_) (fun h => ?_))
  · refine AW_iconst (v := 1) dX8_isBlank_12 rfl ?_
    refine AW_goto (tgt := 17) dX8_isBlank_13 rfl ?_
    exact AW_retz dX8_isBlank_17 rfl Bz1 h
  · refine AW_iload_n 0 (n := 0) rfl dX8_isBlank_6 rfl ?_
    refine AW_bipush (v := 10) dX8_isBlank_7 rfl ?_
    refine AW_icmp_ne dX8_isBlank_9 rfl (iteM h (fun h => ?_) (fun h => ?_))
    · refine AW_iconst (v := 1) dX8_isBlank_12 rfl ?_
      refine AW_goto (tgt := 17) dX8_isBlank_13 rfl ?_
      exact AW_retz dX8_isBlank_17 rfl Bz1 h
    · refine AW_iconst (v := 0) dX8_isBlank_16 rfl ?_
      exact AW_retz dX8_isBlank_17 rfl Bz0 h
set_option maxRecDepth 20000 in
theorem eX8_kindOf_30 {g : GX} {Q : Int32 → St → Prop} {d : Nat} {ρ : Rs} {S : St} (hρ : Ok ρ) {x2 : Int32} (h : if x2 < 48 then if x2 = 59 then Q 3 S else Q 4 S else if (57 : Int32) < x2 then if x2 = 59 then Q 3 S else Q 4 S else Q 2 S) : AW g ρ (QI Q) (d + 1) mX8_kindOf 30 [(2, .int x2)] [] ρ S := by
  refine AW_iload_n 0 (n := 2) rfl dX8_kindOf_30 rfl ?_
  refine AW_bipush (v := 48) dX8_kindOf_31 rfl ?_
  refine AW_icmp_lt dX8_kindOf_33 rfl (iteM h (fun h => ?_) (fun h => ?_))
  · refine AW_iload_n 0 (n := 2) rfl dX8_kindOf_44 rfl ?_
    refine AW_bipush (v := 59) dX8_kindOf_45 rfl ?_
    refine AW_icmp_ne dX8_kindOf_47 rfl (iteM h (fun h => ?_) (fun h => ?_))
    · refine AW_iconst (v := 3) dX8_kindOf_50 rfl ?_
      refine AW_goto (tgt := 55) dX8_kindOf_51 rfl ?_
      exact AW_reti dX8_kindOf_55 rfl h
    · refine AW_iconst (v := 4) dX8_kindOf_54 rfl ?_
      exact AW_reti dX8_kindOf_55 rfl h
  · refine AW_iload_n 0 (n := 2) rfl dX8_kindOf_36 rfl ?_
    refine AW_bipush (v := 57) dX8_kindOf_37 rfl ?_
    refine AW_icmp_gt dX8_kindOf_39 rfl (iteM h (fun h => ?_) (fun h => ?_))
    · refine AW_iload_n 0 (n := 2) rfl dX8_kindOf_44 rfl ?_
      refine AW_bipush (v := 59) dX8_kindOf_45 rfl ?_
      refine AW_icmp_ne dX8_kindOf_47 rfl (iteM h (fun h => ?_) (fun h => ?_))
      · refine AW_iconst (v := 3) dX8_kindOf_50 rfl ?_
        refine AW_goto (tgt := 55) dX8_kindOf_51 rfl ?_
        exact AW_reti dX8_kindOf_55 rfl h
      · refine AW_iconst (v := 4) dX8_kindOf_54 rfl ?_
        exact AW_reti dX8_kindOf_55 rfl h
    · refine AW_iconst (v := 2) dX8_kindOf_42 rfl ?_
      exact AW_reti dX8_kindOf_43 rfl h
set_option maxRecDepth 20000 in
theorem eX8_kindOf {g : GX} {Q : Int32 → St → Prop} {d : Nat} {ρ : Rs} {S : St} (hρ : Ok ρ) {x1 : Int32} (h : if x1 < (S.1 17 1) then CALLi g d mX10_byteAt [.ref 17, .int x1] ρ ρ S (fun v1 S1 => if v1 < 97 then AW g ρ (QI Q) (d + 1) mX8_kindOf 30 [(2, .int v1)] [] ρ S1 else if (122 : Int32) < v1 then AW g ρ (QI Q) (d + 1) mX8_kindOf 30 [(2, .int v1)] [] ρ S1 else Q 1 S1) else Q 0 S) : CALLi g (d + 1) mX8_kindOf [.ref 17, .int x1] ρ ρ S Q := by
  refine CALL.of mdX8_kindOf.2.2.2.2 (Nat.le_of_ble_eq_true rfl) (Nat.le_refl _) (Nat.le_refl _) ?_
  show AW g ρ (QI Q) (d + 1) mX8_kindOf 0 [(0, .ref 17), (1, .int x1)] [] ρ S
  refine AW_iload_n 1 (n := 1) rfl dX8_kindOf_0 rfl ?_
  refine AW_aload_n 0 (n := 0) rfl dX8_kindOf_1 rfl ?_
  refine AW_get dX8_kindOf_2 flX8_122 (Nat.le_of_ble_eq_true rfl) (okn hρ (Nat.le_of_ble_eq_true rfl)) rfl (v := .int (S.1 17 1)) (fun _ => rfl) ?_
  refine AW_icmp_lt dX8_kindOf_5 rfl (iteM h (fun h => ?_) (fun h => ?_))
  · refine AW_aload_n 0 (n := 0) rfl dX8_kindOf_10 rfl ?_
    refine AW_iload_n 1 (n := 1) rfl dX8_kindOf_11 rfl ?_
    refine AW_callVi (M := mX8_kindOf) (pc := 12) (As := [.int x1]) (ρ1 := ρ) (st := []) dX8_kindOf_12 mdX10_byteAt rfl mlX8_112 imX10_byteAt seX10_byteAt (rcv_of (q := (RX10, TX10, 2)) (Nat.le_of_ble_eq_true rfl) (okn hρ (Nat.le_of_ble_eq_true rfl)) rfl rfl) ⟨rfl, npX10_byteAt⟩ (Nat.le_of_ble_eq_true rfl) (Nat.le_refl _) (Nat.le_refl _) rfl (CALLi.mono h (fun v1 S1 _ h => ?_))
    refine AW_istore_n (n := 2) (i := 2) rfl dX8_kindOf_15 (Nat.le_of_ble_eq_true rfl) rfl ?_
    refine AW_iload_n 0 (n := 2) rfl dX8_kindOf_16 rfl ?_
    refine AW_bipush (v := 97) dX8_kindOf_17 rfl ?_
    refine AW_icmp_lt dX8_kindOf_19 rfl (iteM h (fun h => ?_) (fun h => ?_))
    · exact AW.sub [0] rfl h
    · refine AW_iload_n 0 (n := 2) rfl dX8_kindOf_22 rfl ?_
      refine AW_bipush (v := 122) dX8_kindOf_23 rfl ?_
      refine AW_icmp_gt dX8_kindOf_25 rfl (iteM h (fun h => ?_) (fun h => ?_))
      · exact AW.sub [0] rfl h
      · refine AW_iconst (v := 1) dX8_kindOf_28 rfl ?_
        exact AW_reti dX8_kindOf_29 rfl h
  · refine AW_iconst (v := 0) dX8_kindOf_8 rfl ?_
    exact AW_reti dX8_kindOf_9 rfl h
