set_option maxRecDepth 20000 in
theorem eX5_make_108 {g : GX} {Q : St → Prop} {d : Nat} {ρ : Rs} {S : St} (hρ : Ok ρ) {x2 : Int32} {x3 : Int32} {x4 : Int32} (h : if (S.1 21 0) ≤ x4 then AW g ρ (QV Q) (d + 1) mX5_make 95 [(0, .ref 26), (1, .ref 21), (2, .int x2), (3, .int (x3 + 1))] [] ρ S else CALLv g d mX5_addTurns [.ref 26, .ref 21, .int x2, .int x3, .int x4] ρ ρ S (fun S1 => AW g ρ (QV Q) (d + 1) mX5_make 108 [(0, .ref 26), (1, .ref 21), (2, .int x2), (3, .int x3), (4, .int (x4 + 1))] [] ρ S1)) : AW g ρ (QV Q) (d + 1) mX5_make 108 [(0, .ref 26), (1, .ref 21), (2, .int x2), (3, .int x3), (4, .int x4)] [] ρ S := by
  refine AW_iload 4 dX5_make_108 rfl ?_
  refine AW_aload_n 1 (n := 1) rfl dX5_make_110 rfl ?_
  refine AW_get dX5_make_111 flX5_27 (Nat.le_of_ble_eq_true rfl) (okn hρ (Nat.le_of_ble_eq_true rfl)) rfl (v := .int (S.1 21 0)) (fun _ => rfl) ?_
  refine AW_icmp_ge dX5_make_114 rfl (iteM h (fun h => ?_) (fun h => ?_))
  · refine AW_iinc 3 (v := x3 + 1) dX5_make_132 rfl rfl (Nat.le_of_ble_eq_true rfl) rfl ?_
    refine AW_goto (tgt := 95) dX5_make_135 rfl ?_
    exact AW.sub [1, 2, 3, 0] rfl h
  · refine AW_aload_n 0 (n := 0) rfl dX5_make_117 rfl ?_
    refine AW_aload_n 1 (n := 1) rfl dX5_make_118 rfl ?_
    refine AW_iload_n 2 (n := 2) rfl dX5_make_119 rfl ?_
    refine AW_iload_n 3 (n := 3) rfl dX5_make_120 rfl ?_
    refine AW_iload 4 dX5_make_121 rfl ?_
    refine AW_callVv (M := mX5_make) (pc := 123) (As := [.ref 21, .int x2, .int x3, .int x4]) (ρ1 := ρ) (st := []) dX5_make_123 mdX5_addTurns rfl mlX5_45 imX5_addTurns seX5_addTurns (rcv_of (q := (RX5, TX5, 7)) (Nat.le_of_ble_eq_true rfl) (okn hρ (Nat.le_of_ble_eq_true rfl)) rfl rfl) ⟨rfl, npX5_addTurns⟩ (Nat.le_of_ble_eq_true rfl) (Nat.le_refl _) (Nat.le_refl _) rfl (CALLv.mono h (fun S1 _ h => ?_))
    refine AW_iinc 4 (v := x4 + 1) dX5_make_126 rfl rfl (Nat.le_of_ble_eq_true rfl) rfl ?_
    refine AW_goto (tgt := 108) dX5_make_129 rfl ?_
    exact AW.sub [1, 2, 3, 4, 0] rfl h
set_option maxRecDepth 20000 in
theorem eX5_make_95 {g : GX} {Q : St → Prop} {d : Nat} {ρ : Rs} {S : St} (hρ : Ok ρ) {x2 : Int32} {x3 : Int32} (h : if (S.1 21 0) ≤ x3 then AW g ρ (QV Q) (d + 1) mX5_make 83 [(0, .ref 26), (1, .ref 21), (2, .int (x2 + 1))] [] ρ S else AW g ρ (QV Q) (d + 1) mX5_make 108 [(0, .ref 26), (1, .ref 21), (2, .int x2), (3, .int x3), (4, .int (x2 + 1))] [] ρ S) : AW g ρ (QV Q) (d + 1) mX5_make 95 [(0, .ref 26), (1, .ref 21), (2, .int x2), (3, .int x3)] [] ρ S := by
  refine AW_iload_n 3 (n := 3) rfl dX5_make_95 rfl ?_
  refine AW_aload_n 1 (n := 1) rfl dX5_make_96 rfl ?_
  refine AW_get dX5_make_97 flX5_27 (Nat.le_of_ble_eq_true rfl) (okn hρ (Nat.le_of_ble_eq_true rfl)) rfl (v := .int (S.1 21 0)) (fun _ => rfl) ?_
  refine AW_icmp_ge dX5_make_100 rfl (iteM h (fun h => ?_) (fun h => ?_))
  · refine AW_iinc 2 (v := x2 + 1) dX5_make_138 rfl rfl (Nat.le_of_ble_eq_true rfl) rfl ?_
    refine AW_goto (tgt := 83) dX5_make_141 rfl ?_
    exact AW.sub [1, 2, 0] rfl h
  · refine AW_iload_n 2 (n := 2) rfl dX5_make_103 rfl ?_
    refine AW_iconst (v := 1) dX5_make_104 rfl ?_
    refine AW_iadd dX5_make_105 ?_
    refine AW_istore dX5_make_106 (Nat.le_of_ble_eq_true rfl) rfl ?_
    exact AW.sub [1, 2, 3, 4, 0] rfl h
set_option maxRecDepth 20000 in
theorem eX5_make_83 {g : GX} {Q : St → Prop} {d : Nat} {ρ : Rs} {S : St} (hρ : Ok ρ) {x2 : Int32} (h : if (S.1 21 0) ≤ x2 then Q S else AW g ρ (QV Q) (d + 1) mX5_make 95 [(0, .ref 26), (1, .ref 21), (2, .int x2), (3, .int (x2 + 1))] [] ρ S) : AW g ρ (QV Q) (d + 1) mX5_make 83 [(0, .ref 26), (1, .ref 21), (2, .int x2)] [] ρ S := by
  refine AW_iload_n 2 (n := 2) rfl dX5_make_83 rfl ?_
  refine AW_aload_n 1 (n := 1) rfl dX5_make_84 rfl ?_
  refine AW_get dX5_make_85 flX5_27 (Nat.le_of_ble_eq_true rfl) (okn hρ (Nat.le_of_ble_eq_true rfl)) rfl (v := .int (S.1 21 0)) (fun _ => rfl) ?_
  refine AW_icmp_ge dX5_make_88 rfl (iteM h (fun h => ?_) (fun h => ?_))
  · exact AW_retv dX5_make_144 rfl h
  · refine AW_iload_n 2 (n := 2) rfl dX5_make_91 rfl ?_
    refine AW_iconst (v := 1) dX5_make_92 rfl ?_
    refine AW_iadd dX5_make_93 ?_
    refine AW_istore_n (n := 3) (i := 3) rfl dX5_make_94 (Nat.le_of_ble_eq_true rfl) rfl ?_
    exact AW.sub [1, 2, 3, 0] rfl h
set_option maxRecDepth 20000 in
theorem eX5_make_46 {g : GX} {Q : St → Prop} {d : Nat} {ρ : Rs} {S : St} (hρ : Ok ρ) {x2 : Int32} {x3 : Int32} (h : if (S.1 21 0) ≤ x3 then AW g ρ (QV Q) (d + 1) mX5_make 34 [(0, .ref 26), (1, .ref 21), (2, .int (x2 + 1))] [] ρ S else CALLv g d mX5_addSwaps [.ref 26, .ref 21, .int x2, .int x3] ρ ρ S (fun S1 => AW g ρ (QV Q) (d + 1) mX5_make 46 [(0, .ref 26), (1, .ref 21), (2, .int x2), (3, .int (x3 + 1))] [] ρ S1)) : AW g ρ (QV Q) (d + 1) mX5_make 46 [(0, .ref 26), (1, .ref 21), (2, .int x2), (3, .int x3)] [] ρ S := by
  refine AW_iload_n 3 (n := 3) rfl dX5_make_46 rfl ?_
  refine AW_aload_n 1 (n := 1) rfl dX5_make_47 rfl ?_
  refine AW_get dX5_make_48 flX5_27 (Nat.le_of_ble_eq_true rfl) (okn hρ (Nat.le_of_ble_eq_true rfl)) rfl (v := .int (S.1 21 0)) (fun _ => rfl) ?_
  refine AW_icmp_ge dX5_make_51 rfl (iteM h (fun h => ?_) (fun h => ?_))
  · refine AW_iinc 2 (v := x2 + 1) dX5_make_67 rfl rfl (Nat.le_of_ble_eq_true rfl) rfl ?_
    refine AW_goto (tgt := 34) dX5_make_70 rfl ?_
    exact AW.sub [1, 2, 0] rfl h
  · refine AW_aload_n 0 (n := 0) rfl dX5_make_54 rfl ?_
    refine AW_aload_n 1 (n := 1) rfl dX5_make_55 rfl ?_
    refine AW_iload_n 2 (n := 2) rfl dX5_make_56 rfl ?_
    refine AW_iload_n 3 (n := 3) rfl dX5_make_57 rfl ?_
    refine AW_callVv (M := mX5_make) (pc := 58) (As := [.ref 21, .int x2, .int x3]) (ρ1 := ρ) (st := []) dX5_make_58 mdX5_addSwaps rfl mlX5_38 imX5_addSwaps seX5_addSwaps (rcv_of (q := (RX5, TX5, 7)) (Nat.le_of_ble_eq_true rfl) (okn hρ (Nat.le_of_ble_eq_true rfl)) rfl rfl) ⟨rfl, npX5_addSwaps⟩ (Nat.le_of_ble_eq_true rfl) (Nat.le_refl _) (Nat.le_refl _) rfl (CALLv.mono h (fun S1 _ h => ?_))
    refine AW_iinc 3 (v := x3 + 1) dX5_make_61 rfl rfl (Nat.le_of_ble_eq_true rfl) rfl ?_
    refine AW_goto (tgt := 46) dX5_make_64 rfl ?_
    exact AW.sub [1, 2, 3, 0] rfl h
set_option maxRecDepth 20000 in
theorem eX5_make_34 {g : GX} {Q : St → Prop} {d : Nat} {ρ : Rs} {S : St} (hρ : Ok ρ) {x2 : Int32} (hF : ∀ k ∈ ([26] : List Nat), gF g k) (h : if (S.1 21 0) ≤ x2 then AW g ρ (QV Q) (d + 1) mX5_make 83 [(0, .ref 26), (1, .ref 21), (2, .int 0)] [] ρ (setI S 26 0 (S.1 26 1)) else AW g ρ (QV Q) (d + 1) mX5_make 46 [(0, .ref 26), (1, .ref 21), (2, .int x2), (3, .int (x2 + 1))] [] ρ S) : AW g ρ (QV Q) (d + 1) mX5_make 34 [(0, .ref 26), (1, .ref 21), (2, .int x2)] [] ρ S := by
  refine AW_iload_n 2 (n := 2) rfl dX5_make_34 rfl ?_
  refine AW_aload_n 1 (n := 1) rfl dX5_make_35 rfl ?_
  refine AW_get dX5_make_36 flX5_27 (Nat.le_of_ble_eq_true rfl) (okn hρ (Nat.le_of_ble_eq_true rfl)) rfl (v := .int (S.1 21 0)) (fun _ => rfl) ?_
  refine AW_icmp_ge dX5_make_39 rfl (iteM h (fun h => ?_) (fun h => ?_))
  · refine AW_aload_n 0 (n := 0) rfl dX5_make_73 rfl ?_
    refine AW_aload_n 0 (n := 0) rfl dX5_make_74 rfl ?_
    refine AW_get dX5_make_75 flX5_23 (Nat.le_of_ble_eq_true rfl) (okn hρ (Nat.le_of_ble_eq_true rfl)) rfl (v := .int (S.1 26 1)) (fun _ => rfl) ?_
    refine AW_put dX5_make_78 flX5_42 fp_4_0 (Nat.le_of_ble_eq_true rfl) (okn hρ (Nat.le_of_ble_eq_true rfl)) rfl (fun _ => rfl) (fun _ => rfl) rfl rfl rfl rfl (Fr.setI _ _ _ rfl) (fun _ _ => rfl) (ρ2 := ρ) (S2 := setI S 26 0 (S.1 26 1)) (fun _ => rfl) (fun _ _ _ q1 _ => fvI_o q1) (hF _ (List.mem_of_getElem? (i := 0) rfl)) ?_
    refine AW_iconst (v := 0) dX5_make_81 rfl ?_
    refine AW_istore_n (n := 2) (i := 2) rfl dX5_make_82 (Nat.le_of_ble_eq_true rfl) rfl ?_
    exact AW.sub [1, 2, 0] rfl h
  · refine AW_iload_n 2 (n := 2) rfl dX5_make_42 rfl ?_
    refine AW_iconst (v := 1) dX5_make_43 rfl ?_
    refine AW_iadd dX5_make_44 ?_
    refine AW_istore_n (n := 3) (i := 3) rfl dX5_make_45 (Nat.le_of_ble_eq_true rfl) rfl ?_
    exact AW.sub [1, 2, 3, 0] rfl h
set_option maxRecDepth 20000 in
theorem eX5_make {g : GX} {Q : St → Prop} {d : Nat} {ρ : Rs} {S : St} (hρ : Ok ρ) (hF : ∀ k ∈ ([26] : List Nat), gF g k) (h : AW g ρ (QV Q) (d + 1) mX5_make 34 [(0, .ref 26), (1, .ref 21), (2, .int 0)] [] ρ (setI (setI S 26 1 0) 26 2 ((((S.1 21 0) * ((S.1 21 0) - 1)) * (S.1 21 1)) * ((S.1 21 1) - 1)))) : CALLv g (d + 1) mX5_make [.ref 26, .ref 21] ρ ρ S Q := by
  refine CALL.of mdX5_make.2.2.2.2 (Nat.le_of_ble_eq_true rfl) (Nat.le_refl _) (Nat.le_refl _) ?_
  show AW g ρ (QV Q) (d + 1) mX5_make 0 [(0, .ref 26), (1, .ref 21)] [] ρ S
  refine AW_aload_n 0 (n := 0) rfl dX5_make_0 rfl ?_
  refine AW_iconst (v := 0) dX5_make_1 rfl ?_
  refine AW_put dX5_make_2 flX5_23 fp_4_1 (Nat.le_of_ble_eq_true rfl) (okn hρ (Nat.le_of_ble_eq_true rfl)) rfl (fun _ => rfl) (fun _ => rfl) rfl rfl rfl rfl (Fr.setI _ _ _ rfl) (fun _ _ => rfl) (ρ2 := ρ) (S2 := setI S 26 1 0) (fun _ => rfl) (fun _ _ _ q1 _ => fvI_o q1) (hF _ (List.mem_of_getElem? (i := 0) rfl)) ?_
  refine AW_aload_n 0 (n := 0) rfl dX5_make_5 rfl ?_
  refine AW_aload_n 1 (n := 1) rfl dX5_make_6 rfl ?_
  refine AW_get dX5_make_7 flX5_27 (Nat.le_of_ble_eq_true rfl) (okn hρ (Nat.le_of_ble_eq_true rfl)) rfl (v := .int (S.1 21 0)) (fun _ => rfl) ?_
  refine AW_aload_n 1 (n := 1) rfl dX5_make_10 rfl ?_
  refine AW_get dX5_make_11 flX5_27 (Nat.le_of_ble_eq_true rfl) (okn hρ (Nat.le_of_ble_eq_true rfl)) rfl (v := .int (S.1 21 0)) (fun _ => rfl) ?_
  refine AW_iconst (v := 1) dX5_make_14 rfl ?_
  refine AW_isub dX5_make_15 ?_
  refine AW_imul dX5_make_16 ?_
  refine AW_aload_n 1 (n := 1) rfl dX5_make_17 rfl ?_
  refine AW_get dX5_make_18 flX5_32 (Nat.le_of_ble_eq_true rfl) (okn hρ (Nat.le_of_ble_eq_true rfl)) rfl (v := .int (S.1 21 1)) (fun _ => rfl) ?_
  refine AW_imul dX5_make_21 ?_
  refine AW_aload_n 1 (n := 1) rfl dX5_make_22 rfl ?_
  refine AW_get dX5_make_23 flX5_32 (Nat.le_of_ble_eq_true rfl) (okn hρ (Nat.le_of_ble_eq_true rfl)) rfl (v := .int (S.1 21 1)) (fun _ => rfl) ?_
  refine AW_iconst (v := 1) dX5_make_26 rfl ?_
  refine AW_isub dX5_make_27 ?_
  refine AW_imul dX5_make_28 ?_
  refine AW_put dX5_make_29 flX5_35 fp_4_2 (Nat.le_of_ble_eq_true rfl) (okn hρ (Nat.le_of_ble_eq_true rfl)) rfl (fun _ => rfl) (fun _ => rfl) rfl rfl rfl rfl (Fr.setI _ _ _ rfl) (fun _ _ => rfl) (ρ2 := ρ) (S2 := setI (setI S 26 1 0) 26 2 ((((S.1 21 0) * ((S.1 21 0) - 1)) * (S.1 21 1)) * ((S.1 21 1) - 1))) (fun _ => rfl) (fun _ _ _ q1 _ => fvI_o q1) (hF _ (List.mem_of_getElem? (i := 0) rfl)) ?_
  refine AW_iconst (v := 0) dX5_make_32 rfl ?_
  refine AW_istore_n (n := 2) (i := 2) rfl dX5_make_33 (Nat.le_of_ble_eq_true rfl) rfl ?_
  exact AW.sub [1, 2, 0] rfl h
set_option maxRecDepth 20000 in
theorem eX5_addSwaps_69 {g : GX} {Q : St → Prop} {d : Nat} {ρ : Rs} {S : St} (hρ : Ok ρ) {x2 : Int32} {x3 : Int32} {x4 : Int32} {x5 : Int32} {s0 : Int32} (h : if x4 = x5 then AW g ρ (QV Q) (d + 1) mX5_addSwaps 15 [(0, .ref 26), (1, .ref 21), (2, .int x2), (3, .int x3), (4, .int x4), (5, .int (x5 + 1))] [] ρ S else if s0 = 0 then AW g ρ (QV Q) (d + 1) mX5_addSwaps 15 [(0, .ref 26), (1, .ref 21), (2, .int x2), (3, .int x3), (4, .int x4), (5, .int (x5 + 1))] [] ρ S else CALLi g d mX3_shift [.int x3, .int x4] ρ ρ S (fun v1 S1 => CALLl g d mX3_swapStep [.int x2, .int x3, .int x4, .int x5] ρ ρ S1 (fun v2 S2 => CALLi g d mX3_shift [.int x2, .int x5] ρ ρ S2 (fun v3 S3 => CALLv g d mX5_add [.ref 26, .long v2, .int v3, .int v1, .int v1] ρ ρ S3 (fun S4 => AW g ρ (QV Q) (d + 1) mX5_addSwaps 15 [(0, .ref 26), (1, .ref 21), (2, .int x2), (3, .int x3), (4, .int x4), (5, .int (x5 + 1))] [] ρ S4))))) : AW g ρ (QV Q) (d + 1) mX5_addSwaps 69 [(0, .ref 26), (1, .ref 21), (2, .int x2), (3, .int x3), (4, .int x4), (5, .int x5)] [.int s0] ρ S := by
  refine AW_istore dX5_addSwaps_69 (Nat.le_of_ble_eq_true rfl) rfl ?_
  refine AW_iload 5 dX5_addSwaps_71 rfl ?_
  refine AW_iload 6 dX5_addSwaps_73 rfl ?_
  refine AW_icmp_eq dX5_addSwaps_75 rfl (iteM h (fun h => ?_) (fun h => ?_))
  · refine AW_iinc 6 (v := x5 + 1) dX5_addSwaps_114 rfl rfl (Nat.le_of_ble_eq_true rfl) rfl ?_
    refine AW_goto (tgt := 15) dX5_addSwaps_117 rfl ?_
    exact AW.sub [2, 3, 4, 5, 6, 0] rfl h
  · refine AW_iload 0 dX5_addSwaps_78 rfl ?_
    refine AW_if_eq dX5_addSwaps_80 rfl (iteM h (fun h => ?_) (fun h => ?_))
    · refine AW_iinc 6 (v := x5 + 1) dX5_addSwaps_114 rfl rfl (Nat.le_of_ble_eq_true rfl) rfl ?_
      refine AW_goto (tgt := 15) dX5_addSwaps_117 rfl ?_
      exact AW.sub [2, 3, 4, 5, 6, 0] rfl h
    · refine AW_iload_n 4 (n := 3) rfl dX5_addSwaps_83 rfl ?_
      refine AW_iload 5 dX5_addSwaps_84 rfl ?_
      refine AW_callSi (M := mX5_addSwaps) (pc := 86) (As := [.int x3, .int x4]) (ρ1 := ρ) (st := []) dX5_addSwaps_86 mdX3_shift mlX5_53 smX3_shift ⟨rfl, npX3_shift⟩ (Nat.le_of_ble_eq_true rfl) (Nat.le_refl _) (Nat.le_refl _) rfl (CALLi.mono h (fun v1 S1 _ h => ?_))
      refine AW_istore dX5_addSwaps_89 (Nat.le_of_ble_eq_true rfl) rfl ?_
      refine AW_aload_n 2 (n := 0) rfl dX5_addSwaps_91 rfl ?_
      refine AW_iload_n 4 (n := 2) rfl dX5_addSwaps_92 rfl ?_
      refine AW_iload_n 5 (n := 3) rfl dX5_addSwaps_93 rfl ?_
      refine AW_iload 6 dX5_addSwaps_94 rfl ?_
      refine AW_iload 7 dX5_addSwaps_96 rfl ?_
      refine AW_callSl (M := mX5_addSwaps) (pc := 98) (As := [.int x2, .int x3, .int x4, .int x5]) (ρ1 := ρ) (st := [.ref 26]) dX5_addSwaps_98 mdX3_swapStep mlX5_59 smX3_swapStep ⟨rfl, npX3_swapStep⟩ (Nat.le_of_ble_eq_true rfl) (Nat.le_refl _) (Nat.le_refl _) rfl (CALLl.mono h (fun v2 S2 _ h => ?_))
      refine AW_iload_n 4 (n := 2) rfl dX5_addSwaps_101 rfl ?_
      refine AW_iload 7 dX5_addSwaps_102 rfl ?_
      refine AW_callSi (M := mX5_addSwaps) (pc := 104) (As := [.int x2, .int x5]) (ρ1 := ρ) (st := [.long v2, .ref 26]) dX5_addSwaps_104 mdX3_shift mlX5_53 smX3_shift ⟨rfl, npX3_shift⟩ (Nat.le_of_ble_eq_true rfl) (Nat.le_refl _) (Nat.le_refl _) rfl (CALLi.mono h (fun v3 S3 _ h => ?_))
      refine AW_iload 0 dX5_addSwaps_107 rfl ?_
      refine AW_iload 0 dX5_addSwaps_109 rfl ?_
      refine AW_callVv (M := mX5_addSwaps) (pc := 111) (As := [.long v2, .int v3, .int v1, .int v1]) (ρ1 := ρ) (st := []) dX5_addSwaps_111 mdX5_add rfl mlX5_63 imX5_add seX5_add (rcv_of (q := (RX5, TX5, 7)) (Nat.le_of_ble_eq_true rfl) (okn hρ (Nat.le_of_ble_eq_true rfl)) rfl rfl) ⟨rfl, npX5_add⟩ (Nat.le_of_ble_eq_true rfl) (Nat.le_refl _) (Nat.le_refl _) rfl (CALLv.mono h (fun S4 _ h => ?_))
      refine AW_iinc 7 (v := x5 + 1) dX5_addSwaps_114 rfl rfl (Nat.le_of_ble_eq_true rfl) rfl ?_
      refine AW_goto (tgt := 15) dX5_addSwaps_117 rfl ?_
      exact AW.sub [3, 4, 5, 6, 7, 0] rfl h
set_option maxRecDepth 20000 in
theorem eX5_addSwaps_15 {g : GX} {Q : St → Prop} {d : Nat} {ρ : Rs} {S : St} (hρ : Ok ρ) {x2 : Int32} {x3 : Int32} {x4 : Int32} {x5 : Int32} (h : if (S.1 21 1) ≤ x5 then AW g ρ (QV Q) (d + 1) mX5_addSwaps 3 [(0, .ref 26), (1, .ref 21), (2, .int x2), (3, .int x3), (4, .int (x4 + 1))] [] ρ S else CALLi g d mX9_isHole [.ref 21, .int x2, .int x4] ρ ρ S (fun v1 S1 => if v1 = 0 then CALLi g d mX9_isHole [.ref 21, .int x2, .int x5] ρ ρ S1 (fun v2 S2 => if v2 = 0 then CALLi g d mX9_isHole [.ref 21, .int x3, .int x4] ρ ρ S2 (fun v3 S3 => if v3 = 0 then CALLi g d mX9_isHole [.ref 21, .int x3, .int x5] ρ ρ S3 (fun v4 S4 => if v4 = 0 then AW g ρ (QV Q) (d + 1) mX5_addSwaps 69 [(0, .ref 26), (1, .ref 21), (2, .int x2), (3, .int x3), (4, .int x4), (5, .int x5)] [.int 1] ρ S4 else AW g ρ (QV Q) (d + 1) mX5_addSwaps 69 [(0, .ref 26), (1, .ref 21), (2, .int x2), (3, .int x3), (4, .int x4), (5, .int x5)] [.int 0] ρ S4) else AW g ρ (QV Q) (d + 1) mX5_addSwaps 69 [(0, .ref 26), (1, .ref 21), (2, .int x2), (3, .int x3), (4, .int x4), (5, .int x5)] [.int 0] ρ S3) else AW g ρ (QV Q) (d + 1) mX5_addSwaps 69 [(0, .ref 26), (1, .ref 21), (2, .int x2), (3, .int x3), (4, .int x4), (5, .int x5)] [.int 0] ρ S2) else AW g ρ (QV Q) (d + 1) mX5_addSwaps 69 [(0, .ref 26), (1, .ref 21), (2, .int x2), (3, .int x3), (4, .int x4), (5, .int x5)] [.int 0] ρ S1)) : AW g ρ (QV Q) (d + 1) mX5_addSwaps 15 [(0, .ref 26), (1, .ref 21), (2, .int x2), (3, .int x3), (4, .int x4), (5, .int x5)] [] ρ S := by
  refine AW_iload 5 dX5_addSwaps_15 rfl ?_
  refine AW_aload_n 1 (n := 1) rfl dX5_addSwaps_17 rfl ?_
  refine AW_get dX5_addSwaps_18 flX5_32 (Nat.le_of_ble_eq_true rfl) (okn hρ (Nat.le_of_ble_eq_true rfl)) rfl (v := .int (S.1 21 1)) (fun _ => rfl) ?_
  refine AW_icmp_ge dX5_addSwaps_21 rfl (iteM h (fun h => ?_) (fun h => ?_))
  · refine AW_iinc 4 (v := x4 + 1) dX5_addSwaps_120 rfl rfl (Nat.le_of_ble_eq_true rfl) rfl ?_
    refine AW_goto (tgt := 3) dX5_addSwaps_123 rfl ?_
    exact AW.sub [1, 2, 3, 4, 0] rfl h
  · refine AW_aload_n 1 (n := 1) rfl dX5_addSwaps_24 rfl ?_
    refine AW_iload_n 2 (n := 2) rfl dX5_addSwaps_25 rfl ?_
    refine AW_iload 4 dX5_addSwaps_26 rfl ?_
    refine AW_callVi (M := mX5_addSwaps) (pc := 28) (As := [.int x2, .int x4]) (ρ1 := ρ) (st := []) dX5_addSwaps_28 mdX9_isHole rfl mlX5_49 imX9_isHole seX9_isHole (rcv_of (q := (RX9, TX9, 10)) (Nat.le_of_ble_eq_true rfl) (okn hρ (Nat.le_of_ble_eq_true rfl)) rfl rfl) ⟨rfl, npX9_isHole⟩ (Nat.le_of_ble_eq_true rfl) (Nat.le_refl _) (Nat.le_refl _) rfl (CALLi.mono h (fun v1 S1 _ h => ?_))
    refine AW_if_ne dX5_addSwaps_31 rfl (iteM h (fun h => ?_) (fun h => ?_))
    · refine AW_aload_n 1 (n := 1) rfl dX5_addSwaps_34 rfl ?_
      refine AW_iload_n 2 (n := 2) rfl dX5_addSwaps_35 rfl ?_
      refine AW_iload 5 dX5_addSwaps_36 rfl ?_
      refine AW_callVi (M := mX5_addSwaps) (pc := 38) (As := [.int x2, .int x5]) (ρ1 := ρ) (st := []) dX5_addSwaps_38 mdX9_isHole rfl mlX5_49 imX9_isHole seX9_isHole (rcv_of (q := (RX9, TX9, 10)) (Nat.le_of_ble_eq_true rfl) (okn hρ (Nat.le_of_ble_eq_true rfl)) rfl rfl) ⟨rfl, npX9_isHole⟩ (Nat.le_of_ble_eq_true rfl) (Nat.le_refl _) (Nat.le_refl _) rfl (CALLi.mono h (fun v2 S2 _ h => ?_))
      refine AW_if_ne dX5_addSwaps_41 rfl (iteM h (fun h => ?_) (fun h => ?_))
      · refine AW_aload_n 1 (n := 1) rfl dX5_addSwaps_44 rfl ?_
        refine AW_iload_n 3 (n := 3) rfl dX5_addSwaps_45 rfl ?_
        refine AW_iload 4 dX5_addSwaps_46 rfl ?_
        refine AW_callVi (M := mX5_addSwaps) (pc := 48) (As := [.int x3, .int x4]) (ρ1 := ρ) (st := []) dX5_addSwaps_48 mdX9_isHole rfl mlX5_49 imX9_isHole seX9_isHole (rcv_of (q := (RX9, TX9, 10)) (Nat.le_of_ble_eq_true rfl) (okn hρ (Nat.le_of_ble_eq_true rfl)) rfl rfl) ⟨rfl, npX9_isHole⟩ (Nat.le_of_ble_eq_true rfl) (Nat.le_refl _) (Nat.le_refl _) rfl (CALLi.mono h (fun v3 S3 _ h => ?_))
        refine AW_if_ne dX5_addSwaps_51 rfl (iteM h (fun h => ?_) (fun h => ?_))
        · refine AW_aload_n 1 (n := 1) rfl dX5_addSwaps_54 rfl ?_
          refine AW_iload_n 3 (n := 3) rfl dX5_addSwaps_55 rfl ?_
          refine AW_iload 5 dX5_addSwaps_56 rfl ?_
          refine AW_callVi (M := mX5_addSwaps) (pc := 58) (As := [.int x3, .int x5]) (ρ1 := ρ) (st := []) dX5_addSwaps_58 mdX9_isHole rfl mlX5_49 imX9_isHole seX9_isHole (rcv_of (q := (RX9, TX9, 10)) (Nat.le_of_ble_eq_true rfl) (okn hρ (Nat.le_of_ble_eq_true rfl)) rfl rfl) ⟨rfl, npX9_isHole⟩ (Nat.le_of_ble_eq_true rfl) (Nat.le_refl _) (Nat.le_refl _) rfl (CALLi.mono h (fun v4 S4 _ h => ?_))
          refine AW_if_ne dX5_addSwaps_61 rfl (iteM h (fun h => ?_) (fun h => ?_))
          · refine AW_iconst (v := 1) dX5_addSwaps_64 rfl ?_
            refine AW_goto (tgt := 69) dX5_addSwaps_65 rfl ?_
            exact AW.sub [0, 1, 2, 3, 4, 5] rfl h
          · refine AW_iconst (v := 0) dX5_addSwaps_68 rfl ?_
            exact AW.sub [0, 1, 2, 3, 4, 5] rfl h
        · refine AW_iconst (v := 0) dX5_addSwaps_68 rfl ?_
          exact AW.sub [0, 1, 2, 3, 4, 5] rfl h
      · refine AW_iconst (v := 0) dX5_addSwaps_68 rfl ?_
        exact AW.sub [0, 1, 2, 3, 4, 5] rfl h
    · refine AW_iconst (v := 0) dX5_addSwaps_68 rfl ?_
      exact AW.sub [0, 1, 2, 3, 4, 5] rfl h
set_option maxRecDepth 20000 in
theorem eX5_addSwaps_3 {g : GX} {Q : St → Prop} {d : Nat} {ρ : Rs} {S : St} (hρ : Ok ρ) {x2 : Int32} {x3 : Int32} {x4 : Int32} (h : if (S.1 21 1) ≤ x4 then Q S else AW g ρ (QV Q) (d + 1) mX5_addSwaps 15 [(0, .ref 26), (1, .ref 21), (2, .int x2), (3, .int x3), (4, .int x4), (5, .int 0)] [] ρ S) : AW g ρ (QV Q) (d + 1) mX5_addSwaps 3 [(0, .ref 26), (1, .ref 21), (2, .int x2), (3, .int x3), (4, .int x4)] [] ρ S := by
  refine AW_iload 4 dX5_addSwaps_3 rfl ?_
  refine AW_aload_n 1 (n := 1) rfl dX5_addSwaps_5 rfl ?_
  refine AW_get dX5_addSwaps_6 flX5_32 (Nat.le_of_ble_eq_true rfl) (okn hρ (Nat.le_of_ble_eq_true rfl)) rfl (v := .int (S.1 21 1)) (fun _ => rfl) ?_
  refine AW_icmp_ge dX5_addSwaps_9 rfl (iteM h (fun h => ?_) (fun h => ?_))
  · exact AW_retv dX5_addSwaps_126 rfl h
  · refine AW_iconst (v := 0) dX5_addSwaps_12 rfl ?_
    refine AW_istore dX5_addSwaps_13 (Nat.le_of_ble_eq_true rfl) rfl ?_
    exact AW.sub [1, 2, 3, 4, 5, 0] rfl h
set_option maxRecDepth 20000 in
theorem eX5_addSwaps {g : GX} {Q : St → Prop} {d : Nat} {ρ : Rs} {S : St} (hρ : Ok ρ) {x2 : Int32} {x3 : Int32} (h : AW g ρ (QV Q) (d + 1) mX5_addSwaps 3 [(0, .ref 26), (1, .ref 21), (2, .int x2), (3, .int x3), (4, .int 0)] [] ρ S) : CALLv g (d + 1) mX5_addSwaps [.ref 26, .ref 21, .int x2, .int x3] ρ ρ S Q := by
  refine CALL.of mdX5_addSwaps.2.2.2.2 (Nat.le_of_ble_eq_true rfl) (Nat.le_refl _) (Nat.le_refl _) ?_
  show AW g ρ (QV Q) (d + 1) mX5_addSwaps 0 [(0, .ref 26), (1, .ref 21), (2, .int x2), (3, .int x3)] [] ρ S
  refine AW_iconst (v := 0) dX5_addSwaps_0 rfl ?_
  refine AW_istore dX5_addSwaps_1 (Nat.le_of_ble_eq_true rfl) rfl ?_
  exact AW.sub [1, 2, 3, 4, 0] rfl h
set_option maxRecDepth 20000 in
theorem eX5_addTurns_109 {g : GX} {Q : St → Prop} {d : Nat} {ρ : Rs} {S : St} (hρ : Ok ρ) {x2 : Int32} {x3 : Int32} {x4 : Int32} {x5 : Int32} {x6 : Int32} {x7 : Int32} {s0 : Int32} (h : if x5 = x6 then AW g ρ (QV Q) (d + 1) mX5_addTurns 33 [(0, .ref 26), (1, .ref 21), (2, .int x2), (3, .int x3), (4, .int x4), (5, .int x5), (6, .int x6), (7, .int (x7 + 1))] [] ρ S else if x6 = x7 then AW g ρ (QV Q) (d + 1) mX5_addTurns 33 [(0, .ref 26), (1, .ref 21), (2, .int x2), (3, .int x3), (4, .int x4), (5, .int x5), (6, .int x6), (7, .int (x7 + 1))] [] ρ S else if x7 = x5 then AW g ρ (QV Q) (d + 1) mX5_addTurns 33 [(0, .ref 26), (1, .ref 21), (2, .int x2), (3, .int x3), (4, .int x4), (5, .int x5), (6, .int x6), (7, .int (x7 + 1))] [] ρ S else if s0 = 0 then AW g ρ (QV Q) (d + 1) mX5_addTurns 33 [(0, .ref 26), (1, .ref 21), (2, .int x2), (3, .int x3), (4, .int x4), (5, .int x5), (6, .int x6), (7, .int (x7 + 1))] [] ρ S else CALLl g d mX3_one [.int x2, .int x5] ρ ρ S (fun v1 S1 => CALLl g d mX3_one [.int x3, .int x6] ρ ρ S1 (fun v2 S2 => CALLl g d mX3_one [.int x4, .int x7] ρ ρ S2 (fun v3 S3 => CALLl g d mX3_one [.int x2, .int x6] ρ ρ S3 (fun v4 S4 => CALLl g d mX3_one [.int x3, .int x7] ρ ρ S4 (fun v5 S5 => CALLl g d mX3_one [.int x4, .int x5] ρ ρ S5 (fun v6 S6 => CALLi g d mX3_shift [.int x2, .int x6] ρ ρ S6 (fun v7 S7 => CALLi g d mX3_shift [.int x3, .int x7] ρ ρ S7 (fun v8 S8 => CALLi g d mX3_shift [.int x4, .int x5] ρ ρ S8 (fun v9 S9 => CALLv g d mX5_add [.ref 26, .long (((v1 + v2) + v3) - ((v4 + v5) + v6)), .int v7, .int v8, .int v9] ρ ρ S9 (fun S10 => AW g ρ (QV Q) (d + 1) mX5_addTurns 33 [(0, .ref 26), (1, .ref 21), (2, .int x2), (3, .int x3), (4, .int x4), (5, .int x5), (6, .int x6), (7, .int (x7 + 1))] [] ρ S10))))))))))) : AW g ρ (QV Q) (d + 1) mX5_addTurns 109 [(0, .ref 26), (1, .ref 21), (2, .int x2), (3, .int x3), (4, .int x4), (5, .int x5), (6, .int x6), (7, .int x7)] [.int s0] ρ S := by
  refine AW_istore dX5_addTurns_109 (Nat.le_of_ble_eq_true rfl) rfl ?_
  refine AW_iload 6 dX5_addTurns_111 rfl ?_
  refine AW_iload 7 dX5_addTurns_113 rfl ?_
  refine AW_icmp_eq dX5_addTurns_115 rfl (iteM h (fun h => ?_) (fun h => ?_))
  · refine AW_iinc 8 (v := x7 + 1) dX5_addTurns_211 rfl rfl (Nat.le_of_ble_eq_true rfl) rfl ?_
    refine AW_goto (tgt := 33) dX5_addTurns_214 rfl ?_
    exact AW.sub [2, 3, 4, 5, 6, 7, 8, 0] rfl h
  · refine AW_iload 7 dX5_addTurns_118 rfl ?_
    refine AW_iload 8 dX5_addTurns_120 rfl ?_
    refine AW_icmp_eq dX5_addTurns_122 rfl (iteM h (fun h => ?_) (fun h => ?_))
    · refine AW_iinc 8 (v := x7 + 1) dX5_addTurns_211 rfl rfl (Nat.le_of_ble_eq_true rfl) rfl ?_
      refine AW_goto (tgt := 33) dX5_addTurns_214 rfl ?_
      exact AW.sub [2, 3, 4, 5, 6, 7, 8, 0] rfl h
    · refine AW_iload 8 dX5_addTurns_125 rfl ?_
      refine AW_iload 6 dX5_addTurns_127 rfl ?_
      refine AW_icmp_eq dX5_addTurns_129 rfl (iteM h (fun h => ?_) (fun h => ?_))
      · refine AW_iinc 8 (v := x7 + 1) dX5_addTurns_211 rfl rfl (Nat.le_of_ble_eq_true rfl) rfl ?_
        refine AW_goto (tgt := 33) dX5_addTurns_214 rfl ?_
        exact AW.sub [2, 3, 4, 5, 6, 7, 8, 0] rfl h
      · refine AW_iload 0 dX5_addTurns_132 rfl ?_
        refine AW_if_eq dX5_addTurns_134 rfl (iteM h (fun h => ?_) (fun h => ?_))
        · refine AW_iinc 8 (v := x7 + 1) dX5_addTurns_211 rfl rfl (Nat.le_of_ble_eq_true rfl) rfl ?_
          refine AW_goto (tgt := 33) dX5_addTurns_214 rfl ?_
          exact AW.sub [2, 3, 4, 5, 6, 7, 8, 0] rfl h
        · refine AW_iload_n 3 (n := 2) rfl dX5_addTurns_137 rfl ?_
          refine AW_iload 6 dX5_addTurns_138 rfl ?_
          refine AW_callSl (M := mX5_addTurns) (pc := 140) (As := [.int x2, .int x5]) (ρ1 := ρ) (st := []) dX5_addTurns_140 mdX3_one mlX5_67 smX3_one ⟨rfl, npX3_one⟩ (Nat.le_of_ble_eq_true rfl) (Nat.le_refl _) (Nat.le_refl _) rfl (CALLl.mono h (fun v1 S1 _ h => ?_))
          refine AW_iload_n 4 (n := 3) rfl dX5_addTurns_143 rfl ?_
          refine AW_iload 7 dX5_addTurns_144 rfl ?_
          refine AW_callSl (M := mX5_addTurns) (pc := 146) (As := [.int x3, .int x6]) (ρ1 := ρ) (st := [.long v1]) dX5_addTurns_146 mdX3_one mlX5_67 smX3_one ⟨rfl, npX3_one⟩ (Nat.le_of_ble_eq_true rfl) (Nat.le_refl _) (Nat.le_refl _) rfl (CALLl.mono h (fun v2 S2 _ h => ?_))
          refine AW_ladd dX5_addTurns_149 ?_
          refine AW_iload 5 dX5_addTurns_150 rfl ?_
          refine AW_iload 8 dX5_addTurns_152 rfl ?_
          refine AW_callSl (M := mX5_addTurns) (pc := 154) (As := [.int x4, .int x7]) (ρ1 := ρ) (st := [.long (v1 + v2)]) dX5_addTurns_154 mdX3_one mlX5_67 smX3_one ⟨rfl, npX3_one⟩ (Nat.le_of_ble_eq_true rfl) (Nat.le_refl _) (Nat.le_refl _) rfl (CALLl.mono h (fun v3 S3 _ h => ?_))
          refine AW_ladd dX5_addTurns_157 ?_
          refine AW_lstore dX5_addTurns_158 (Nat.le_of_ble_eq_true rfl) rfl ?_
          refine AW_iload_n 4 (n := 2) rfl dX5_addTurns_160 rfl ?_
          refine AW_iload 8 dX5_addTurns_161 rfl ?_
          refine AW_callSl (M := mX5_addTurns) (pc := 163) (As := [.int x2, .int x6]) (ρ1 := ρ) (st := []) dX5_addTurns_163 mdX3_one mlX5_67 smX3_one ⟨rfl, npX3_one⟩ (Nat.le_of_ble_eq_true rfl) (Nat.le_refl _) (Nat.le_refl _) rfl (CALLl.mono h (fun v4 S4 _ h => ?_))
          refine AW_iload_n 5 (n := 3) rfl dX5_addTurns_166 rfl ?_
          refine AW_iload 9 dX5_addTurns_167 rfl ?_
          refine AW_callSl (M := mX5_addTurns) (pc := 169) (As := [.int x3, .int x7]) (ρ1 := ρ) (st := [.long v4]) dX5_addTurns_169 mdX3_one mlX5_67 smX3_one ⟨rfl, npX3_one⟩ (Nat.le_of_ble_eq_true rfl) (Nat.le_refl _) (Nat.le_refl _) rfl (CALLl.mono h (fun v5 S5 _ h => ?_))
          refine AW_ladd dX5_addTurns_172 ?_
          refine AW_iload 6 dX5_addTurns_173 rfl ?_
          refine AW_iload 7 dX5_addTurns_175 rfl ?_
          refine AW_callSl (M := mX5_addTurns) (pc := 177) (As := [.int x4, .int x5]) (ρ1 := ρ) (st := [.long (v4 + v5)]) dX5_addTurns_177 mdX3_one mlX5_67 smX3_one ⟨rfl, npX3_one⟩ (Nat.le_of_ble_eq_true rfl) (Nat.le_refl _) (Nat.le_refl _) rfl (CALLl.mono h (fun v6 S6 _ h => ?_))
          refine AW_ladd dX5_addTurns_180 ?_
          refine AW_lstore dX5_addTurns_181 (Nat.le_of_ble_eq_true rfl) rfl ?_
          refine AW_aload_n 3 (n := 0) rfl dX5_addTurns_183 rfl ?_
          refine AW_lload 1 dX5_addTurns_184 rfl ?_
          refine AW_lload 0 dX5_addTurns_186 rfl ?_
          refine AW_lsub dX5_addTurns_188 ?_
          refine AW_iload_n 5 (n := 2) rfl dX5_addTurns_189 rfl ?_
          refine AW_iload 9 dX5_addTurns_190 rfl ?_
          refine AW_callSi (M := mX5_addTurns) (pc := 192) (As := [.int x2, .int x6]) (ρ1 := ρ) (st := [.long (((v1 + v2) + v3) - ((v4 + v5) + v6)), .ref 26]) dX5_addTurns_192 mdX3_shift mlX5_53 smX3_shift ⟨rfl, npX3_shift⟩ (Nat.le_of_ble_eq_true rfl) (Nat.le_refl _) (Nat.le_refl _) rfl (CALLi.mono h (fun v7 S7 _ h => ?_))
          refine AW_iload_n 6 (n := 3) rfl dX5_addTurns_195 rfl ?_
          refine AW_iload 10 dX5_addTurns_196 rfl ?_
          refine AW_callSi (M := mX5_addTurns) (pc := 198) (As := [.int x3, .int x7]) (ρ1 := ρ) (st := [.int v7, .long (((v1 + v2) + v3) - ((v4 + v5) + v6)), .ref 26]) dX5_addTurns_198 mdX3_shift mlX5_53 smX3_shift ⟨rfl, npX3_shift⟩ (Nat.le_of_ble_eq_true rfl) (Nat.le_refl _) (Nat.le_refl _) rfl (CALLi.mono h (fun v8 S8 _ h => ?_))
          refine AW_iload 7 dX5_addTurns_201 rfl ?_
          refine AW_iload 8 dX5_addTurns_203 rfl ?_
          refine AW_callSi (M := mX5_addTurns) (pc := 205) (As := [.int x4, .int x5]) (ρ1 := ρ) (st := [.int v8, .int v7, .long (((v1 + v2) + v3) - ((v4 + v5) + v6)), .ref 26]) dX5_addTurns_205 mdX3_shift mlX5_53 smX3_shift ⟨rfl, npX3_shift⟩ (Nat.le_of_ble_eq_true rfl) (Nat.le_refl _) (Nat.le_refl _) rfl (CALLi.mono h (fun v9 S9 _ h => ?_))
          refine AW_callVv (M := mX5_addTurns) (pc := 208) (As := [.long (((v1 + v2) + v3) - ((v4 + v5) + v6)), .int v7, .int v8, .int v9]) (ρ1 := ρ) (st := []) dX5_addTurns_208 mdX5_add rfl mlX5_63 imX5_add seX5_add (rcv_of (q := (RX5, TX5, 7)) (Nat.le_of_ble_eq_true rfl) (okn hρ (Nat.le_of_ble_eq_true rfl)) rfl rfl) ⟨rfl, npX5_add⟩ (Nat.le_of_ble_eq_true rfl) (Nat.le_refl _) (Nat.le_refl _) rfl (CALLv.mono h (fun S10 _ h => ?_))
          refine AW_iinc 10 (v := x7 + 1) dX5_addTurns_211 rfl rfl (Nat.le_of_ble_eq_true rfl) rfl ?_
          refine AW_goto (tgt := 33) dX5_addTurns_214 rfl ?_
          exact AW.sub [4, 5, 6, 7, 8, 9, 10, 0] rfl h
set_option maxRecDepth 20000 in
theorem eX5_addTurns_33 {g : GX} {Q : St → Prop} {d : Nat} {ρ : Rs} {S : St} (hρ : Ok ρ) {x2 : Int32} {x3 : Int32} {x4 : Int32} {x5 : Int32} {x6 : Int32} {x7 : Int32} (h : if (S.1 21 1) ≤ x7 then AW g ρ (QV Q) (d + 1) mX5_addTurns 21 [(0, .ref 26), (1, .ref 21), (2, .int x2), (3, .int x3), (4, .int x4), (5, .int x5), (6, .int (x6 + 1))] [] ρ S else CALLi g d mX9_isHole [.ref 21, .int x2, .int x5] ρ ρ S (fun v1 S1 => if v1 = 0 then CALLi g d mX9_isHole [.ref 21, .int x2, .int x6] ρ ρ S1 (fun v2 S2 => if v2 = 0 then CALLi g d mX9_isHole [.ref 21, .int x3, .int x6] ρ ρ S2 (fun v3 S3 => if v3 = 0 then CALLi g d mX9_isHole [.ref 21, .int x3, .int x7] ρ ρ S3 (fun v4 S4 => if v4 = 0 then CALLi g d mX9_isHole [.ref 21, .int x4, .int x7] ρ ρ S4 (fun v5 S5 => if v5 = 0 then CALLi g d mX9_isHole [.ref 21, .int x4, .int x5] ρ ρ S5 (fun v6 S6 => if v6 = 0 then AW g ρ (QV Q) (d + 1) mX5_addTurns 109 [(0, .ref 26), (1, .ref 21), (2, .int x2), (3, .int x3), (4, .int x4), (5, .int x5), (6, .int x6), (7, .int x7)] [.int 1] ρ S6 else AW g ρ (QV Q) (d + 1) mX5_addTurns 109 [(0, .ref 26), (1, .ref 21), (2, .int x2), (3, .int x3), (4, .int x4), (5, .int x5), (6, .int x6), (7, .int x7)] [.int 0] ρ S6) else AW g ρ (QV Q) (d + 1) mX5_addTurns 109 [(0, .ref 26), (1, .ref 21), (2, .int x2), (3, .int x3), (4, .int x4), (5, .int x5), (6, .int x6), (7, .int x7)] [.int 0] ρ S5) else AW g ρ (QV Q) (d + 1) mX5_addTurns 109 [(0, .ref 26), (1, .ref 21), (2, .int x2), (3, .int x3), (4, .int x4), (5, .int x5), (6, .int x6), (7, .int x7)] [.int 0] ρ S4) else AW g ρ (QV Q) (d + 1) mX5_addTurns 109 [(0, .ref 26), (1, .ref 21), (2, .int x2), (3, .int x3), (4, .int x4), (5, .int x5), (6, .int x6), (7, .int x7)] [.int 0] ρ S3) else AW g ρ (QV Q) (d + 1) mX5_addTurns 109 [(0, .ref 26), (1, .ref 21), (2, .int x2), (3, .int x3), (4, .int x4), (5, .int x5), (6, .int x6), (7, .int x7)] [.int 0] ρ S2) else AW g ρ (QV Q) (d + 1) mX5_addTurns 109 [(0, .ref 26), (1, .ref 21), (2, .int x2), (3, .int x3), (4, .int x4), (5, .int x5), (6, .int x6), (7, .int x7)] [.int 0] ρ S1)) : AW g ρ (QV Q) (d + 1) mX5_addTurns 33 [(0, .ref 26), (1, .ref 21), (2, .int x2), (3, .int x3), (4, .int x4), (5, .int x5), (6, .int x6), (7, .int x7)] [] ρ S := by
  refine AW_iload 7 dX5_addTurns_33 rfl ?_
  refine AW_aload_n 1 (n := 1) rfl dX5_addTurns_35 rfl ?_
  refine AW_get dX5_addTurns_36 flX5_32 (Nat.le_of_ble_eq_true rfl) (okn hρ (Nat.le_of_ble_eq_true rfl)) rfl (v := .int (S.1 21 1)) (fun _ => rfl) ?_
  refine AW_icmp_ge dX5_addTurns_39 rfl (iteM h (fun h => ?_) (fun h => ?_))
  · refine AW_iinc 6 (v := x6 + 1) dX5_addTurns_217 rfl rfl (Nat.le_of_ble_eq_true rfl) rfl ?_
    refine AW_goto (tgt := 21) dX5_addTurns_220 rfl ?_
    exact AW.sub [1, 2, 3, 4, 5, 6, 0] rfl h
  · refine AW_aload_n 1 (n := 1) rfl dX5_addTurns_42 rfl ?_
    refine AW_iload_n 2 (n := 2) rfl dX5_addTurns_43 rfl ?_
    refine AW_iload 5 dX5_addTurns_44 rfl ?_
    refine AW_callVi (M := mX5_addTurns) (pc := 46) (As := [.int x2, .int x5]) (ρ1 := ρ) (st := []) dX5_addTurns_46 mdX9_isHole rfl mlX5_49 imX9_isHole seX9_isHole (rcv_of (q := (RX9, TX9, 10)) (Nat.le_of_ble_eq_true rfl) (okn hρ (Nat.le_of_ble_eq_true rfl)) rfl rfl) ⟨rfl, npX9_isHole⟩ (Nat.le_of_ble_eq_true rfl) (Nat.le_refl _) (Nat.le_refl _) rfl (CALLi.mono h (fun v1 S1 _ h => ?_))
    refine AW_if_ne dX5_addTurns_49 rfl (iteM h (fun h => ?_) (fun h => ?_))
    · refine AW_aload_n 1 (n := 1) rfl dX5_addTurns_52 rfl ?_
      refine AW_iload_n 2 (n := 2) rfl dX5_addTurns_53 rfl ?_
      refine AW_iload 6 dX5_addTurns_54 rfl ?_
      refine AW_callVi (M := mX5_addTurns) (pc := 56) (As := [.int x2, .int x6]) (ρ1 := ρ) (st := []) dX5_addTurns_56 mdX9_isHole rfl mlX5_49 imX9_isHole seX9_isHole (rcv_of (q := (RX9, TX9, 10)) (Nat.le_of_ble_eq_true rfl) (okn hρ (Nat.le_of_ble_eq_true rfl)) rfl rfl) ⟨rfl, npX9_isHole⟩ (Nat.le_of_ble_eq_true rfl) (Nat.le_refl _) (Nat.le_refl _) rfl (CALLi.mono h (fun v2 S2 _ h => ?_))
      refine AW_if_ne dX5_addTurns_59 rfl (iteM h (fun h => ?_) (fun h => ?_))
      · refine AW_aload_n 1 (n := 1) rfl dX5_addTurns_62 rfl ?_
        refine AW_iload_n 3 (n := 3) rfl dX5_addTurns_63 rfl ?_
        refine AW_iload 6 dX5_addTurns_64 rfl ?_
        refine AW_callVi (M := mX5_addTurns) (pc := 66) (As := [.int x3, .int x6]) (ρ1 := ρ) (st := []) dX5_addTurns_66 mdX9_isHole rfl mlX5_49 imX9_isHole seX9_isHole (rcv_of (q := (RX9, TX9, 10)) (Nat.le_of_ble_eq_true rfl) (okn hρ (Nat.le_of_ble_eq_true rfl)) rfl rfl) ⟨rfl, npX9_isHole⟩ (Nat.le_of_ble_eq_true rfl) (Nat.le_refl _) (Nat.le_refl _) rfl (CALLi.mono h (fun v3 S3 _ h => ?_))
        refine AW_if_ne dX5_addTurns_69 rfl (iteM h (fun h => ?_) (fun h => ?_))
        · refine AW_aload_n 1 (n := 1) rfl dX5_addTurns_72 rfl ?_
          refine AW_iload_n 3 (n := 3) rfl dX5_addTurns_73 rfl ?_
          refine AW_iload 7 dX5_addTurns_74 rfl ?_
          refine AW_callVi (M := mX5_addTurns) (pc := 76) (As := [.int x3, .int x7]) (ρ1 := ρ) (st := []) dX5_addTurns_76 mdX9_isHole rfl mlX5_49 imX9_isHole seX9_isHole (rcv_of (q := (RX9, TX9, 10)) (Nat.le_of_ble_eq_true rfl) (okn hρ (Nat.le_of_ble_eq_true rfl)) rfl rfl) ⟨rfl, npX9_isHole⟩ (Nat.le_of_ble_eq_true rfl) (Nat.le_refl _) (Nat.le_refl _) rfl (CALLi.mono h (fun v4 S4 _ h => ?_))
          refine AW_if_ne dX5_addTurns_79 rfl (iteM h (fun h => ?_) (fun h => ?_))
          · refine AW_aload_n 1 (n := 1) rfl dX5_addTurns_82 rfl ?_
            refine AW_iload 4 dX5_addTurns_83 rfl ?_
            refine AW_iload 7 dX5_addTurns_85 rfl ?_
            refine AW_callVi (M := mX5_addTurns) (pc := 87) (As := [.int x4, .int x7]) (ρ1 := ρ) (st := []) dX5_addTurns_87 mdX9_isHole rfl mlX5_49 imX9_isHole seX9_isHole (rcv_of (q := (RX9, TX9, 10)) (Nat.le_of_ble_eq_true rfl) (okn hρ (Nat.le_of_ble_eq_true rfl)) rfl rfl) ⟨rfl, npX9_isHole⟩ (Nat.le_of_ble_eq_true rfl) (Nat.le_refl _) (Nat.le_refl _) rfl (CALLi.mono h (fun v5 S5 _ h => ?_))
            refine AW_if_ne dX5_addTurns_90 rfl (iteM h (fun h => ?_) (fun h => ?_))
            · refine AW_aload_n 1 (n := 1) rfl dX5_addTurns_93 rfl ?_
              refine AW_iload 4 dX5_addTurns_94 rfl ?_
              refine AW_iload 5 dX5_addTurns_96 rfl ?_
              refine AW_callVi (M := mX5_addTurns) (pc := 98) (As := [.int x4, .int x5]) (ρ1 := ρ) (st := []) dX5_addTurns_98 mdX9_isHole rfl mlX5_49 imX9_isHole seX9_isHole (rcv_of (q := (RX9, TX9, 10)) (Nat.le_of_ble_eq_true rfl) (okn hρ (Nat.le_of_ble_eq_true rfl)) rfl rfl) ⟨rfl, npX9_isHole⟩ (Nat.le_of_ble_eq_true rfl) (Nat.le_refl _) (Nat.le_refl _) rfl (CALLi.mono h (fun v6 S6 _ h => ?_))
              refine AW_if_ne dX5_addTurns_101 rfl (iteM h (fun h => ?_) (fun h => ?_))
              · refine AW_iconst (v := 1) dX5_addTurns_104 rfl ?_
                refine AW_goto (tgt := 109) dX5_addTurns_105 rfl ?_
                exact AW.sub [0, 1, 2, 3, 4, 5, 6, 7] rfl h
              · refine AW_iconst (v := 0) dX5_addTurns_108 rfl ?_
                exact AW.sub [0, 1, 2, 3, 4, 5, 6, 7] rfl h
            · refine AW_iconst (v := 0) dX5_addTurns_108 rfl ?_
              exact AW.sub [0, 1, 2, 3, 4, 5, 6, 7] rfl h
          · refine AW_iconst (v := 0) dX5_addTurns_108 rfl ?_
            exact AW.sub [0, 1, 2, 3, 4, 5, 6, 7] rfl h
        · refine AW_iconst (v := 0) dX5_addTurns_108 rfl ?_
          exact AW.sub [0, 1, 2, 3, 4, 5, 6, 7] rfl h
      · refine AW_iconst (v := 0) dX5_addTurns_108 rfl ?_
        exact AW.sub [0, 1, 2, 3, 4, 5, 6, 7] rfl h
    · refine AW_iconst (v := 0) dX5_addTurns_108 rfl ?_
      exact AW.sub [0, 1, 2, 3, 4, 5, 6, 7] rfl h
set_option maxRecDepth 20000 in
theorem eX5_addTurns_21 {g : GX} {Q : St → Prop} {d : Nat} {ρ : Rs} {S : St} (hρ : Ok ρ) {x2 : Int32} {x3 : Int32} {x4 : Int32} {x5 : Int32} {x6 : Int32} (h : if (S.1 21 1) ≤ x6 then AW g ρ (QV Q) (d + 1) mX5_addTurns 3 [(0, .ref 26), (1, .ref 21), (2, .int x2), (3, .int x3), (4, .int x4), (5, .int (x5 + 1))] [] ρ S else AW g ρ (QV Q) (d + 1) mX5_addTurns 33 [(0, .ref 26), (1, .ref 21), (2, .int x2), (3, .int x3), (4, .int x4), (5, .int x5), (6, .int x6), (7, .int 0)] [] ρ S) : AW g ρ (QV Q) (d + 1) mX5_addTurns 21 [(0, .ref 26), (1, .ref 21), (2, .int x2), (3, .int x3), (4, .int x4), (5, .int x5), (6, .int x6)] [] ρ S := by
  refine AW_iload 6 dX5_addTurns_21 rfl ?_
  refine AW_aload_n 1 (n := 1) rfl dX5_addTurns_23 rfl ?_
  refine AW_get dX5_addTurns_24 flX5_32 (Nat.le_of_ble_eq_true rfl) (okn hρ (Nat.le_of_ble_eq_true rfl)) rfl (v := .int (S.1 21 1)) (fun _ => rfl) ?_
  refine AW_icmp_ge dX5_addTurns_27 rfl (iteM h (fun h => ?_) (fun h => ?_))
  · refine AW_iinc 5 (v := x5 + 1) dX5_addTurns_223 rfl rfl (Nat.le_of_ble_eq_true rfl) rfl ?_
    refine AW_goto (tgt := 3) dX5_addTurns_226 rfl ?_
    exact AW.sub [1, 2, 3, 4, 5, 0] rfl h
  · refine AW_iconst (v := 0) dX5_addTurns_30 rfl ?_
    refine AW_istore dX5_addTurns_31 (Nat.le_of_ble_eq_true rfl) rfl ?_
    exact AW.sub [1, 2, 3, 4, 5, 6, 7, 0] rfl h
set_option maxRecDepth 20000 in
theorem eX5_addTurns_3 {g : GX} {Q : St → Prop} {d : Nat} {ρ : Rs} {S : St} (hρ : Ok ρ) {x2 : Int32} {x3 : Int32} {x4 : Int32} {x5 : Int32} (h : if (S.1 21 1) ≤ x5 then Q S else if x3 = x4 then Q S else AW g ρ (QV Q) (d + 1) mX5_addTurns 21 [(0, .ref 26), (1, .ref 21), (2, .int x2), (3, .int x3), (4, .int x4), (5, .int x5), (6, .int 0)] [] ρ S) : AW g ρ (QV Q) (d + 1) mX5_addTurns 3 [(0, .ref 26), (1, .ref 21), (2, .int x2), (3, .int x3), (4, .int x4), (5, .int x5)] [] ρ S := by
  refine AW_iload 5 dX5_addTurns_3 rfl ?_
  refine AW_aload_n 1 (n := 1) rfl dX5_addTurns_5 rfl ?_
  refine AW_get dX5_addTurns_6 flX5_32 (Nat.le_of_ble_eq_true rfl) (okn hρ (Nat.le_of_ble_eq_true rfl)) rfl (v := .int (S.1 21 1)) (fun _ => rfl) ?_
  refine AW_icmp_ge dX5_addTurns_9 rfl (iteM h (fun h => ?_) (fun h => ?_))
  · exact AW_retv dX5_addTurns_229 rfl h
  · refine AW_iload_n 3 (n := 3) rfl dX5_addTurns_12 rfl ?_
    refine AW_iload 4 dX5_addTurns_13 rfl ?_
    refine AW_icmp_eq dX5_addTurns_15 rfl (iteM h (fun h => ?_) (fun h => ?_))
    · exact AW_retv dX5_addTurns_229 rfl h
    · refine AW_iconst (v := 0) dX5_addTurns_18 rfl ?_
      refine AW_istore dX5_addTurns_19 (Nat.le_of_ble_eq_true rfl) rfl ?_
      exact AW.sub [1, 2, 3, 4, 5, 6, 0] rfl h
set_option maxRecDepth 20000 in
theorem eX5_addTurns {g : GX} {Q : St → Prop} {d : Nat} {ρ : Rs} {S : St} (hρ : Ok ρ) {x2 : Int32} {x3 : Int32} {x4 : Int32} (h : AW g ρ (QV Q) (d + 1) mX5_addTurns 3 [(0, .ref 26), (1, .ref 21), (2, .int x2), (3, .int x3), (4, .int x4), (5, .int 0)] [] ρ S) : CALLv g (d + 1) mX5_addTurns [.ref 26, .ref 21, .int x2, .int x3, .int x4] ρ ρ S Q := by
  refine CALL.of mdX5_addTurns.2.2.2.2 (Nat.le_of_ble_eq_true rfl) (Nat.le_refl _) (Nat.le_refl _) ?_
  show AW g ρ (QV Q) (d + 1) mX5_addTurns 0 [(0, .ref 26), (1, .ref 21), (2, .int x2), (3, .int x3), (4, .int x4)] [] ρ S
  refine AW_iconst (v := 0) dX5_addTurns_0 rfl ?_
  refine AW_istore dX5_addTurns_1 (Nat.le_of_ble_eq_true rfl) rfl ?_
  exact AW.sub [1, 2, 3, 4, 5, 0] rfl h
set_option maxRecDepth 20000 in
theorem eX5_add {g : GX} {Q : St → Prop} {d : Nat} {ρ : Rs} {S : St} (hρ : Ok ρ) {x1 : Int64} {x3 : Int32} {x4 : Int32} {x5 : Int32} (hF : ∀ k ∈ ([27, 28, 29, 30, 26] : List Nat), gF g k) (h : if (S.1 26 1) < 0 then Q S else if (S.1 26 1) < 264 then vp_in (S.1 26 1) 264 ∧ (vp_in (S.1 26 1) 264 ∧ (vp_in (S.1 26 1) 264 ∧ (vp_in (S.1 26 1) 264 ∧ (Q (setI (setI (setI (setI (setL S 27 ((S.1 26 1).toNatClampNeg) x1) 28 ((S.1 26 1).toNatClampNeg) x3) 29 ((S.1 26 1).toNatClampNeg) x4) 30 ((S.1 26 1).toNatClampNeg) x5) 26 1 ((S.1 26 1) + 1)))))) else Q S) : CALLv g d mX5_add [.ref 26, .long x1, .int x3, .int x4, .int x5] ρ ρ S Q := by
  refine CALL.of mdX5_add.2.2.2.2 (Nat.le_of_ble_eq_true rfl) (Nat.le_refl _) (Nat.le_refl _) ?_
  show AW g ρ (QV Q) d mX5_add 0 [(0, .ref 26), (1, .long x1), (3, .int x3), (4, .int x4), (5, .int x5)] [] ρ S
  refine AW_aload_n 0 (n := 0) rfl dX5_add_0 rfl ?_
  refine AW_get dX5_add_1 flX5_23 (Nat.le_of_ble_eq_true rfl) (okn hρ (Nat.le_of_ble_eq_true rfl)) rfl (v := .int (S.1 26 1)) (fun _ => rfl) ?_
  refine AW_if_lt dX5_add_4 rfl (iteM h (fun h => ?_) (fun h => ?_))
  · exact AW_retv dX5_add_17 rfl h
  · refine AW_aload_n 0 (n := 0) rfl dX5_add_7 rfl ?_
    refine AW_get dX5_add_8 flX5_23 (Nat.le_of_ble_eq_true rfl) (okn hρ (Nat.le_of_ble_eq_true rfl)) rfl (v := .int (S.1 26 1)) (fun _ => rfl) ?_
    refine AW_sipush (v := 264) dX5_add_11 rfl ?_
    refine AW_icmp_lt dX5_add_14 rfl (iteM h (fun h => ?_) (fun h => ?_))
    · refine AW_aload_n 0 (n := 0) rfl dX5_add_18 rfl ?_
      refine AW_get dX5_add_19 flX5_9 (Nat.le_of_ble_eq_true rfl) (okn hρ (Nat.le_of_ble_eq_true rfl)) rfl (v := .ref 27) (fvR (okR hρ 13 rfl)) ?_
      refine AW_aload_n 0 (n := 0) rfl dX5_add_22 rfl ?_
      refine AW_get dX5_add_23 flX5_23 (Nat.le_of_ble_eq_true rfl) (okn hρ (Nat.le_of_ble_eq_true rfl)) rfl (v := .int (S.1 26 1)) (fun _ => rfl) ?_
      refine AW_lload_n 1 (n := 1) rfl dX5_add_26 rfl ?_
      refine AW_lastore dX5_add_27 (Nat.le_of_ble_eq_true rfl) (okn hρ (Nat.le_of_ble_eq_true rfl)) rfl h.1 (hF _ (List.mem_of_getElem? (i := 0) rfl)) (jx := (S.1 26 1).toNatClampNeg) rfl ?_
      replace h := h.2
      refine AW_aload_n 0 (n := 0) rfl dX5_add_28 rfl ?_
      refine AW_get dX5_add_29 flX5_13 (Nat.le_of_ble_eq_true rfl) (okn hρ (Nat.le_of_ble_eq_true rfl)) rfl (v := .ref 28) (fvR (okR hρ 14 rfl)) ?_
      refine AW_aload_n 0 (n := 0) rfl dX5_add_32 rfl ?_
      refine AW_get dX5_add_33 flX5_23 (Nat.le_of_ble_eq_true rfl) (okn hρ (Nat.le_of_ble_eq_true rfl)) rfl (v := .int (S.1 26 1)) (fun _ => rfl) ?_
      refine AW_iload_n 2 (n := 3) rfl dX5_add_36 rfl ?_
      refine AW_iastore dX5_add_37 (Nat.le_of_ble_eq_true rfl) (okn hρ (Nat.le_of_ble_eq_true rfl)) rfl h.1 (hF _ (List.mem_of_getElem? (i := 1) rfl)) (jx := (S.1 26 1).toNatClampNeg) rfl ?_
      replace h := h.2
      refine AW_aload_n 0 (n := 0) rfl dX5_add_38 rfl ?_
      refine AW_get dX5_add_39 flX5_17 (Nat.le_of_ble_eq_true rfl) (okn hρ (Nat.le_of_ble_eq_true rfl)) rfl (v := .ref 29) (fvR (okR hρ 15 rfl)) ?_
      refine AW_aload_n 0 (n := 0) rfl dX5_add_42 rfl ?_
      refine AW_get dX5_add_43 flX5_23 (Nat.le_of_ble_eq_true rfl) (okn hρ (Nat.le_of_ble_eq_true rfl)) rfl (v := .int (S.1 26 1)) (fun _ => rfl) ?_
      refine AW_iload 3 dX5_add_46 rfl ?_
      refine AW_iastore dX5_add_48 (Nat.le_of_ble_eq_true rfl) (okn hρ (Nat.le_of_ble_eq_true rfl)) rfl h.1 (hF _ (List.mem_of_getElem? (i := 2) rfl)) (jx := (S.1 26 1).toNatClampNeg) rfl ?_
      replace h := h.2
      refine AW_aload_n 0 (n := 0) rfl dX5_add_49 rfl ?_
      refine AW_get dX5_add_50 flX5_20 (Nat.le_of_ble_eq_true rfl) (okn hρ (Nat.le_of_ble_eq_true rfl)) rfl (v := .ref 30) (fvR (okR hρ 16 rfl)) ?_
      refine AW_aload_n 0 (n := 0) rfl dX5_add_53 rfl ?_
      refine AW_get dX5_add_54 flX5_23 (Nat.le_of_ble_eq_true rfl) (okn hρ (Nat.le_of_ble_eq_true rfl)) rfl (v := .int (S.1 26 1)) (fun _ => rfl) ?_
      refine AW_iload 4 dX5_add_57 rfl ?_
      refine AW_iastore dX5_add_59 (Nat.le_of_ble_eq_true rfl) (okn hρ (Nat.le_of_ble_eq_true rfl)) rfl h.1 (hF _ (List.mem_of_getElem? (i := 3) rfl)) (jx := (S.1 26 1).toNatClampNeg) rfl ?_
      replace h := h.2
      refine AW_aload_n 0 (n := 0) rfl dX5_add_60 rfl ?_
      refine AW_dup dX5_add_61 rfl ?_
      refine AW_get dX5_add_62 flX5_23 (Nat.le_of_ble_eq_true rfl) (okn hρ (Nat.le_of_ble_eq_true rfl)) rfl (v := .int (S.1 26 1)) (fun _ => rfl) ?_
      refine AW_iconst (v := 1) dX5_add_65 rfl ?_
      refine AW_iadd dX5_add_66 ?_
      refine AW_put dX5_add_67 flX5_23 fp_4_1 (Nat.le_of_ble_eq_true rfl) (okn hρ (Nat.le_of_ble_eq_true rfl)) rfl (fun _ => rfl) (fun _ => rfl) rfl rfl rfl rfl (Fr.setI _ _ _ rfl) (fun _ _ => rfl) (ρ2 := ρ) (S2 := setI (setI (setI (setI (setL S 27 ((S.1 26 1).toNatClampNeg) x1) 28 ((S.1 26 1).toNatClampNeg) x3) 29 ((S.1 26 1).toNatClampNeg) x4) 30 ((S.1 26 1).toNatClampNeg) x5) 26 1 ((S.1 26 1) + 1)) (fun _ => rfl) (fun _ _ _ q1 _ => fvI_o q1) (hF _ (List.mem_of_getElem? (i := 4) rfl)) ?_
      exact AW_retv dX5_add_70 rfl h
    · exact AW_retv dX5_add_17 rfl h
set_option maxRecDepth 20000 in
theorem eX5_can {g : GX} {Q : Int32 → St → Prop} {d : Nat} {ρ : Rs} {S : St} (hρ : Ok ρ) {x1 : Int64} {x3 : Int32} (h : if x3 < 0 then Q 0 S else if (264 : Int32) ≤ x3 then Q 0 S else vp_in x3 264 ∧ (CALLi g d mX3_get [.long x1, .int (S.1 28 x3.toNatClampNeg)] ρ ρ S (fun v1 S1 => if v1 ≤ 0 then Q 0 S1 else vp_in x3 264 ∧ (CALLi g d mX3_get [.long x1, .int (S1.1 29 x3.toNatClampNeg)] ρ ρ S1 (fun v2 S2 => if v2 ≤ 0 then Q 0 S2 else vp_in x3 264 ∧ (CALLi g d mX3_get [.long x1, .int (S2.1 30 x3.toNatClampNeg)] ρ ρ S2 (fun v3 S3 => if v3 ≤ 0 then Q 0 S3 else Q 1 S3))))))) : CALLi g (d + 1) mX5_can [.ref 26, .long x1, .int x3] ρ ρ S Q := by
  refine CALL.of mdX5_can.2.2.2.2 (Nat.le_of_ble_eq_true rfl) (Nat.le_refl _) (Nat.le_refl _) ?_
  show AW g ρ (QI Q) (d + 1) mX5_can 0 [(0, .ref 26), (1, .long x1), (3, .int x3)] [] ρ S
  refine AW_iload_n 2 (n := 3) rfl dX5_can_0 rfl ?_
  refine AW_if_lt dX5_can_1 rfl (iteM h (fun h => ?_) (fun h => ?_))
  · refine AW_iconst (v := 0) dX5_can_54 rfl ?_
    exact AW_retz dX5_can_55 rfl Bz0 h
  · refine AW_iload_n 2 (n := 3) rfl dX5_can_4 rfl ?_
    refine AW_sipush (v := 264) dX5_can_5 rfl ?_
    refine AW_icmp_ge dX5_can_8 rfl (iteM h (fun h => ?_) (fun h => ?_))
    · refine AW_iconst (v := 0) dX5_can_54 rfl ?_
      exact AW_retz dX5_can_55 rfl Bz0 h
    · refine AW_lload_n 1 (n := 1) rfl dX5_can_11 rfl ?_
      refine AW_aload_n 0 (n := 0) rfl dX5_can_12 rfl ?_
      refine AW_get dX5_can_13 flX5_13 (Nat.le_of_ble_eq_true rfl) (okn hρ (Nat.le_of_ble_eq_true rfl)) rfl (v := .ref 28) (fvR (okR hρ 14 rfl)) ?_
      refine AW_iload_n 2 (n := 3) rfl dX5_can_16 rfl ?_
      refine AW_iaload dX5_can_17 (Nat.le_of_ble_eq_true rfl) (okn hρ (Nat.le_of_ble_eq_true rfl)) rfl h.1 (v := S.1 28 x3.toNatClampNeg) rfl ?_
      replace h := h.2
      refine AW_callSi (M := mX5_can) (pc := 18) (As := [.long x1, .int (S.1 28 x3.toNatClampNeg)]) (ρ1 := ρ) (st := []) dX5_can_18 mdX3_get mlX5_71 smX3_get ⟨rfl, npX3_get⟩ (Nat.le_of_ble_eq_true rfl) (Nat.le_refl _) (Nat.le_refl _) rfl (CALLi.mono h (fun v1 S1 _ h => ?_))
      refine AW_if_le dX5_can_21 rfl (iteM h (fun h => ?_) (fun h => ?_))
      · refine AW_iconst (v := 0) dX5_can_54 rfl ?_
        exact AW_retz dX5_can_55 rfl Bz0 h
      · refine AW_lload_n 1 (n := 1) rfl dX5_can_24 rfl ?_
        refine AW_aload_n 0 (n := 0) rfl dX5_can_25 rfl ?_
        refine AW_get dX5_can_26 flX5_17 (Nat.le_of_ble_eq_true rfl) (okn hρ (Nat.le_of_ble_eq_true rfl)) rfl (v := .ref 29) (fvR (okR hρ 15 rfl)) ?_
        refine AW_iload_n 2 (n := 3) rfl dX5_can_29 rfl ?_
        refine AW_iaload dX5_can_30 (Nat.le_of_ble_eq_true rfl) (okn hρ (Nat.le_of_ble_eq_true rfl)) rfl h.1 (v := S1.1 29 x3.toNatClampNeg) rfl ?_
        replace h := h.2
        refine AW_callSi (M := mX5_can) (pc := 31) (As := [.long x1, .int (S1.1 29 x3.toNatClampNeg)]) (ρ1 := ρ) (st := []) dX5_can_31 mdX3_get mlX5_71 smX3_get ⟨rfl, npX3_get⟩ (Nat.le_of_ble_eq_true rfl) (Nat.le_refl _) (Nat.le_refl _) rfl (CALLi.mono h (fun v2 S2 _ h => ?_))
        refine AW_if_le dX5_can_34 rfl (iteM h (fun h => ?_) (fun h => ?_))
        · refine AW_iconst (v := 0) dX5_can_54 rfl ?_
          exact AW_retz dX5_can_55 rfl Bz0 h
        · refine AW_lload_n 1 (n := 1) rfl dX5_can_37 rfl ?_
          refine AW_aload_n 0 (n := 0) rfl dX5_can_38 rfl ?_
          refine AW_get dX5_can_39 flX5_20 (Nat.le_of_ble_eq_true rfl) (okn hρ (Nat.le_of_ble_eq_true rfl)) rfl (v := .ref 30) (fvR (okR hρ 16 rfl)) ?_
          refine AW_iload_n 2 (n := 3) rfl dX5_can_42 rfl ?_
          refine AW_iaload dX5_can_43 (Nat.le_of_ble_eq_true rfl) (okn hρ (Nat.le_of_ble_eq_true rfl)) rfl h.1 (v := S2.1 30 x3.toNatClampNeg) rfl ?_
          replace h := h.2
          refine AW_callSi (M := mX5_can) (pc := 44) (As := [.long x1, .int (S2.1 30 x3.toNatClampNeg)]) (ρ1 := ρ) (st := []) dX5_can_44 mdX3_get mlX5_71 smX3_get ⟨rfl, npX3_get⟩ (Nat.le_of_ble_eq_true rfl) (Nat.le_refl _) (Nat.le_refl _) rfl (CALLi.mono h (fun v3 S3 _ h => ?_))
          refine AW_if_le dX5_can_47 rfl (iteM h (fun h => ?_) (fun h => ?_))
          · refine AW_iconst (v := 0) dX5_can_54 rfl ?_
            exact AW_retz dX5_can_55 rfl Bz0 h
          · refine AW_iconst (v := 1) dX5_can_50 rfl ?_
            refine AW_goto (tgt := 55) dX5_can_51 rfl ?_
            exact AW_retz dX5_can_55 rfl Bz1 h
set_option maxRecDepth 20000 in
theorem eX5_swapsOn_5 {g : GX} {Q : Int32 → St → Prop} {d : Nat} {ρ : Rs} {S : St} (hρ : Ok ρ) {x1 : Int64} {x3 : Int32} {x4 : Int32} (h : if (S.1 26 0) ≤ x4 then Q x3 S else CALLi g d mX5_can [.ref 26, .long x1, .int x4] ρ ρ S (fun v1 S1 => if v1 = 0 then AW g ρ (QI Q) (d + 1) mX5_swapsOn 5 [(0, .ref 26), (1, .long x1), (3, .int x3), (4, .int (x4 + 1))] [] ρ S1 else AW g ρ (QI Q) (d + 1) mX5_swapsOn 5 [(0, .ref 26), (1, .long x1), (3, .int (x3 + 1)), (4, .int (x4 + 1))] [] ρ S1)) : AW g ρ (QI Q) (d + 1) mX5_swapsOn 5 [(0, .ref 26), (1, .long x1), (3, .int x3), (4, .int x4)] [] ρ S := by
  refine AW_iload 3 dX5_swapsOn_5 rfl ?_
  refine AW_aload_n 0 (n := 0) rfl dX5_swapsOn_7 rfl ?_
  refine AW_get dX5_swapsOn_8 flX5_42 (Nat.le_of_ble_eq_true rfl) (okn hρ (Nat.le_of_ble_eq_true rfl)) rfl (v := .int (S.1 26 0)) (fun _ => rfl) ?_
  refine AW_icmp_ge dX5_swapsOn_11 rfl (iteM h (fun h => ?_) (fun h => ?_))
  · refine AW_iload_n 2 (n := 3) rfl dX5_swapsOn_33 rfl ?_
    exact AW_reti dX5_swapsOn_34 rfl h
  · refine AW_aload_n 0 (n := 0) rfl dX5_swapsOn_14 rfl ?_
    refine AW_lload_n 1 (n := 1) rfl dX5_swapsOn_15 rfl ?_
    refine AW_iload 3 dX5_swapsOn_16 rfl ?_
    refine AW_callVi (M := mX5_swapsOn) (pc := 18) (As := [.long x1, .int x4]) (ρ1 := ρ) (st := []) dX5_swapsOn_18 mdX5_can rfl mlX5_75 imX5_can seX5_can (rcv_of (q := (RX5, TX5, 7)) (Nat.le_of_ble_eq_true rfl) (okn hρ (Nat.le_of_ble_eq_true rfl)) rfl rfl) ⟨rfl, npX5_can⟩ (Nat.le_of_ble_eq_true rfl) (Nat.le_refl _) (Nat.le_refl _) rfl (CALLi.mono h (fun v1 S1 _ h => ?_))
    refine AW_if_eq dX5_swapsOn_21 rfl (iteM h (fun h => ?_) (fun h => ?_))
    · refine AW_iinc 3 (v := x4 + 1) dX5_swapsOn_27 rfl rfl (Nat.le_of_ble_eq_true rfl) rfl ?_
      refine AW_goto (tgt := 5) dX5_swapsOn_30 rfl ?_
      exact AW.sub [1, 2, 3, 0] rfl h
    · refine AW_iinc 2 (v := x3 + 1) dX5_swapsOn_24 rfl rfl (Nat.le_of_ble_eq_true rfl) rfl ?_
      refine AW_iinc 3 (v := x4 + 1) dX5_swapsOn_27 rfl rfl (Nat.le_of_ble_eq_true rfl) rfl ?_
      refine AW_goto (tgt := 5) dX5_swapsOn_30 rfl ?_
      exact AW.sub [2, 3, 1, 0] rfl h
set_option maxRecDepth 20000 in
theorem eX5_swapsOn {g : GX} {Q : Int32 → St → Prop} {d : Nat} {ρ : Rs} {S : St} (hρ : Ok ρ) {x1 : Int64} (h : AW g ρ (QI Q) (d + 1) mX5_swapsOn 5 [(0, .ref 26), (1, .long x1), (3, .int 0), (4, .int 0)] [] ρ S) : CALLi g (d + 1) mX5_swapsOn [.ref 26, .long x1] ρ ρ S Q := by
  refine CALL.of mdX5_swapsOn.2.2.2.2 (Nat.le_of_ble_eq_true rfl) (Nat.le_refl _) (Nat.le_refl _) ?_
  show AW g ρ (QI Q) (d + 1) mX5_swapsOn 0 [(0, .ref 26), (1, .long x1)] [] ρ S
  refine AW_iconst (v := 0) dX5_swapsOn_0 rfl ?_
  refine AW_istore_n (n := 3) (i := 3) rfl dX5_swapsOn_1 (Nat.le_of_ble_eq_true rfl) rfl ?_
  refine AW_iconst (v := 0) dX5_swapsOn_2 rfl ?_
  refine AW_istore dX5_swapsOn_3 (Nat.le_of_ble_eq_true rfl) rfl ?_
  exact AW.sub [2, 3, 1, 0] rfl h
