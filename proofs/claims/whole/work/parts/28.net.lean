set_option maxRecDepth 20000 in
theorem eX6_forget {g : GX} {Q : St → Prop} {d : Nat} {ρ : Rs} {S : St} (hρ : Ok ρ) (hF : ∀ k ∈ ([70] : List Nat), gF g k) (h : Q (setI S 70 2 0)) : CALLv g d mX6_forget [.ref 70] ρ ρ S Q := by
  refine CALL.of mdX6_forget.2.2.2.2 (Nat.le_of_ble_eq_true rfl) (Nat.le_refl _) (Nat.le_refl _) ?_
  show AW g ρ (QV Q) d mX6_forget 0 [(0, .ref 70)] [] ρ S
  refine AW_aload_n 0 (n := 0) rfl dX6_forget_0 rfl ?_
  refine AW_iconst (v := 0) dX6_forget_1 rfl ?_
  refine AW_put dX6_forget_2 flX6_50 fp_5_2 (Nat.le_of_ble_eq_true rfl) (okn hρ (Nat.le_of_ble_eq_true rfl)) rfl (fun _ => Bz.nar Bz0) (fun _ => Bz.fits Bz0) rfl rfl rfl rfl (Fr.setI _ _ _ rfl) (fun _ _ => rfl) (ρ2 := ρ) (S2 := setI S 70 2 0) (fun _ => rfl) (fun _ _ _ q1 _ => fvI_o q1) (hF _ (List.mem_of_getElem? (i := 0) rfl)) ?_
  exact AW_retv dX6_forget_5 rfl h
set_option maxRecDepth 20000 in
theorem eX6_prepare_81 {g : GX} {Q : St → Prop} {d : Nat} {ρ ρ' : Rs} {S : St} (hρ : Ok ρ) {ρ2 : Rs} (hρ2 : Ok ρ2) (hcl2 : rc ρ2 ≤ rc ρ') (hul2 : ru ρ2 ≤ ru ρ') (hcle : rc ρ ≤ rc ρ') (hule : ru ρ ≤ ru ρ') {x1 : Int32} (hF : ∀ k ∈ ([72] : List Nat), gF g k) (h : if (S.1 70 3) ≤ x1 then vp_in (S.1 70 3) 1001 ∧ (CALLv g (d + 1) mX6_splitIntoClasses [.ref 70] ρ ρ (setI S 72 ((S.1 70 3).toNatClampNeg) (S.1 70 7)) (fun S1 => ρ = ρ' ∧ (Q S1))) else vp_in x1 1001 ∧ (vp_in x1 1000 ∧ (CALLv g (d + 1) mX6_linkSwaps [.ref 70, .long (S.2 71 x1.toNatClampNeg)] ρ ρ2 (setI S 72 x1.toNatClampNeg (S.1 70 7)) (fun S2 => AW g ρ' (QV Q) (d + 2) mX6_prepare 81 [(0, .ref 70), (1, .int (x1 + 1))] [] ρ2 S2)))) : AW g ρ' (QV Q) (d + 2) mX6_prepare 81 [(0, .ref 70), (1, .int x1)] [] ρ S := by
  refine AW_iload_n 1 (n := 1) rfl dX6_prepare_81 rfl ?_
  refine AW_aload_n 0 (n := 0) rfl dX6_prepare_82 rfl ?_
  refine AW_get dX6_prepare_83 flX6_75 (Nat.le_of_ble_eq_true rfl) (okn hρ (Nat.le_of_ble_eq_true rfl)) rfl (v := .int (S.1 70 3)) (fun _ => rfl) ?_
  refine AW_icmp_ge dX6_prepare_86 rfl (iteM h (fun h => ?_) (fun h => ?_))
  · refine AW_aload_n 0 (n := 0) rfl dX6_prepare_116 rfl ?_
    refine AW_get dX6_prepare_117 flX6_17 (Nat.le_of_ble_eq_true rfl) (okn hρ (Nat.le_of_ble_eq_true rfl)) rfl (v := .ref 72) (fvR (okR hρ 46 rfl)) ?_
    refine AW_aload_n 0 (n := 0) rfl dX6_prepare_120 rfl ?_
    refine AW_get dX6_prepare_121 flX6_75 (Nat.le_of_ble_eq_true rfl) (okn hρ (Nat.le_of_ble_eq_true rfl)) rfl (v := .int (S.1 70 3)) (fun _ => rfl) ?_
    refine AW_aload_n 0 (n := 0) rfl dX6_prepare_124 rfl ?_
    refine AW_get dX6_prepare_125 flX6_87 (Nat.le_of_ble_eq_true rfl) (okn hρ (Nat.le_of_ble_eq_true rfl)) rfl (v := .int (S.1 70 7)) (fun _ => rfl) ?_
    refine AW_callSv (M := mX6_prepare) (pc := 128) (As := [.ref 72, .int (S.1 70 3), .int (S.1 70 7)]) (ρ1 := ρ) (st := []) dX6_prepare_128 mdX7_put mlX6_90 smX7_put ⟨rfl, npX7_put⟩ (Nat.le_of_ble_eq_true rfl) hcle hule rfl (iX7_put hρ (Nat.le_of_ble_eq_true rfl) (okn hρ (Nat.le_of_ble_eq_true rfl)) rfl (hF _ (List.mem_of_getElem? (i := 0) rfl)) (jx := (S.1 70 3).toNatClampNeg) rfl (by decide) h.1 ?_)
    replace h := h.2
    refine AW_aload_n 0 (n := 0) rfl dX6_prepare_131 rfl ?_
    refine AW_callVv (M := mX6_prepare) (pc := 132) (As := []) (ρ1 := ρ) (st := []) dX6_prepare_132 mdX6_splitIntoClasses rfl mlX6_101 imX6_splitIntoClasses seX6_splitIntoClasses (rcv_of (q := (RX6, TX6, 18)) (Nat.le_of_ble_eq_true rfl) (okn hρ (Nat.le_of_ble_eq_true rfl)) rfl rfl) ⟨rfl, npX6_splitIntoClasses⟩ (Nat.le_of_ble_eq_true rfl) hcle hule rfl (CALLv.mono h (fun S1 _ h => ?_))
    refine AW.rhoE h.1 ?_
    replace h := h.2
    exact AW_retv dX6_prepare_135 rfl h
  · refine AW_aload_n 0 (n := 0) rfl dX6_prepare_89 rfl ?_
    refine AW_get dX6_prepare_90 flX6_17 (Nat.le_of_ble_eq_true rfl) (okn hρ (Nat.le_of_ble_eq_true rfl)) rfl (v := .ref 72) (fvR (okR hρ 46 rfl)) ?_
    refine AW_iload_n 1 (n := 1) rfl dX6_prepare_93 rfl ?_
    refine AW_aload_n 0 (n := 0) rfl dX6_prepare_94 rfl ?_
    refine AW_get dX6_prepare_95 flX6_87 (Nat.le_of_ble_eq_true rfl) (okn hρ (Nat.le_of_ble_eq_true rfl)) rfl (v := .int (S.1 70 7)) (fun _ => rfl) ?_
    refine AW_callSv (M := mX6_prepare) (pc := 98) (As := [.ref 72, .int x1, .int (S.1 70 7)]) (ρ1 := ρ) (st := []) dX6_prepare_98 mdX7_put mlX6_90 smX7_put ⟨rfl, npX7_put⟩ (Nat.le_of_ble_eq_true rfl) hcle hule rfl (iX7_put hρ (Nat.le_of_ble_eq_true rfl) (okn hρ (Nat.le_of_ble_eq_true rfl)) rfl (hF _ (List.mem_of_getElem? (i := 0) rfl)) (jx := x1.toNatClampNeg) rfl (by decide) h.1 ?_)
    replace h := h.2
    refine AW_aload_n 0 (n := 0) rfl dX6_prepare_101 rfl ?_
    refine AW_aload_n 0 (n := 0) rfl dX6_prepare_102 rfl ?_
    refine AW_iload_n 1 (n := 1) rfl dX6_prepare_103 rfl ?_
    refine AW_callVl (M := mX6_prepare) (pc := 104) (As := [.int x1]) (ρ1 := ρ) (st := [.ref 70]) dX6_prepare_104 mdX6_cellsAt rfl mlX6_93 imX6_cellsAt seX6_cellsAt (rcv_of (q := (RX6, TX6, 18)) (Nat.le_of_ble_eq_true rfl) (okn hρ (Nat.le_of_ble_eq_true rfl)) rfl rfl) ⟨rfl, npX6_cellsAt⟩ (Nat.le_of_ble_eq_true rfl) hcle hule rfl (iX6_cellsAt hρ h.1 (v := (S.2 71 x1.toNatClampNeg)) rfl ?_)
    replace h := h.2
    refine AW_callVv (M := mX6_prepare) (pc := 107) (As := [.long (S.2 71 x1.toNatClampNeg)]) (ρ1 := ρ2) (st := []) dX6_prepare_107 mdX6_linkSwaps rfl mlX6_97 imX6_linkSwaps seX6_linkSwaps (rcv_of (q := (RX6, TX6, 18)) (Nat.le_of_ble_eq_true rfl) (okn hρ (Nat.le_of_ble_eq_true rfl)) rfl rfl) ⟨rfl, npX6_linkSwaps⟩ (Nat.le_of_ble_eq_true rfl) hcl2 hul2 rfl (CALLv.mono h (fun S2 _ h => ?_))
    refine AW_iinc 1 (v := x1 + 1) dX6_prepare_110 rfl rfl (Nat.le_of_ble_eq_true rfl) rfl ?_
    refine AW_goto (tgt := 81) dX6_prepare_113 rfl ?_
    exact AW.sub [1, 0] rfl h
set_option maxRecDepth 20000 in
theorem eX6_prepare_43 {g : GX} {Q : St → Prop} {d : Nat} {ρ ρ' : Rs} {S : St} (hρ : Ok ρ) (hcle : rc ρ ≤ rc ρ') (hule : ru ρ ≤ ru ρ') {x1 : Int32} (hF : ∀ k ∈ ([70, 71] : List Nat), gF g k) (h : if (S.1 70 3) ≤ x1 then AW g ρ' (QV Q) (d + 2) mX6_prepare 81 [(0, .ref 70), (1, .int 0)] [] ρ (setI S 70 7 0) else CALLl g (d + 1) mX1_cellsOf [.ref 31, .long x1.toInt64] ρ ρ S (fun v1 S1 => vp_in x1 1000 ∧ (AW g ρ' (QV Q) (d + 2) mX6_prepare 43 [(0, .ref 70), (1, .int (x1 + 1))] [] ρ (setL S1 71 x1.toNatClampNeg v1)))) : AW g ρ' (QV Q) (d + 2) mX6_prepare 43 [(0, .ref 70), (1, .int x1)] [] ρ S := by
  refine AW_iload_n 1 (n := 1) rfl dX6_prepare_43 rfl ?_
  refine AW_aload_n 0 (n := 0) rfl dX6_prepare_44 rfl ?_
  refine AW_get dX6_prepare_45 flX6_75 (Nat.le_of_ble_eq_true rfl) (okn hρ (Nat.le_of_ble_eq_true rfl)) rfl (v := .int (S.1 70 3)) (fun _ => rfl) ?_
  refine AW_icmp_ge dX6_prepare_48 rfl (iteM h (fun h => ?_) (fun h => ?_))
  · refine AW_aload_n 0 (n := 0) rfl dX6_prepare_74 rfl ?_
    refine AW_iconst (v := 0) dX6_prepare_75 rfl ?_
    refine AW_put dX6_prepare_76 flX6_87 fp_5_7 (Nat.le_of_ble_eq_true rfl) (okn hρ (Nat.le_of_ble_eq_true rfl)) rfl (fun _ => rfl) (fun _ => rfl) rfl rfl rfl rfl (Fr.setI _ _ _ rfl) (fun _ _ => rfl) (ρ2 := ρ) (S2 := setI S 70 7 0) (fun _ => rfl) (fun _ _ _ q1 _ => fvI_o q1) (hF _ (List.mem_of_getElem? (i := 0) rfl)) ?_
    refine AW_iconst (v := 0) dX6_prepare_79 rfl ?_
    refine AW_istore_n (n := 1) (i := 1) rfl dX6_prepare_80 (Nat.le_of_ble_eq_true rfl) rfl ?_
    exact AW.sub [1, 0] rfl h
  · refine AW_aload_n 0 (n := 0) rfl dX6_prepare_51 rfl ?_
    refine AW_get dX6_prepare_52 flX6_11 (Nat.le_of_ble_eq_true rfl) (okn hρ (Nat.le_of_ble_eq_true rfl)) rfl (v := .ref 71) (fvR (okR hρ 45 rfl)) ?_
    refine AW_iload_n 1 (n := 1) rfl dX6_prepare_55 rfl ?_
    refine AW_aload_n 0 (n := 0) rfl dX6_prepare_56 rfl ?_
    refine AW_get dX6_prepare_57 flX6_42 (Nat.le_of_ble_eq_true rfl) (okn hρ (Nat.le_of_ble_eq_true rfl)) rfl (v := .ref 31) (fvR (okR hρ 43 rfl)) ?_
    refine AW_iload_n 1 (n := 1) rfl dX6_prepare_60 rfl ?_
    refine AW_i2l dX6_prepare_61 ?_
    refine AW_callVl (M := mX6_prepare) (pc := 62) (As := [.long x1.toInt64]) (ρ1 := ρ) (st := [.int x1, .ref 71]) dX6_prepare_62 mdX1_cellsOf rfl mlX6_77 imX1_cellsOf seX1_cellsOf (rcv_of (q := (RX1, TX1, 15)) (Nat.le_of_ble_eq_true rfl) (okn hρ (Nat.le_of_ble_eq_true rfl)) rfl rfl) ⟨rfl, npX1_cellsOf⟩ (Nat.le_of_ble_eq_true rfl) hcle hule rfl (CALLl.mono h (fun v1 S1 _ h => ?_))
    refine AW_callSv (M := mX6_prepare) (pc := 65) (As := [.ref 71, .int x1, .long v1]) (ρ1 := ρ) (st := []) dX6_prepare_65 mdX7_put_ mlX6_81 smX7_put_ ⟨rfl, npX7_put_⟩ (Nat.le_of_ble_eq_true rfl) hcle hule rfl (iX7_put_ hρ (Nat.le_of_ble_eq_true rfl) (okn hρ (Nat.le_of_ble_eq_true rfl)) rfl (hF _ (List.mem_of_getElem? (i := 1) rfl)) (jx := x1.toNatClampNeg) rfl (by decide) h.1 ?_)
    replace h := h.2
    refine AW_iinc 1 (v := x1 + 1) dX6_prepare_68 rfl rfl (Nat.le_of_ble_eq_true rfl) rfl ?_
    refine AW_goto (tgt := 43) dX6_prepare_71 rfl ?_
    exact AW.sub [1, 0] rfl h
set_option maxRecDepth 20000 in
theorem eX6_prepare {g : GX} {Q : St → Prop} {d : Nat} {ρ ρ' : Rs} {S : St} (hρ : Ok ρ) (hcle : rc ρ ≤ rc ρ') (hule : ru ρ ≤ ru ρ') (hF : ∀ k ∈ ([70] : List Nat), gF g k) (h : if (S.1 70 2) = 0 then CALLl g (d + 1) mX1_size [.ref 31] ρ ρ (setI (setI (setI S 70 2 1) 70 13 (-1)) 70 11 (-1)) (fun v1 S1 => AW g ρ' (QV Q) (d + 2) mX6_prepare 43 [(0, .ref 70), (1, .int 0)] [] ρ (setI S1 70 3 ((if v1 < 1000 then v1 else 1000).toInt32))) else ρ = ρ' ∧ (Q S)) : CALLv g (d + 2) mX6_prepare [.ref 70] ρ ρ' S Q := by
  refine CALL.of mdX6_prepare.2.2.2.2 (Nat.le_of_ble_eq_true rfl) hcle hule ?_
  show AW g ρ' (QV Q) (d + 2) mX6_prepare 0 [(0, .ref 70)] [] ρ S
  refine AW_aload_n 0 (n := 0) rfl dX6_prepare_0 rfl ?_
  refine AW_get dX6_prepare_1 flX6_50 (Nat.le_of_ble_eq_true rfl) (okn hρ (Nat.le_of_ble_eq_true rfl)) rfl (v := .int (S.1 70 2)) (fun _ => rfl) ?_
  refine AW_if_eq dX6_prepare_4 rfl (iteM h (fun h => ?_) (fun h => ?_))
  · refine AW_aload_n 0 (n := 0) rfl dX6_prepare_8 rfl ?_
    refine AW_iconst (v := 1) dX6_prepare_9 rfl ?_
    refine AW_put dX6_prepare_10 flX6_50 fp_5_2 (Nat.le_of_ble_eq_true rfl) (okn hρ (Nat.le_of_ble_eq_true rfl)) rfl (fun _ => Bz.nar Bz1) (fun _ => Bz.fits Bz1) rfl rfl rfl rfl (Fr.setI _ _ _ rfl) (fun _ _ => rfl) (ρ2 := ρ) (S2 := setI S 70 2 1) (fun _ => rfl) (fun _ _ _ q1 _ => fvI_o q1) (hF _ (List.mem_of_getElem? (i := 0) rfl)) ?_
    refine AW_aload_n 0 (n := 0) rfl dX6_prepare_13 rfl ?_
    refine AW_iconst (v := (-1)) dX6_prepare_14 rfl ?_
    refine AW_put dX6_prepare_15 flX6_54 fp_5_13 (Nat.le_of_ble_eq_true rfl) (okn hρ (Nat.le_of_ble_eq_true rfl)) rfl (fun _ => rfl) (fun _ => rfl) rfl rfl rfl rfl (Fr.setI _ _ _ rfl) (fun _ _ => rfl) (ρ2 := ρ) (S2 := setI (setI S 70 2 1) 70 13 (-1)) (fun _ => rfl) (fun _ _ _ q1 _ => fvI_o q1) (hF _ (List.mem_of_getElem? (i := 0) rfl)) ?_
    refine AW_aload_n 0 (n := 0) rfl dX6_prepare_18 rfl ?_
    refine AW_iconst (v := (-1)) dX6_prepare_19 rfl ?_
    refine AW_put dX6_prepare_20 flX6_58 fp_5_11 (Nat.le_of_ble_eq_true rfl) (okn hρ (Nat.le_of_ble_eq_true rfl)) rfl (fun _ => rfl) (fun _ => rfl) rfl rfl rfl rfl (Fr.setI _ _ _ rfl) (fun _ _ => rfl) (ρ2 := ρ) (S2 := setI (setI (setI S 70 2 1) 70 13 (-1)) 70 11 (-1)) (fun _ => rfl) (fun _ _ _ q1 _ => fvI_o q1) (hF _ (List.mem_of_getElem? (i := 0) rfl)) ?_
    refine AW_aload_n 0 (n := 0) rfl dX6_prepare_23 rfl ?_
    refine AW_ldc2 (v := 1000) dX6_prepare_24 kcX6_61 ?_
    refine AW_aload_n 0 (n := 0) rfl dX6_prepare_27 rfl ?_
    refine AW_get dX6_prepare_28 flX6_42 (Nat.le_of_ble_eq_true rfl) (okn hρ (Nat.le_of_ble_eq_true rfl)) rfl (v := .ref 31) (fvR (okR hρ 43 rfl)) ?_
    refine AW_callVl (M := mX6_prepare) (pc := 31) (As := []) (ρ1 := ρ) (st := [.long 1000, .ref 70]) dX6_prepare_31 mdX1_size rfl mlX6_63 imX1_size seX1_size (rcv_of (q := (RX1, TX1, 15)) (Nat.le_of_ble_eq_true rfl) (okn hρ (Nat.le_of_ble_eq_true rfl)) rfl rfl) ⟨rfl, npX1_size⟩ (Nat.le_of_ble_eq_true rfl) hcle hule rfl (CALLl.mono h (fun v1 S1 _ h => ?_))
    refine AW_mminL (M := mX6_prepare) (pc := 34) dX6_prepare_34 mlX6_69 wmminLS wMath wmminLC (Nat.le_of_ble_eq_true rfl) ?_ hcle hule
    refine AW_l2i dX6_prepare_37 ?_
    refine AW_put dX6_prepare_38 flX6_75 fp_5_3 (Nat.le_of_ble_eq_true rfl) (okn hρ (Nat.le_of_ble_eq_true rfl)) rfl (fun _ => rfl) (fun _ => rfl) rfl rfl rfl rfl (Fr.setI _ _ _ rfl) (fun _ _ => rfl) (ρ2 := ρ) (S2 := setI S1 70 3 ((if v1 < 1000 then v1 else 1000).toInt32)) (fun _ => rfl) (fun _ _ _ q1 _ => fvI_o q1) (hF _ (List.mem_of_getElem? (i := 0) rfl)) ?_
    refine AW_iconst (v := 0) dX6_prepare_41 rfl ?_
    refine AW_istore_n (n := 1) (i := 1) rfl dX6_prepare_42 (Nat.le_of_ble_eq_true rfl) rfl ?_
    exact AW.sub [1, 0] rfl h
  · refine AW.rhoE h.1 ?_
    replace h := h.2
    exact AW_retv dX6_prepare_7 rfl h
set_option maxRecDepth 20000 in
theorem eX6_linkSwaps_2 {g : GX} {Q : St → Prop} {d : Nat} {ρ ρ' : Rs} {S : St} (hρ : Ok ρ) {ρ3 : Rs} (hρ3 : Ok ρ3) (hcl3 : rc ρ3 ≤ rc ρ') (hul3 : ru ρ3 ≤ ru ρ') (hcle : rc ρ ≤ rc ρ') (hule : ru ρ ≤ ru ρ') {x1 : Int64} {x3 : Int32} (h : if (S.1 26 0) ≤ x3 then ρ = ρ' ∧ (Q S) else CALLi g d mX5_can [.ref 26, .long x1, .int x3] ρ ρ S (fun v1 S1 => if v1 = 0 then AW g ρ' (QV Q) (d + 1) mX6_linkSwaps 2 [(0, .ref 70), (1, .long x1), (3, .int (x3 + 1))] [] ρ S1 else vp_in x3 264 ∧ (CALLi g d mX6_find [.ref 70, .long (x1 + (S1.2 27 x3.toNatClampNeg))] ρ ρ S1 (fun v2 S2 => CALLv g d mX6_addNear [.ref 70, .int v2] ρ ρ3 S2 (fun S3 => AW g ρ' (QV Q) (d + 1) mX6_linkSwaps 2 [(0, .ref 70), (1, .long x1), (3, .int (x3 + 1))] [] ρ3 S3))))) : AW g ρ' (QV Q) (d + 1) mX6_linkSwaps 2 [(0, .ref 70), (1, .long x1), (3, .int x3)] [] ρ S := by
  refine AW_iload_n 2 (n := 3) rfl dX6_linkSwaps_2 rfl ?_
  refine AW_aload_n 0 (n := 0) rfl dX6_linkSwaps_3 rfl ?_
  refine AW_get dX6_linkSwaps_4 flX6_46 (Nat.le_of_ble_eq_true rfl) (okn hρ (Nat.le_of_ble_eq_true rfl)) rfl (v := .ref 26) (fvR (okR hρ 44 rfl)) ?_
  refine AW_get dX6_linkSwaps_7 flX6_104 (Nat.le_of_ble_eq_true rfl) (okn hρ (Nat.le_of_ble_eq_true rfl)) rfl (v := .int (S.1 26 0)) (fun _ => rfl) ?_
  refine AW_icmp_ge dX6_linkSwaps_10 rfl (iteM h (fun h => ?_) (fun h => ?_))
  · refine AW.rhoE h.1 ?_
    replace h := h.2
    exact AW_retv dX6_linkSwaps_48 rfl h
  · refine AW_aload_n 0 (n := 0) rfl dX6_linkSwaps_13 rfl ?_
    refine AW_get dX6_linkSwaps_14 flX6_46 (Nat.le_of_ble_eq_true rfl) (okn hρ (Nat.le_of_ble_eq_true rfl)) rfl (v := .ref 26) (fvR (okR hρ 44 rfl)) ?_
    refine AW_lload_n 1 (n := 1) rfl dX6_linkSwaps_17 rfl ?_
    refine AW_iload_n 2 (n := 3) rfl dX6_linkSwaps_18 rfl ?_
    refine AW_callVi (M := mX6_linkSwaps) (pc := 19) (As := [.long x1, .int x3]) (ρ1 := ρ) (st := []) dX6_linkSwaps_19 mdX5_can rfl mlX6_107 imX5_can seX5_can (rcv_of (q := (RX5, TX5, 7)) (Nat.le_of_ble_eq_true rfl) (okn hρ (Nat.le_of_ble_eq_true rfl)) rfl rfl) ⟨rfl, npX5_can⟩ (Nat.le_of_ble_eq_true rfl) hcle hule rfl (CALLi.mono h (fun v1 S1 _ h => ?_))
    refine AW_if_eq dX6_linkSwaps_22 rfl (iteM h (fun h => ?_) (fun h => ?_))
    · refine AW_iinc 2 (v := x3 + 1) dX6_linkSwaps_42 rfl rfl (Nat.le_of_ble_eq_true rfl) rfl ?_
      refine AW_goto (tgt := 2) dX6_linkSwaps_45 rfl ?_
      exact AW.sub [1, 2, 0] rfl h
    · refine AW_aload_n 0 (n := 0) rfl dX6_linkSwaps_25 rfl ?_
      refine AW_aload_n 0 (n := 0) rfl dX6_linkSwaps_26 rfl ?_
      refine AW_aload_n 0 (n := 0) rfl dX6_linkSwaps_27 rfl ?_
      refine AW_get dX6_linkSwaps_28 flX6_46 (Nat.le_of_ble_eq_true rfl) (okn hρ (Nat.le_of_ble_eq_true rfl)) rfl (v := .ref 26) (fvR (okR hρ 44 rfl)) ?_
      refine AW_lload_n 1 (n := 1) rfl dX6_linkSwaps_31 rfl ?_
      refine AW_iload_n 2 (n := 3) rfl dX6_linkSwaps_32 rfl ?_
      refine AW_callVl (M := mX6_linkSwaps) (pc := 33) (As := [.long x1, .int x3]) (ρ1 := ρ) (st := [.ref 70, .ref 70]) dX6_linkSwaps_33 mdX5_moved rfl mlX6_111 imX5_moved seX5_moved (rcv_of (q := (RX5, TX5, 7)) (Nat.le_of_ble_eq_true rfl) (okn hρ (Nat.le_of_ble_eq_true rfl)) rfl rfl) ⟨rfl, npX5_moved⟩ (Nat.le_of_ble_eq_true rfl) hcle hule rfl (iX5_moved hρ h.1 (v := (x1 + (S1.2 27 x3.toNatClampNeg))) rfl ?_)
      replace h := h.2
      refine AW_callVi (M := mX6_linkSwaps) (pc := 36) (As := [.long (x1 + (S1.2 27 x3.toNatClampNeg))]) (ρ1 := ρ) (st := [.ref 70]) dX6_linkSwaps_36 mdX6_find rfl mlX6_115 imX6_find seX6_find (rcv_of (q := (RX6, TX6, 18)) (Nat.le_of_ble_eq_true rfl) (okn hρ (Nat.le_of_ble_eq_true rfl)) rfl rfl) ⟨rfl, npX6_find⟩ (Nat.le_of_ble_eq_true rfl) hcle hule rfl (CALLi.mono h (fun v2 S2 _ h => ?_))
      refine AW_callVv (M := mX6_linkSwaps) (pc := 39) (As := [.int v2]) (ρ1 := ρ3) (st := []) dX6_linkSwaps_39 mdX6_addNear rfl mlX6_119 imX6_addNear seX6_addNear (rcv_of (q := (RX6, TX6, 18)) (Nat.le_of_ble_eq_true rfl) (okn hρ (Nat.le_of_ble_eq_true rfl)) rfl rfl) ⟨rfl, npX6_addNear⟩ (Nat.le_of_ble_eq_true rfl) hcl3 hul3 rfl (CALLv.mono h (fun S3 _ h => ?_))
      refine AW_iinc 2 (v := x3 + 1) dX6_linkSwaps_42 rfl rfl (Nat.le_of_ble_eq_true rfl) rfl ?_
      refine AW_goto (tgt := 2) dX6_linkSwaps_45 rfl ?_
      exact AW.sub [1, 2, 0] rfl h
set_option maxRecDepth 20000 in
theorem eX6_linkSwaps {g : GX} {Q : St → Prop} {d : Nat} {ρ ρ' : Rs} {S : St} (hρ : Ok ρ) {x1 : Int64} (hcle : rc ρ ≤ rc ρ') (hule : ru ρ ≤ ru ρ') (h : AW g ρ' (QV Q) (d + 1) mX6_linkSwaps 2 [(0, .ref 70), (1, .long x1), (3, .int 0)] [] ρ S) : CALLv g (d + 1) mX6_linkSwaps [.ref 70, .long x1] ρ ρ' S Q := by
  refine CALL.of mdX6_linkSwaps.2.2.2.2 (Nat.le_of_ble_eq_true rfl) hcle hule ?_
  show AW g ρ' (QV Q) (d + 1) mX6_linkSwaps 0 [(0, .ref 70), (1, .long x1)] [] ρ S
  refine AW_iconst (v := 0) dX6_linkSwaps_0 rfl ?_
  refine AW_istore_n (n := 3) (i := 3) rfl dX6_linkSwaps_1 (Nat.le_of_ble_eq_true rfl) rfl ?_
  exact AW.sub [1, 2, 0] rfl h
set_option maxRecDepth 20000 in
theorem eX6_addNear_45 {g : GX} {Q : St → Prop} {d : Nat} {ρ ρ' : Rs} {S : St} (hρ : Ok ρ) {kn nn : Nat} (hR_kn : rR ρ 70 6 = some kn) (h16_kn : 16 ≤ kn) (hn_kn : kn < rn ρ) (hs_kn : shp ρ kn = .inr (0, nn)) (hcle : rc ρ ≤ rc ρ') (hule : ru ρ ≤ ru ρ') {x1 : Int32} (hF : ∀ k ∈ ([70] : List Nat), gF g k) (hF_kn : gF g kn) (h : if (S.1 70 7) < 0 then ρ = ρ' ∧ (Q S) else if (Int32.ofNat nn) ≤ (S.1 70 7) then ρ = ρ' ∧ (Q S) else vp_in (S.1 70 7) nn ∧ (ρ = ρ' ∧ (Q (setI (setI S kn ((S.1 70 7).toNatClampNeg) x1) 70 7 (((setI S kn ((S.1 70 7).toNatClampNeg) x1).1 70 7) + 1))))) : AW g ρ' (QV Q) (d + 1) mX6_addNear 45 [(0, .ref 70), (1, .int x1)] [] ρ S := by
  refine AW_aload_n 0 (n := 0) rfl dX6_addNear_45 rfl ?_
  refine AW_get dX6_addNear_46 flX6_87 (Nat.le_of_ble_eq_true rfl) (okn hρ (Nat.le_of_ble_eq_true rfl)) rfl (v := .int (S.1 70 7)) (fun _ => rfl) ?_
  refine AW_if_lt dX6_addNear_49 rfl (iteM h (fun h => ?_) (fun h => ?_))
  · refine AW.rhoE h.1 ?_
    replace h := h.2
    exact AW_retv dX6_addNear_84 rfl h
  · refine AW_aload_n 0 (n := 0) rfl dX6_addNear_52 rfl ?_
    refine AW_get dX6_addNear_53 flX6_87 (Nat.le_of_ble_eq_true rfl) (okn hρ (Nat.le_of_ble_eq_true rfl)) rfl (v := .int (S.1 70 7)) (fun _ => rfl) ?_
    refine AW_aload_n 0 (n := 0) rfl dX6_addNear_56 rfl ?_
    refine AW_get dX6_addNear_57 flX6_21 (Nat.le_of_ble_eq_true rfl) (okn hρ (Nat.le_of_ble_eq_true rfl)) rfl (v := .ref kn) (fvR hR_kn) ?_
    refine AW_alen (v := Int32.ofNat nn) dX6_addNear_60 h16_kn hn_kn (by decide) hs_kn rfl ?_
    refine AW_icmp_ge dX6_addNear_61 rfl (iteM h (fun h => ?_) (fun h => ?_))
    · refine AW.rhoE h.1 ?_
      replace h := h.2
      exact AW_retv dX6_addNear_84 rfl h
    · refine AW_aload_n 0 (n := 0) rfl dX6_addNear_64 rfl ?_
      refine AW_get dX6_addNear_65 flX6_21 (Nat.le_of_ble_eq_true rfl) (okn hρ (Nat.le_of_ble_eq_true rfl)) rfl (v := .ref kn) (fvR hR_kn) ?_
      refine AW_aload_n 0 (n := 0) rfl dX6_addNear_68 rfl ?_
      refine AW_get dX6_addNear_69 flX6_87 (Nat.le_of_ble_eq_true rfl) (okn hρ (Nat.le_of_ble_eq_true rfl)) rfl (v := .int (S.1 70 7)) (fun _ => rfl) ?_
      refine AW_iload_n 1 (n := 1) rfl dX6_addNear_72 rfl ?_
      refine AW_iastore dX6_addNear_73 h16_kn hn_kn hs_kn h.1 hF_kn (jx := (S.1 70 7).toNatClampNeg) rfl ?_
      replace h := h.2
      refine AW_aload_n 0 (n := 0) rfl dX6_addNear_74 rfl ?_
      refine AW_dup dX6_addNear_75 rfl ?_
      refine AW_get dX6_addNear_76 flX6_87 (Nat.le_of_ble_eq_true rfl) (okn hρ (Nat.le_of_ble_eq_true rfl)) rfl (v := .int ((setI S kn ((S.1 70 7).toNatClampNeg) x1).1 70 7)) (fun _ => rfl) ?_
      refine AW_iconst (v := 1) dX6_addNear_79 rfl ?_
      refine AW_iadd dX6_addNear_80 ?_
      refine AW_put dX6_addNear_81 flX6_87 fp_5_7 (Nat.le_of_ble_eq_true rfl) (okn hρ (Nat.le_of_ble_eq_true rfl)) rfl (fun _ => rfl) (fun _ => rfl) rfl rfl rfl rfl (Fr.setI _ _ _ rfl) (fun _ _ => rfl) (ρ2 := ρ) (S2 := setI (setI S kn ((S.1 70 7).toNatClampNeg) x1) 70 7 (((setI S kn ((S.1 70 7).toNatClampNeg) x1).1 70 7) + 1)) (fun _ => rfl) (fun _ _ _ q1 _ => fvI_o q1) (hF _ (List.mem_of_getElem? (i := 0) rfl)) ?_
      refine AW.rhoE h.1 ?_
      replace h := h.2
      exact AW_retv dX6_addNear_84 rfl h
set_option maxRecDepth 20000 in
theorem eX6_addNear {g : GX} {Q : St → Prop} {d : Nat} {ρ ρ' : Rs} {S : St} (hρ : Ok ρ) {x1 : Int32} {kn nn : Nat} (hR_kn : rR ρ 70 6 = some kn) (h16_kn : 16 ≤ kn) (hn_kn : kn < rn ρ) (hs_kn : shp ρ kn = .inr (0, nn)) {ρ1 : Rs} (hρ1 : Ok ρ1) (hcl1 : rc ρ1 ≤ rc ρ') (hul1 : ru ρ1 ≤ ru ρ') {l1 : Nat} (hcle : rc ρ ≤ rc ρ') (hule : ru ρ ≤ ru ρ') (hF : ∀ k ∈ ([70] : List Nat), gF g k) (h : if (S.1 70 7) < (Int32.ofNat nn) then AW g ρ' (QV Q) (d + 1) mX6_addNear 45 [(0, .ref 70), (1, .int x1)] [] ρ S else if (72000 : Int32) ≤ (Int32.ofNat nn) then AW g ρ' (QV Q) (d + 1) mX6_addNear 45 [(0, .ref 70), (1, .int x1)] [] ρ S else CALLa g d mJ7_copyOf_59c91 [.ref kn, .int (if (2 * (Int32.ofNat nn)) < 72000 then (2 * (Int32.ofNat nn)) else 72000)] ρ ρ1 S (fun v1 S1 => 16 ≤ v1 ∧ v1 < rn ρ1 ∧ shp ρ1 v1 = .inr (0, l1) ∧ gF g v1 ∧ (AW g ρ' (QV Q) (d + 1) mX6_addNear 45 [(0, .ref 70), (1, .int x1)] [] (setR ρ1 70 6 (some v1)) S1))) : CALLv g (d + 1) mX6_addNear [.ref 70, .int x1] ρ ρ' S Q := by
  refine CALL.of mdX6_addNear.2.2.2.2 (Nat.le_of_ble_eq_true rfl) hcle hule ?_
  show AW g ρ' (QV Q) (d + 1) mX6_addNear 0 [(0, .ref 70), (1, .int x1)] [] ρ S
  refine AW_aload_n 0 (n := 0) rfl dX6_addNear_0 rfl ?_
  refine AW_get dX6_addNear_1 flX6_87 (Nat.le_of_ble_eq_true rfl) (okn hρ (Nat.le_of_ble_eq_true rfl)) rfl (v := .int (S.1 70 7)) (fun _ => rfl) ?_
  refine AW_aload_n 0 (n := 0) rfl dX6_addNear_4 rfl ?_
  refine AW_get dX6_addNear_5 flX6_21 (Nat.le_of_ble_eq_true rfl) (okn hρ (Nat.le_of_ble_eq_true rfl)) rfl (v := .ref kn) (fvR hR_kn) ?_
  refine AW_alen (v := Int32.ofNat nn) dX6_addNear_8 h16_kn hn_kn (by decide) hs_kn rfl ?_
  refine AW_icmp_lt dX6_addNear_9 rfl (iteM h (fun h => ?_) (fun h => ?_))
  · exact AW.sub [0, 1] rfl h
  · refine AW_aload_n 0 (n := 0) rfl dX6_addNear_12 rfl ?_
    refine AW_get dX6_addNear_13 flX6_21 (Nat.le_of_ble_eq_true rfl) (okn hρ (Nat.le_of_ble_eq_true rfl)) rfl (v := .ref kn) (fvR hR_kn) ?_
    refine AW_alen (v := Int32.ofNat nn) dX6_addNear_16 h16_kn hn_kn (by decide) hs_kn rfl ?_
    refine AW_ldc (v := 72000) dX6_addNear_17 kcX6_123 ?_
    refine AW_icmp_ge dX6_addNear_19 rfl (iteM h (fun h => ?_) (fun h => ?_))
    · exact AW.sub [0, 1] rfl h
    · refine AW_aload_n 0 (n := 0) rfl dX6_addNear_22 rfl ?_
      refine AW_aload_n 0 (n := 0) rfl dX6_addNear_23 rfl ?_
      refine AW_get dX6_addNear_24 flX6_21 (Nat.le_of_ble_eq_true rfl) (okn hρ (Nat.le_of_ble_eq_true rfl)) rfl (v := .ref kn) (fvR hR_kn) ?_
      refine AW_ldc (v := 72000) dX6_addNear_27 kcX6_123 ?_
      refine AW_iconst (v := 2) dX6_addNear_29 rfl ?_
      refine AW_aload_n 0 (n := 0) rfl dX6_addNear_30 rfl ?_
      refine AW_get dX6_addNear_31 flX6_21 (Nat.le_of_ble_eq_true rfl) (okn hρ (Nat.le_of_ble_eq_true rfl)) rfl (v := .ref kn) (fvR hR_kn) ?_
      refine AW_alen (v := Int32.ofNat nn) dX6_addNear_34 h16_kn hn_kn (by decide) hs_kn rfl ?_
      refine AW_imul dX6_addNear_35 ?_
      refine AW_mminI (M := mX6_addNear) (pc := 36) dX6_addNear_36 mlX6_124 wmminIS wMath wmminIC (Nat.le_of_ble_eq_true rfl) ?_ hcle hule
      refine AW_callSa (M := mX6_addNear) (pc := 39) (As := [.ref kn, .int (if (2 * (Int32.ofNat nn)) < 72000 then (2 * (Int32.ofNat nn)) else 72000)]) (ρ1 := ρ1) (st := [.ref 70]) dX6_addNear_39 mdJ7_copyOf_59c91 mlX6_127 smJ7_copyOf_59c91 ⟨rfl, npJ7_copyOf_59c91⟩ (Nat.le_of_ble_eq_true rfl) hcl1 hul1 rfl (CALLa.mono h (fun v1 S1 _ h => ?_))
      obtain ⟨h16_v1, hn_v1, hs_v1, hF_v1, h⟩ := h
      refine AW_put dX6_addNear_42 flX6_21 fp_5_6 (Nat.le_of_ble_eq_true rfl) (okn hρ1 (Nat.le_of_ble_eq_true rfl)) rfl (fun _ => rfl) (fun _ => rfl) rfl rfl rfl rfl (Fr.rf _) (fun _ q => setR_ne _ _ _ q) (ρ2 := setR ρ1 70 6 (some v1)) (S2 := S1) (fvR (setR_eq _ _ _ _)) (fun _ _ _ q1 _ => fvR_o q1) (hF _ (List.mem_of_getElem? (i := 0) rfl)) ?_
      exact AW.sub [0, 1] rfl h
set_option maxRecDepth 20000 in
theorem eX6_find_14 {g : GX} {Q : Int32 → St → Prop} {d : Nat} {ρ : Rs} {S : St} (hρ : Ok ρ) {x3 : Int64} {x5 : Int32} {x6 : Int32} (h : if x6 ≤ 0 then Q x5 S else if (S.1 70 3) ≤ (x5 + x6) then AW g ρ (QI Q) d mX6_find 14 [(0, .ref 70), (3, .long x3), (5, .int x5), (6, .int (x6 >>> (1 &&& 31)))] [] ρ S else if (1000 : Int32) ≤ (x5 + x6) then AW g ρ (QI Q) d mX6_find 14 [(0, .ref 70), (3, .long x3), (5, .int x5), (6, .int (x6 >>> (1 &&& 31)))] [] ρ S else vp_in (x5 + x6) 1000 ∧ (if x3 < ((S.2 71 ((x5 + x6).toNatClampNeg)) ^^^ (-9223372036854775808)) then AW g ρ (QI Q) d mX6_find 14 [(0, .ref 70), (3, .long x3), (5, .int x5), (6, .int (x6 >>> (1 &&& 31)))] [] ρ S else AW g ρ (QI Q) d mX6_find 14 [(0, .ref 70), (3, .long x3), (5, .int (x5 + x6)), (6, .int (x6 >>> (1 &&& 31)))] [] ρ S)) : AW g ρ (QI Q) d mX6_find 14 [(0, .ref 70), (3, .long x3), (5, .int x5), (6, .int x6)] [] ρ S := by
  refine AW_iload 3 dX6_find_14 rfl ?_
  refine AW_if_le dX6_find_16 rfl (iteM h (fun h => ?_) (fun h => ?_))
  · refine AW_iload 2 dX6_find_72 rfl ?_
    exact AW_reti dX6_find_74 rfl h
  · refine AW_iload 2 dX6_find_19 rfl ?_
    refine AW_iload 3 dX6_find_21 rfl ?_
    refine AW_iadd dX6_find_23 ?_
    refine AW_istore dX6_find_24 (Nat.le_of_ble_eq_true rfl) rfl ?_
    refine AW_iload 0 dX6_find_26 rfl ?_
    refine AW_aload_n 1 (n := 0) rfl dX6_find_28 rfl ?_
    refine AW_get dX6_find_29 flX6_75 (Nat.le_of_ble_eq_true rfl) (okn hρ (Nat.le_of_ble_eq_true rfl)) rfl (v := .int (S.1 70 3)) (fun _ => rfl) ?_
    refine AW_icmp_ge dX6_find_32 rfl (iteM h (fun h => ?_) (fun h => ?_))
    · refine AW_iload 4 dX6_find_63 rfl ?_
      refine AW_iconst (v := 1) dX6_find_65 rfl ?_
      refine AW_ishr dX6_find_66 ?_
      refine AW_istore dX6_find_67 (Nat.le_of_ble_eq_true rfl) rfl ?_
      refine AW_goto (tgt := 14) dX6_find_69 rfl ?_
      exact AW.sub [2, 3, 4, 0] rfl h
    · refine AW_iload 0 dX6_find_35 rfl ?_
      refine AW_sipush (v := 1000) dX6_find_37 rfl ?_
      refine AW_icmp_ge dX6_find_40 rfl (iteM h (fun h => ?_) (fun h => ?_))
      · refine AW_iload 4 dX6_find_63 rfl ?_
        refine AW_iconst (v := 1) dX6_find_65 rfl ?_
        refine AW_ishr dX6_find_66 ?_
        refine AW_istore dX6_find_67 (Nat.le_of_ble_eq_true rfl) rfl ?_
        refine AW_goto (tgt := 14) dX6_find_69 rfl ?_
        exact AW.sub [2, 3, 4, 0] rfl h
      · refine AW_aload_n 1 (n := 0) rfl dX6_find_43 rfl ?_
        refine AW_get dX6_find_44 flX6_11 (Nat.le_of_ble_eq_true rfl) (okn hρ (Nat.le_of_ble_eq_true rfl)) rfl (v := .ref 71) (fvR (okR hρ 45 rfl)) ?_
        refine AW_iload 0 dX6_find_47 rfl ?_
        refine AW_laload dX6_find_49 (Nat.le_of_ble_eq_true rfl) (okn hρ (Nat.le_of_ble_eq_true rfl)) rfl h.1 (v := S.2 71 ((x5 + x6).toNatClampNeg)) rfl ?_
        replace h := h.2
        refine AW_ldc2 (v := (-9223372036854775808)) dX6_find_50 kcX6_137 ?_
        refine AW_lxor dX6_find_53 ?_
        refine AW_lload_n 2 (n := 3) rfl dX6_find_54 rfl ?_
        refine AW_lc_gt dX6_find_55 dX6_find_56 rfl (iteM h (fun h => ?_) (fun h => ?_))
        · refine AW_iload 4 dX6_find_63 rfl ?_
          refine AW_iconst (v := 1) dX6_find_65 rfl ?_
          refine AW_ishr dX6_find_66 ?_
          refine AW_istore dX6_find_67 (Nat.le_of_ble_eq_true rfl) rfl ?_
          refine AW_goto (tgt := 14) dX6_find_69 rfl ?_
          exact AW.sub [2, 3, 4, 0] rfl h
        · refine AW_iload 0 dX6_find_59 rfl ?_
          refine AW_istore dX6_find_61 (Nat.le_of_ble_eq_true rfl) rfl ?_
          refine AW_iload 4 dX6_find_63 rfl ?_
          refine AW_iconst (v := 1) dX6_find_65 rfl ?_
          refine AW_ishr dX6_find_66 ?_
          refine AW_istore dX6_find_67 (Nat.le_of_ble_eq_true rfl) rfl ?_
          refine AW_goto (tgt := 14) dX6_find_69 rfl ?_
          exact AW.sub [3, 4, 1, 0] rfl h
set_option maxRecDepth 20000 in
theorem eX6_find {g : GX} {Q : Int32 → St → Prop} {d : Nat} {ρ : Rs} {S : St} (hρ : Ok ρ) {x1 : Int64} (h : AW g ρ (QI Q) d mX6_find 14 [(0, .ref 70), (3, .long (x1 ^^^ (-9223372036854775808))), (5, .int 0), (6, .int 512)] [] ρ S) : CALLi g d mX6_find [.ref 70, .long x1] ρ ρ S Q := by
  refine CALL.of mdX6_find.2.2.2.2 (Nat.le_of_ble_eq_true rfl) (Nat.le_refl _) (Nat.le_refl _) ?_
  show AW g ρ (QI Q) d mX6_find 0 [(0, .ref 70), (1, .long x1)] [] ρ S
  refine AW_lload_n 1 (n := 1) rfl dX6_find_0 rfl ?_
  refine AW_ldc2 (v := (-9223372036854775808)) dX6_find_1 kcX6_137 ?_
  refine AW_lxor dX6_find_4 ?_
  refine AW_lstore_n (n := 3) (i := 3) rfl dX6_find_5 (Nat.le_of_ble_eq_true rfl) rfl ?_
  refine AW_iconst (v := 0) dX6_find_6 rfl ?_
  refine AW_istore dX6_find_7 (Nat.le_of_ble_eq_true rfl) rfl ?_
  refine AW_sipush (v := 512) dX6_find_9 rfl ?_
  refine AW_istore dX6_find_12 (Nat.le_of_ble_eq_true rfl) rfl ?_
  exact AW.sub [3, 2, 1, 0] rfl h
set_option maxRecDepth 20000 in
theorem eX6_splitIntoClasses_15 {g : GX} {Q : St → Prop} {d : Nat} {ρ : Rs} {S : St} (hρ : Ok ρ) {x1 : Int32} (hF : ∀ k ∈ ([70, 75] : List Nat), gF g k) (h : if (S.1 70 3) ≤ x1 then Q S else vp_in x1 1000 ∧ (if (S.1 74 x1.toNatClampNeg) = (-1) then CALLv g d mX6_spread [.ref 70, .ref 74, .int x1, .int x1, .int 0] ρ ρ (setI S 70 10 ((S.1 70 10) + 1)) (fun S1 => vp_in x1 1000 ∧ (AW g ρ (QV Q) (d + 1) mX6_splitIntoClasses 15 [(0, .ref 70), (1, .int (x1 + 1))] [] ρ (setI S1 75 x1.toNatClampNeg (S1.1 70 15)))) else AW g ρ (QV Q) (d + 1) mX6_splitIntoClasses 15 [(0, .ref 70), (1, .int (x1 + 1))] [] ρ S)) : AW g ρ (QV Q) (d + 1) mX6_splitIntoClasses 15 [(0, .ref 70), (1, .int x1)] [] ρ S := by
  refine AW_iload_n 1 (n := 1) rfl dX6_splitIntoClasses_15 rfl ?_
  refine AW_aload_n 0 (n := 0) rfl dX6_splitIntoClasses_16 rfl ?_
  refine AW_get dX6_splitIntoClasses_17 flX6_75 (Nat.le_of_ble_eq_true rfl) (okn hρ (Nat.le_of_ble_eq_true rfl)) rfl (v := .int (S.1 70 3)) (fun _ => rfl) ?_
  refine AW_icmp_ge dX6_splitIntoClasses_20 rfl (iteM h (fun h => ?_) (fun h => ?_))
  · exact AW_retv dX6_splitIntoClasses_74 rfl h
  · refine AW_aload_n 0 (n := 0) rfl dX6_splitIntoClasses_23 rfl ?_
    refine AW_get dX6_splitIntoClasses_24 flX6_24 (Nat.le_of_ble_eq_true rfl) (okn hρ (Nat.le_of_ble_eq_true rfl)) rfl (v := .ref 74) (fvR (okR hρ 47 rfl)) ?_
    refine AW_iload_n 1 (n := 1) rfl dX6_splitIntoClasses_27 rfl ?_
    refine AW_callSi (M := mX6_splitIntoClasses) (pc := 28) (As := [.ref 74, .int x1]) (ρ1 := ρ) (st := []) dX6_splitIntoClasses_28 mdX7_get mlX6_146 smX7_get ⟨rfl, npX7_get⟩ (Nat.le_of_ble_eq_true rfl) (Nat.le_refl _) (Nat.le_refl _) rfl (iX7_get hρ (Nat.le_of_ble_eq_true rfl) (okn hρ (Nat.le_of_ble_eq_true rfl)) rfl (by decide) h.1 (v := (S.1 74 x1.toNatClampNeg)) rfl ?_)
    replace h := h.2
    refine AW_iconst (v := (-1)) dX6_splitIntoClasses_31 rfl ?_
    refine AW_icmp_ne dX6_splitIntoClasses_32 rfl (iteM h (fun h => ?_) (fun h => ?_))
    · refine AW_aload_n 0 (n := 0) rfl dX6_splitIntoClasses_35 rfl ?_
      refine AW_dup dX6_splitIntoClasses_36 rfl ?_
      refine AW_get dX6_splitIntoClasses_37 flX6_143 (Nat.le_of_ble_eq_true rfl) (okn hρ (Nat.le_of_ble_eq_true rfl)) rfl (v := .int (S.1 70 10)) (fun _ => rfl) ?_
      refine AW_iconst (v := 1) dX6_splitIntoClasses_40 rfl ?_
      refine AW_iadd dX6_splitIntoClasses_41 ?_
      refine AW_put dX6_splitIntoClasses_42 flX6_143 fp_5_10 (Nat.le_of_ble_eq_true rfl) (okn hρ (Nat.le_of_ble_eq_true rfl)) rfl (fun _ => rfl) (fun _ => rfl) rfl rfl rfl rfl (Fr.setI _ _ _ rfl) (fun _ _ => rfl) (ρ2 := ρ) (S2 := setI S 70 10 ((S.1 70 10) + 1)) (fun _ => rfl) (fun _ _ _ q1 _ => fvI_o q1) (hF _ (List.mem_of_getElem? (i := 0) rfl)) ?_
      refine AW_aload_n 0 (n := 0) rfl dX6_splitIntoClasses_45 rfl ?_
      refine AW_aload_n 0 (n := 0) rfl dX6_splitIntoClasses_46 rfl ?_
      refine AW_get dX6_splitIntoClasses_47 flX6_24 (Nat.le_of_ble_eq_true rfl) (okn hρ (Nat.le_of_ble_eq_true rfl)) rfl (v := .ref 74) (fvR (okR hρ 47 rfl)) ?_
      refine AW_iload_n 1 (n := 1) rfl dX6_splitIntoClasses_50 rfl ?_
      refine AW_iload_n 1 (n := 1) rfl dX6_splitIntoClasses_51 rfl ?_
      refine AW_iconst (v := 0) dX6_splitIntoClasses_52 rfl ?_
      refine AW_callVv (M := mX6_splitIntoClasses) (pc := 53) (As := [.ref 74, .int x1, .int x1, .int 0]) (ρ1 := ρ) (st := []) dX6_splitIntoClasses_53 mdX6_spread rfl mlX6_149 imX6_spread seX6_spread (rcv_of (q := (RX6, TX6, 18)) (Nat.le_of_ble_eq_true rfl) (okn hρ (Nat.le_of_ble_eq_true rfl)) rfl rfl) ⟨rfl, npX6_spread⟩ (Nat.le_of_ble_eq_true rfl) (Nat.le_refl _) (Nat.le_refl _) rfl (CALLv.mono h (fun S1 _ h => ?_))
      refine AW_aload_n 0 (n := 0) rfl dX6_splitIntoClasses_56 rfl ?_
      refine AW_get dX6_splitIntoClasses_57 flX6_27 (Nat.le_of_ble_eq_true rfl) (okn hρ (Nat.le_of_ble_eq_true rfl)) rfl (v := .ref 75) (fvR (okR hρ 48 rfl)) ?_
      refine AW_iload_n 1 (n := 1) rfl dX6_splitIntoClasses_60 rfl ?_
      refine AW_aload_n 0 (n := 0) rfl dX6_splitIntoClasses_61 rfl ?_
      refine AW_get dX6_splitIntoClasses_62 flX6_153 (Nat.le_of_ble_eq_true rfl) (okn hρ (Nat.le_of_ble_eq_true rfl)) rfl (v := .int (S1.1 70 15)) (fun _ => rfl) ?_
      refine AW_callSv (M := mX6_splitIntoClasses) (pc := 65) (As := [.ref 75, .int x1, .int (S1.1 70 15)]) (ρ1 := ρ) (st := []) dX6_splitIntoClasses_65 mdX7_put mlX6_90 smX7_put ⟨rfl, npX7_put⟩ (Nat.le_of_ble_eq_true rfl) (Nat.le_refl _) (Nat.le_refl _) rfl (iX7_put hρ (Nat.le_of_ble_eq_true rfl) (okn hρ (Nat.le_of_ble_eq_true rfl)) rfl (hF _ (List.mem_of_getElem? (i := 1) rfl)) (jx := x1.toNatClampNeg) rfl (by decide) h.1 ?_)
      replace h := h.2
      refine AW_iinc 1 (v := x1 + 1) dX6_splitIntoClasses_68 rfl rfl (Nat.le_of_ble_eq_true rfl) rfl ?_
      refine AW_goto (tgt := 15) dX6_splitIntoClasses_71 rfl ?_
      exact AW.sub [1, 0] rfl h
    · refine AW_iinc 1 (v := x1 + 1) dX6_splitIntoClasses_68 rfl rfl (Nat.le_of_ble_eq_true rfl) rfl ?_
      refine AW_goto (tgt := 15) dX6_splitIntoClasses_71 rfl ?_
      exact AW.sub [1, 0] rfl h
set_option maxRecDepth 20000 in
theorem eX6_splitIntoClasses {g : GX} {Q : St → Prop} {d : Nat} {ρ : Rs} {S : St} (hρ : Ok ρ) (hF : ∀ k ∈ ([70] : List Nat), gF g k) (h : CALLv g d mJ7_fill_53178 [.ref 74, .int (-1)] ρ ρ S (fun S1 => AW g ρ (QV Q) (d + 1) mX6_splitIntoClasses 15 [(0, .ref 70), (1, .int 0)] [] ρ (setI S1 70 10 0))) : CALLv g (d + 1) mX6_splitIntoClasses [.ref 70] ρ ρ S Q := by
  refine CALL.of mdX6_splitIntoClasses.2.2.2.2 (Nat.le_of_ble_eq_true rfl) (Nat.le_refl _) (Nat.le_refl _) ?_
  show AW g ρ (QV Q) (d + 1) mX6_splitIntoClasses 0 [(0, .ref 70)] [] ρ S
  refine AW_aload_n 0 (n := 0) rfl dX6_splitIntoClasses_0 rfl ?_
  refine AW_get dX6_splitIntoClasses_1 flX6_24 (Nat.le_of_ble_eq_true rfl) (okn hρ (Nat.le_of_ble_eq_true rfl)) rfl (v := .ref 74) (fvR (okR hρ 47 rfl)) ?_
  refine AW_iconst (v := (-1)) dX6_splitIntoClasses_4 rfl ?_
  refine AW_callSv (M := mX6_splitIntoClasses) (pc := 5) (As := [.ref 74, .int (-1)]) (ρ1 := ρ) (st := []) dX6_splitIntoClasses_5 mdJ7_fill_53178 mlX6_139 smJ7_fill_53178 ⟨rfl, npJ7_fill_53178⟩ (Nat.le_of_ble_eq_true rfl) (Nat.le_refl _) (Nat.le_refl _) rfl (CALLv.mono h (fun S1 _ h => ?_))
  refine AW_aload_n 0 (n := 0) rfl dX6_splitIntoClasses_8 rfl ?_
  refine AW_iconst (v := 0) dX6_splitIntoClasses_9 rfl ?_
  refine AW_put dX6_splitIntoClasses_10 flX6_143 fp_5_10 (Nat.le_of_ble_eq_true rfl) (okn hρ (Nat.le_of_ble_eq_true rfl)) rfl (fun _ => rfl) (fun _ => rfl) rfl rfl rfl rfl (Fr.setI _ _ _ rfl) (fun _ _ => rfl) (ρ2 := ρ) (S2 := setI S1 70 10 0) (fun _ => rfl) (fun _ _ _ q1 _ => fvI_o q1) (hF _ (List.mem_of_getElem? (i := 0) rfl)) ?_
  refine AW_iconst (v := 0) dX6_splitIntoClasses_13 rfl ?_
  refine AW_istore_n (n := 1) (i := 1) rfl dX6_splitIntoClasses_14 (Nat.le_of_ble_eq_true rfl) rfl ?_
  exact AW.sub [1, 0] rfl h
set_option maxRecDepth 20000 in
theorem eX6_spread_72 {g : GX} {Q : St → Prop} {d : Nat} {ρ : Rs} {S : St} (hρ : Ok ρ) {k1 n1 : Nat} (h16_1 : 16 ≤ k1) (hn_1 : k1 < rn ρ) (hs_1 : shp ρ k1 = .inr (0, n1)) {kn nn : Nat} (hR_kn : rR ρ 70 6 = some kn) (h16_kn : 16 ≤ kn) (hn_kn : kn < rn ρ) (hs_kn : shp ρ kn = .inr (0, nn)) {x4 : Int32} {x5 : Int32} {x7 : Int32} {x8 : Int32} {x9 : Int32} (h : if x8 ≤ x9 then AW g ρ (QV Q) (d + 1) mX6_spread 15 [(0, .ref 70), (1, .ref k1), (4, .int x4), (5, .int (x5 + 1))] [] ρ S else vp_in x9 nn ∧ (CALLv g d mX6_reach [.ref 70, .ref k1, .int (S.1 kn x9.toNatClampNeg), .int x7] ρ ρ S (fun S1 => AW g ρ (QV Q) (d + 1) mX6_spread 72 [(0, .ref 70), (1, .ref k1), (4, .int x4), (5, .int x5), (7, .int x7), (8, .int x8), (9, .int (x9 + 1))] [] ρ S1))) : AW g ρ (QV Q) (d + 1) mX6_spread 72 [(0, .ref 70), (1, .ref k1), (4, .int x4), (5, .int x5), (7, .int x7), (8, .int x8), (9, .int x9)] [] ρ S := by
  refine AW_iload 6 dX6_spread_72 rfl ?_
  refine AW_iload 5 dX6_spread_74 rfl ?_
  refine AW_icmp_ge dX6_spread_76 rfl (iteM h (fun h => ?_) (fun h => ?_))
  · refine AW_iinc 3 (v := x5 + 1) dX6_spread_99 rfl rfl (Nat.le_of_ble_eq_true rfl) rfl ?_
    refine AW_goto (tgt := 15) dX6_spread_102 rfl ?_
    exact AW.sub [1, 2, 3, 0] rfl h
  · refine AW_aload_n 0 (n := 0) rfl dX6_spread_79 rfl ?_
    refine AW_aload_n 1 (n := 1) rfl dX6_spread_80 rfl ?_
    refine AW_aload_n 0 (n := 0) rfl dX6_spread_81 rfl ?_
    refine AW_get dX6_spread_82 flX6_21 (Nat.le_of_ble_eq_true rfl) (okn hρ (Nat.le_of_ble_eq_true rfl)) rfl (v := .ref kn) (fvR hR_kn) ?_
    refine AW_iload 6 dX6_spread_85 rfl ?_
    refine AW_iaload dX6_spread_87 h16_kn hn_kn hs_kn h.1 (v := S.1 kn x9.toNatClampNeg) rfl ?_
    replace h := h.2
    refine AW_iload 4 dX6_spread_88 rfl ?_
    refine AW_callVv (M := mX6_spread) (pc := 90) (As := [.ref k1, .int (S.1 kn x9.toNatClampNeg), .int x7]) (ρ1 := ρ) (st := []) dX6_spread_90 mdX6_reach rfl mlX6_156 imX6_reach seX6_reach (rcv_of (q := (RX6, TX6, 18)) (Nat.le_of_ble_eq_true rfl) (okn hρ (Nat.le_of_ble_eq_true rfl)) rfl rfl) ⟨rfl, npX6_reach⟩ (Nat.le_of_ble_eq_true rfl) (Nat.le_refl _) (Nat.le_refl _) rfl (CALLv.mono h (fun S1 _ h => ?_))
    refine AW_iinc 6 (v := x9 + 1) dX6_spread_93 rfl rfl (Nat.le_of_ble_eq_true rfl) rfl ?_
    refine AW_goto (tgt := 72) dX6_spread_96 rfl ?_
    exact AW.sub [1, 2, 3, 4, 5, 6, 0] rfl h
set_option maxRecDepth 20000 in
theorem eX6_spread_15 {g : GX} {Q : St → Prop} {d : Nat} {ρ : Rs} {S : St} (hρ : Ok ρ) {k1 n1 : Nat} (h16_1 : 16 ≤ k1) (hn_1 : k1 < rn ρ) (hs_1 : shp ρ k1 = .inr (0, n1)) {kn nn : Nat} (hR_kn : rR ρ 70 6 = some kn) (h16_kn : 16 ≤ kn) (hn_kn : kn < rn ρ) (hs_kn : shp ρ kn = .inr (0, nn)) {x4 : Int32} {x5 : Int32} (h : if (S.1 70 15) ≤ x5 then Q S else if (1000 : Int32) ≤ x5 then Q S else vp_in x5 1000 ∧ (n1 < 2147483648 ∧ (vp_in (S.1 77 x5.toNatClampNeg) n1 ∧ (vp_in ((S.1 77 x5.toNatClampNeg) + 1) 1001 ∧ (¬ (S.1 72 (((S.1 77 x5.toNatClampNeg) + 1).toNatClampNeg)) < 0 ∧ (¬ Int32.ofNat nn < (S.1 72 (((S.1 77 x5.toNatClampNeg) + 1).toNatClampNeg)) ∧ (vp_in (S.1 77 x5.toNatClampNeg) 1001 ∧ (¬ (S.1 72 ((S.1 77 x5.toNatClampNeg).toNatClampNeg)) < 0 ∧ (¬ Int32.ofNat nn < (S.1 72 ((S.1 77 x5.toNatClampNeg).toNatClampNeg)) ∧ (AW g ρ (QV Q) (d + 1) mX6_spread 72 [(0, .ref 70), (1, .ref k1), (4, .int x4), (5, .int x5), (7, .int ((S.1 k1 ((S.1 77 x5.toNatClampNeg).toNatClampNeg)) + x4)), (8, .int (S.1 72 (((S.1 77 x5.toNatClampNeg) + 1).toNatClampNeg))), (9, .int (S.1 72 ((S.1 77 x5.toNatClampNeg).toNatClampNeg)))] [] ρ S)))))))))) : AW g ρ (QV Q) (d + 1) mX6_spread 15 [(0, .ref 70), (1, .ref k1), (4, .int x4), (5, .int x5)] [] ρ S := by
  refine AW_iload 3 dX6_spread_15 rfl ?_
  refine AW_aload_n 0 (n := 0) rfl dX6_spread_17 rfl ?_
  refine AW_get dX6_spread_18 flX6_153 (Nat.le_of_ble_eq_true rfl) (okn hρ (Nat.le_of_ble_eq_true rfl)) rfl (v := .int (S.1 70 15)) (fun _ => rfl) ?_
  refine AW_icmp_ge dX6_spread_21 rfl (iteM h (fun h => ?_) (fun h => ?_))
  · exact AW_retv dX6_spread_105 rfl h
  · refine AW_iload 3 dX6_spread_24 rfl ?_
    refine AW_sipush (v := 1000) dX6_spread_26 rfl ?_
    refine AW_icmp_ge dX6_spread_29 rfl (iteM h (fun h => ?_) (fun h => ?_))
    · exact AW_retv dX6_spread_105 rfl h
    · refine AW_aload_n 0 (n := 0) rfl dX6_spread_32 rfl ?_
      refine AW_get dX6_spread_33 flX6_33 (Nat.le_of_ble_eq_true rfl) (okn hρ (Nat.le_of_ble_eq_true rfl)) rfl (v := .ref 77) (fvR (okR hρ 50 rfl)) ?_
      refine AW_iload 3 dX6_spread_36 rfl ?_
      refine AW_callSi (M := mX6_spread) (pc := 38) (As := [.ref 77, .int x5]) (ρ1 := ρ) (st := []) dX6_spread_38 mdX7_get mlX6_146 smX7_get ⟨rfl, npX7_get⟩ (Nat.le_of_ble_eq_true rfl) (Nat.le_refl _) (Nat.le_refl _) rfl (iX7_get hρ (Nat.le_of_ble_eq_true rfl) (okn hρ (Nat.le_of_ble_eq_true rfl)) rfl (by decide) h.1 (v := (S.1 77 x5.toNatClampNeg)) rfl ?_)
      replace h := h.2
      refine AW_istore dX6_spread_41 (Nat.le_of_ble_eq_true rfl) rfl ?_
      refine AW_aload_n 2 (n := 1) rfl dX6_spread_43 rfl ?_
      refine AW_iload 0 dX6_spread_44 rfl ?_
      refine AW_callSi (M := mX6_spread) (pc := 46) (As := [.ref k1, .int (S.1 77 x5.toNatClampNeg)]) (ρ1 := ρ) (st := []) dX6_spread_46 mdX7_get mlX6_146 smX7_get ⟨rfl, npX7_get⟩ (Nat.le_of_ble_eq_true rfl) (Nat.le_refl _) (Nat.le_refl _) rfl (iX7_get hρ h16_1 hn_1 hs_1 h.1 h.2.1 (v := (S.1 k1 ((S.1 77 x5.toNatClampNeg).toNatClampNeg))) rfl ?_)
      replace h := h.2.2
      refine AW_iload 3 dX6_spread_49 rfl ?_
      refine AW_iadd dX6_spread_51 ?_
      refine AW_istore dX6_spread_52 (Nat.le_of_ble_eq_true rfl) rfl ?_
      refine AW_aload_n 2 (n := 0) rfl dX6_spread_54 rfl ?_
      refine AW_iload 1 dX6_spread_55 rfl ?_
      refine AW_iconst (v := 1) dX6_spread_57 rfl ?_
      refine AW_iadd dX6_spread_58 ?_
      refine AW_callVi (M := mX6_spread) (pc := 59) (As := [.int ((S.1 77 x5.toNatClampNeg) + 1)]) (ρ1 := ρ) (st := []) dX6_spread_59 mdX6_firstNearOf rfl mlX6_159 imX6_firstNearOf seX6_firstNearOf (rcv_of (q := (RX6, TX6, 18)) (Nat.le_of_ble_eq_true rfl) (okn hρ (Nat.le_of_ble_eq_true rfl)) rfl rfl) ⟨rfl, npX6_firstNearOf⟩ (Nat.le_of_ble_eq_true rfl) (Nat.le_refl _) (Nat.le_refl _) rfl (iX6_firstNearOf hρ hR_kn h16_kn hn_kn hs_kn h.1 h.2.1 h.2.2.1 (v := (S.1 72 (((S.1 77 x5.toNatClampNeg) + 1).toNatClampNeg))) rfl ?_)
      replace h := h.2.2.2
      refine AW_istore dX6_spread_62 (Nat.le_of_ble_eq_true rfl) rfl ?_
      refine AW_aload_n 3 (n := 0) rfl dX6_spread_64 rfl ?_
      refine AW_iload 2 dX6_spread_65 rfl ?_
      refine AW_callVi (M := mX6_spread) (pc := 67) (As := [.int (S.1 77 x5.toNatClampNeg)]) (ρ1 := ρ) (st := []) dX6_spread_67 mdX6_firstNearOf rfl mlX6_159 imX6_firstNearOf seX6_firstNearOf (rcv_of (q := (RX6, TX6, 18)) (Nat.le_of_ble_eq_true rfl) (okn hρ (Nat.le_of_ble_eq_true rfl)) rfl rfl) ⟨rfl, npX6_firstNearOf⟩ (Nat.le_of_ble_eq_true rfl) (Nat.le_refl _) (Nat.le_refl _) rfl (iX6_firstNearOf hρ hR_kn h16_kn hn_kn hs_kn h.1 h.2.1 h.2.2.1 (v := (S.1 72 ((S.1 77 x5.toNatClampNeg).toNatClampNeg))) rfl ?_)
      replace h := h.2.2.2
      refine AW_istore dX6_spread_70 (Nat.le_of_ble_eq_true rfl) rfl ?_
      exact AW.sub [4, 5, 6, 7, 2, 1, 0] rfl h
set_option maxRecDepth 20000 in
theorem eX6_spread {g : GX} {Q : St → Prop} {d : Nat} {ρ : Rs} {S : St} (hρ : Ok ρ) {k1 n1 : Nat} (h16_1 : 16 ≤ k1) (hn_1 : k1 < rn ρ) (hs_1 : shp ρ k1 = .inr (0, n1)) {x2 : Int32} {x3 : Int32} {x4 : Int32} (hF : ∀ k ∈ ([70] : List Nat), gF g k) (h : CALLv g d mX6_reach [.ref 70, .ref k1, .int x2, .int x3] ρ ρ (setI S 70 15 0) (fun S1 => AW g ρ (QV Q) (d + 1) mX6_spread 15 [(0, .ref 70), (1, .ref k1), (4, .int x4), (5, .int 0)] [] ρ S1)) : CALLv g (d + 1) mX6_spread [.ref 70, .ref k1, .int x2, .int x3, .int x4] ρ ρ S Q := by
  refine CALL.of mdX6_spread.2.2.2.2 (Nat.le_of_ble_eq_true rfl) (Nat.le_refl _) (Nat.le_refl _) ?_
  show AW g ρ (QV Q) (d + 1) mX6_spread 0 [(0, .ref 70), (1, .ref k1), (2, .int x2), (3, .int x3), (4, .int x4)] [] ρ S
  refine AW_aload_n 0 (n := 0) rfl dX6_spread_0 rfl ?_
  refine AW_iconst (v := 0) dX6_spread_1 rfl ?_
  refine AW_put dX6_spread_2 flX6_153 fp_5_15 (Nat.le_of_ble_eq_true rfl) (okn hρ (Nat.le_of_ble_eq_true rfl)) rfl (fun _ => rfl) (fun _ => rfl) rfl rfl rfl rfl (Fr.setI _ _ _ rfl) (fun _ _ => rfl) (ρ2 := ρ) (S2 := setI S 70 15 0) (fun _ => rfl) (fun _ _ _ q1 _ => fvI_o q1) (hF _ (List.mem_of_getElem? (i := 0) rfl)) ?_
  refine AW_aload_n 0 (n := 0) rfl dX6_spread_5 rfl ?_
  refine AW_aload_n 1 (n := 1) rfl dX6_spread_6 rfl ?_
  refine AW_iload_n 2 (n := 2) rfl dX6_spread_7 rfl ?_
  refine AW_iload_n 3 (n := 3) rfl dX6_spread_8 rfl ?_
  refine AW_callVv (M := mX6_spread) (pc := 9) (As := [.ref k1, .int x2, .int x3]) (ρ1 := ρ) (st := []) dX6_spread_9 mdX6_reach rfl mlX6_156 imX6_reach seX6_reach (rcv_of (q := (RX6, TX6, 18)) (Nat.le_of_ble_eq_true rfl) (okn hρ (Nat.le_of_ble_eq_true rfl)) rfl rfl) ⟨rfl, npX6_reach⟩ (Nat.le_of_ble_eq_true rfl) (Nat.le_refl _) (Nat.le_refl _) rfl (CALLv.mono h (fun S1 _ h => ?_))
  refine AW_iconst (v := 0) dX6_spread_12 rfl ?_
  refine AW_istore dX6_spread_13 (Nat.le_of_ble_eq_true rfl) rfl ?_
  exact AW.sub [1, 2, 5, 0] rfl h
set_option maxRecDepth 20000 in
theorem eX6_reach_22 {g : GX} {Q : St → Prop} {d : Nat} {ρ : Rs} {S : St} (hρ : Ok ρ) {k1 n1 : Nat} (h16_1 : 16 ≤ k1) (hn_1 : k1 < rn ρ) (hs_1 : shp ρ k1 = .inr (0, n1)) {x2 : Int32} {x3 : Int32} {s0 : Int32} (hF : ∀ k ∈ ([77, 70] : List Nat), gF g k) (hF_1 : gF g k1) (h : if s0 = 0 then Q S else if (S.1 70 15) < 0 then Q S else if (1000 : Int32) ≤ (S.1 70 15) then Q S else vp_in x2 n1 ∧ (vp_in ((setI S k1 x2.toNatClampNeg x3).1 70 15) 1000 ∧ (Q (setI (setI (setI S k1 x2.toNatClampNeg x3) 77 (((setI S k1 x2.toNatClampNeg x3).1 70 15).toNatClampNeg) x2) 70 15 (((setI S k1 x2.toNatClampNeg x3).1 70 15) + 1))))) : AW g ρ (QV Q) d mX6_reach 22 [(0, .ref 70), (1, .ref k1), (2, .int x2), (3, .int x3)] [.int s0] ρ S := by
  refine AW_istore dX6_reach_22 (Nat.le_of_ble_eq_true rfl) rfl ?_
  refine AW_iload 0 dX6_reach_24 rfl ?_
  refine AW_if_eq dX6_reach_26 rfl (iteM h (fun h => ?_) (fun h => ?_))
  · exact AW_retv dX6_reach_70 rfl h
  · refine AW_aload_n 1 (n := 0) rfl dX6_reach_29 rfl ?_
    refine AW_get dX6_reach_30 flX6_153 (Nat.le_of_ble_eq_true rfl) (okn hρ (Nat.le_of_ble_eq_true rfl)) rfl (v := .int (S.1 70 15)) (fun _ => rfl) ?_
    refine AW_if_lt dX6_reach_33 rfl (iteM h (fun h => ?_) (fun h => ?_))
    · exact AW_retv dX6_reach_70 rfl h
    · refine AW_aload_n 1 (n := 0) rfl dX6_reach_36 rfl ?_
      refine AW_get dX6_reach_37 flX6_153 (Nat.le_of_ble_eq_true rfl) (okn hρ (Nat.le_of_ble_eq_true rfl)) rfl (v := .int (S.1 70 15)) (fun _ => rfl) ?_
      refine AW_sipush (v := 1000) dX6_reach_40 rfl ?_
      refine AW_icmp_ge dX6_reach_43 rfl (iteM h (fun h => ?_) (fun h => ?_))
      · exact AW_retv dX6_reach_70 rfl h
      · refine AW_aload_n 2 (n := 1) rfl dX6_reach_46 rfl ?_
        refine AW_iload_n 3 (n := 2) rfl dX6_reach_47 rfl ?_
        refine AW_iload_n 4 (n := 3) rfl dX6_reach_48 rfl ?_
        refine AW_iastore dX6_reach_49 h16_1 hn_1 hs_1 h.1 hF_1 (jx := x2.toNatClampNeg) rfl ?_
        replace h := h.2
        refine AW_aload_n 1 (n := 0) rfl dX6_reach_50 rfl ?_
        refine AW_get dX6_reach_51 flX6_33 (Nat.le_of_ble_eq_true rfl) (okn hρ (Nat.le_of_ble_eq_true rfl)) rfl (v := .ref 77) (fvR (okR hρ 50 rfl)) ?_
        refine AW_aload_n 1 (n := 0) rfl dX6_reach_54 rfl ?_
        refine AW_get dX6_reach_55 flX6_153 (Nat.le_of_ble_eq_true rfl) (okn hρ (Nat.le_of_ble_eq_true rfl)) rfl (v := .int ((setI S k1 x2.toNatClampNeg x3).1 70 15)) (fun _ => rfl) ?_
        refine AW_iload_n 3 (n := 2) rfl dX6_reach_58 rfl ?_
        refine AW_iastore dX6_reach_59 (Nat.le_of_ble_eq_true rfl) (okn hρ (Nat.le_of_ble_eq_true rfl)) rfl h.1 (hF _ (List.mem_of_getElem? (i := 0) rfl)) (jx := ((setI S k1 x2.toNatClampNeg x3).1 70 15).toNatClampNeg) rfl ?_
        replace h := h.2
        refine AW_aload_n 1 (n := 0) rfl dX6_reach_60 rfl ?_
        refine AW_dup dX6_reach_61 rfl ?_
        refine AW_get dX6_reach_62 flX6_153 (Nat.le_of_ble_eq_true rfl) (okn hρ (Nat.le_of_ble_eq_true rfl)) rfl (v := .int ((setI S k1 x2.toNatClampNeg x3).1 70 15)) (fun _ => rfl) ?_
        refine AW_iconst (v := 1) dX6_reach_65 rfl ?_
        refine AW_iadd dX6_reach_66 ?_
        refine AW_put dX6_reach_67 flX6_153 fp_5_15 (Nat.le_of_ble_eq_true rfl) (okn hρ (Nat.le_of_ble_eq_true rfl)) rfl (fun _ => rfl) (fun _ => rfl) rfl rfl rfl rfl (Fr.setI _ _ _ rfl) (fun _ _ => rfl) (ρ2 := ρ) (S2 := setI (setI (setI S k1 x2.toNatClampNeg x3) 77 (((setI S k1 x2.toNatClampNeg x3).1 70 15).toNatClampNeg) x2) 70 15 (((setI S k1 x2.toNatClampNeg x3).1 70 15) + 1)) (fun _ => rfl) (fun _ _ _ q1 _ => fvI_o q1) (hF _ (List.mem_of_getElem? (i := 1) rfl)) ?_
        exact AW_retv dX6_reach_70 rfl h
set_option maxRecDepth 20000 in
theorem eX6_reach {g : GX} {Q : St → Prop} {d : Nat} {ρ : Rs} {S : St} (hρ : Ok ρ) {k1 n1 : Nat} (h16_1 : 16 ≤ k1) (hn_1 : k1 < rn ρ) (hs_1 : shp ρ k1 = .inr (0, n1)) {x2 : Int32} {x3 : Int32} (h : if x2 < 0 then AW g ρ (QV Q) d mX6_reach 22 [(0, .ref 70), (1, .ref k1), (2, .int x2), (3, .int x3)] [.int 0] ρ S else if (Int32.ofNat n1) ≤ x2 then AW g ρ (QV Q) d mX6_reach 22 [(0, .ref 70), (1, .ref k1), (2, .int x2), (3, .int x3)] [.int 0] ρ S else vp_in x2 n1 ∧ (if (S.1 k1 x2.toNatClampNeg) = (-1) then AW g ρ (QV Q) d mX6_reach 22 [(0, .ref 70), (1, .ref k1), (2, .int x2), (3, .int x3)] [.int 1] ρ S else AW g ρ (QV Q) d mX6_reach 22 [(0, .ref 70), (1, .ref k1), (2, .int x2), (3, .int x3)] [.int 0] ρ S)) : CALLv g d mX6_reach [.ref 70, .ref k1, .int x2, .int x3] ρ ρ S Q := by
  refine CALL.of mdX6_reach.2.2.2.2 (Nat.le_of_ble_eq_true rfl) (Nat.le_refl _) (Nat.le_refl _) ?_
  show AW g ρ (QV Q) d mX6_reach 0 [(0, .ref 70), (1, .ref k1), (2, .int x2), (3, .int x3)] [] ρ S
  refine AW_iload_n 2 (n := 2) rfl dX6_reach_0 rfl ?_
  refine AW_if_lt dX6_reach_1 rfl (iteM h (fun h => ?_) (fun h => ?_))
  · refine AW_iconst (v := 0) dX6_reach_21 rfl ?_
    exact AW.sub [0, 1, 2, 3] rfl h
  · refine AW_iload_n 2 (n := 2) rfl dX6_reach_4 rfl ?_
    refine AW_aload_n 1 (n := 1) rfl dX6_reach_5 rfl ?_
    refine AW_alen (v := Int32.ofNat n1) dX6_reach_6 h16_1 hn_1 (by decide) hs_1 rfl ?_
    refine AW_icmp_ge dX6_reach_7 rfl (iteM h (fun h => ?_) (fun h => ?_))
    · refine AW_iconst (v := 0) dX6_reach_21 rfl ?_
      exact AW.sub [0, 1, 2, 3] rfl h
    · refine AW_aload_n 1 (n := 1) rfl dX6_reach_10 rfl ?_
      refine AW_iload_n 2 (n := 2) rfl dX6_reach_11 rfl ?_
      refine AW_iaload dX6_reach_12 h16_1 hn_1 hs_1 h.1 (v := S.1 k1 x2.toNatClampNeg) rfl ?_
      replace h := h.2
      refine AW_iconst (v := (-1)) dX6_reach_13 rfl ?_
      refine AW_icmp_ne dX6_reach_14 rfl (iteM h (fun h => ?_) (fun h => ?_))
      · refine AW_iconst (v := 1) dX6_reach_17 rfl ?_
        refine AW_goto (tgt := 22) dX6_reach_18 rfl ?_
        exact AW.sub [0, 1, 2, 3] rfl h
      · refine AW_iconst (v := 0) dX6_reach_21 rfl ?_
        exact AW.sub [0, 1, 2, 3] rfl h
set_option maxRecDepth 20000 in
theorem eX6_measureFrom {g : GX} {Q : St → Prop} {d : Nat} {ρ : Rs} {S : St} (hρ : Ok ρ) {x1 : Int32} (hF : ∀ k ∈ ([70] : List Nat), gF g k) (h : if (S.1 70 13) = x1 then Q S else CALLv g d mJ7_fill_53178 [.ref 76, .int (-1)] ρ ρ S (fun S1 => CALLv g d mX6_spread [.ref 70, .ref 76, .int x1, .int 0, .int 1] ρ ρ S1 (fun S2 => Q (setI S2 70 13 x1)))) : CALLv g (d + 1) mX6_measureFrom [.ref 70, .int x1] ρ ρ S Q := by
  refine CALL.of mdX6_measureFrom.2.2.2.2 (Nat.le_of_ble_eq_true rfl) (Nat.le_refl _) (Nat.le_refl _) ?_
  show AW g ρ (QV Q) (d + 1) mX6_measureFrom 0 [(0, .ref 70), (1, .int x1)] [] ρ S
  refine AW_aload_n 0 (n := 0) rfl dX6_measureFrom_0 rfl ?_
  refine AW_get dX6_measureFrom_1 flX6_54 (Nat.le_of_ble_eq_true rfl) (okn hρ (Nat.le_of_ble_eq_true rfl)) rfl (v := .int (S.1 70 13)) (fun _ => rfl) ?_
  refine AW_iload_n 1 (n := 1) rfl dX6_measureFrom_4 rfl ?_
  refine AW_icmp_eq dX6_measureFrom_5 rfl (iteM h (fun h => ?_) (fun h => ?_))
  · exact AW_retv dX6_measureFrom_32 rfl h
  · refine AW_aload_n 0 (n := 0) rfl dX6_measureFrom_8 rfl ?_
    refine AW_get dX6_measureFrom_9 flX6_30 (Nat.le_of_ble_eq_true rfl) (okn hρ (Nat.le_of_ble_eq_true rfl)) rfl (v := .ref 76) (fvR (okR hρ 49 rfl)) ?_
    refine AW_iconst (v := (-1)) dX6_measureFrom_12 rfl ?_
    refine AW_callSv (M := mX6_measureFrom) (pc := 13) (As := [.ref 76, .int (-1)]) (ρ1 := ρ) (st := []) dX6_measureFrom_13 mdJ7_fill_53178 mlX6_139 smJ7_fill_53178 ⟨rfl, npJ7_fill_53178⟩ (Nat.le_of_ble_eq_true rfl) (Nat.le_refl _) (Nat.le_refl _) rfl (CALLv.mono h (fun S1 _ h => ?_))
    refine AW_aload_n 0 (n := 0) rfl dX6_measureFrom_16 rfl ?_
    refine AW_aload_n 0 (n := 0) rfl dX6_measureFrom_17 rfl ?_
    refine AW_get dX6_measureFrom_18 flX6_30 (Nat.le_of_ble_eq_true rfl) (okn hρ (Nat.le_of_ble_eq_true rfl)) rfl (v := .ref 76) (fvR (okR hρ 49 rfl)) ?_
    refine AW_iload_n 1 (n := 1) rfl dX6_measureFrom_21 rfl ?_
    refine AW_iconst (v := 0) dX6_measureFrom_22 rfl ?_
    refine AW_iconst (v := 1) dX6_measureFrom_23 rfl ?_
    refine AW_callVv (M := mX6_measureFrom) (pc := 24) (As := [.ref 76, .int x1, .int 0, .int 1]) (ρ1 := ρ) (st := []) dX6_measureFrom_24 mdX6_spread rfl mlX6_149 imX6_spread seX6_spread (rcv_of (q := (RX6, TX6, 18)) (Nat.le_of_ble_eq_true rfl) (okn hρ (Nat.le_of_ble_eq_true rfl)) rfl rfl) ⟨rfl, npX6_spread⟩ (Nat.le_of_ble_eq_true rfl) (Nat.le_refl _) (Nat.le_refl _) rfl (CALLv.mono h (fun S2 _ h => ?_))
    refine AW_aload_n 0 (n := 0) rfl dX6_measureFrom_27 rfl ?_
    refine AW_iload_n 1 (n := 1) rfl dX6_measureFrom_28 rfl ?_
    refine AW_put dX6_measureFrom_29 flX6_54 fp_5_13 (Nat.le_of_ble_eq_true rfl) (okn hρ (Nat.le_of_ble_eq_true rfl)) rfl (fun _ => rfl) (fun _ => rfl) rfl rfl rfl rfl (Fr.setI _ _ _ rfl) (fun _ _ => rfl) (ρ2 := ρ) (S2 := setI S2 70 13 x1) (fun _ => rfl) (fun _ _ _ q1 _ => fvI_o q1) (hF _ (List.mem_of_getElem? (i := 0) rfl)) ?_
    exact AW_retv dX6_measureFrom_32 rfl h
set_option maxRecDepth 20000 in
theorem eX6_classTotal {g : GX} {Q : Int32 → St → Prop} {d : Nat} {ρ : Rs} {S : St} (hρ : Ok ρ) (h : Q (S.1 70 10) S) : CALLi g d mX6_classTotal [.ref 70] ρ ρ S Q := by
  refine CALL.of mdX6_classTotal.2.2.2.2 (Nat.le_of_ble_eq_true rfl) (Nat.le_refl _) (Nat.le_refl _) ?_
  show AW g ρ (QI Q) d mX6_classTotal 0 [(0, .ref 70)] [] ρ S
  refine AW_aload_n 0 (n := 0) rfl dX6_classTotal_0 rfl ?_
  refine AW_get dX6_classTotal_1 flX6_143 (Nat.le_of_ble_eq_true rfl) (okn hρ (Nat.le_of_ble_eq_true rfl)) rfl (v := .int (S.1 70 10)) (fun _ => rfl) ?_
  exact AW_reti dX6_classTotal_4 rfl h
set_option maxRecDepth 20000 in
theorem eX6_headOf {g : GX} {Q : Int32 → St → Prop} {d : Nat} {ρ : Rs} {S : St} (hρ : Ok ρ) {x1 : Int32} (h : vp_in x1 1000 ∧ (Q (S.1 74 x1.toNatClampNeg) S)) : CALLi g (d + 1) mX6_headOf [.ref 70, .int x1] ρ ρ S Q := by
  refine CALL.of mdX6_headOf.2.2.2.2 (Nat.le_of_ble_eq_true rfl) (Nat.le_refl _) (Nat.le_refl _) ?_
  show AW g ρ (QI Q) (d + 1) mX6_headOf 0 [(0, .ref 70), (1, .int x1)] [] ρ S
  refine AW_aload_n 0 (n := 0) rfl dX6_headOf_0 rfl ?_
  refine AW_get dX6_headOf_1 flX6_24 (Nat.le_of_ble_eq_true rfl) (okn hρ (Nat.le_of_ble_eq_true rfl)) rfl (v := .ref 74) (fvR (okR hρ 47 rfl)) ?_
  refine AW_iload_n 1 (n := 1) rfl dX6_headOf_4 rfl ?_
  refine AW_callSi (M := mX6_headOf) (pc := 5) (As := [.ref 74, .int x1]) (ρ1 := ρ) (st := []) dX6_headOf_5 mdX7_get mlX6_146 smX7_get ⟨rfl, npX7_get⟩ (Nat.le_of_ble_eq_true rfl) (Nat.le_refl _) (Nat.le_refl _) rfl (iX7_get hρ (Nat.le_of_ble_eq_true rfl) (okn hρ (Nat.le_of_ble_eq_true rfl)) rfl (by decide) h.1 (v := (S.1 74 x1.toNatClampNeg)) rfl ?_)
  replace h := h.2
  exact AW_reti dX6_headOf_8 rfl h
set_option maxRecDepth 20000 in
theorem eX6_classSize {g : GX} {Q : Int32 → St → Prop} {d : Nat} {ρ : Rs} {S : St} (hρ : Ok ρ) {x1 : Int32} (h : CALLi g d mX6_headOf [.ref 70, .int x1] ρ ρ S (fun v1 S1 => vp_in v1 1000 ∧ (Q (S1.1 75 v1.toNatClampNeg) S1))) : CALLi g (d + 1) mX6_classSize [.ref 70, .int x1] ρ ρ S Q := by
  refine CALL.of mdX6_classSize.2.2.2.2 (Nat.le_of_ble_eq_true rfl) (Nat.le_refl _) (Nat.le_refl _) ?_
  show AW g ρ (QI Q) (d + 1) mX6_classSize 0 [(0, .ref 70), (1, .int x1)] [] ρ S
  refine AW_aload_n 0 (n := 0) rfl dX6_classSize_0 rfl ?_
  refine AW_get dX6_classSize_1 flX6_27 (Nat.le_of_ble_eq_true rfl) (okn hρ (Nat.le_of_ble_eq_true rfl)) rfl (v := .ref 75) (fvR (okR hρ 48 rfl)) ?_
  refine AW_aload_n 0 (n := 0) rfl dX6_classSize_4 rfl ?_
  refine AW_iload_n 1 (n := 1) rfl dX6_classSize_5 rfl ?_
  refine AW_callVi (M := mX6_classSize) (pc := 6) (As := [.int x1]) (ρ1 := ρ) (st := [.ref 75]) dX6_classSize_6 mdX6_headOf rfl mlX6_163 imX6_headOf seX6_headOf (rcv_of (q := (RX6, TX6, 18)) (Nat.le_of_ble_eq_true rfl) (okn hρ (Nat.le_of_ble_eq_true rfl)) rfl rfl) ⟨rfl, npX6_headOf⟩ (Nat.le_of_ble_eq_true rfl) (Nat.le_refl _) (Nat.le_refl _) rfl (CALLi.mono h (fun v1 S1 _ h => ?_))
  refine AW_callSi (M := mX6_classSize) (pc := 9) (As := [.ref 75, .int v1]) (ρ1 := ρ) (st := []) dX6_classSize_9 mdX7_get mlX6_146 smX7_get ⟨rfl, npX7_get⟩ (Nat.le_of_ble_eq_true rfl) (Nat.le_refl _) (Nat.le_refl _) rfl (iX7_get hρ (Nat.le_of_ble_eq_true rfl) (okn hρ (Nat.le_of_ble_eq_true rfl)) rfl (by decide) h.1 (v := (S1.1 75 v1.toNatClampNeg)) rfl ?_)
  replace h := h.2
  exact AW_reti dX6_classSize_12 rfl h
set_option maxRecDepth 20000 in
theorem eX6_joinedTotal {g : GX} {Q : Int32 → St → Prop} {d : Nat} {ρ : Rs} {S : St} (hρ : Ok ρ) (hF : ∀ k ∈ ([70] : List Nat), gF g k) (h : if (S.1 70 11) = (-1) then if (S.1 70 10) ≤ 1 then Q (S.1 70 10) (setI S 70 11 (S.1 70 10)) else CALLi g d mX6_countJoined [.ref 70] ρ ρ S (fun v1 S1 => Q v1 (setI S1 70 11 v1)) else Q (S.1 70 11) S) : CALLi g (d + 1) mX6_joinedTotal [.ref 70] ρ ρ S Q := by
  refine CALL.of mdX6_joinedTotal.2.2.2.2 (Nat.le_of_ble_eq_true rfl) (Nat.le_refl _) (Nat.le_refl _) ?_
  show AW g ρ (QI Q) (d + 1) mX6_joinedTotal 0 [(0, .ref 70)] [] ρ S
  refine AW_aload_n 0 (n := 0) rfl dX6_joinedTotal_0 rfl ?_
  refine AW_get dX6_joinedTotal_1 flX6_58 (Nat.le_of_ble_eq_true rfl) (okn hρ (Nat.le_of_ble_eq_true rfl)) rfl (v := .int (S.1 70 11)) (fun _ => rfl) ?_
  refine AW_iconst (v := (-1)) dX6_joinedTotal_4 rfl ?_
  refine AW_icmp_ne dX6_joinedTotal_5 rfl (iteM h (fun h => ?_) (fun h => ?_))
  · refine AW_aload_n 0 (n := 0) rfl dX6_joinedTotal_8 rfl ?_
    refine AW_aload_n 0 (n := 0) rfl dX6_joinedTotal_9 rfl ?_
    refine AW_get dX6_joinedTotal_10 flX6_143 (Nat.le_of_ble_eq_true rfl) (okn hρ (Nat.le_of_ble_eq_true rfl)) rfl (v := .int (S.1 70 10)) (fun _ => rfl) ?_
    refine AW_iconst (v := 1) dX6_joinedTotal_13 rfl ?_
    refine AW_icmp_le dX6_joinedTotal_14 rfl (iteM h (fun h => ?_) (fun h => ?_))
    · refine AW_aload_n 0 (n := 0) rfl dX6_joinedTotal_24 rfl ?_
      refine AW_get dX6_joinedTotal_25 flX6_143 (Nat.le_of_ble_eq_true rfl) (okn hρ (Nat.le_of_ble_eq_true rfl)) rfl (v := .int (S.1 70 10)) (fun _ => rfl) ?_
      refine AW_put dX6_joinedTotal_28 flX6_58 fp_5_11 (Nat.le_of_ble_eq_true rfl) (okn hρ (Nat.le_of_ble_eq_true rfl)) rfl (fun _ => rfl) (fun _ => rfl) rfl rfl rfl rfl (Fr.setI _ _ _ rfl) (fun _ _ => rfl) (ρ2 := ρ) (S2 := setI S 70 11 (S.1 70 10)) (fun _ => rfl) (fun _ _ _ q1 _ => fvI_o q1) (hF _ (List.mem_of_getElem? (i := 0) rfl)) ?_
      refine AW_aload_n 0 (n := 0) rfl dX6_joinedTotal_31 rfl ?_
      refine AW_get dX6_joinedTotal_32 flX6_58 (Nat.le_of_ble_eq_true rfl) (okn hρ (Nat.le_of_ble_eq_true rfl)) rfl (v := .int (S.1 70 10)) (fun _ => rfl) ?_
      exact AW_reti dX6_joinedTotal_35 rfl h
    · refine AW_aload_n 0 (n := 0) rfl dX6_joinedTotal_17 rfl ?_
      refine AW_callVi (M := mX6_joinedTotal) (pc := 18) (As := []) (ρ1 := ρ) (st := [.ref 70]) dX6_joinedTotal_18 mdX6_countJoined rfl mlX6_166 imX6_countJoined seX6_countJoined (rcv_of (q := (RX6, TX6, 18)) (Nat.le_of_ble_eq_true rfl) (okn hρ (Nat.le_of_ble_eq_true rfl)) rfl rfl) ⟨rfl, npX6_countJoined⟩ (Nat.le_of_ble_eq_true rfl) (Nat.le_refl _) (Nat.le_refl _) rfl (CALLi.mono h (fun v1 S1 _ h => ?_))
      refine AW_goto (tgt := 28) dX6_joinedTotal_21 rfl ?_
      refine AW_put dX6_joinedTotal_28 flX6_58 fp_5_11 (Nat.le_of_ble_eq_true rfl) (okn hρ (Nat.le_of_ble_eq_true rfl)) rfl (fun _ => rfl) (fun _ => rfl) rfl rfl rfl rfl (Fr.setI _ _ _ rfl) (fun _ _ => rfl) (ρ2 := ρ) (S2 := setI S1 70 11 v1) (fun _ => rfl) (fun _ _ _ q1 _ => fvI_o q1) (hF _ (List.mem_of_getElem? (i := 0) rfl)) ?_
      refine AW_aload_n 0 (n := 0) rfl dX6_joinedTotal_31 rfl ?_
      refine AW_get dX6_joinedTotal_32 flX6_58 (Nat.le_of_ble_eq_true rfl) (okn hρ (Nat.le_of_ble_eq_true rfl)) rfl (v := .int v1) (fun _ => rfl) ?_
      exact AW_reti dX6_joinedTotal_35 rfl h
  · refine AW_aload_n 0 (n := 0) rfl dX6_joinedTotal_31 rfl ?_
    refine AW_get dX6_joinedTotal_32 flX6_58 (Nat.le_of_ble_eq_true rfl) (okn hρ (Nat.le_of_ble_eq_true rfl)) rfl (v := .int (S.1 70 11)) (fun _ => rfl) ?_
    exact AW_reti dX6_joinedTotal_35 rfl h
set_option maxRecDepth 20000 in
theorem eX6_countJoined_17 {g : GX} {Q : Int32 → St → Prop} {d : Nat} {ρ : Rs} {S : St} (hρ : Ok ρ) {x1 : Int32} {x2 : Int32} (h : if (S.1 70 3) ≤ x2 then Q x1 S else vp_in x2 1000 ∧ (if (S.1 76 x2.toNatClampNeg) = (-1) then CALLv g (d + 1) mX6_spreadByAll [.ref 70, .int x2] ρ ρ S (fun S1 => AW g ρ (QI Q) (d + 2) mX6_countJoined 17 [(0, .ref 70), (1, .int (x1 + 1)), (2, .int (x2 + 1))] [] ρ S1) else AW g ρ (QI Q) (d + 2) mX6_countJoined 17 [(0, .ref 70), (1, .int x1), (2, .int (x2 + 1))] [] ρ S)) : AW g ρ (QI Q) (d + 2) mX6_countJoined 17 [(0, .ref 70), (1, .int x1), (2, .int x2)] [] ρ S := by
  refine AW_iload_n 2 (n := 2) rfl dX6_countJoined_17 rfl ?_
  refine AW_aload_n 0 (n := 0) rfl dX6_countJoined_18 rfl ?_
  refine AW_get dX6_countJoined_19 flX6_75 (Nat.le_of_ble_eq_true rfl) (okn hρ (Nat.le_of_ble_eq_true rfl)) rfl (v := .int (S.1 70 3)) (fun _ => rfl) ?_
  refine AW_icmp_ge dX6_countJoined_22 rfl (iteM h (fun h => ?_) (fun h => ?_))
  · refine AW_iload_n 1 (n := 1) rfl dX6_countJoined_48 rfl ?_
    exact AW_reti dX6_countJoined_49 rfl h
  · refine AW_aload_n 0 (n := 0) rfl dX6_countJoined_25 rfl ?_
    refine AW_iload_n 2 (n := 2) rfl dX6_countJoined_26 rfl ?_
    refine AW_callVi (M := mX6_countJoined) (pc := 27) (As := [.int x2]) (ρ1 := ρ) (st := []) dX6_countJoined_27 mdX6_distanceOf rfl mlX6_170 imX6_distanceOf seX6_distanceOf (rcv_of (q := (RX6, TX6, 18)) (Nat.le_of_ble_eq_true rfl) (okn hρ (Nat.le_of_ble_eq_true rfl)) rfl rfl) ⟨rfl, npX6_distanceOf⟩ (Nat.le_of_ble_eq_true rfl) (Nat.le_refl _) (Nat.le_refl _) rfl (iX6_distanceOf hρ h.1 (v := (S.1 76 x2.toNatClampNeg)) rfl ?_)
    replace h := h.2
    refine AW_iconst (v := (-1)) dX6_countJoined_30 rfl ?_
    refine AW_icmp_ne dX6_countJoined_31 rfl (iteM h (fun h => ?_) (fun h => ?_))
    · refine AW_iinc 1 (v := x1 + 1) dX6_countJoined_34 rfl rfl (Nat.le_of_ble_eq_true rfl) rfl ?_
      refine AW_aload_n 1 (n := 0) rfl dX6_countJoined_37 rfl ?_
      refine AW_iload_n 2 (n := 2) rfl dX6_countJoined_38 rfl ?_
      refine AW_callVv (M := mX6_countJoined) (pc := 39) (As := [.int x2]) (ρ1 := ρ) (st := []) dX6_countJoined_39 mdX6_spreadByAll rfl mlX6_173 imX6_spreadByAll seX6_spreadByAll (rcv_of (q := (RX6, TX6, 18)) (Nat.le_of_ble_eq_true rfl) (okn hρ (Nat.le_of_ble_eq_true rfl)) rfl rfl) ⟨rfl, npX6_spreadByAll⟩ (Nat.le_of_ble_eq_true rfl) (Nat.le_refl _) (Nat.le_refl _) rfl (CALLv.mono h (fun S1 _ h => ?_))
      refine AW_iinc 2 (v := x2 + 1) dX6_countJoined_42 rfl rfl (Nat.le_of_ble_eq_true rfl) rfl ?_
      refine AW_goto (tgt := 17) dX6_countJoined_45 rfl ?_
      exact AW.sub [2, 1, 0] rfl h
    · refine AW_iinc 2 (v := x2 + 1) dX6_countJoined_42 rfl rfl (Nat.le_of_ble_eq_true rfl) rfl ?_
      refine AW_goto (tgt := 17) dX6_countJoined_45 rfl ?_
      exact AW.sub [1, 2, 0] rfl h
set_option maxRecDepth 20000 in
theorem eX6_countJoined {g : GX} {Q : Int32 → St → Prop} {d : Nat} {ρ : Rs} {S : St} (hρ : Ok ρ) (hF : ∀ k ∈ ([70] : List Nat), gF g k) (h : CALLv g (d + 1) mJ7_fill_53178 [.ref 76, .int (-1)] ρ ρ (setI S 70 13 (-1)) (fun S1 => AW g ρ (QI Q) (d + 2) mX6_countJoined 17 [(0, .ref 70), (1, .int 0), (2, .int 0)] [] ρ S1)) : CALLi g (d + 2) mX6_countJoined [.ref 70] ρ ρ S Q := by
  refine CALL.of mdX6_countJoined.2.2.2.2 (Nat.le_of_ble_eq_true rfl) (Nat.le_refl _) (Nat.le_refl _) ?_
  show AW g ρ (QI Q) (d + 2) mX6_countJoined 0 [(0, .ref 70)] [] ρ S
  refine AW_aload_n 0 (n := 0) rfl dX6_countJoined_0 rfl ?_
  refine AW_iconst (v := (-1)) dX6_countJoined_1 rfl ?_
  refine AW_put dX6_countJoined_2 flX6_54 fp_5_13 (Nat.le_of_ble_eq_true rfl) (okn hρ (Nat.le_of_ble_eq_true rfl)) rfl (fun _ => rfl) (fun _ => rfl) rfl rfl rfl rfl (Fr.setI _ _ _ rfl) (fun _ _ => rfl) (ρ2 := ρ) (S2 := setI S 70 13 (-1)) (fun _ => rfl) (fun _ _ _ q1 _ => fvI_o q1) (hF _ (List.mem_of_getElem? (i := 0) rfl)) ?_
  refine AW_aload_n 0 (n := 0) rfl dX6_countJoined_5 rfl ?_
  refine AW_get dX6_countJoined_6 flX6_30 (Nat.le_of_ble_eq_true rfl) (okn hρ (Nat.le_of_ble_eq_true rfl)) rfl (v := .ref 76) (fvR (okR hρ 49 rfl)) ?_
  refine AW_iconst (v := (-1)) dX6_countJoined_9 rfl ?_
  refine AW_callSv (M := mX6_countJoined) (pc := 10) (As := [.ref 76, .int (-1)]) (ρ1 := ρ) (st := []) dX6_countJoined_10 mdJ7_fill_53178 mlX6_139 smJ7_fill_53178 ⟨rfl, npJ7_fill_53178⟩ (Nat.le_of_ble_eq_true rfl) (Nat.le_refl _) (Nat.le_refl _) rfl (CALLv.mono h (fun S1 _ h => ?_))
  refine AW_iconst (v := 0) dX6_countJoined_13 rfl ?_
  refine AW_istore_n (n := 1) (i := 1) rfl dX6_countJoined_14 (Nat.le_of_ble_eq_true rfl) rfl ?_
  refine AW_iconst (v := 0) dX6_countJoined_15 rfl ?_
  refine AW_istore_n (n := 2) (i := 2) rfl dX6_countJoined_16 (Nat.le_of_ble_eq_true rfl) rfl ?_
  exact AW.sub [2, 1, 0] rfl h
set_option maxRecDepth 20000 in
theorem eX6_spreadByAll_48 {g : GX} {Q : St → Prop} {d : Nat} {ρ : Rs} {S : St} (hρ : Ok ρ) {x2 : Int32} {x3 : Int64} {x5 : Int32} (h : if (S.1 26 1) ≤ x5 then AW g ρ (QV Q) (d + 2) mX6_spreadByAll 17 [(0, .ref 70), (2, .int (x2 + 1))] [] ρ S else CALLi g (d + 1) mX5_can [.ref 26, .long x3, .int x5] ρ ρ S (fun v1 S1 => if v1 = 0 then AW g ρ (QV Q) (d + 2) mX6_spreadByAll 48 [(0, .ref 70), (2, .int x2), (3, .long x3), (5, .int (x5 + 1))] [] ρ S1 else vp_in x5 264 ∧ (CALLi g (d + 1) mX6_find [.ref 70, .long (x3 + (S1.2 27 x5.toNatClampNeg))] ρ ρ S1 (fun v2 S2 => CALLv g (d + 1) mX6_reach [.ref 70, .ref 76, .int v2, .int 0] ρ ρ S2 (fun S3 => AW g ρ (QV Q) (d + 2) mX6_spreadByAll 48 [(0, .ref 70), (2, .int x2), (3, .long x3), (5, .int (x5 + 1))] [] ρ S3))))) : AW g ρ (QV Q) (d + 2) mX6_spreadByAll 48 [(0, .ref 70), (2, .int x2), (3, .long x3), (5, .int x5)] [] ρ S := by
  refine AW_iload 3 dX6_spreadByAll_48 rfl ?_
  refine AW_aload_n 0 (n := 0) rfl dX6_spreadByAll_50 rfl ?_
  refine AW_get dX6_spreadByAll_51 flX6_46 (Nat.le_of_ble_eq_true rfl) (okn hρ (Nat.le_of_ble_eq_true rfl)) rfl (v := .ref 26) (fvR (okR hρ 44 rfl)) ?_
  refine AW_get dX6_spreadByAll_54 flX6_176 (Nat.le_of_ble_eq_true rfl) (okn hρ (Nat.le_of_ble_eq_true rfl)) rfl (v := .int (S.1 26 1)) (fun _ => rfl) ?_
  refine AW_icmp_ge dX6_spreadByAll_57 rfl (iteM h (fun h => ?_) (fun h => ?_))
  · refine AW_iinc 1 (v := x2 + 1) dX6_spreadByAll_102 rfl rfl (Nat.le_of_ble_eq_true rfl) rfl ?_
    refine AW_goto (tgt := 17) dX6_spreadByAll_105 rfl ?_
    exact AW.sub [1, 0] rfl h
  · refine AW_aload_n 0 (n := 0) rfl dX6_spreadByAll_60 rfl ?_
    refine AW_get dX6_spreadByAll_61 flX6_46 (Nat.le_of_ble_eq_true rfl) (okn hρ (Nat.le_of_ble_eq_true rfl)) rfl (v := .ref 26) (fvR (okR hρ 44 rfl)) ?_
    refine AW_lload_n 2 (n := 3) rfl dX6_spreadByAll_64 rfl ?_
    refine AW_iload 3 dX6_spreadByAll_65 rfl ?_
    refine AW_callVi (M := mX6_spreadByAll) (pc := 67) (As := [.long x3, .int x5]) (ρ1 := ρ) (st := []) dX6_spreadByAll_67 mdX5_can rfl mlX6_107 imX5_can seX5_can (rcv_of (q := (RX5, TX5, 7)) (Nat.le_of_ble_eq_true rfl) (okn hρ (Nat.le_of_ble_eq_true rfl)) rfl rfl) ⟨rfl, npX5_can⟩ (Nat.le_of_ble_eq_true rfl) (Nat.le_refl _) (Nat.le_refl _) rfl (CALLi.mono h (fun v1 S1 _ h => ?_))
    refine AW_if_eq dX6_spreadByAll_70 rfl (iteM h (fun h => ?_) (fun h => ?_))
    · refine AW_iinc 3 (v := x5 + 1) dX6_spreadByAll_96 rfl rfl (Nat.le_of_ble_eq_true rfl) rfl ?_
      refine AW_goto (tgt := 48) dX6_spreadByAll_99 rfl ?_
      exact AW.sub [1, 2, 3, 0] rfl h
    · refine AW_aload_n 0 (n := 0) rfl dX6_spreadByAll_73 rfl ?_
      refine AW_aload_n 0 (n := 0) rfl dX6_spreadByAll_74 rfl ?_
      refine AW_get dX6_spreadByAll_75 flX6_30 (Nat.le_of_ble_eq_true rfl) (okn hρ (Nat.le_of_ble_eq_true rfl)) rfl (v := .ref 76) (fvR (okR hρ 49 rfl)) ?_
      refine AW_aload_n 0 (n := 0) rfl dX6_spreadByAll_78 rfl ?_
      refine AW_aload_n 0 (n := 0) rfl dX6_spreadByAll_79 rfl ?_
      refine AW_get dX6_spreadByAll_80 flX6_46 (Nat.le_of_ble_eq_true rfl) (okn hρ (Nat.le_of_ble_eq_true rfl)) rfl (v := .ref 26) (fvR (okR hρ 44 rfl)) ?_
      refine AW_lload_n 2 (n := 3) rfl dX6_spreadByAll_83 rfl ?_
      refine AW_iload 3 dX6_spreadByAll_84 rfl ?_
      refine AW_callVl (M := mX6_spreadByAll) (pc := 86) (As := [.long x3, .int x5]) (ρ1 := ρ) (st := [.ref 70, .ref 76, .ref 70]) dX6_spreadByAll_86 mdX5_moved rfl mlX6_111 imX5_moved seX5_moved (rcv_of (q := (RX5, TX5, 7)) (Nat.le_of_ble_eq_true rfl) (okn hρ (Nat.le_of_ble_eq_true rfl)) rfl rfl) ⟨rfl, npX5_moved⟩ (Nat.le_of_ble_eq_true rfl) (Nat.le_refl _) (Nat.le_refl _) rfl (iX5_moved hρ h.1 (v := (x3 + (S1.2 27 x5.toNatClampNeg))) rfl ?_)
      replace h := h.2
      refine AW_callVi (M := mX6_spreadByAll) (pc := 89) (As := [.long (x3 + (S1.2 27 x5.toNatClampNeg))]) (ρ1 := ρ) (st := [.ref 76, .ref 70]) dX6_spreadByAll_89 mdX6_find rfl mlX6_115 imX6_find seX6_find (rcv_of (q := (RX6, TX6, 18)) (Nat.le_of_ble_eq_true rfl) (okn hρ (Nat.le_of_ble_eq_true rfl)) rfl rfl) ⟨rfl, npX6_find⟩ (Nat.le_of_ble_eq_true rfl) (Nat.le_refl _) (Nat.le_refl _) rfl (CALLi.mono h (fun v2 S2 _ h => ?_))
      refine AW_iconst (v := 0) dX6_spreadByAll_92 rfl ?_
      refine AW_callVv (M := mX6_spreadByAll) (pc := 93) (As := [.ref 76, .int v2, .int 0]) (ρ1 := ρ) (st := []) dX6_spreadByAll_93 mdX6_reach rfl mlX6_156 imX6_reach seX6_reach (rcv_of (q := (RX6, TX6, 18)) (Nat.le_of_ble_eq_true rfl) (okn hρ (Nat.le_of_ble_eq_true rfl)) rfl rfl) ⟨rfl, npX6_reach⟩ (Nat.le_of_ble_eq_true rfl) (Nat.le_refl _) (Nat.le_refl _) rfl (CALLv.mono h (fun S3 _ h => ?_))
      refine AW_iinc 3 (v := x5 + 1) dX6_spreadByAll_96 rfl rfl (Nat.le_of_ble_eq_true rfl) rfl ?_
      refine AW_goto (tgt := 48) dX6_spreadByAll_99 rfl ?_
      exact AW.sub [1, 2, 3, 0] rfl h
set_option maxRecDepth 20000 in
theorem eX6_spreadByAll_17 {g : GX} {Q : St → Prop} {d : Nat} {ρ : Rs} {S : St} (hρ : Ok ρ) {x2 : Int32} (h : if (S.1 70 15) ≤ x2 then Q S else if (1000 : Int32) ≤ x2 then Q S else vp_in x2 1000 ∧ (vp_in (S.1 77 x2.toNatClampNeg) 1000 ∧ (AW g ρ (QV Q) (d + 2) mX6_spreadByAll 48 [(0, .ref 70), (2, .int x2), (3, .long (S.2 71 ((S.1 77 x2.toNatClampNeg).toNatClampNeg))), (5, .int 0)] [] ρ S))) : AW g ρ (QV Q) (d + 2) mX6_spreadByAll 17 [(0, .ref 70), (2, .int x2)] [] ρ S := by
  refine AW_iload_n 1 (n := 2) rfl dX6_spreadByAll_17 rfl ?_
  refine AW_aload_n 0 (n := 0) rfl dX6_spreadByAll_18 rfl ?_
  refine AW_get dX6_spreadByAll_19 flX6_153 (Nat.le_of_ble_eq_true rfl) (okn hρ (Nat.le_of_ble_eq_true rfl)) rfl (v := .int (S.1 70 15)) (fun _ => rfl) ?_
  refine AW_icmp_ge dX6_spreadByAll_22 rfl (iteM h (fun h => ?_) (fun h => ?_))
  · exact AW_retv dX6_spreadByAll_108 rfl h
  · refine AW_iload_n 1 (n := 2) rfl dX6_spreadByAll_25 rfl ?_
    refine AW_sipush (v := 1000) dX6_spreadByAll_26 rfl ?_
    refine AW_icmp_ge dX6_spreadByAll_29 rfl (iteM h (fun h => ?_) (fun h => ?_))
    · exact AW_retv dX6_spreadByAll_108 rfl h
    · refine AW_aload_n 0 (n := 0) rfl dX6_spreadByAll_32 rfl ?_
      refine AW_aload_n 0 (n := 0) rfl dX6_spreadByAll_33 rfl ?_
      refine AW_get dX6_spreadByAll_34 flX6_33 (Nat.le_of_ble_eq_true rfl) (okn hρ (Nat.le_of_ble_eq_true rfl)) rfl (v := .ref 77) (fvR (okR hρ 50 rfl)) ?_
      refine AW_iload_n 1 (n := 2) rfl dX6_spreadByAll_37 rfl ?_
      refine AW_callSi (M := mX6_spreadByAll) (pc := 38) (As := [.ref 77, .int x2]) (ρ1 := ρ) (st := [.ref 70]) dX6_spreadByAll_38 mdX7_get mlX6_146 smX7_get ⟨rfl, npX7_get⟩ (Nat.le_of_ble_eq_true rfl) (Nat.le_refl _) (Nat.le_refl _) rfl (iX7_get hρ (Nat.le_of_ble_eq_true rfl) (okn hρ (Nat.le_of_ble_eq_true rfl)) rfl (by decide) h.1 (v := (S.1 77 x2.toNatClampNeg)) rfl ?_)
      replace h := h.2
      refine AW_callVl (M := mX6_spreadByAll) (pc := 41) (As := [.int (S.1 77 x2.toNatClampNeg)]) (ρ1 := ρ) (st := []) dX6_spreadByAll_41 mdX6_cellsAt rfl mlX6_93 imX6_cellsAt seX6_cellsAt (rcv_of (q := (RX6, TX6, 18)) (Nat.le_of_ble_eq_true rfl) (okn hρ (Nat.le_of_ble_eq_true rfl)) rfl rfl) ⟨rfl, npX6_cellsAt⟩ (Nat.le_of_ble_eq_true rfl) (Nat.le_refl _) (Nat.le_refl _) rfl (iX6_cellsAt hρ h.1 (v := (S.2 71 ((S.1 77 x2.toNatClampNeg).toNatClampNeg))) rfl ?_)
      replace h := h.2
      refine AW_lstore_n (n := 3) (i := 3) rfl dX6_spreadByAll_44 (Nat.le_of_ble_eq_true rfl) rfl ?_
      refine AW_iconst (v := 0) dX6_spreadByAll_45 rfl ?_
      refine AW_istore dX6_spreadByAll_46 (Nat.le_of_ble_eq_true rfl) rfl ?_
      exact AW.sub [2, 3, 1, 0] rfl h
set_option maxRecDepth 20000 in
theorem eX6_spreadByAll {g : GX} {Q : St → Prop} {d : Nat} {ρ : Rs} {S : St} (hρ : Ok ρ) {x1 : Int32} (hF : ∀ k ∈ ([70] : List Nat), gF g k) (h : CALLv g (d + 1) mX6_reach [.ref 70, .ref 76, .int x1, .int 0] ρ ρ (setI S 70 15 0) (fun S1 => AW g ρ (QV Q) (d + 2) mX6_spreadByAll 17 [(0, .ref 70), (2, .int 0)] [] ρ S1)) : CALLv g (d + 2) mX6_spreadByAll [.ref 70, .int x1] ρ ρ S Q := by
  refine CALL.of mdX6_spreadByAll.2.2.2.2 (Nat.le_of_ble_eq_true rfl) (Nat.le_refl _) (Nat.le_refl _) ?_
  show AW g ρ (QV Q) (d + 2) mX6_spreadByAll 0 [(0, .ref 70), (1, .int x1)] [] ρ S
  refine AW_aload_n 0 (n := 0) rfl dX6_spreadByAll_0 rfl ?_
  refine AW_iconst (v := 0) dX6_spreadByAll_1 rfl ?_
  refine AW_put dX6_spreadByAll_2 flX6_153 fp_5_15 (Nat.le_of_ble_eq_true rfl) (okn hρ (Nat.le_of_ble_eq_true rfl)) rfl (fun _ => rfl) (fun _ => rfl) rfl rfl rfl rfl (Fr.setI _ _ _ rfl) (fun _ _ => rfl) (ρ2 := ρ) (S2 := setI S 70 15 0) (fun _ => rfl) (fun _ _ _ q1 _ => fvI_o q1) (hF _ (List.mem_of_getElem? (i := 0) rfl)) ?_
  refine AW_aload_n 0 (n := 0) rfl dX6_spreadByAll_5 rfl ?_
  refine AW_aload_n 0 (n := 0) rfl dX6_spreadByAll_6 rfl ?_
  refine AW_get dX6_spreadByAll_7 flX6_30 (Nat.le_of_ble_eq_true rfl) (okn hρ (Nat.le_of_ble_eq_true rfl)) rfl (v := .ref 76) (fvR (okR hρ 49 rfl)) ?_
  refine AW_iload_n 1 (n := 1) rfl dX6_spreadByAll_10 rfl ?_
  refine AW_iconst (v := 0) dX6_spreadByAll_11 rfl ?_
  refine AW_callVv (M := mX6_spreadByAll) (pc := 12) (As := [.ref 76, .int x1, .int 0]) (ρ1 := ρ) (st := []) dX6_spreadByAll_12 mdX6_reach rfl mlX6_156 imX6_reach seX6_reach (rcv_of (q := (RX6, TX6, 18)) (Nat.le_of_ble_eq_true rfl) (okn hρ (Nat.le_of_ble_eq_true rfl)) rfl rfl) ⟨rfl, npX6_reach⟩ (Nat.le_of_ble_eq_true rfl) (Nat.le_refl _) (Nat.le_refl _) rfl (CALLv.mono h (fun S1 _ h => ?_))
  refine AW_iconst (v := 0) dX6_spreadByAll_15 rfl ?_
  refine AW_istore_n (n := 2) (i := 2) rfl dX6_spreadByAll_16 (Nat.le_of_ble_eq_true rfl) rfl ?_
  exact AW.sub [1, 0] rfl h
set_option maxRecDepth 20000 in
theorem eX6_distance {g : GX} {Q : Int32 → St → Prop} {d : Nat} {ρ : Rs} {S : St} (hρ : Ok ρ) {x1 : Int32} {x2 : Int32} (h : if (S.1 70 13) = x2 then vp_in x1 1000 ∧ (Q (S.1 76 x1.toNatClampNeg) S) else CALLv g (d + 1) mX6_measureFrom [.ref 70, .int x1] ρ ρ S (fun S1 => vp_in x2 1000 ∧ (Q (S1.1 76 x2.toNatClampNeg) S1))) : CALLi g (d + 2) mX6_distance [.ref 70, .int x1, .int x2] ρ ρ S Q := by
  refine CALL.of mdX6_distance.2.2.2.2 (Nat.le_of_ble_eq_true rfl) (Nat.le_refl _) (Nat.le_refl _) ?_
  show AW g ρ (QI Q) (d + 2) mX6_distance 0 [(0, .ref 70), (1, .int x1), (2, .int x2)] [] ρ S
  refine AW_aload_n 0 (n := 0) rfl dX6_distance_0 rfl ?_
  refine AW_get dX6_distance_1 flX6_54 (Nat.le_of_ble_eq_true rfl) (okn hρ (Nat.le_of_ble_eq_true rfl)) rfl (v := .int (S.1 70 13)) (fun _ => rfl) ?_
  refine AW_iload_n 2 (n := 2) rfl dX6_distance_4 rfl ?_
  refine AW_icmp_ne dX6_distance_5 rfl (iteM h (fun h => ?_) (fun h => ?_))
  · refine AW_aload_n 0 (n := 0) rfl dX6_distance_8 rfl ?_
    refine AW_iload_n 1 (n := 1) rfl dX6_distance_9 rfl ?_
    refine AW_callVi (M := mX6_distance) (pc := 10) (As := [.int x1]) (ρ1 := ρ) (st := []) dX6_distance_10 mdX6_distanceOf rfl mlX6_170 imX6_distanceOf seX6_distanceOf (rcv_of (q := (RX6, TX6, 18)) (Nat.le_of_ble_eq_true rfl) (okn hρ (Nat.le_of_ble_eq_true rfl)) rfl rfl) ⟨rfl, npX6_distanceOf⟩ (Nat.le_of_ble_eq_true rfl) (Nat.le_refl _) (Nat.le_refl _) rfl (iX6_distanceOf hρ h.1 (v := (S.1 76 x1.toNatClampNeg)) rfl ?_)
    replace h := h.2
    exact AW_reti dX6_distance_13 rfl h
  · refine AW_aload_n 0 (n := 0) rfl dX6_distance_14 rfl ?_
    refine AW_iload_n 1 (n := 1) rfl dX6_distance_15 rfl ?_
    refine AW_callVv (M := mX6_distance) (pc := 16) (As := [.int x1]) (ρ1 := ρ) (st := []) dX6_distance_16 mdX6_measureFrom rfl mlX6_179 imX6_measureFrom seX6_measureFrom (rcv_of (q := (RX6, TX6, 18)) (Nat.le_of_ble_eq_true rfl) (okn hρ (Nat.le_of_ble_eq_true rfl)) rfl rfl) ⟨rfl, npX6_measureFrom⟩ (Nat.le_of_ble_eq_true rfl) (Nat.le_refl _) (Nat.le_refl _) rfl (CALLv.mono h (fun S1 _ h => ?_))
    refine AW_aload_n 0 (n := 0) rfl dX6_distance_19 rfl ?_
    refine AW_iload_n 2 (n := 2) rfl dX6_distance_20 rfl ?_
    refine AW_callVi (M := mX6_distance) (pc := 21) (As := [.int x2]) (ρ1 := ρ) (st := []) dX6_distance_21 mdX6_distanceOf rfl mlX6_170 imX6_distanceOf seX6_distanceOf (rcv_of (q := (RX6, TX6, 18)) (Nat.le_of_ble_eq_true rfl) (okn hρ (Nat.le_of_ble_eq_true rfl)) rfl rfl) ⟨rfl, npX6_distanceOf⟩ (Nat.le_of_ble_eq_true rfl) (Nat.le_refl _) (Nat.le_refl _) rfl (iX6_distanceOf hρ h.1 (v := (S1.1 76 x2.toNatClampNeg)) rfl ?_)
    replace h := h.2
    exact AW_reti dX6_distance_24 rfl h
set_option maxRecDepth 20000 in
theorem eX6_greatestDistance {g : GX} {Q : Int32 → St → Prop} {d : Nat} {ρ : Rs} {S : St} (hρ : Ok ρ) {x1 : Int32} (h : CALLi g (d + 1) mX6_firstAtGreatest [.ref 70, .int x1] ρ ρ S (fun v1 S1 => vp_in v1 1000 ∧ (Q (S1.1 76 v1.toNatClampNeg) S1))) : CALLi g (d + 2) mX6_greatestDistance [.ref 70, .int x1] ρ ρ S Q := by
  refine CALL.of mdX6_greatestDistance.2.2.2.2 (Nat.le_of_ble_eq_true rfl) (Nat.le_refl _) (Nat.le_refl _) ?_
  show AW g ρ (QI Q) (d + 2) mX6_greatestDistance 0 [(0, .ref 70), (1, .int x1)] [] ρ S
  refine AW_aload_n 0 (n := 0) rfl dX6_greatestDistance_0 rfl ?_
  refine AW_aload_n 0 (n := 0) rfl dX6_greatestDistance_1 rfl ?_
  refine AW_iload_n 1 (n := 1) rfl dX6_greatestDistance_2 rfl ?_
  refine AW_callVi (M := mX6_greatestDistance) (pc := 3) (As := [.int x1]) (ρ1 := ρ) (st := [.ref 70]) dX6_greatestDistance_3 mdX6_firstAtGreatest rfl mlX6_182 imX6_firstAtGreatest seX6_firstAtGreatest (rcv_of (q := (RX6, TX6, 18)) (Nat.le_of_ble_eq_true rfl) (okn hρ (Nat.le_of_ble_eq_true rfl)) rfl rfl) ⟨rfl, npX6_firstAtGreatest⟩ (Nat.le_of_ble_eq_true rfl) (Nat.le_refl _) (Nat.le_refl _) rfl (CALLi.mono h (fun v1 S1 _ h => ?_))
  refine AW_callVi (M := mX6_greatestDistance) (pc := 6) (As := [.int v1]) (ρ1 := ρ) (st := []) dX6_greatestDistance_6 mdX6_distanceOf rfl mlX6_170 imX6_distanceOf seX6_distanceOf (rcv_of (q := (RX6, TX6, 18)) (Nat.le_of_ble_eq_true rfl) (okn hρ (Nat.le_of_ble_eq_true rfl)) rfl rfl) ⟨rfl, npX6_distanceOf⟩ (Nat.le_of_ble_eq_true rfl) (Nat.le_refl _) (Nat.le_refl _) rfl (iX6_distanceOf hρ h.1 (v := (S1.1 76 v1.toNatClampNeg)) rfl ?_)
  replace h := h.2
  exact AW_reti dX6_greatestDistance_9 rfl h
set_option maxRecDepth 20000 in
theorem eX6_firstAtGreatest_9 {g : GX} {Q : Int32 → St → Prop} {d : Nat} {ρ : Rs} {S : St} (hρ : Ok ρ) {x2 : Int32} {x3 : Int32} (h : if (S.1 70 3) ≤ x3 then Q x2 S else vp_in x3 1000 ∧ (vp_in x2 1000 ∧ (if (S.1 76 x3.toNatClampNeg) ≤ (S.1 76 x2.toNatClampNeg) then AW g ρ (QI Q) (d + 2) mX6_firstAtGreatest 9 [(0, .ref 70), (2, .int x2), (3, .int (x3 + 1))] [] ρ S else AW g ρ (QI Q) (d + 2) mX6_firstAtGreatest 9 [(0, .ref 70), (2, .int x3), (3, .int (x3 + 1))] [] ρ S))) : AW g ρ (QI Q) (d + 2) mX6_firstAtGreatest 9 [(0, .ref 70), (2, .int x2), (3, .int x3)] [] ρ S := by
  refine AW_iload_n 2 (n := 3) rfl dX6_firstAtGreatest_9 rfl ?_
  refine AW_aload_n 0 (n := 0) rfl dX6_firstAtGreatest_10 rfl ?_
  refine AW_get dX6_firstAtGreatest_11 flX6_75 (Nat.le_of_ble_eq_true rfl) (okn hρ (Nat.le_of_ble_eq_true rfl)) rfl (v := .int (S.1 70 3)) (fun _ => rfl) ?_
  refine AW_icmp_ge dX6_firstAtGreatest_14 rfl (iteM h (fun h => ?_) (fun h => ?_))
  · refine AW_iload_n 1 (n := 2) rfl dX6_firstAtGreatest_38 rfl ?_
    exact AW_reti dX6_firstAtGreatest_39 rfl h
  · refine AW_aload_n 0 (n := 0) rfl dX6_firstAtGreatest_17 rfl ?_
    refine AW_iload_n 2 (n := 3) rfl dX6_firstAtGreatest_18 rfl ?_
    refine AW_callVi (M := mX6_firstAtGreatest) (pc := 19) (As := [.int x3]) (ρ1 := ρ) (st := []) dX6_firstAtGreatest_19 mdX6_distanceOf rfl mlX6_170 imX6_distanceOf seX6_distanceOf (rcv_of (q := (RX6, TX6, 18)) (Nat.le_of_ble_eq_true rfl) (okn hρ (Nat.le_of_ble_eq_true rfl)) rfl rfl) ⟨rfl, npX6_distanceOf⟩ (Nat.le_of_ble_eq_true rfl) (Nat.le_refl _) (Nat.le_refl _) rfl (iX6_distanceOf hρ h.1 (v := (S.1 76 x3.toNatClampNeg)) rfl ?_)
    replace h := h.2
    refine AW_aload_n 0 (n := 0) rfl dX6_firstAtGreatest_22 rfl ?_
    refine AW_iload_n 1 (n := 2) rfl dX6_firstAtGreatest_23 rfl ?_
    refine AW_callVi (M := mX6_firstAtGreatest) (pc := 24) (As := [.int x2]) (ρ1 := ρ) (st := [.int (S.1 76 x3.toNatClampNeg)]) dX6_firstAtGreatest_24 mdX6_distanceOf rfl mlX6_170 imX6_distanceOf seX6_distanceOf (rcv_of (q := (RX6, TX6, 18)) (Nat.le_of_ble_eq_true rfl) (okn hρ (Nat.le_of_ble_eq_true rfl)) rfl rfl) ⟨rfl, npX6_distanceOf⟩ (Nat.le_of_ble_eq_true rfl) (Nat.le_refl _) (Nat.le_refl _) rfl (iX6_distanceOf hρ h.1 (v := (S.1 76 x2.toNatClampNeg)) rfl ?_)
    replace h := h.2
    refine AW_icmp_le dX6_firstAtGreatest_27 rfl (iteM h (fun h => ?_) (fun h => ?_))
    · refine AW_iinc 2 (v := x3 + 1) dX6_firstAtGreatest_32 rfl rfl (Nat.le_of_ble_eq_true rfl) rfl ?_
      refine AW_goto (tgt := 9) dX6_firstAtGreatest_35 rfl ?_
      exact AW.sub [1, 2, 0] rfl h
    · refine AW_iload_n 2 (n := 3) rfl dX6_firstAtGreatest_30 rfl ?_
      refine AW_istore_n (n := 2) (i := 2) rfl dX6_firstAtGreatest_31 (Nat.le_of_ble_eq_true rfl) rfl ?_
      refine AW_iinc 2 (v := x3 + 1) dX6_firstAtGreatest_32 rfl rfl (Nat.le_of_ble_eq_true rfl) rfl ?_
      refine AW_goto (tgt := 9) dX6_firstAtGreatest_35 rfl ?_
      exact AW.sub [2, 1, 0] rfl h
set_option maxRecDepth 20000 in
theorem eX6_firstAtGreatest {g : GX} {Q : Int32 → St → Prop} {d : Nat} {ρ : Rs} {S : St} (hρ : Ok ρ) {x1 : Int32} (h : CALLv g (d + 1) mX6_measureFrom [.ref 70, .int x1] ρ ρ S (fun S1 => AW g ρ (QI Q) (d + 2) mX6_firstAtGreatest 9 [(0, .ref 70), (2, .int x1), (3, .int 0)] [] ρ S1)) : CALLi g (d + 2) mX6_firstAtGreatest [.ref 70, .int x1] ρ ρ S Q := by
  refine CALL.of mdX6_firstAtGreatest.2.2.2.2 (Nat.le_of_ble_eq_true rfl) (Nat.le_refl _) (Nat.le_refl _) ?_
  show AW g ρ (QI Q) (d + 2) mX6_firstAtGreatest 0 [(0, .ref 70), (1, .int x1)] [] ρ S
  refine AW_aload_n 0 (n := 0) rfl dX6_firstAtGreatest_0 rfl ?_
  refine AW_iload_n 1 (n := 1) rfl dX6_firstAtGreatest_1 rfl ?_
  refine AW_callVv (M := mX6_firstAtGreatest) (pc := 2) (As := [.int x1]) (ρ1 := ρ) (st := []) dX6_firstAtGreatest_2 mdX6_measureFrom rfl mlX6_179 imX6_measureFrom seX6_measureFrom (rcv_of (q := (RX6, TX6, 18)) (Nat.le_of_ble_eq_true rfl) (okn hρ (Nat.le_of_ble_eq_true rfl)) rfl rfl) ⟨rfl, npX6_measureFrom⟩ (Nat.le_of_ble_eq_true rfl) (Nat.le_refl _) (Nat.le_refl _) rfl (CALLv.mono h (fun S1 _ h => ?_))
  refine AW_iload_n 1 (n := 1) rfl dX6_firstAtGreatest_5 rfl ?_
  refine AW_istore_n (n := 2) (i := 2) rfl dX6_firstAtGreatest_6 (Nat.le_of_ble_eq_true rfl) rfl ?_
  refine AW_iconst (v := 0) dX6_firstAtGreatest_7 rfl ?_
  refine AW_istore_n (n := 3) (i := 3) rfl dX6_firstAtGreatest_8 (Nat.le_of_ble_eq_true rfl) rfl ?_
  exact AW.sub [2, 1, 0] rfl h
set_option maxRecDepth 20000 in
theorem eX6_reached_10 {g : GX} {Q : Int32 → St → Prop} {d : Nat} {ρ : Rs} {S : St} (hρ : Ok ρ) {x2 : Int32} {x3 : Int32} {x4 : Int32} (h : if (S.1 70 3) ≤ x4 then Q x3 S else vp_in x4 1000 ∧ (if (S.1 76 x4.toNatClampNeg) = (-1) then AW g ρ (QI Q) (d + 2) mX6_reached 10 [(0, .ref 70), (2, .int x2), (3, .int x3), (4, .int (x4 + 1))] [] ρ S else vp_in x4 1000 ∧ (if x2 < (S.1 76 x4.toNatClampNeg) then AW g ρ (QI Q) (d + 2) mX6_reached 10 [(0, .ref 70), (2, .int x2), (3, .int x3), (4, .int (x4 + 1))] [] ρ S else AW g ρ (QI Q) (d + 2) mX6_reached 10 [(0, .ref 70), (2, .int x2), (3, .int (x3 + 1)), (4, .int (x4 + 1))] [] ρ S))) : AW g ρ (QI Q) (d + 2) mX6_reached 10 [(0, .ref 70), (2, .int x2), (3, .int x3), (4, .int x4)] [] ρ S := by
  refine AW_iload 3 dX6_reached_10 rfl ?_
  refine AW_aload_n 0 (n := 0) rfl dX6_reached_12 rfl ?_
  refine AW_get dX6_reached_13 flX6_75 (Nat.le_of_ble_eq_true rfl) (okn hρ (Nat.le_of_ble_eq_true rfl)) rfl (v := .int (S.1 70 3)) (fun _ => rfl) ?_
  refine AW_icmp_ge dX6_reached_16 rfl (iteM h (fun h => ?_) (fun h => ?_))
  · refine AW_iload_n 2 (n := 3) rfl dX6_reached_48 rfl ?_
    exact AW_reti dX6_reached_49 rfl h
  · refine AW_aload_n 0 (n := 0) rfl dX6_reached_19 rfl ?_
    refine AW_iload 3 dX6_reached_20 rfl ?_
    refine AW_callVi (M := mX6_reached) (pc := 22) (As := [.int x4]) (ρ1 := ρ) (st := []) dX6_reached_22 mdX6_distanceOf rfl mlX6_170 imX6_distanceOf seX6_distanceOf (rcv_of (q := (RX6, TX6, 18)) (Nat.le_of_ble_eq_true rfl) (okn hρ (Nat.le_of_ble_eq_true rfl)) rfl rfl) ⟨rfl, npX6_distanceOf⟩ (Nat.le_of_ble_eq_true rfl) (Nat.le_refl _) (Nat.le_refl _) rfl (iX6_distanceOf hρ h.1 (v := (S.1 76 x4.toNatClampNeg)) rfl ?_)
    replace h := h.2
    refine AW_iconst (v := (-1)) dX6_reached_25 rfl ?_
    refine AW_icmp_eq dX6_reached_26 rfl (iteM h (fun h => ?_) (fun h => ?_))
    · refine AW_iinc 3 (v := x4 + 1) dX6_reached_42 rfl rfl (Nat.le_of_ble_eq_true rfl) rfl ?_
      refine AW_goto (tgt := 10) dX6_reached_45 rfl ?_
      exact AW.sub [1, 2, 3, 0] rfl h
    · refine AW_aload_n 0 (n := 0) rfl dX6_reached_29 rfl ?_
      refine AW_iload 3 dX6_reached_30 rfl ?_
      refine AW_callVi (M := mX6_reached) (pc := 32) (As := [.int x4]) (ρ1 := ρ) (st := []) dX6_reached_32 mdX6_distanceOf rfl mlX6_170 imX6_distanceOf seX6_distanceOf (rcv_of (q := (RX6, TX6, 18)) (Nat.le_of_ble_eq_true rfl) (okn hρ (Nat.le_of_ble_eq_true rfl)) rfl rfl) ⟨rfl, npX6_distanceOf⟩ (Nat.le_of_ble_eq_true rfl) (Nat.le_refl _) (Nat.le_refl _) rfl (iX6_distanceOf hρ h.1 (v := (S.1 76 x4.toNatClampNeg)) rfl ?_)
      replace h := h.2
      refine AW_iload_n 1 (n := 2) rfl dX6_reached_35 rfl ?_
      refine AW_icmp_gt dX6_reached_36 rfl (iteM h (fun h => ?_) (fun h => ?_))
      · refine AW_iinc 3 (v := x4 + 1) dX6_reached_42 rfl rfl (Nat.le_of_ble_eq_true rfl) rfl ?_
        refine AW_goto (tgt := 10) dX6_reached_45 rfl ?_
        exact AW.sub [1, 2, 3, 0] rfl h
      · refine AW_iinc 2 (v := x3 + 1) dX6_reached_39 rfl rfl (Nat.le_of_ble_eq_true rfl) rfl ?_
        refine AW_iinc 3 (v := x4 + 1) dX6_reached_42 rfl rfl (Nat.le_of_ble_eq_true rfl) rfl ?_
        refine AW_goto (tgt := 10) dX6_reached_45 rfl ?_
        exact AW.sub [2, 3, 1, 0] rfl h
set_option maxRecDepth 20000 in
theorem eX6_reached {g : GX} {Q : Int32 → St → Prop} {d : Nat} {ρ : Rs} {S : St} (hρ : Ok ρ) {x1 : Int32} {x2 : Int32} (h : CALLv g (d + 1) mX6_measureFrom [.ref 70, .int x1] ρ ρ S (fun S1 => AW g ρ (QI Q) (d + 2) mX6_reached 10 [(0, .ref 70), (2, .int x2), (3, .int 0), (4, .int 0)] [] ρ S1)) : CALLi g (d + 2) mX6_reached [.ref 70, .int x1, .int x2] ρ ρ S Q := by
  refine CALL.of mdX6_reached.2.2.2.2 (Nat.le_of_ble_eq_true rfl) (Nat.le_refl _) (Nat.le_refl _) ?_
  show AW g ρ (QI Q) (d + 2) mX6_reached 0 [(0, .ref 70), (1, .int x1), (2, .int x2)] [] ρ S
  refine AW_aload_n 0 (n := 0) rfl dX6_reached_0 rfl ?_
  refine AW_iload_n 1 (n := 1) rfl dX6_reached_1 rfl ?_
  refine AW_callVv (M := mX6_reached) (pc := 2) (As := [.int x1]) (ρ1 := ρ) (st := []) dX6_reached_2 mdX6_measureFrom rfl mlX6_179 imX6_measureFrom seX6_measureFrom (rcv_of (q := (RX6, TX6, 18)) (Nat.le_of_ble_eq_true rfl) (okn hρ (Nat.le_of_ble_eq_true rfl)) rfl rfl) ⟨rfl, npX6_measureFrom⟩ (Nat.le_of_ble_eq_true rfl) (Nat.le_refl _) (Nat.le_refl _) rfl (CALLv.mono h (fun S1 _ h => ?_))
  refine AW_iconst (v := 0) dX6_reached_5 rfl ?_
  refine AW_istore_n (n := 3) (i := 3) rfl dX6_reached_6 (Nat.le_of_ble_eq_true rfl) rfl ?_
  refine AW_iconst (v := 0) dX6_reached_7 rfl ?_
  refine AW_istore dX6_reached_8 (Nat.le_of_ble_eq_true rfl) rfl ?_
  exact AW.sub [2, 4, 1, 0] rfl h
set_option maxRecDepth 20000 in
theorem eX6_choiceRows_29 {g : GX} {Q : Int64 → St → Prop} {d : Nat} {ρ ρ' : Rs} {S : St} (hρ : Ok ρ) {ka : Nat} (hR_ka : rR ρ 70 16 = some ka) (h16_ka : 16 ≤ ka) (hn_ka : ka < rn ρ) (hs_ka : shp ρ ka = .inr (1, 1000)) {kb : Nat} (hR_kb : rR ρ 70 17 = some kb) (h16_kb : 16 ≤ kb) (hn_kb : kb < rn ρ) (hs_kb : shp ρ kb = .inr (1, 1000)) (hcle : rc ρ ≤ rc ρ') (hule : ru ρ ≤ ru ρ') {x2 : Int32} {x3 : Int32} {x4 : Int32} {x5 : Int32} (hF : ∀ k ∈ ([70] : List Nat), gF g k) (hF_kb : gF g kb) (h : if (S.1 70 3) ≤ x5 then AW g ρ' (QJ Q) (d + 1) mX6_choiceRows 20 [(0, .ref 70), (2, .int x2), (3, .int x3), (4, .int (x4 + 1))] [] (setR (setR ρ 70 16 (some kb)) 70 17 (some ka)) S else CALLl g d mX6_choiceRowsTo [.ref 70, .int x5] ρ ρ S (fun v1 S1 => vp_in x5 1000 ∧ (AW g ρ' (QJ Q) (d + 1) mX6_choiceRows 29 [(0, .ref 70), (2, .int x2), (3, .int x3), (4, .int x4), (5, .int (x5 + 1))] [] ρ (setL S1 kb x5.toNatClampNeg v1)))) : AW g ρ' (QJ Q) (d + 1) mX6_choiceRows 29 [(0, .ref 70), (2, .int x2), (3, .int x3), (4, .int x4), (5, .int x5)] [] ρ S := by
  refine AW_iload 4 dX6_choiceRows_29 rfl ?_
  refine AW_aload_n 0 (n := 0) rfl dX6_choiceRows_31 rfl ?_
  refine AW_get dX6_choiceRows_32 flX6_75 (Nat.le_of_ble_eq_true rfl) (okn hρ (Nat.le_of_ble_eq_true rfl)) rfl (v := .int (S.1 70 3)) (fun _ => rfl) ?_
  refine AW_icmp_ge dX6_choiceRows_35 rfl (iteM h (fun h => ?_) (fun h => ?_))
  · refine AW_aload_n 0 (n := 0) rfl dX6_choiceRows_59 rfl ?_
    refine AW_get dX6_choiceRows_60 flX6_36 (Nat.le_of_ble_eq_true rfl) (okn hρ (Nat.le_of_ble_eq_true rfl)) rfl (v := .ref ka) (fvR hR_ka) ?_
    refine AW_astore dX6_choiceRows_63 (Nat.le_of_ble_eq_true rfl) rfl ?_
    refine AW_aload_n 1 (n := 0) rfl dX6_choiceRows_65 rfl ?_
    refine AW_aload_n 1 (n := 0) rfl dX6_choiceRows_66 rfl ?_
    refine AW_get dX6_choiceRows_67 flX6_39 (Nat.le_of_ble_eq_true rfl) (okn hρ (Nat.le_of_ble_eq_true rfl)) rfl (v := .ref kb) (fvR hR_kb) ?_
    refine AW_put dX6_choiceRows_70 flX6_36 fp_5_16 (Nat.le_of_ble_eq_true rfl) (okn hρ (Nat.le_of_ble_eq_true rfl)) rfl (fun _ => rfl) (fun _ => rfl) rfl rfl rfl rfl (Fr.rf _) (fun _ q => setR_ne _ _ _ q) (ρ2 := setR ρ 70 16 (some kb)) (S2 := S) (fvR (setR_eq _ _ _ _)) (fun _ _ _ q1 _ => fvR_o q1) (hF _ (List.mem_of_getElem? (i := 0) rfl)) ?_
    refine AW_aload_n 1 (n := 0) rfl dX6_choiceRows_73 rfl ?_
    refine AW_aload 0 dX6_choiceRows_74 rfl ?_
    refine AW_put dX6_choiceRows_76 flX6_39 fp_5_17 (Nat.le_of_ble_eq_true rfl) (okn (Ok.setR hρ (by decide +kernel)) (Nat.le_of_ble_eq_true rfl)) rfl (fun _ => rfl) (fun _ => rfl) rfl rfl rfl rfl (Fr.rf _) (fun _ q => setR_ne _ _ _ q) (ρ2 := setR (setR ρ 70 16 (some kb)) 70 17 (some ka)) (S2 := S) (fvR (setR_eq _ _ _ _)) (fun _ _ _ q1 _ => fvR_o q1) (hF _ (List.mem_of_getElem? (i := 0) rfl)) ?_
    refine AW_iinc 4 (v := x4 + 1) dX6_choiceRows_79 rfl rfl (Nat.le_of_ble_eq_true rfl) rfl ?_
    refine AW_goto (tgt := 20) dX6_choiceRows_82 rfl ?_
    exact AW.sub [2, 3, 4, 0] rfl h
  · refine AW_aload_n 0 (n := 0) rfl dX6_choiceRows_38 rfl ?_
    refine AW_get dX6_choiceRows_39 flX6_39 (Nat.le_of_ble_eq_true rfl) (okn hρ (Nat.le_of_ble_eq_true rfl)) rfl (v := .ref kb) (fvR hR_kb) ?_
    refine AW_iload 4 dX6_choiceRows_42 rfl ?_
    refine AW_aload_n 0 (n := 0) rfl dX6_choiceRows_44 rfl ?_
    refine AW_iload 4 dX6_choiceRows_45 rfl ?_
    refine AW_callVl (M := mX6_choiceRows) (pc := 47) (As := [.int x5]) (ρ1 := ρ) (st := [.int x5, .ref kb]) dX6_choiceRows_47 mdX6_choiceRowsTo rfl mlX6_188 imX6_choiceRowsTo seX6_choiceRowsTo (rcv_of (q := (RX6, TX6, 18)) (Nat.le_of_ble_eq_true rfl) (okn hρ (Nat.le_of_ble_eq_true rfl)) rfl rfl) ⟨rfl, npX6_choiceRowsTo⟩ (Nat.le_of_ble_eq_true rfl) hcle hule rfl (CALLl.mono h (fun v1 S1 _ h => ?_))
    refine AW_callSv (M := mX6_choiceRows) (pc := 50) (As := [.ref kb, .int x5, .long v1]) (ρ1 := ρ) (st := []) dX6_choiceRows_50 mdX7_put_ mlX6_81 smX7_put_ ⟨rfl, npX7_put_⟩ (Nat.le_of_ble_eq_true rfl) hcle hule rfl (iX7_put_ hρ h16_kb hn_kb hs_kb hF_kb (jx := x5.toNatClampNeg) rfl (by decide) h.1 ?_)
    replace h := h.2
    refine AW_iinc 4 (v := x5 + 1) dX6_choiceRows_53 rfl rfl (Nat.le_of_ble_eq_true rfl) rfl ?_
    refine AW_goto (tgt := 29) dX6_choiceRows_56 rfl ?_
    exact AW.sub [1, 2, 3, 4, 0] rfl h
set_option maxRecDepth 20000 in
theorem eX6_choiceRows_20 {g : GX} {Q : Int64 → St → Prop} {d : Nat} {ρ ρ' : Rs} {S : St} (hρ : Ok ρ) {ka : Nat} (hR_ka : rR ρ 70 16 = some ka) (h16_ka : 16 ≤ ka) (hn_ka : ka < rn ρ) (hs_ka : shp ρ ka = .inr (1, 1000)) (hcle : rc ρ ≤ rc ρ') (hule : ru ρ ≤ ru ρ') {x2 : Int32} {x3 : Int32} {x4 : Int32} (h : if x2 ≤ x4 then vp_in x3 1000 ∧ (ρ = ρ' ∧ (Q (S.2 ka x3.toNatClampNeg) S)) else AW g ρ' (QJ Q) (d + 1) mX6_choiceRows 29 [(0, .ref 70), (2, .int x2), (3, .int x3), (4, .int x4), (5, .int 0)] [] ρ S) : AW g ρ' (QJ Q) (d + 1) mX6_choiceRows 20 [(0, .ref 70), (2, .int x2), (3, .int x3), (4, .int x4)] [] ρ S := by
  refine AW_iload 3 dX6_choiceRows_20 rfl ?_
  refine AW_iload_n 1 (n := 2) rfl dX6_choiceRows_22 rfl ?_
  refine AW_icmp_ge dX6_choiceRows_23 rfl (iteM h (fun h => ?_) (fun h => ?_))
  · refine AW_aload_n 0 (n := 0) rfl dX6_choiceRows_85 rfl ?_
    refine AW_get dX6_choiceRows_86 flX6_36 (Nat.le_of_ble_eq_true rfl) (okn hρ (Nat.le_of_ble_eq_true rfl)) rfl (v := .ref ka) (fvR hR_ka) ?_
    refine AW_iload_n 2 (n := 3) rfl dX6_choiceRows_89 rfl ?_
    refine AW_callSl (M := mX6_choiceRows) (pc := 90) (As := [.ref ka, .int x3]) (ρ1 := ρ) (st := []) dX6_choiceRows_90 mdX7_get_ mlX6_133 smX7_get_ ⟨rfl, npX7_get_⟩ (Nat.le_of_ble_eq_true rfl) hcle hule rfl (iX7_get_ hρ h16_ka hn_ka hs_ka (by decide) h.1 (v := (S.2 ka x3.toNatClampNeg)) rfl ?_)
    replace h := h.2
    refine AW.rhoE h.1 ?_
    replace h := h.2
    exact AW_retl dX6_choiceRows_93 rfl h
  · refine AW_iconst (v := 0) dX6_choiceRows_26 rfl ?_
    refine AW_istore dX6_choiceRows_27 (Nat.le_of_ble_eq_true rfl) rfl ?_
    exact AW.sub [1, 2, 3, 4, 0] rfl h
set_option maxRecDepth 20000 in
theorem eX6_choiceRows {g : GX} {Q : Int64 → St → Prop} {d : Nat} {ρ ρ' : Rs} {S : St} (hρ : Ok ρ) {x1 : Int32} {x2 : Int32} {x3 : Int32} {ka : Nat} (hR_ka : rR ρ 70 16 = some ka) (h16_ka : 16 ≤ ka) (hn_ka : ka < rn ρ) (hs_ka : shp ρ ka = .inr (1, 1000)) (hcle : rc ρ ≤ rc ρ') (hule : ru ρ ≤ ru ρ') (hF_ka : gF g ka) (h : CALLv g d mJ7_fill_d0a16 [.ref ka, .long 0] ρ ρ S (fun S1 => vp_in x1 1000 ∧ (AW g ρ' (QJ Q) (d + 1) mX6_choiceRows 20 [(0, .ref 70), (2, .int x2), (3, .int x3), (4, .int 0)] [] ρ (setL S1 ka x1.toNatClampNeg 1)))) : CALLl g (d + 1) mX6_choiceRows [.ref 70, .int x1, .int x2, .int x3] ρ ρ' S Q := by
  refine CALL.of mdX6_choiceRows.2.2.2.2 (Nat.le_of_ble_eq_true rfl) hcle hule ?_
  show AW g ρ' (QJ Q) (d + 1) mX6_choiceRows 0 [(0, .ref 70), (1, .int x1), (2, .int x2), (3, .int x3)] [] ρ S
  refine AW_aload_n 0 (n := 0) rfl dX6_choiceRows_0 rfl ?_
  refine AW_get dX6_choiceRows_1 flX6_36 (Nat.le_of_ble_eq_true rfl) (okn hρ (Nat.le_of_ble_eq_true rfl)) rfl (v := .ref ka) (fvR hR_ka) ?_
  refine AW_lconst (v := 0) dX6_choiceRows_4 rfl ?_
  refine AW_callSv (M := mX6_choiceRows) (pc := 5) (As := [.ref ka, .long 0]) (ρ1 := ρ) (st := []) dX6_choiceRows_5 mdJ7_fill_d0a16 mlX6_185 smJ7_fill_d0a16 ⟨rfl, npJ7_fill_d0a16⟩ (Nat.le_of_ble_eq_true rfl) hcle hule rfl (CALLv.mono h (fun S1 _ h => ?_))
  refine AW_aload_n 0 (n := 0) rfl dX6_choiceRows_8 rfl ?_
  refine AW_get dX6_choiceRows_9 flX6_36 (Nat.le_of_ble_eq_true rfl) (okn hρ (Nat.le_of_ble_eq_true rfl)) rfl (v := .ref ka) (fvR hR_ka) ?_
  refine AW_iload_n 1 (n := 1) rfl dX6_choiceRows_12 rfl ?_
  refine AW_lconst (v := 1) dX6_choiceRows_13 rfl ?_
  refine AW_callSv (M := mX6_choiceRows) (pc := 14) (As := [.ref ka, .int x1, .long 1]) (ρ1 := ρ) (st := []) dX6_choiceRows_14 mdX7_put_ mlX6_81 smX7_put_ ⟨rfl, npX7_put_⟩ (Nat.le_of_ble_eq_true rfl) hcle hule rfl (iX7_put_ hρ h16_ka hn_ka hs_ka hF_ka (jx := x1.toNatClampNeg) rfl (by decide) h.1 ?_)
  replace h := h.2
  refine AW_iconst (v := 0) dX6_choiceRows_17 rfl ?_
  refine AW_istore dX6_choiceRows_18 (Nat.le_of_ble_eq_true rfl) rfl ?_
  exact AW.sub [1, 3, 4, 0] rfl h
set_option maxRecDepth 20000 in
theorem eX6_choiceRowsTo_42 {g : GX} {Q : Int64 → St → Prop} {d : Nat} {ρ : Rs} {S : St} (hρ : Ok ρ) {kn nn : Nat} (hR_kn : rR ρ 70 6 = some kn) (h16_kn : 16 ≤ kn) (hn_kn : kn < rn ρ) (hs_kn : shp ρ kn = .inr (0, nn)) {ka : Nat} (hR_ka : rR ρ 70 16 = some ka) (h16_ka : 16 ≤ ka) (hn_ka : ka < rn ρ) (hs_ka : shp ρ ka = .inr (1, 1000)) {x3 : Int32} {x4 : Int64} {x6 : Int32} (h : if x3 ≤ x6 then Q x4 S else vp_in x6 nn ∧ (if (S.1 kn x6.toNatClampNeg) < 0 then AW g ρ (QJ Q) (d + 1) mX6_choiceRowsTo 42 [(0, .ref 70), (3, .int x3), (4, .long (x4 + 0)), (6, .int (x6 + 1))] [] ρ S else if (1000 : Int32) ≤ (S.1 kn x6.toNatClampNeg) then AW g ρ (QJ Q) (d + 1) mX6_choiceRowsTo 42 [(0, .ref 70), (3, .int x3), (4, .long (x4 + 0)), (6, .int (x6 + 1))] [] ρ S else vp_in (S.1 kn x6.toNatClampNeg) 1000 ∧ (AW g ρ (QJ Q) (d + 1) mX6_choiceRowsTo 42 [(0, .ref 70), (3, .int x3), (4, .long (x4 + (2 * (S.2 ka ((S.1 kn x6.toNatClampNeg).toNatClampNeg))))), (6, .int (x6 + 1))] [] ρ S))) : AW g ρ (QJ Q) (d + 1) mX6_choiceRowsTo 42 [(0, .ref 70), (3, .int x3), (4, .long x4), (6, .int x6)] [] ρ S := by
  refine AW_iload 3 dX6_choiceRowsTo_42 rfl ?_
  refine AW_iload_n 1 (n := 3) rfl dX6_choiceRowsTo_44 rfl ?_
  refine AW_icmp_ge dX6_choiceRowsTo_45 rfl (iteM h (fun h => ?_) (fun h => ?_))
  · refine AW_lload 2 dX6_choiceRowsTo_98 rfl ?_
    exact AW_retl dX6_choiceRowsTo_100 rfl h
  · refine AW_aload_n 0 (n := 0) rfl dX6_choiceRowsTo_48 rfl ?_
    refine AW_get dX6_choiceRowsTo_49 flX6_21 (Nat.le_of_ble_eq_true rfl) (okn hρ (Nat.le_of_ble_eq_true rfl)) rfl (v := .ref kn) (fvR hR_kn) ?_
    refine AW_iload 3 dX6_choiceRowsTo_52 rfl ?_
    refine AW_iaload dX6_choiceRowsTo_54 h16_kn hn_kn hs_kn h.1 (v := S.1 kn x6.toNatClampNeg) rfl ?_
    replace h := h.2
    refine AW_istore dX6_choiceRowsTo_55 (Nat.le_of_ble_eq_true rfl) rfl ?_
    refine AW_lload 3 dX6_choiceRowsTo_57 rfl ?_
    refine AW_iload 0 dX6_choiceRowsTo_59 rfl ?_
    refine AW_if_lt dX6_choiceRowsTo_61 rfl (iteM h (fun h => ?_) (fun h => ?_))
    · refine AW_lconst (v := 0) dX6_choiceRowsTo_88 rfl ?_
      refine AW_ladd dX6_choiceRowsTo_89 ?_
      refine AW_lstore dX6_choiceRowsTo_90 (Nat.le_of_ble_eq_true rfl) rfl ?_
      refine AW_iinc 4 (v := x6 + 1) dX6_choiceRowsTo_92 rfl rfl (Nat.le_of_ble_eq_true rfl) rfl ?_
      refine AW_goto (tgt := 42) dX6_choiceRowsTo_95 rfl ?_
      exact AW.sub [3, 4, 1, 0] rfl h
    · refine AW_iload 0 dX6_choiceRowsTo_64 rfl ?_
      refine AW_aload_n 1 (n := 0) rfl dX6_choiceRowsTo_66 rfl ?_
      refine AW_get dX6_choiceRowsTo_67 flX6_36 (Nat.le_of_ble_eq_true rfl) (okn hρ (Nat.le_of_ble_eq_true rfl)) rfl (v := .ref ka) (fvR hR_ka) ?_
      refine AW_alen (v := 1000) dX6_choiceRowsTo_70 h16_ka hn_ka (by decide) hs_ka rfl ?_
      refine AW_icmp_ge dX6_choiceRowsTo_71 rfl (iteM h (fun h => ?_) (fun h => ?_))
      · refine AW_lconst (v := 0) dX6_choiceRowsTo_88 rfl ?_
        refine AW_ladd dX6_choiceRowsTo_89 ?_
        refine AW_lstore dX6_choiceRowsTo_90 (Nat.le_of_ble_eq_true rfl) rfl ?_
        refine AW_iinc 4 (v := x6 + 1) dX6_choiceRowsTo_92 rfl rfl (Nat.le_of_ble_eq_true rfl) rfl ?_
        refine AW_goto (tgt := 42) dX6_choiceRowsTo_95 rfl ?_
        exact AW.sub [3, 4, 1, 0] rfl h
      · refine AW_ldc2 (v := 2) dX6_choiceRowsTo_74 kcX6_194 ?_
        refine AW_aload_n 1 (n := 0) rfl dX6_choiceRowsTo_77 rfl ?_
        refine AW_get dX6_choiceRowsTo_78 flX6_36 (Nat.le_of_ble_eq_true rfl) (okn hρ (Nat.le_of_ble_eq_true rfl)) rfl (v := .ref ka) (fvR hR_ka) ?_
        refine AW_iload 0 dX6_choiceRowsTo_81 rfl ?_
        refine AW_laload dX6_choiceRowsTo_83 h16_ka hn_ka hs_ka h.1 (v := S.2 ka ((S.1 kn x6.toNatClampNeg).toNatClampNeg)) rfl ?_
        replace h := h.2
        refine AW_lmul dX6_choiceRowsTo_84 ?_
        refine AW_goto (tgt := 89) dX6_choiceRowsTo_85 rfl ?_
        refine AW_ladd dX6_choiceRowsTo_89 ?_
        refine AW_lstore dX6_choiceRowsTo_90 (Nat.le_of_ble_eq_true rfl) rfl ?_
        refine AW_iinc 4 (v := x6 + 1) dX6_choiceRowsTo_92 rfl rfl (Nat.le_of_ble_eq_true rfl) rfl ?_
        refine AW_goto (tgt := 42) dX6_choiceRowsTo_95 rfl ?_
        exact AW.sub [3, 4, 1, 0] rfl h
set_option maxRecDepth 20000 in
theorem eX6_choiceRowsTo {g : GX} {Q : Int64 → St → Prop} {d : Nat} {ρ : Rs} {S : St} (hρ : Ok ρ) {x1 : Int32} {kn nn : Nat} (hR_kn : rR ρ 70 6 = some kn) (h16_kn : 16 ≤ kn) (hn_kn : kn < rn ρ) (hs_kn : shp ρ kn = .inr (0, nn)) {ka : Nat} (hR_ka : rR ρ 70 16 = some ka) (h16_ka : 16 ≤ ka) (hn_ka : ka < rn ρ) (hs_ka : shp ρ ka = .inr (1, 1000)) (h : vp_in x1 1001 ∧ (¬ (S.1 72 x1.toNatClampNeg) < 0 ∧ (¬ Int32.ofNat nn < (S.1 72 x1.toNatClampNeg) ∧ (vp_in (x1 + 1) 1001 ∧ (¬ (S.1 72 ((x1 + 1).toNatClampNeg)) < 0 ∧ (¬ Int32.ofNat nn < (S.1 72 ((x1 + 1).toNatClampNeg)) ∧ (vp_in x1 1000 ∧ (AW g ρ (QJ Q) (d + 1) mX6_choiceRowsTo 42 [(0, .ref 70), (3, .int (S.1 72 ((x1 + 1).toNatClampNeg))), (4, .long ((S.2 ka x1.toNatClampNeg) * (((S.1 26 2) - (2 * ((S.1 72 ((x1 + 1).toNatClampNeg)) - (S.1 72 x1.toNatClampNeg)))).toInt64))), (6, .int (S.1 72 x1.toNatClampNeg))] [] ρ S)))))))) : CALLl g (d + 1) mX6_choiceRowsTo [.ref 70, .int x1] ρ ρ S Q := by
  refine CALL.of mdX6_choiceRowsTo.2.2.2.2 (Nat.le_of_ble_eq_true rfl) (Nat.le_refl _) (Nat.le_refl _) ?_
  show AW g ρ (QJ Q) (d + 1) mX6_choiceRowsTo 0 [(0, .ref 70), (1, .int x1)] [] ρ S
  refine AW_aload_n 0 (n := 0) rfl dX6_choiceRowsTo_0 rfl ?_
  refine AW_iload_n 1 (n := 1) rfl dX6_choiceRowsTo_1 rfl ?_
  refine AW_callVi (M := mX6_choiceRowsTo) (pc := 2) (As := [.int x1]) (ρ1 := ρ) (st := []) dX6_choiceRowsTo_2 mdX6_firstNearOf rfl mlX6_159 imX6_firstNearOf seX6_firstNearOf (rcv_of (q := (RX6, TX6, 18)) (Nat.le_of_ble_eq_true rfl) (okn hρ (Nat.le_of_ble_eq_true rfl)) rfl rfl) ⟨rfl, npX6_firstNearOf⟩ (Nat.le_of_ble_eq_true rfl) (Nat.le_refl _) (Nat.le_refl _) rfl (iX6_firstNearOf hρ hR_kn h16_kn hn_kn hs_kn h.1 h.2.1 h.2.2.1 (v := (S.1 72 x1.toNatClampNeg)) rfl ?_)
  replace h := h.2.2.2
  refine AW_istore_n (n := 2) (i := 2) rfl dX6_choiceRowsTo_5 (Nat.le_of_ble_eq_true rfl) rfl ?_
  refine AW_aload_n 1 (n := 0) rfl dX6_choiceRowsTo_6 rfl ?_
  refine AW_iload_n 2 (n := 1) rfl dX6_choiceRowsTo_7 rfl ?_
  refine AW_iconst (v := 1) dX6_choiceRowsTo_8 rfl ?_
  refine AW_iadd dX6_choiceRowsTo_9 ?_
  refine AW_callVi (M := mX6_choiceRowsTo) (pc := 10) (As := [.int (x1 + 1)]) (ρ1 := ρ) (st := []) dX6_choiceRowsTo_10 mdX6_firstNearOf rfl mlX6_159 imX6_firstNearOf seX6_firstNearOf (rcv_of (q := (RX6, TX6, 18)) (Nat.le_of_ble_eq_true rfl) (okn hρ (Nat.le_of_ble_eq_true rfl)) rfl rfl) ⟨rfl, npX6_firstNearOf⟩ (Nat.le_of_ble_eq_true rfl) (Nat.le_refl _) (Nat.le_refl _) rfl (iX6_firstNearOf hρ hR_kn h16_kn hn_kn hs_kn h.1 h.2.1 h.2.2.1 (v := (S.1 72 ((x1 + 1).toNatClampNeg))) rfl ?_)
  replace h := h.2.2.2
  refine AW_istore_n (n := 3) (i := 3) rfl dX6_choiceRowsTo_13 (Nat.le_of_ble_eq_true rfl) rfl ?_
  refine AW_aload_n 2 (n := 0) rfl dX6_choiceRowsTo_14 rfl ?_
  refine AW_get dX6_choiceRowsTo_15 flX6_36 (Nat.le_of_ble_eq_true rfl) (okn hρ (Nat.le_of_ble_eq_true rfl)) rfl (v := .ref ka) (fvR hR_ka) ?_
  refine AW_iload_n 3 (n := 1) rfl dX6_choiceRowsTo_18 rfl ?_
  refine AW_callSl (M := mX6_choiceRowsTo) (pc := 19) (As := [.ref ka, .int x1]) (ρ1 := ρ) (st := []) dX6_choiceRowsTo_19 mdX7_get_ mlX6_133 smX7_get_ ⟨rfl, npX7_get_⟩ (Nat.le_of_ble_eq_true rfl) (Nat.le_refl _) (Nat.le_refl _) rfl (iX7_get_ hρ h16_ka hn_ka hs_ka (by decide) h.1 (v := (S.2 ka x1.toNatClampNeg)) rfl ?_)
  replace h := h.2
  refine AW_aload_n 2 (n := 0) rfl dX6_choiceRowsTo_22 rfl ?_
  refine AW_get dX6_choiceRowsTo_23 flX6_46 (Nat.le_of_ble_eq_true rfl) (okn hρ (Nat.le_of_ble_eq_true rfl)) rfl (v := .ref 26) (fvR (okR hρ 44 rfl)) ?_
  refine AW_get dX6_choiceRowsTo_26 flX6_191 (Nat.le_of_ble_eq_true rfl) (okn hρ (Nat.le_of_ble_eq_true rfl)) rfl (v := .int (S.1 26 2)) (fun _ => rfl) ?_
  refine AW_iconst (v := 2) dX6_choiceRowsTo_29 rfl ?_
  refine AW_iload_n 0 (n := 3) rfl dX6_choiceRowsTo_30 rfl ?_
  refine AW_iload_n 1 (n := 2) rfl dX6_choiceRowsTo_31 rfl ?_
  refine AW_isub dX6_choiceRowsTo_32 ?_
  refine AW_imul dX6_choiceRowsTo_33 ?_
  refine AW_isub dX6_choiceRowsTo_34 ?_
  refine AW_i2l dX6_choiceRowsTo_35 ?_
  refine AW_lmul dX6_choiceRowsTo_36 ?_
  refine AW_lstore dX6_choiceRowsTo_37 (Nat.le_of_ble_eq_true rfl) rfl ?_
  refine AW_iload_n 2 (n := 2) rfl dX6_choiceRowsTo_39 rfl ?_
  refine AW_istore dX6_choiceRowsTo_40 (Nat.le_of_ble_eq_true rfl) rfl ?_
  exact AW.sub [4, 2, 1, 0] rfl h
