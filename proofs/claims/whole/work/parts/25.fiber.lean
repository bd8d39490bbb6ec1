set_option maxRecDepth 20000 in
theorem eX1_make_134 {g : GX} {Q : St → Prop} {d : Nat} {ρ : Rs} {S : St} (hρ : Ok ρ) (h : CALLv g (d + 1) mX1_sumAhead [.ref 31] ρ ρ S (fun S1 => CALLv g (d + 1) mX1_sumBehind [.ref 31] ρ ρ S1 (fun S2 => CALLv g (d + 1) mX1_sumSeenCells [.ref 31] ρ ρ S2 (fun S3 => Q S3)))) : AW g ρ (QV Q) (d + 2) mX1_make 134 [(0, .ref 31)] [] ρ S := by
  refine AW_aload_n 0 (n := 0) rfl dX1_make_134 rfl ?_
  refine AW_callVv (M := mX1_make) (pc := 135) (As := []) (ρ1 := ρ) (st := []) dX1_make_135 mdX1_sumAhead rfl mlX1_95 imX1_sumAhead seX1_sumAhead (rcv_of (q := (RX1, TX1, 15)) (Nat.le_of_ble_eq_true rfl) (okn hρ (Nat.le_of_ble_eq_true rfl)) rfl rfl) ⟨rfl, npX1_sumAhead⟩ (Nat.le_of_ble_eq_true rfl) (Nat.le_refl _) (Nat.le_refl _) rfl (CALLv.mono h (fun S1 _ h => ?_))
  refine AW_aload_n 0 (n := 0) rfl dX1_make_138 rfl ?_
  refine AW_callVv (M := mX1_make) (pc := 139) (As := []) (ρ1 := ρ) (st := []) dX1_make_139 mdX1_sumBehind rfl mlX1_98 imX1_sumBehind seX1_sumBehind (rcv_of (q := (RX1, TX1, 15)) (Nat.le_of_ble_eq_true rfl) (okn hρ (Nat.le_of_ble_eq_true rfl)) rfl rfl) ⟨rfl, npX1_sumBehind⟩ (Nat.le_of_ble_eq_true rfl) (Nat.le_refl _) (Nat.le_refl _) rfl (CALLv.mono h (fun S2 _ h => ?_))
  refine AW_aload_n 0 (n := 0) rfl dX1_make_142 rfl ?_
  refine AW_callVv (M := mX1_make) (pc := 143) (As := []) (ρ1 := ρ) (st := []) dX1_make_143 mdX1_sumSeenCells rfl mlX1_101 imX1_sumSeenCells seX1_sumSeenCells (rcv_of (q := (RX1, TX1, 15)) (Nat.le_of_ble_eq_true rfl) (okn hρ (Nat.le_of_ble_eq_true rfl)) rfl rfl) ⟨rfl, npX1_sumSeenCells⟩ (Nat.le_of_ble_eq_true rfl) (Nat.le_refl _) (Nat.le_refl _) rfl (CALLv.mono h (fun S3 _ h => ?_))
  exact AW_retv dX1_make_146 rfl h
set_option maxRecDepth 20000 in
theorem eX1_make_101 {g : GX} {Q : St → Prop} {d : Nat} {ρ : Rs} {S : St} (hρ : Ok ρ) {x2 : Int32} (hF : ∀ k ∈ ([44] : List Nat), gF g k) (h : if (S.1 31 2) < x2 then AW g ρ (QV Q) (d + 2) mX1_make 134 [(0, .ref 31)] [] ρ S else if (480 : Int32) < x2 then AW g ρ (QV Q) (d + 2) mX1_make 134 [(0, .ref 31)] [] ρ S else vp_in x2 481 ∧ (AW g ρ (QV Q) (d + 2) mX1_make 101 [(0, .ref 31), (2, .int (x2 + 1))] [] ρ (setI S 44 x2.toNatClampNeg (S.1 31 14)))) : AW g ρ (QV Q) (d + 2) mX1_make 101 [(0, .ref 31), (2, .int x2)] [] ρ S := by
  refine AW_iload_n 1 (n := 2) rfl dX1_make_101 rfl ?_
  refine AW_aload_n 0 (n := 0) rfl dX1_make_102 rfl ?_
  refine AW_get dX1_make_103 flX1_60 (Nat.le_of_ble_eq_true rfl) (okn hρ (Nat.le_of_ble_eq_true rfl)) rfl (v := .int (S.1 31 2)) (fun _ => rfl) ?_
  refine AW_icmp_gt dX1_make_106 rfl (iteM h (fun h => ?_) (fun h => ?_))
  · exact AW.sub [0] rfl h
  · refine AW_iload_n 1 (n := 2) rfl dX1_make_109 rfl ?_
    refine AW_sipush (v := 480) dX1_make_110 rfl ?_
    refine AW_icmp_gt dX1_make_113 rfl (iteM h (fun h => ?_) (fun h => ?_))
    · exact AW.sub [0] rfl h
    · refine AW_aload_n 0 (n := 0) rfl dX1_make_116 rfl ?_
      refine AW_get dX1_make_117 flX1_22 (Nat.le_of_ble_eq_true rfl) (okn hρ (Nat.le_of_ble_eq_true rfl)) rfl (v := .ref 44) (fvR (okR hρ 19 rfl)) ?_
      refine AW_iload_n 1 (n := 2) rfl dX1_make_120 rfl ?_
      refine AW_aload_n 0 (n := 0) rfl dX1_make_121 rfl ?_
      refine AW_get dX1_make_122 flX1_63 (Nat.le_of_ble_eq_true rfl) (okn hρ (Nat.le_of_ble_eq_true rfl)) rfl (v := .int (S.1 31 14)) (fun _ => rfl) ?_
      refine AW_callSv (M := mX1_make) (pc := 125) (As := [.ref 44, .int x2, .int (S.1 31 14)]) (ρ1 := ρ) (st := []) dX1_make_125 mdX7_put mlX1_89 smX7_put ⟨rfl, npX7_put⟩ (Nat.le_of_ble_eq_true rfl) (Nat.le_refl _) (Nat.le_refl _) rfl (iX7_put hρ (Nat.le_of_ble_eq_true rfl) (okn hρ (Nat.le_of_ble_eq_true rfl)) rfl (hF _ (List.mem_of_getElem? (i := 0) rfl)) (jx := x2.toNatClampNeg) rfl (by decide) h.1 ?_)
      replace h := h.2
      refine AW_iinc 1 (v := x2 + 1) dX1_make_128 rfl rfl (Nat.le_of_ble_eq_true rfl) rfl ?_
      refine AW_goto (tgt := 101) dX1_make_131 rfl ?_
      exact AW.sub [1, 0] rfl h
set_option maxRecDepth 20000 in
theorem eX1_make_56 {g : GX} {Q : St → Prop} {d : Nat} {ρ : Rs} {S : St} (hρ : Ok ρ) {x2 : Int32} (hF : ∀ k ∈ ([43] : List Nat), gF g k) (h : if (S.1 31 1) ≤ x2 then vp_in (S.1 31 1) 5 ∧ (¬ (S.1 43 ((S.1 31 1).toNatClampNeg)) < 0 ∧ (¬ 480 < (S.1 43 ((S.1 31 1).toNatClampNeg)) ∧ (AW g ρ (QV Q) (d + 2) mX1_make 101 [(0, .ref 31), (2, .int (S.1 43 ((S.1 31 1).toNatClampNeg)))] [] ρ S))) else if (4 : Int32) ≤ x2 then vp_in (S.1 31 1) 5 ∧ (¬ (S.1 43 ((S.1 31 1).toNatClampNeg)) < 0 ∧ (¬ 480 < (S.1 43 ((S.1 31 1).toNatClampNeg)) ∧ (AW g ρ (QV Q) (d + 2) mX1_make 101 [(0, .ref 31), (2, .int (S.1 43 ((S.1 31 1).toNatClampNeg)))] [] ρ S))) else vp_in (x2 + 1) 5 ∧ (CALLv g (d + 1) mX1_linkLevel [.ref 31, .int x2] ρ ρ (setI S 43 ((x2 + 1).toNatClampNeg) (S.1 31 2)) (fun S1 => AW g ρ (QV Q) (d + 2) mX1_make 56 [(0, .ref 31), (2, .int (x2 + 1))] [] ρ S1))) : AW g ρ (QV Q) (d + 2) mX1_make 56 [(0, .ref 31), (2, .int x2)] [] ρ S := by
  refine AW_iload_n 1 (n := 2) rfl dX1_make_56 rfl ?_
  refine AW_aload_n 0 (n := 0) rfl dX1_make_57 rfl ?_
  refine AW_get dX1_make_58 flX1_59 (Nat.le_of_ble_eq_true rfl) (okn hρ (Nat.le_of_ble_eq_true rfl)) rfl (v := .int (S.1 31 1)) (fun _ => rfl) ?_
  refine AW_icmp_ge dX1_make_61 rfl (iteM h (fun h => ?_) (fun h => ?_))
  · refine AW_aload_n 0 (n := 0) rfl dX1_make_92 rfl ?_
    refine AW_aload_n 0 (n := 0) rfl dX1_make_93 rfl ?_
    refine AW_get dX1_make_94 flX1_59 (Nat.le_of_ble_eq_true rfl) (okn hρ (Nat.le_of_ble_eq_true rfl)) rfl (v := .int (S.1 31 1)) (fun _ => rfl) ?_
    refine AW_callVi (M := mX1_make) (pc := 97) (As := [.int (S.1 31 1)]) (ρ1 := ρ) (st := []) dX1_make_97 mdX1_firstNode rfl mlX1_85 imX1_firstNode seX1_firstNode (rcv_of (q := (RX1, TX1, 15)) (Nat.le_of_ble_eq_true rfl) (okn hρ (Nat.le_of_ble_eq_true rfl)) rfl rfl) ⟨rfl, npX1_firstNode⟩ (Nat.le_of_ble_eq_true rfl) (Nat.le_refl _) (Nat.le_refl _) rfl (iX1_firstNode hρ h.1 h.2.1 h.2.2.1 (v := (S.1 43 ((S.1 31 1).toNatClampNeg))) rfl ?_)
    replace h := h.2.2.2
    refine AW_istore_n (n := 2) (i := 2) rfl dX1_make_100 (Nat.le_of_ble_eq_true rfl) rfl ?_
    exact AW.sub [1, 0] rfl h
  · refine AW_iload_n 1 (n := 2) rfl dX1_make_64 rfl ?_
    refine AW_iconst (v := 4) dX1_make_65 rfl ?_
    refine AW_icmp_ge dX1_make_66 rfl (iteM h (fun h => ?_) (fun h => ?_))
    · refine AW_aload_n 0 (n := 0) rfl dX1_make_92 rfl ?_
      refine AW_aload_n 0 (n := 0) rfl dX1_make_93 rfl ?_
      refine AW_get dX1_make_94 flX1_59 (Nat.le_of_ble_eq_true rfl) (okn hρ (Nat.le_of_ble_eq_true rfl)) rfl (v := .int (S.1 31 1)) (fun _ => rfl) ?_
      refine AW_callVi (M := mX1_make) (pc := 97) (As := [.int (S.1 31 1)]) (ρ1 := ρ) (st := []) dX1_make_97 mdX1_firstNode rfl mlX1_85 imX1_firstNode seX1_firstNode (rcv_of (q := (RX1, TX1, 15)) (Nat.le_of_ble_eq_true rfl) (okn hρ (Nat.le_of_ble_eq_true rfl)) rfl rfl) ⟨rfl, npX1_firstNode⟩ (Nat.le_of_ble_eq_true rfl) (Nat.le_refl _) (Nat.le_refl _) rfl (iX1_firstNode hρ h.1 h.2.1 h.2.2.1 (v := (S.1 43 ((S.1 31 1).toNatClampNeg))) rfl ?_)
      replace h := h.2.2.2
      refine AW_istore_n (n := 2) (i := 2) rfl dX1_make_100 (Nat.le_of_ble_eq_true rfl) rfl ?_
      exact AW.sub [1, 0] rfl h
    · refine AW_aload_n 0 (n := 0) rfl dX1_make_69 rfl ?_
      refine AW_get dX1_make_70 flX1_18 (Nat.le_of_ble_eq_true rfl) (okn hρ (Nat.le_of_ble_eq_true rfl)) rfl (v := .ref 43) (fvR (okR hρ 18 rfl)) ?_
      refine AW_iload_n 1 (n := 2) rfl dX1_make_73 rfl ?_
      refine AW_iconst (v := 1) dX1_make_74 rfl ?_
      refine AW_iadd dX1_make_75 ?_
      refine AW_aload_n 0 (n := 0) rfl dX1_make_76 rfl ?_
      refine AW_get dX1_make_77 flX1_60 (Nat.le_of_ble_eq_true rfl) (okn hρ (Nat.le_of_ble_eq_true rfl)) rfl (v := .int (S.1 31 2)) (fun _ => rfl) ?_
      refine AW_iastore dX1_make_80 (Nat.le_of_ble_eq_true rfl) (okn hρ (Nat.le_of_ble_eq_true rfl)) rfl h.1 (hF _ (List.mem_of_getElem? (i := 0) rfl)) (jx := (x2 + 1).toNatClampNeg) rfl ?_
      replace h := h.2
      refine AW_aload_n 0 (n := 0) rfl dX1_make_81 rfl ?_
      refine AW_iload_n 1 (n := 2) rfl dX1_make_82 rfl ?_
      refine AW_callVv (M := mX1_make) (pc := 83) (As := [.int x2]) (ρ1 := ρ) (st := []) dX1_make_83 mdX1_linkLevel rfl mlX1_81 imX1_linkLevel seX1_linkLevel (rcv_of (q := (RX1, TX1, 15)) (Nat.le_of_ble_eq_true rfl) (okn hρ (Nat.le_of_ble_eq_true rfl)) rfl rfl) ⟨rfl, npX1_linkLevel⟩ (Nat.le_of_ble_eq_true rfl) (Nat.le_refl _) (Nat.le_refl _) rfl (CALLv.mono h (fun S1 _ h => ?_))
      refine AW_iinc 1 (v := x2 + 1) dX1_make_86 rfl rfl (Nat.le_of_ble_eq_true rfl) rfl ?_
      refine AW_goto (tgt := 56) dX1_make_89 rfl ?_
      exact AW.sub [1, 0] rfl h
set_option maxRecDepth 20000 in
theorem eX1_make {g : GX} {Q : St → Prop} {d : Nat} {ρ : Rs} {S : St} (hρ : Ok ρ) (hF : ∀ k ∈ ([31, 43] : List Nat), gF g k) (h : CALLv g (d + 1) mX2_make [.ref 32, .ref 21] ρ ρ (setI (setI (setI S 31 1 (S.1 21 0)) 31 2 0) 31 14 0) (fun S1 => CALLi g (d + 1) mX2_takenByAll [.ref 32, .ref 21] ρ ρ S1 (fun v2 S2 => CALLi g (d + 1) mX2_codeOfAll [.ref 32, .ref 21] ρ ρ S2 (fun v3 S3 => CALLi g (d + 1) mX1_addNode [.ref 31, .int v2, .int v3] ρ ρ S3 (fun v4 S4 => AW g ρ (QV Q) (d + 2) mX1_make 56 [(0, .ref 31), (2, .int 0)] [] ρ (setI S4 43 0 0)))))) : CALLv g (d + 2) mX1_make [.ref 31, .ref 21] ρ ρ S Q := by
  refine CALL.of mdX1_make.2.2.2.2 (Nat.le_of_ble_eq_true rfl) (Nat.le_refl _) (Nat.le_refl _) ?_
  show AW g ρ (QV Q) (d + 2) mX1_make 0 [(0, .ref 31), (1, .ref 21)] [] ρ S
  refine AW_aload_n 0 (n := 0) rfl dX1_make_0 rfl ?_
  refine AW_aload_n 1 (n := 1) rfl dX1_make_1 rfl ?_
  refine AW_get dX1_make_2 flX1_53 (Nat.le_of_ble_eq_true rfl) (okn hρ (Nat.le_of_ble_eq_true rfl)) rfl (v := .int (S.1 21 0)) (fun _ => rfl) ?_
  refine AW_put dX1_make_5 flX1_59 fp_1_1 (Nat.le_of_ble_eq_true rfl) (okn hρ (Nat.le_of_ble_eq_true rfl)) rfl (fun _ => rfl) (fun _ => rfl) rfl rfl rfl rfl (Fr.setI _ _ _ rfl) (fun _ _ => rfl) (ρ2 := ρ) (S2 := setI S 31 1 (S.1 21 0)) (fun _ => rfl) (fun _ _ _ q1 _ => fvI_o q1) (hF _ (List.mem_of_getElem? (i := 0) rfl)) ?_
  refine AW_aload_n 0 (n := 0) rfl dX1_make_8 rfl ?_
  refine AW_iconst (v := 0) dX1_make_9 rfl ?_
  refine AW_put dX1_make_10 flX1_60 fp_1_2 (Nat.le_of_ble_eq_true rfl) (okn hρ (Nat.le_of_ble_eq_true rfl)) rfl (fun _ => rfl) (fun _ => rfl) rfl rfl rfl rfl (Fr.setI _ _ _ rfl) (fun _ _ => rfl) (ρ2 := ρ) (S2 := setI (setI S 31 1 (S.1 21 0)) 31 2 0) (fun _ => rfl) (fun _ _ _ q1 _ => fvI_o q1) (hF _ (List.mem_of_getElem? (i := 0) rfl)) ?_
  refine AW_aload_n 0 (n := 0) rfl dX1_make_13 rfl ?_
  refine AW_iconst (v := 0) dX1_make_14 rfl ?_
  refine AW_put dX1_make_15 flX1_63 fp_1_14 (Nat.le_of_ble_eq_true rfl) (okn hρ (Nat.le_of_ble_eq_true rfl)) rfl (fun _ => rfl) (fun _ => rfl) rfl rfl rfl rfl (Fr.setI _ _ _ rfl) (fun _ _ => rfl) (ρ2 := ρ) (S2 := setI (setI (setI S 31 1 (S.1 21 0)) 31 2 0) 31 14 0) (fun _ => rfl) (fun _ _ _ q1 _ => fvI_o q1) (hF _ (List.mem_of_getElem? (i := 0) rfl)) ?_
  refine AW_aload_n 0 (n := 0) rfl dX1_make_18 rfl ?_
  refine AW_get dX1_make_19 flX1_12 (Nat.le_of_ble_eq_true rfl) (okn hρ (Nat.le_of_ble_eq_true rfl)) rfl (v := .ref 32) (fvR (okR hρ 17 rfl)) ?_
  refine AW_aload_n 1 (n := 1) rfl dX1_make_22 rfl ?_
  refine AW_callVv (M := mX1_make) (pc := 23) (As := [.ref 21]) (ρ1 := ρ) (st := []) dX1_make_23 mdX2_make rfl mlX1_66 imX2_make seX2_make (rcv_of (q := (RX2, TX2, 8)) (Nat.le_of_ble_eq_true rfl) (okn hρ (Nat.le_of_ble_eq_true rfl)) rfl rfl) ⟨rfl, npX2_make⟩ (Nat.le_of_ble_eq_true rfl) (Nat.le_refl _) (Nat.le_refl _) rfl (CALLv.mono h (fun S1 _ h => ?_))
  refine AW_aload_n 0 (n := 0) rfl dX1_make_26 rfl ?_
  refine AW_aload_n 0 (n := 0) rfl dX1_make_27 rfl ?_
  refine AW_get dX1_make_28 flX1_12 (Nat.le_of_ble_eq_true rfl) (okn hρ (Nat.le_of_ble_eq_true rfl)) rfl (v := .ref 32) (fvR (okR hρ 17 rfl)) ?_
  refine AW_aload_n 1 (n := 1) rfl dX1_make_31 rfl ?_
  refine AW_callVi (M := mX1_make) (pc := 32) (As := [.ref 21]) (ρ1 := ρ) (st := [.ref 31]) dX1_make_32 mdX2_takenByAll rfl mlX1_70 imX2_takenByAll seX2_takenByAll (rcv_of (q := (RX2, TX2, 8)) (Nat.le_of_ble_eq_true rfl) (okn hρ (Nat.le_of_ble_eq_true rfl)) rfl rfl) ⟨rfl, npX2_takenByAll⟩ (Nat.le_of_ble_eq_true rfl) (Nat.le_refl _) (Nat.le_refl _) rfl (CALLi.mono h (fun v2 S2 _ h => ?_))
  refine AW_aload_n 0 (n := 0) rfl dX1_make_35 rfl ?_
  refine AW_get dX1_make_36 flX1_12 (Nat.le_of_ble_eq_true rfl) (okn hρ (Nat.le_of_ble_eq_true rfl)) rfl (v := .ref 32) (fvR (okR hρ 17 rfl)) ?_
  refine AW_aload_n 1 (n := 1) rfl dX1_make_39 rfl ?_
  refine AW_callVi (M := mX1_make) (pc := 40) (As := [.ref 21]) (ρ1 := ρ) (st := [.int v2, .ref 31]) dX1_make_40 mdX2_codeOfAll rfl mlX1_74 imX2_codeOfAll seX2_codeOfAll (rcv_of (q := (RX2, TX2, 8)) (Nat.le_of_ble_eq_true rfl) (okn hρ (Nat.le_of_ble_eq_true rfl)) rfl rfl) ⟨rfl, npX2_codeOfAll⟩ (Nat.le_of_ble_eq_true rfl) (Nat.le_refl _) (Nat.le_refl _) rfl (CALLi.mono h (fun v3 S3 _ h => ?_))
  refine AW_callVi (M := mX1_make) (pc := 43) (As := [.int v2, .int v3]) (ρ1 := ρ) (st := []) dX1_make_43 mdX1_addNode rfl mlX1_77 imX1_addNode seX1_addNode (rcv_of (q := (RX1, TX1, 15)) (Nat.le_of_ble_eq_true rfl) (okn hρ (Nat.le_of_ble_eq_true rfl)) rfl rfl) ⟨rfl, npX1_addNode⟩ (Nat.le_of_ble_eq_true rfl) (Nat.le_refl _) (Nat.le_refl _) rfl (CALLi.mono h (fun v4 S4 _ h => ?_))
  refine AW_pop dX1_make_46 rfl ?_
  refine AW_aload_n 0 (n := 0) rfl dX1_make_47 rfl ?_
  refine AW_get dX1_make_48 flX1_18 (Nat.le_of_ble_eq_true rfl) (okn hρ (Nat.le_of_ble_eq_true rfl)) rfl (v := .ref 43) (fvR (okR hρ 18 rfl)) ?_
  refine AW_iconst (v := 0) dX1_make_51 rfl ?_
  refine AW_iconst (v := 0) dX1_make_52 rfl ?_
  refine AW_iastore dX1_make_53 (Nat.le_of_ble_eq_true rfl) (okn hρ (Nat.le_of_ble_eq_true rfl)) rfl (show ¬ (_ ∨ _) by decide) (hF _ (List.mem_of_getElem? (i := 1) rfl)) (jx := 0) rfl ?_
  refine AW_iconst (v := 0) dX1_make_54 rfl ?_
  refine AW_istore_n (n := 2) (i := 2) rfl dX1_make_55 (Nat.le_of_ble_eq_true rfl) rfl ?_
  exact AW.sub [1, 0] rfl h
set_option maxRecDepth 20000 in
theorem eX1_linkLevel_22 {g : GX} {Q : St → Prop} {d : Nat} {ρ : Rs} {S : St} (hρ : Ok ρ) {x1 : Int32} {x2 : Int32} {x3 : Int32} (hF : ∀ k ∈ ([44] : List Nat), gF g k) (h : if x2 ≤ x3 then Q S else vp_in x3 481 ∧ (vp_in x3 480 ∧ (vp_in x3 480 ∧ (CALLv g (d + 1) mX1_linkNode [.ref 31, .int x1, .int ((S.1 50 x3.toNatClampNeg) ||| 8521760), .int (S.1 51 x3.toNatClampNeg)] ρ ρ (setI S 44 x3.toNatClampNeg (S.1 31 14)) (fun S1 => AW g ρ (QV Q) (d + 2) mX1_linkLevel 22 [(0, .ref 31), (1, .int x1), (2, .int x2), (3, .int (x3 + 1))] [] ρ S1))))) : AW g ρ (QV Q) (d + 2) mX1_linkLevel 22 [(0, .ref 31), (1, .int x1), (2, .int x2), (3, .int x3)] [] ρ S := by
  refine AW_iload_n 3 (n := 3) rfl dX1_linkLevel_22 rfl ?_
  refine AW_iload_n 2 (n := 2) rfl dX1_linkLevel_23 rfl ?_
  refine AW_icmp_ge dX1_linkLevel_24 rfl (iteM h (fun h => ?_) (fun h => ?_))
  · exact AW_retv dX1_linkLevel_69 rfl h
  · refine AW_aload_n 0 (n := 0) rfl dX1_linkLevel_27 rfl ?_
    refine AW_get dX1_linkLevel_28 flX1_22 (Nat.le_of_ble_eq_true rfl) (okn hρ (Nat.le_of_ble_eq_true rfl)) rfl (v := .ref 44) (fvR (okR hρ 19 rfl)) ?_
    refine AW_iload_n 3 (n := 3) rfl dX1_linkLevel_31 rfl ?_
    refine AW_aload_n 0 (n := 0) rfl dX1_linkLevel_32 rfl ?_
    refine AW_get dX1_linkLevel_33 flX1_63 (Nat.le_of_ble_eq_true rfl) (okn hρ (Nat.le_of_ble_eq_true rfl)) rfl (v := .int (S.1 31 14)) (fun _ => rfl) ?_
    refine AW_callSv (M := mX1_linkLevel) (pc := 36) (As := [.ref 44, .int x3, .int (S.1 31 14)]) (ρ1 := ρ) (st := []) dX1_linkLevel_36 mdX7_put mlX1_89 smX7_put ⟨rfl, npX7_put⟩ (Nat.le_of_ble_eq_true rfl) (Nat.le_refl _) (Nat.le_refl _) rfl (iX7_put hρ (Nat.le_of_ble_eq_true rfl) (okn hρ (Nat.le_of_ble_eq_true rfl)) rfl (hF _ (List.mem_of_getElem? (i := 0) rfl)) (jx := x3.toNatClampNeg) rfl (by decide) h.1 ?_)
    replace h := h.2
    refine AW_aload_n 0 (n := 0) rfl dX1_linkLevel_39 rfl ?_
    refine AW_iload_n 1 (n := 1) rfl dX1_linkLevel_40 rfl ?_
    refine AW_aload_n 0 (n := 0) rfl dX1_linkLevel_41 rfl ?_
    refine AW_get dX1_linkLevel_42 flX1_41 (Nat.le_of_ble_eq_true rfl) (okn hρ (Nat.le_of_ble_eq_true rfl)) rfl (v := .ref 50) (fvR (okR hρ 25 rfl)) ?_
    refine AW_iload_n 3 (n := 3) rfl dX1_linkLevel_45 rfl ?_
    refine AW_callSi (M := mX1_linkLevel) (pc := 46) (As := [.ref 50, .int x3]) (ρ1 := ρ) (st := [.int x1, .ref 31]) dX1_linkLevel_46 mdX7_get mlX1_110 smX7_get ⟨rfl, npX7_get⟩ (Nat.le_of_ble_eq_true rfl) (Nat.le_refl _) (Nat.le_refl _) rfl (iX7_get hρ (Nat.le_of_ble_eq_true rfl) (okn hρ (Nat.le_of_ble_eq_true rfl)) rfl (by decide) h.1 (v := (S.1 50 x3.toNatClampNeg)) rfl ?_)
    replace h := h.2
    refine AW_ldc (v := 8521760) dX1_linkLevel_49 kcX1_114 ?_
    refine AW_ior dX1_linkLevel_51 ?_
    refine AW_aload_n 0 (n := 0) rfl dX1_linkLevel_52 rfl ?_
    refine AW_get dX1_linkLevel_53 flX1_44 (Nat.le_of_ble_eq_true rfl) (okn hρ (Nat.le_of_ble_eq_true rfl)) rfl (v := .ref 51) (fvR (okR hρ 26 rfl)) ?_
    refine AW_iload_n 3 (n := 3) rfl dX1_linkLevel_56 rfl ?_
    refine AW_callSi (M := mX1_linkLevel) (pc := 57) (As := [.ref 51, .int x3]) (ρ1 := ρ) (st := [.int ((S.1 50 x3.toNatClampNeg) ||| 8521760), .int x1, .ref 31]) dX1_linkLevel_57 mdX7_get mlX1_110 smX7_get ⟨rfl, npX7_get⟩ (Nat.le_of_ble_eq_true rfl) (Nat.le_refl _) (Nat.le_refl _) rfl (iX7_get hρ (Nat.le_of_ble_eq_true rfl) (okn hρ (Nat.le_of_ble_eq_true rfl)) rfl (by decide) h.1 (v := (S.1 51 x3.toNatClampNeg)) rfl ?_)
    replace h := h.2
    refine AW_callVv (M := mX1_linkLevel) (pc := 60) (As := [.int x1, .int ((S.1 50 x3.toNatClampNeg) ||| 8521760), .int (S.1 51 x3.toNatClampNeg)]) (ρ1 := ρ) (st := []) dX1_linkLevel_60 mdX1_linkNode rfl mlX1_115 imX1_linkNode seX1_linkNode (rcv_of (q := (RX1, TX1, 15)) (Nat.le_of_ble_eq_true rfl) (okn hρ (Nat.le_of_ble_eq_true rfl)) rfl rfl) ⟨rfl, npX1_linkNode⟩ (Nat.le_of_ble_eq_true rfl) (Nat.le_refl _) (Nat.le_refl _) rfl (CALLv.mono h (fun S1 _ h => ?_))
    refine AW_iinc 3 (v := x3 + 1) dX1_linkLevel_63 rfl rfl (Nat.le_of_ble_eq_true rfl) rfl ?_
    refine AW_goto (tgt := 22) dX1_linkLevel_66 rfl ?_
    exact AW.sub [1, 2, 3, 0] rfl h
set_option maxRecDepth 20000 in
theorem eX1_linkLevel {g : GX} {Q : St → Prop} {d : Nat} {ρ : Rs} {S : St} (hρ : Ok ρ) {x1 : Int32} (h : CALLv g (d + 1) mJ7_fill_53178 [.ref 52, .int (-1)] ρ ρ S (fun S1 => vp_in (x1 + 1) 5 ∧ (¬ (S1.1 43 ((x1 + 1).toNatClampNeg)) < 0 ∧ (¬ 480 < (S1.1 43 ((x1 + 1).toNatClampNeg)) ∧ (vp_in x1 5 ∧ (¬ (S1.1 43 x1.toNatClampNeg) < 0 ∧ (¬ 480 < (S1.1 43 x1.toNatClampNeg) ∧ (AW g ρ (QV Q) (d + 2) mX1_linkLevel 22 [(0, .ref 31), (1, .int x1), (2, .int (S1.1 43 ((x1 + 1).toNatClampNeg))), (3, .int (S1.1 43 x1.toNatClampNeg))] [] ρ S1)))))))) : CALLv g (d + 2) mX1_linkLevel [.ref 31, .int x1] ρ ρ S Q := by
  refine CALL.of mdX1_linkLevel.2.2.2.2 (Nat.le_of_ble_eq_true rfl) (Nat.le_refl _) (Nat.le_refl _) ?_
  show AW g ρ (QV Q) (d + 2) mX1_linkLevel 0 [(0, .ref 31), (1, .int x1)] [] ρ S
  refine AW_aload_n 0 (n := 0) rfl dX1_linkLevel_0 rfl ?_
  refine AW_get dX1_linkLevel_1 flX1_47 (Nat.le_of_ble_eq_true rfl) (okn hρ (Nat.le_of_ble_eq_true rfl)) rfl (v := .ref 52) (fvR (okR hρ 27 rfl)) ?_
  refine AW_iconst (v := (-1)) dX1_linkLevel_4 rfl ?_
  refine AW_callSv (M := mX1_linkLevel) (pc := 5) (As := [.ref 52, .int (-1)]) (ρ1 := ρ) (st := []) dX1_linkLevel_5 mdJ7_fill_53178 mlX1_104 smJ7_fill_53178 ⟨rfl, npJ7_fill_53178⟩ (Nat.le_of_ble_eq_true rfl) (Nat.le_refl _) (Nat.le_refl _) rfl (CALLv.mono h (fun S1 _ h => ?_))
  refine AW_aload_n 0 (n := 0) rfl dX1_linkLevel_8 rfl ?_
  refine AW_iload_n 1 (n := 1) rfl dX1_linkLevel_9 rfl ?_
  refine AW_iconst (v := 1) dX1_linkLevel_10 rfl ?_
  refine AW_iadd dX1_linkLevel_11 ?_
  refine AW_callVi (M := mX1_linkLevel) (pc := 12) (As := [.int (x1 + 1)]) (ρ1 := ρ) (st := []) dX1_linkLevel_12 mdX1_firstNode rfl mlX1_85 imX1_firstNode seX1_firstNode (rcv_of (q := (RX1, TX1, 15)) (Nat.le_of_ble_eq_true rfl) (okn hρ (Nat.le_of_ble_eq_true rfl)) rfl rfl) ⟨rfl, npX1_firstNode⟩ (Nat.le_of_ble_eq_true rfl) (Nat.le_refl _) (Nat.le_refl _) rfl (iX1_firstNode hρ h.1 h.2.1 h.2.2.1 (v := (S1.1 43 ((x1 + 1).toNatClampNeg))) rfl ?_)
  replace h := h.2.2.2
  refine AW_istore_n (n := 2) (i := 2) rfl dX1_linkLevel_15 (Nat.le_of_ble_eq_true rfl) rfl ?_
  refine AW_aload_n 1 (n := 0) rfl dX1_linkLevel_16 rfl ?_
  refine AW_iload_n 2 (n := 1) rfl dX1_linkLevel_17 rfl ?_
  refine AW_callVi (M := mX1_linkLevel) (pc := 18) (As := [.int x1]) (ρ1 := ρ) (st := []) dX1_linkLevel_18 mdX1_firstNode rfl mlX1_85 imX1_firstNode seX1_firstNode (rcv_of (q := (RX1, TX1, 15)) (Nat.le_of_ble_eq_true rfl) (okn hρ (Nat.le_of_ble_eq_true rfl)) rfl rfl) ⟨rfl, npX1_firstNode⟩ (Nat.le_of_ble_eq_true rfl) (Nat.le_refl _) (Nat.le_refl _) rfl (iX1_firstNode hρ h.1 h.2.1 h.2.2.1 (v := (S1.1 43 x1.toNatClampNeg)) rfl ?_)
  replace h := h.2.2.2
  refine AW_istore_n (n := 3) (i := 3) rfl dX1_linkLevel_21 (Nat.le_of_ble_eq_true rfl) rfl ?_
  exact AW.sub [2, 3, 1, 0] rfl h
set_option maxRecDepth 20000 in
theorem eX1_linkNode_22 {g : GX} {Q : St → Prop} {d : Nat} {ρ : Rs} {S : St} (hρ : Ok ρ) {x2 : Int32} {x3 : Int32} {x4 : Int32} {x5 : Int32} (h : if x4 ≤ x5 then Q S else vp_in x5 320 ∧ (if ((x2 - (S.1 35 x5.toNatClampNeg)) &&& 8521760) = 8521760 then vp_in x5 320 ∧ (CALLv g (d + 1) mX1_link [.ref 31, .int x5, .int ((x2 - (S.1 35 x5.toNatClampNeg)) &&& (-8521761)), .int (x3 - (S.1 36 x5.toNatClampNeg))] ρ ρ S (fun S1 => AW g ρ (QV Q) (d + 2) mX1_linkNode 22 [(0, .ref 31), (2, .int x2), (3, .int x3), (4, .int x4), (5, .int (x5 + 1))] [] ρ S1)) else AW g ρ (QV Q) (d + 2) mX1_linkNode 22 [(0, .ref 31), (2, .int x2), (3, .int x3), (4, .int x4), (5, .int (x5 + 1))] [] ρ S)) : AW g ρ (QV Q) (d + 2) mX1_linkNode 22 [(0, .ref 31), (2, .int x2), (3, .int x3), (4, .int x4), (5, .int x5)] [] ρ S := by
  refine AW_iload 4 dX1_linkNode_22 rfl ?_
  refine AW_iload 3 dX1_linkNode_24 rfl ?_
  refine AW_icmp_ge dX1_linkNode_26 rfl (iteM h (fun h => ?_) (fun h => ?_))
  · exact AW_retv dX1_linkNode_82 rfl h
  · refine AW_iload_n 1 (n := 2) rfl dX1_linkNode_29 rfl ?_
    refine AW_aload_n 0 (n := 0) rfl dX1_linkNode_30 rfl ?_
    refine AW_get dX1_linkNode_31 flX1_12 (Nat.le_of_ble_eq_true rfl) (okn hρ (Nat.le_of_ble_eq_true rfl)) rfl (v := .ref 32) (fvR (okR hρ 17 rfl)) ?_
    refine AW_get dX1_linkNode_34 flX1_122 (Nat.le_of_ble_eq_true rfl) (okn hρ (Nat.le_of_ble_eq_true rfl)) rfl (v := .ref 35) (fvR (okR hρ 31 rfl)) ?_
    refine AW_iload 4 dX1_linkNode_37 rfl ?_
    refine AW_iaload dX1_linkNode_39 (Nat.le_of_ble_eq_true rfl) (okn hρ (Nat.le_of_ble_eq_true rfl)) rfl h.1 (v := S.1 35 x5.toNatClampNeg) rfl ?_
    replace h := h.2
    refine AW_isub dX1_linkNode_40 ?_
    refine AW_istore dX1_linkNode_41 (Nat.le_of_ble_eq_true rfl) rfl ?_
    refine AW_iload 0 dX1_linkNode_43 rfl ?_
    refine AW_ldc (v := 8521760) dX1_linkNode_45 kcX1_114 ?_
    refine AW_iand dX1_linkNode_47 ?_
    refine AW_ldc (v := 8521760) dX1_linkNode_48 kcX1_114 ?_
    refine AW_icmp_ne dX1_linkNode_50 rfl (iteM h (fun h => ?_) (fun h => ?_))
    · refine AW_aload_n 1 (n := 0) rfl dX1_linkNode_53 rfl ?_
      refine AW_iload 5 dX1_linkNode_54 rfl ?_
      refine AW_iload 0 dX1_linkNode_56 rfl ?_
      refine AW_ldc (v := (-8521761)) dX1_linkNode_58 kcX1_125 ?_
      refine AW_iand dX1_linkNode_60 ?_
      refine AW_iload_n 3 (n := 3) rfl dX1_linkNode_61 rfl ?_
      refine AW_aload_n 1 (n := 0) rfl dX1_linkNode_62 rfl ?_
      refine AW_get dX1_linkNode_63 flX1_12 (Nat.le_of_ble_eq_true rfl) (okn hρ (Nat.le_of_ble_eq_true rfl)) rfl (v := .ref 32) (fvR (okR hρ 17 rfl)) ?_
      refine AW_get dX1_linkNode_66 flX1_126 (Nat.le_of_ble_eq_true rfl) (okn hρ (Nat.le_of_ble_eq_true rfl)) rfl (v := .ref 36) (fvR (okR hρ 32 rfl)) ?_
      refine AW_iload 5 dX1_linkNode_69 rfl ?_
      refine AW_iaload dX1_linkNode_71 (Nat.le_of_ble_eq_true rfl) (okn hρ (Nat.le_of_ble_eq_true rfl)) rfl h.1 (v := S.1 36 x5.toNatClampNeg) rfl ?_
      replace h := h.2
      refine AW_isub dX1_linkNode_72 ?_
      refine AW_callVv (M := mX1_linkNode) (pc := 73) (As := [.int x5, .int ((x2 - (S.1 35 x5.toNatClampNeg)) &&& (-8521761)), .int (x3 - (S.1 36 x5.toNatClampNeg))]) (ρ1 := ρ) (st := []) dX1_linkNode_73 mdX1_link rfl mlX1_127 imX1_link seX1_link (rcv_of (q := (RX1, TX1, 15)) (Nat.le_of_ble_eq_true rfl) (okn hρ (Nat.le_of_ble_eq_true rfl)) rfl rfl) ⟨rfl, npX1_link⟩ (Nat.le_of_ble_eq_true rfl) (Nat.le_refl _) (Nat.le_refl _) rfl (CALLv.mono h (fun S1 _ h => ?_))
      refine AW_iinc 5 (v := x5 + 1) dX1_linkNode_76 rfl rfl (Nat.le_of_ble_eq_true rfl) rfl ?_
      refine AW_goto (tgt := 22) dX1_linkNode_79 rfl ?_
      exact AW.sub [2, 3, 4, 5, 0] rfl h
    · refine AW_iinc 5 (v := x5 + 1) dX1_linkNode_76 rfl rfl (Nat.le_of_ble_eq_true rfl) rfl ?_
      refine AW_goto (tgt := 22) dX1_linkNode_79 rfl ?_
      exact AW.sub [2, 3, 4, 5, 0] rfl h
set_option maxRecDepth 20000 in
theorem eX1_linkNode {g : GX} {Q : St → Prop} {d : Nat} {ρ : Rs} {S : St} (hρ : Ok ρ) {x1 : Int32} {x2 : Int32} {x3 : Int32} (h : vp_in (x1 + 1) 5 ∧ (¬ (S.1 33 ((x1 + 1).toNatClampNeg)) < 0 ∧ (¬ 320 < (S.1 33 ((x1 + 1).toNatClampNeg)) ∧ (vp_in x1 5 ∧ (¬ (S.1 33 x1.toNatClampNeg) < 0 ∧ (¬ 320 < (S.1 33 x1.toNatClampNeg) ∧ (AW g ρ (QV Q) (d + 2) mX1_linkNode 22 [(0, .ref 31), (2, .int x2), (3, .int x3), (4, .int (S.1 33 ((x1 + 1).toNatClampNeg))), (5, .int (S.1 33 x1.toNatClampNeg))] [] ρ S))))))) : CALLv g (d + 2) mX1_linkNode [.ref 31, .int x1, .int x2, .int x3] ρ ρ S Q := by
  refine CALL.of mdX1_linkNode.2.2.2.2 (Nat.le_of_ble_eq_true rfl) (Nat.le_refl _) (Nat.le_refl _) ?_
  show AW g ρ (QV Q) (d + 2) mX1_linkNode 0 [(0, .ref 31), (1, .int x1), (2, .int x2), (3, .int x3)] [] ρ S
  refine AW_aload_n 0 (n := 0) rfl dX1_linkNode_0 rfl ?_
  refine AW_get dX1_linkNode_1 flX1_12 (Nat.le_of_ble_eq_true rfl) (okn hρ (Nat.le_of_ble_eq_true rfl)) rfl (v := .ref 32) (fvR (okR hρ 17 rfl)) ?_
  refine AW_iload_n 1 (n := 1) rfl dX1_linkNode_4 rfl ?_
  refine AW_iconst (v := 1) dX1_linkNode_5 rfl ?_
  refine AW_iadd dX1_linkNode_6 ?_
  refine AW_callVi (M := mX1_linkNode) (pc := 7) (As := [.int (x1 + 1)]) (ρ1 := ρ) (st := []) dX1_linkNode_7 mdX2_firstOf rfl mlX1_119 imX2_firstOf seX2_firstOf (rcv_of (q := (RX2, TX2, 8)) (Nat.le_of_ble_eq_true rfl) (okn hρ (Nat.le_of_ble_eq_true rfl)) rfl rfl) ⟨rfl, npX2_firstOf⟩ (Nat.le_of_ble_eq_true rfl) (Nat.le_refl _) (Nat.le_refl _) rfl (iX2_firstOf hρ h.1 h.2.1 h.2.2.1 (v := (S.1 33 ((x1 + 1).toNatClampNeg))) rfl ?_)
  replace h := h.2.2.2
  refine AW_istore dX1_linkNode_10 (Nat.le_of_ble_eq_true rfl) rfl ?_
  refine AW_aload_n 1 (n := 0) rfl dX1_linkNode_12 rfl ?_
  refine AW_get dX1_linkNode_13 flX1_12 (Nat.le_of_ble_eq_true rfl) (okn hρ (Nat.le_of_ble_eq_true rfl)) rfl (v := .ref 32) (fvR (okR hρ 17 rfl)) ?_
  refine AW_iload_n 2 (n := 1) rfl dX1_linkNode_16 rfl ?_
  refine AW_callVi (M := mX1_linkNode) (pc := 17) (As := [.int x1]) (ρ1 := ρ) (st := []) dX1_linkNode_17 mdX2_firstOf rfl mlX1_119 imX2_firstOf seX2_firstOf (rcv_of (q := (RX2, TX2, 8)) (Nat.le_of_ble_eq_true rfl) (okn hρ (Nat.le_of_ble_eq_true rfl)) rfl rfl) ⟨rfl, npX2_firstOf⟩ (Nat.le_of_ble_eq_true rfl) (Nat.le_refl _) (Nat.le_refl _) rfl (iX2_firstOf hρ h.1 h.2.1 h.2.2.1 (v := (S.1 33 x1.toNatClampNeg)) rfl ?_)
  replace h := h.2.2.2
  refine AW_istore dX1_linkNode_20 (Nat.le_of_ble_eq_true rfl) rfl ?_
  exact AW.sub [2, 4, 5, 1, 0] rfl h
set_option maxRecDepth 20000 in
theorem eX1_link_51 {g : GX} {Q : St → Prop} {d : Nat} {ρ : Rs} {S : St} (hρ : Ok ρ) {x1 : Int32} {x3 : Int32} (hF : ∀ k ∈ ([45, 46, 31] : List Nat), gF g k) (h : vp_in (S.1 31 14) 4800 ∧ (vp_in x3 480 ∧ (vp_in (S.1 31 14) 4800 ∧ (Q (setI (setI (setI S 45 ((S.1 31 14).toNatClampNeg) x1) 46 ((S.1 31 14).toNatClampNeg) (S.1 52 x3.toNatClampNeg)) 31 14 ((S.1 31 14) + 1)))))) : AW g ρ (QV Q) (d + 1) mX1_link 51 [(0, .ref 31), (1, .int x1), (3, .int x3)] [] ρ S := by
  refine AW_aload_n 0 (n := 0) rfl dX1_link_51 rfl ?_
  refine AW_get dX1_link_52 flX1_25 (Nat.le_of_ble_eq_true rfl) (okn hρ (Nat.le_of_ble_eq_true rfl)) rfl (v := .ref 45) (fvR (okR hρ 20 rfl)) ?_
  refine AW_aload_n 0 (n := 0) rfl dX1_link_55 rfl ?_
  refine AW_get dX1_link_56 flX1_63 (Nat.le_of_ble_eq_true rfl) (okn hρ (Nat.le_of_ble_eq_true rfl)) rfl (v := .int (S.1 31 14)) (fun _ => rfl) ?_
  refine AW_iload_n 1 (n := 1) rfl dX1_link_59 rfl ?_
  refine AW_iastore dX1_link_60 (Nat.le_of_ble_eq_true rfl) (okn hρ (Nat.le_of_ble_eq_true rfl)) rfl h.1 (hF _ (List.mem_of_getElem? (i := 0) rfl)) (jx := (S.1 31 14).toNatClampNeg) rfl ?_
  replace h := h.2
  refine AW_aload_n 0 (n := 0) rfl dX1_link_61 rfl ?_
  refine AW_get dX1_link_62 flX1_28 (Nat.le_of_ble_eq_true rfl) (okn hρ (Nat.le_of_ble_eq_true rfl)) rfl (v := .ref 46) (fvR (okR hρ 21 rfl)) ?_
  refine AW_aload_n 0 (n := 0) rfl dX1_link_65 rfl ?_
  refine AW_get dX1_link_66 flX1_63 (Nat.le_of_ble_eq_true rfl) (okn hρ (Nat.le_of_ble_eq_true rfl)) rfl (v := .int (S.1 31 14)) (fun _ => rfl) ?_
  refine AW_aload_n 0 (n := 0) rfl dX1_link_69 rfl ?_
  refine AW_get dX1_link_70 flX1_47 (Nat.le_of_ble_eq_true rfl) (okn hρ (Nat.le_of_ble_eq_true rfl)) rfl (v := .ref 52) (fvR (okR hρ 27 rfl)) ?_
  refine AW_iload_n 2 (n := 3) rfl dX1_link_73 rfl ?_
  refine AW_iaload dX1_link_74 (Nat.le_of_ble_eq_true rfl) (okn hρ (Nat.le_of_ble_eq_true rfl)) rfl h.1 (v := S.1 52 x3.toNatClampNeg) rfl ?_
  replace h := h.2
  refine AW_iastore dX1_link_75 (Nat.le_of_ble_eq_true rfl) (okn hρ (Nat.le_of_ble_eq_true rfl)) rfl h.1 (hF _ (List.mem_of_getElem? (i := 1) rfl)) (jx := (S.1 31 14).toNatClampNeg) rfl ?_
  replace h := h.2
  refine AW_aload_n 0 (n := 0) rfl dX1_link_76 rfl ?_
  refine AW_dup dX1_link_77 rfl ?_
  refine AW_get dX1_link_78 flX1_63 (Nat.le_of_ble_eq_true rfl) (okn hρ (Nat.le_of_ble_eq_true rfl)) rfl (v := .int (S.1 31 14)) (fun _ => rfl) ?_
  refine AW_iconst (v := 1) dX1_link_81 rfl ?_
  refine AW_iadd dX1_link_82 ?_
  refine AW_put dX1_link_83 flX1_63 fp_1_14 (Nat.le_of_ble_eq_true rfl) (okn hρ (Nat.le_of_ble_eq_true rfl)) rfl (fun _ => rfl) (fun _ => rfl) rfl rfl rfl rfl (Fr.setI _ _ _ rfl) (fun _ _ => rfl) (ρ2 := ρ) (S2 := setI (setI (setI S 45 ((S.1 31 14).toNatClampNeg) x1) 46 ((S.1 31 14).toNatClampNeg) (S.1 52 x3.toNatClampNeg)) 31 14 ((S.1 31 14) + 1)) (fun _ => rfl) (fun _ _ _ q1 _ => fvI_o q1) (hF _ (List.mem_of_getElem? (i := 2) rfl)) ?_
  exact AW_retv dX1_link_86 rfl h
set_option maxRecDepth 20000 in
theorem eX1_link {g : GX} {Q : St → Prop} {d : Nat} {ρ : Rs} {S : St} (hρ : Ok ρ) {x1 : Int32} {x2 : Int32} {x3 : Int32} (hF : ∀ k ∈ ([52] : List Nat), gF g k) (h : if (S.1 31 14) < 0 then Q S else if (4800 : Int32) ≤ (S.1 31 14) then Q S else if x3 < 0 then Q S else if x3 < 480 then vp_in x3 480 ∧ (if (S.1 52 x3.toNatClampNeg) = (-1) then CALLi g d mX1_addNode [.ref 31, .int x2, .int x3] ρ ρ S (fun v1 S1 => vp_in x3 480 ∧ (AW g ρ (QV Q) (d + 1) mX1_link 51 [(0, .ref 31), (1, .int x1), (3, .int x3)] [] ρ (setI S1 52 x3.toNatClampNeg v1))) else AW g ρ (QV Q) (d + 1) mX1_link 51 [(0, .ref 31), (1, .int x1), (3, .int x3)] [] ρ S) else Q S) : CALLv g (d + 1) mX1_link [.ref 31, .int x1, .int x2, .int x3] ρ ρ S Q := by
  refine CALL.of mdX1_link.2.2.2.2 (Nat.le_of_ble_eq_true rfl) (Nat.le_refl _) (Nat.le_refl _) ?_
  show AW g ρ (QV Q) (d + 1) mX1_link 0 [(0, .ref 31), (1, .int x1), (2, .int x2), (3, .int x3)] [] ρ S
  refine AW_aload_n 0 (n := 0) rfl dX1_link_0 rfl ?_
  refine AW_get dX1_link_1 flX1_63 (Nat.le_of_ble_eq_true rfl) (okn hρ (Nat.le_of_ble_eq_true rfl)) rfl (v := .int (S.1 31 14)) (fun _ => rfl) ?_
  refine AW_if_lt dX1_link_4 rfl (iteM h (fun h => ?_) (fun h => ?_))
  · exact AW_retv dX1_link_28 rfl h
  · refine AW_aload_n 0 (n := 0) rfl dX1_link_7 rfl ?_
    refine AW_get dX1_link_8 flX1_63 (Nat.le_of_ble_eq_true rfl) (okn hρ (Nat.le_of_ble_eq_true rfl)) rfl (v := .int (S.1 31 14)) (fun _ => rfl) ?_
    refine AW_sipush (v := 4800) dX1_link_11 rfl ?_
    refine AW_icmp_ge dX1_link_14 rfl (iteM h (fun h => ?_) (fun h => ?_))
    · exact AW_retv dX1_link_28 rfl h
    · refine AW_iload_n 3 (n := 3) rfl dX1_link_17 rfl ?_
      refine AW_if_lt dX1_link_18 rfl (iteM h (fun h => ?_) (fun h => ?_))
      · exact AW_retv dX1_link_28 rfl h
      · refine AW_iload_n 3 (n := 3) rfl dX1_link_21 rfl ?_
        refine AW_sipush (v := 480) dX1_link_22 rfl ?_
        refine AW_icmp_lt dX1_link_25 rfl (iteM h (fun h => ?_) (fun h => ?_))
        · refine AW_aload_n 0 (n := 0) rfl dX1_link_29 rfl ?_
          refine AW_get dX1_link_30 flX1_47 (Nat.le_of_ble_eq_true rfl) (okn hρ (Nat.le_of_ble_eq_true rfl)) rfl (v := .ref 52) (fvR (okR hρ 27 rfl)) ?_
          refine AW_iload_n 3 (n := 3) rfl dX1_link_33 rfl ?_
          refine AW_iaload dX1_link_34 (Nat.le_of_ble_eq_true rfl) (okn hρ (Nat.le_of_ble_eq_true rfl)) rfl h.1 (v := S.1 52 x3.toNatClampNeg) rfl ?_
          replace h := h.2
          refine AW_iconst (v := (-1)) dX1_link_35 rfl ?_
          refine AW_icmp_ne dX1_link_36 rfl (iteM h (fun h => ?_) (fun h => ?_))
          · refine AW_aload_n 0 (n := 0) rfl dX1_link_39 rfl ?_
            refine AW_get dX1_link_40 flX1_47 (Nat.le_of_ble_eq_true rfl) (okn hρ (Nat.le_of_ble_eq_true rfl)) rfl (v := .ref 52) (fvR (okR hρ 27 rfl)) ?_
            refine AW_iload_n 3 (n := 3) rfl dX1_link_43 rfl ?_
            refine AW_aload_n 0 (n := 0) rfl dX1_link_44 rfl ?_
            refine AW_iload_n 2 (n := 2) rfl dX1_link_45 rfl ?_
            refine AW_iload_n 3 (n := 3) rfl dX1_link_46 rfl ?_
            refine AW_callVi (M := mX1_link) (pc := 47) (As := [.int x2, .int x3]) (ρ1 := ρ) (st := [.int x3, .ref 52]) dX1_link_47 mdX1_addNode rfl mlX1_77 imX1_addNode seX1_addNode (rcv_of (q := (RX1, TX1, 15)) (Nat.le_of_ble_eq_true rfl) (okn hρ (Nat.le_of_ble_eq_true rfl)) rfl rfl) ⟨rfl, npX1_addNode⟩ (Nat.le_of_ble_eq_true rfl) (Nat.le_refl _) (Nat.le_refl _) rfl (CALLi.mono h (fun v1 S1 _ h => ?_))
            refine AW_iastore dX1_link_50 (Nat.le_of_ble_eq_true rfl) (okn hρ (Nat.le_of_ble_eq_true rfl)) rfl h.1 (hF _ (List.mem_of_getElem? (i := 0) rfl)) (jx := x3.toNatClampNeg) rfl ?_
            replace h := h.2
            exact AW.sub [0, 1, 3] rfl h
          · exact AW.sub [0, 1, 3] rfl h
        · exact AW_retv dX1_link_28 rfl h
set_option maxRecDepth 20000 in
theorem eX1_addNode {g : GX} {Q : Int32 → St → Prop} {d : Nat} {ρ : Rs} {S : St} (hρ : Ok ρ) {x1 : Int32} {x2 : Int32} (hF : ∀ k ∈ ([50, 51, 31] : List Nat), gF g k) (h : ¬ (S.1 31 2) < 0 ∧ (¬ 479 < (S.1 31 2) ∧ (vp_in (S.1 31 2) 480 ∧ (vp_in (S.1 31 2) 480 ∧ (Q (S.1 31 2) (setI (setI (setI S 50 ((S.1 31 2).toNatClampNeg) x1) 51 ((S.1 31 2).toNatClampNeg) x2) 31 2 ((S.1 31 2) + 1))))))) : CALLi g (d + 1) mX1_addNode [.ref 31, .int x1, .int x2] ρ ρ S Q := by
  refine CALL.of mdX1_addNode.2.2.2.2 (Nat.le_of_ble_eq_true rfl) (Nat.le_refl _) (Nat.le_refl _) ?_
  show AW g ρ (QI Q) (d + 1) mX1_addNode 0 [(0, .ref 31), (1, .int x1), (2, .int x2)] [] ρ S
  refine AW_aload_n 0 (n := 0) rfl dX1_addNode_0 rfl ?_
  refine AW_get dX1_addNode_1 flX1_60 (Nat.le_of_ble_eq_true rfl) (okn hρ (Nat.le_of_ble_eq_true rfl)) rfl (v := .int (S.1 31 2)) (fun _ => rfl) ?_
  refine AW_sipush (v := 479) dX1_addNode_4 rfl ?_
  refine AW_callSi (M := mX1_addNode) (pc := 7) (As := [.int (S.1 31 2), .int 479]) (ρ1 := ρ) (st := []) dX1_addNode_7 mdX7_cut mlX1_130 smX7_cut ⟨rfl, npX7_cut⟩ (Nat.le_of_ble_eq_true rfl) (Nat.le_refl _) (Nat.le_refl _) rfl (iX7_cut hρ h.1 h.2.1 (v := (S.1 31 2)) rfl ?_)
  replace h := h.2.2
  refine AW_istore_n (n := 3) (i := 3) rfl dX1_addNode_10 (Nat.le_of_ble_eq_true rfl) rfl ?_
  refine AW_aload_n 1 (n := 0) rfl dX1_addNode_11 rfl ?_
  refine AW_get dX1_addNode_12 flX1_41 (Nat.le_of_ble_eq_true rfl) (okn hρ (Nat.le_of_ble_eq_true rfl)) rfl (v := .ref 50) (fvR (okR hρ 25 rfl)) ?_
  refine AW_iload_n 0 (n := 3) rfl dX1_addNode_15 rfl ?_
  refine AW_iload_n 2 (n := 1) rfl dX1_addNode_16 rfl ?_
  refine AW_iastore dX1_addNode_17 (Nat.le_of_ble_eq_true rfl) (okn hρ (Nat.le_of_ble_eq_true rfl)) rfl h.1 (hF _ (List.mem_of_getElem? (i := 0) rfl)) (jx := (S.1 31 2).toNatClampNeg) rfl ?_
  replace h := h.2
  refine AW_aload_n 1 (n := 0) rfl dX1_addNode_18 rfl ?_
  refine AW_get dX1_addNode_19 flX1_44 (Nat.le_of_ble_eq_true rfl) (okn hρ (Nat.le_of_ble_eq_true rfl)) rfl (v := .ref 51) (fvR (okR hρ 26 rfl)) ?_
  refine AW_iload_n 0 (n := 3) rfl dX1_addNode_22 rfl ?_
  refine AW_iload_n 3 (n := 2) rfl dX1_addNode_23 rfl ?_
  refine AW_iastore dX1_addNode_24 (Nat.le_of_ble_eq_true rfl) (okn hρ (Nat.le_of_ble_eq_true rfl)) rfl h.1 (hF _ (List.mem_of_getElem? (i := 1) rfl)) (jx := (S.1 31 2).toNatClampNeg) rfl ?_
  replace h := h.2
  refine AW_aload_n 1 (n := 0) rfl dX1_addNode_25 rfl ?_
  refine AW_iload_n 0 (n := 3) rfl dX1_addNode_26 rfl ?_
  refine AW_iconst (v := 1) dX1_addNode_27 rfl ?_
  refine AW_iadd dX1_addNode_28 ?_
  refine AW_put dX1_addNode_29 flX1_60 fp_1_2 (Nat.le_of_ble_eq_true rfl) (okn hρ (Nat.le_of_ble_eq_true rfl)) rfl (fun _ => rfl) (fun _ => rfl) rfl rfl rfl rfl (Fr.setI _ _ _ rfl) (fun _ _ => rfl) (ρ2 := ρ) (S2 := setI (setI (setI S 50 ((S.1 31 2).toNatClampNeg) x1) 51 ((S.1 31 2).toNatClampNeg) x2) 31 2 ((S.1 31 2) + 1)) (fun _ => rfl) (fun _ _ _ q1 _ => fvI_o q1) (hF _ (List.mem_of_getElem? (i := 2) rfl)) ?_
  refine AW_iload_n 0 (n := 3) rfl dX1_addNode_32 rfl ?_
  exact AW_reti dX1_addNode_33 rfl h
set_option maxRecDepth 20000 in
theorem eX1_sumAhead_50 {g : GX} {Q : St → Prop} {d : Nat} {ρ : Rs} {S : St} (hρ : Ok ρ) {x1 : Int32} {x2 : Int64} {x4 : Int64} {x6 : Int32} {x7 : Int32} (hF : ∀ k ∈ ([47, 48] : List Nat), gF g k) (h : if x6 ≤ x7 then vp_in x1 480 ∧ (vp_in x1 480 ∧ (AW g ρ (QV Q) (d + 3) mX1_sumAhead 13 [(0, .ref 31), (1, .int (x1 + (-1)))] [] ρ (setL (setL S 47 x1.toNatClampNeg x2) 48 x1.toNatClampNeg x4))) else vp_in x7 4800 ∧ (if (S.1 46 x7.toNatClampNeg) < 0 then AW g ρ (QV Q) (d + 3) mX1_sumAhead 50 [(0, .ref 31), (1, .int x1), (2, .long x2), (4, .long x4), (6, .int x6), (7, .int (x7 + 1))] [] ρ S else if (480 : Int32) ≤ (S.1 46 x7.toNatClampNeg) then AW g ρ (QV Q) (d + 3) mX1_sumAhead 50 [(0, .ref 31), (1, .int x1), (2, .long x2), (4, .long x4), (6, .int x6), (7, .int (x7 + 1))] [] ρ S else vp_in (S.1 46 x7.toNatClampNeg) 480 ∧ (vp_in x7 4800 ∧ (vp_in (S.1 45 x7.toNatClampNeg) 320 ∧ (vp_in (S.1 46 x7.toNatClampNeg) 480 ∧ (AW g ρ (QV Q) (d + 3) mX1_sumAhead 50 [(0, .ref 31), (1, .int x1), (2, .long (x2 + (S.2 47 ((S.1 46 x7.toNatClampNeg).toNatClampNeg)))), (4, .long (x4 + ((S.2 38 ((S.1 45 x7.toNatClampNeg).toNatClampNeg)) * (S.2 48 ((S.1 46 x7.toNatClampNeg).toNatClampNeg))))), (6, .int x6), (7, .int (x7 + 1))] [] ρ S)))))) : AW g ρ (QV Q) (d + 3) mX1_sumAhead 50 [(0, .ref 31), (1, .int x1), (2, .long x2), (4, .long x4), (6, .int x6), (7, .int x7)] [] ρ S := by
  refine AW_iload 5 dX1_sumAhead_50 rfl ?_
  refine AW_iload 4 dX1_sumAhead_52 rfl ?_
  refine AW_icmp_ge dX1_sumAhead_54 rfl (iteM h (fun h => ?_) (fun h => ?_))
  · refine AW_aload_n 0 (n := 0) rfl dX1_sumAhead_123 rfl ?_
    refine AW_get dX1_sumAhead_124 flX1_31 (Nat.le_of_ble_eq_true rfl) (okn hρ (Nat.le_of_ble_eq_true rfl)) rfl (v := .ref 47) (fvR (okR hρ 22 rfl)) ?_
    refine AW_iload_n 1 (n := 1) rfl dX1_sumAhead_127 rfl ?_
    refine AW_lload_n 2 (n := 2) rfl dX1_sumAhead_128 rfl ?_
    refine AW_lastore dX1_sumAhead_129 (Nat.le_of_ble_eq_true rfl) (okn hρ (Nat.le_of_ble_eq_true rfl)) rfl h.1 (hF _ (List.mem_of_getElem? (i := 0) rfl)) (jx := x1.toNatClampNeg) rfl ?_
    replace h := h.2
    refine AW_aload_n 0 (n := 0) rfl dX1_sumAhead_130 rfl ?_
    refine AW_get dX1_sumAhead_131 flX1_35 (Nat.le_of_ble_eq_true rfl) (okn hρ (Nat.le_of_ble_eq_true rfl)) rfl (v := .ref 48) (fvR (okR hρ 23 rfl)) ?_
    refine AW_iload_n 1 (n := 1) rfl dX1_sumAhead_134 rfl ?_
    refine AW_lload 3 dX1_sumAhead_135 rfl ?_
    refine AW_lastore dX1_sumAhead_137 (Nat.le_of_ble_eq_true rfl) (okn hρ (Nat.le_of_ble_eq_true rfl)) rfl h.1 (hF _ (List.mem_of_getElem? (i := 1) rfl)) (jx := x1.toNatClampNeg) rfl ?_
    replace h := h.2
    refine AW_iinc 1 (v := x1 + (-1)) dX1_sumAhead_138 rfl rfl (Nat.le_of_ble_eq_true rfl) rfl ?_
    refine AW_goto (tgt := 13) dX1_sumAhead_141 rfl ?_
    exact AW.sub [1, 0] rfl h
  · refine AW_aload_n 0 (n := 0) rfl dX1_sumAhead_57 rfl ?_
    refine AW_get dX1_sumAhead_58 flX1_28 (Nat.le_of_ble_eq_true rfl) (okn hρ (Nat.le_of_ble_eq_true rfl)) rfl (v := .ref 46) (fvR (okR hρ 21 rfl)) ?_
    refine AW_iload 5 dX1_sumAhead_61 rfl ?_
    refine AW_iaload dX1_sumAhead_63 (Nat.le_of_ble_eq_true rfl) (okn hρ (Nat.le_of_ble_eq_true rfl)) rfl h.1 (v := S.1 46 x7.toNatClampNeg) rfl ?_
    replace h := h.2
    refine AW_istore dX1_sumAhead_64 (Nat.le_of_ble_eq_true rfl) rfl ?_
    refine AW_iload 0 dX1_sumAhead_66 rfl ?_
    refine AW_if_lt dX1_sumAhead_68 rfl (iteM h (fun h => ?_) (fun h => ?_))
    · refine AW_iinc 6 (v := x7 + 1) dX1_sumAhead_117 rfl rfl (Nat.le_of_ble_eq_true rfl) rfl ?_
      refine AW_goto (tgt := 50) dX1_sumAhead_120 rfl ?_
      exact AW.sub [2, 3, 4, 5, 6, 0] rfl h
    · refine AW_iload 0 dX1_sumAhead_71 rfl ?_
      refine AW_sipush (v := 480) dX1_sumAhead_73 rfl ?_
      refine AW_icmp_ge dX1_sumAhead_76 rfl (iteM h (fun h => ?_) (fun h => ?_))
      · refine AW_iinc 6 (v := x7 + 1) dX1_sumAhead_117 rfl rfl (Nat.le_of_ble_eq_true rfl) rfl ?_
        refine AW_goto (tgt := 50) dX1_sumAhead_120 rfl ?_
        exact AW.sub [2, 3, 4, 5, 6, 0] rfl h
      · refine AW_lload_n 3 (n := 2) rfl dX1_sumAhead_79 rfl ?_
        refine AW_aload_n 1 (n := 0) rfl dX1_sumAhead_80 rfl ?_
        refine AW_get dX1_sumAhead_81 flX1_31 (Nat.le_of_ble_eq_true rfl) (okn hρ (Nat.le_of_ble_eq_true rfl)) rfl (v := .ref 47) (fvR (okR hρ 22 rfl)) ?_
        refine AW_iload 0 dX1_sumAhead_84 rfl ?_
        refine AW_laload dX1_sumAhead_86 (Nat.le_of_ble_eq_true rfl) (okn hρ (Nat.le_of_ble_eq_true rfl)) rfl h.1 (v := S.2 47 ((S.1 46 x7.toNatClampNeg).toNatClampNeg)) rfl ?_
        replace h := h.2
        refine AW_ladd dX1_sumAhead_87 ?_
        refine AW_lstore_n (n := 2) (i := 2) rfl dX1_sumAhead_88 (Nat.le_of_ble_eq_true rfl) rfl ?_
        refine AW_lload 4 dX1_sumAhead_89 rfl ?_
        refine AW_aload_n 2 (n := 0) rfl dX1_sumAhead_91 rfl ?_
        refine AW_get dX1_sumAhead_92 flX1_12 (Nat.le_of_ble_eq_true rfl) (okn hρ (Nat.le_of_ble_eq_true rfl)) rfl (v := .ref 32) (fvR (okR hρ 17 rfl)) ?_
        refine AW_iconst (v := 0) dX1_sumAhead_95 rfl ?_
        refine AW_aload_n 2 (n := 0) rfl dX1_sumAhead_96 rfl ?_
        refine AW_get dX1_sumAhead_97 flX1_25 (Nat.le_of_ble_eq_true rfl) (okn hρ (Nat.le_of_ble_eq_true rfl)) rfl (v := .ref 45) (fvR (okR hρ 20 rfl)) ?_
        refine AW_iload 6 dX1_sumAhead_100 rfl ?_
        refine AW_iaload dX1_sumAhead_102 (Nat.le_of_ble_eq_true rfl) (okn hρ (Nat.le_of_ble_eq_true rfl)) rfl h.1 (v := S.1 45 x7.toNatClampNeg) rfl ?_
        replace h := h.2
        refine AW_callVl (M := mX1_sumAhead) (pc := 103) (As := [.int 0, .int (S.1 45 x7.toNatClampNeg)]) (ρ1 := ρ) (st := [.long x4]) dX1_sumAhead_103 mdX2_partOf rfl mlX1_145 imX2_partOf seX2_partOf (rcv_of (q := (RX2, TX2, 8)) (Nat.le_of_ble_eq_true rfl) (okn hρ (Nat.le_of_ble_eq_true rfl)) rfl rfl) ⟨rfl, npX2_partOf⟩ (Nat.le_of_ble_eq_true rfl) (Nat.le_refl _) (Nat.le_refl _) rfl (iX2_partOf hρ (show ¬ (_ ∨ _) by decide) h.1 (v := (S.2 38 ((S.1 45 x7.toNatClampNeg).toNatClampNeg))) rfl ?_)
        replace h := h.2
        refine AW_aload_n 2 (n := 0) rfl dX1_sumAhead_106 rfl ?_
        refine AW_get dX1_sumAhead_107 flX1_35 (Nat.le_of_ble_eq_true rfl) (okn hρ (Nat.le_of_ble_eq_true rfl)) rfl (v := .ref 48) (fvR (okR hρ 23 rfl)) ?_
        refine AW_iload 1 dX1_sumAhead_110 rfl ?_
        refine AW_laload dX1_sumAhead_112 (Nat.le_of_ble_eq_true rfl) (okn hρ (Nat.le_of_ble_eq_true rfl)) rfl h.1 (v := S.2 48 ((S.1 46 x7.toNatClampNeg).toNatClampNeg)) rfl ?_
        replace h := h.2
        refine AW_lmul dX1_sumAhead_113 ?_
        refine AW_ladd dX1_sumAhead_114 ?_
        refine AW_lstore dX1_sumAhead_115 (Nat.le_of_ble_eq_true rfl) rfl ?_
        refine AW_iinc 6 (v := x7 + 1) dX1_sumAhead_117 rfl rfl (Nat.le_of_ble_eq_true rfl) rfl ?_
        refine AW_goto (tgt := 50) dX1_sumAhead_120 rfl ?_
        exact AW.sub [4, 5, 2, 1, 6, 0] rfl h
set_option maxRecDepth 20000 in
theorem eX1_sumAhead_30 {g : GX} {Q : St → Prop} {d : Nat} {ρ : Rs} {S : St} (hρ : Ok ρ) {x1 : Int32} {s0 : Int64} (h : vp_in (x1 + 1) 481 ∧ (¬ (S.1 44 ((x1 + 1).toNatClampNeg)) < 0 ∧ (¬ 4800 < (S.1 44 ((x1 + 1).toNatClampNeg)) ∧ (vp_in x1 481 ∧ (¬ (S.1 44 x1.toNatClampNeg) < 0 ∧ (¬ 4800 < (S.1 44 x1.toNatClampNeg) ∧ (AW g ρ (QV Q) (d + 3) mX1_sumAhead 50 [(0, .ref 31), (1, .int x1), (2, .long s0), (4, .long s0), (6, .int (S.1 44 ((x1 + 1).toNatClampNeg))), (7, .int (S.1 44 x1.toNatClampNeg))] [] ρ S))))))) : AW g ρ (QV Q) (d + 3) mX1_sumAhead 30 [(0, .ref 31), (1, .int x1)] [.long s0] ρ S := by
  refine AW_lstore_n (n := 2) (i := 2) rfl dX1_sumAhead_30 (Nat.le_of_ble_eq_true rfl) rfl ?_
  refine AW_lload_n 0 (n := 2) rfl dX1_sumAhead_31 rfl ?_
  refine AW_lstore dX1_sumAhead_32 (Nat.le_of_ble_eq_true rfl) rfl ?_
  refine AW_aload_n 2 (n := 0) rfl dX1_sumAhead_34 rfl ?_
  refine AW_iload_n 3 (n := 1) rfl dX1_sumAhead_35 rfl ?_
  refine AW_iconst (v := 1) dX1_sumAhead_36 rfl ?_
  refine AW_iadd dX1_sumAhead_37 ?_
  refine AW_callVi (M := mX1_sumAhead) (pc := 38) (As := [.int (x1 + 1)]) (ρ1 := ρ) (st := []) dX1_sumAhead_38 mdX1_firstLinkOf rfl mlX1_142 imX1_firstLinkOf seX1_firstLinkOf (rcv_of (q := (RX1, TX1, 15)) (Nat.le_of_ble_eq_true rfl) (okn hρ (Nat.le_of_ble_eq_true rfl)) rfl rfl) ⟨rfl, npX1_firstLinkOf⟩ (Nat.le_of_ble_eq_true rfl) (Nat.le_refl _) (Nat.le_refl _) rfl (iX1_firstLinkOf hρ h.1 h.2.1 h.2.2.1 (v := (S.1 44 ((x1 + 1).toNatClampNeg))) rfl ?_)
  replace h := h.2.2.2
  refine AW_istore dX1_sumAhead_41 (Nat.le_of_ble_eq_true rfl) rfl ?_
  refine AW_aload_n 3 (n := 0) rfl dX1_sumAhead_43 rfl ?_
  refine AW_iload_n 4 (n := 1) rfl dX1_sumAhead_44 rfl ?_
  refine AW_callVi (M := mX1_sumAhead) (pc := 45) (As := [.int x1]) (ρ1 := ρ) (st := []) dX1_sumAhead_45 mdX1_firstLinkOf rfl mlX1_142 imX1_firstLinkOf seX1_firstLinkOf (rcv_of (q := (RX1, TX1, 15)) (Nat.le_of_ble_eq_true rfl) (okn hρ (Nat.le_of_ble_eq_true rfl)) rfl rfl) ⟨rfl, npX1_firstLinkOf⟩ (Nat.le_of_ble_eq_true rfl) (Nat.le_refl _) (Nat.le_refl _) rfl (iX1_firstLinkOf hρ h.1 h.2.1 h.2.2.1 (v := (S.1 44 x1.toNatClampNeg)) rfl ?_)
  replace h := h.2.2.2
  refine AW_istore dX1_sumAhead_48 (Nat.le_of_ble_eq_true rfl) rfl ?_
  exact AW.sub [4, 5, 3, 2, 1, 0] rfl h
set_option maxRecDepth 20000 in
theorem eX1_sumAhead_13 {g : GX} {Q : St → Prop} {d : Nat} {ρ : Rs} {S : St} (hρ : Ok ρ) {x1 : Int32} (h : if x1 < 0 then Q S else vp_in (S.1 31 1) 5 ∧ (¬ (S.1 43 ((S.1 31 1).toNatClampNeg)) < 0 ∧ (¬ 480 < (S.1 43 ((S.1 31 1).toNatClampNeg)) ∧ (if (S.1 43 ((S.1 31 1).toNatClampNeg)) ≤ x1 then AW g ρ (QV Q) (d + 3) mX1_sumAhead 30 [(0, .ref 31), (1, .int x1)] [.long 1] ρ S else AW g ρ (QV Q) (d + 3) mX1_sumAhead 30 [(0, .ref 31), (1, .int x1)] [.long 0] ρ S)))) : AW g ρ (QV Q) (d + 3) mX1_sumAhead 13 [(0, .ref 31), (1, .int x1)] [] ρ S := by
  refine AW_iload_n 1 (n := 1) rfl dX1_sumAhead_13 rfl ?_
  refine AW_if_lt dX1_sumAhead_14 rfl (iteM h (fun h => ?_) (fun h => ?_))
  · exact AW_retv dX1_sumAhead_144 rfl h
  · refine AW_aload_n 0 (n := 0) rfl dX1_sumAhead_17 rfl ?_
    refine AW_iload_n 1 (n := 1) rfl dX1_sumAhead_18 rfl ?_
    refine AW_callVi (M := mX1_sumAhead) (pc := 19) (As := [.int x1]) (ρ1 := ρ) (st := []) dX1_sumAhead_19 mdX1_isLast rfl mlX1_138 imX1_isLast seX1_isLast (rcv_of (q := (RX1, TX1, 15)) (Nat.le_of_ble_eq_true rfl) (okn hρ (Nat.le_of_ble_eq_true rfl)) rfl rfl) ⟨rfl, npX1_isLast⟩ (Nat.le_of_ble_eq_true rfl) (Nat.le_refl _) (Nat.le_refl _) rfl (iX1_isLast hρ h.1 h.2.1 h.2.2.1 (v := (if (S.1 43 ((S.1 31 1).toNatClampNeg)) ≤ x1 then 1 else 0)) rfl ?_)
    replace h := h.2.2.2
    refine AW_if_eq dX1_sumAhead_22 rfl (bzO (iteM h (fun h => ?_) (fun h => ?_)))
    · refine AW_lconst (v := 1) dX1_sumAhead_25 rfl ?_
      refine AW_goto (tgt := 30) dX1_sumAhead_26 rfl ?_
      exact AW.sub [0, 1] rfl h
    · refine AW_lconst (v := 0) dX1_sumAhead_29 rfl ?_
      exact AW.sub [0, 1] rfl h
set_option maxRecDepth 20000 in
theorem eX1_sumAhead {g : GX} {Q : St → Prop} {d : Nat} {ρ : Rs} {S : St} (hρ : Ok ρ) (h : AW g ρ (QV Q) (d + 3) mX1_sumAhead 13 [(0, .ref 31), (1, .int ((if (480 : Int32) < (S.1 31 2) then 480 else (S.1 31 2)) - 1))] [] ρ S) : CALLv g (d + 3) mX1_sumAhead [.ref 31] ρ ρ S Q := by
  refine CALL.of mdX1_sumAhead.2.2.2.2 (Nat.le_of_ble_eq_true rfl) (Nat.le_refl _) (Nat.le_refl _) ?_
  show AW g ρ (QV Q) (d + 3) mX1_sumAhead 0 [(0, .ref 31)] [] ρ S
  refine AW_aload_n 0 (n := 0) rfl dX1_sumAhead_0 rfl ?_
  refine AW_get dX1_sumAhead_1 flX1_60 (Nat.le_of_ble_eq_true rfl) (okn hρ (Nat.le_of_ble_eq_true rfl)) rfl (v := .int (S.1 31 2)) (fun _ => rfl) ?_
  refine AW_sipush (v := 480) dX1_sumAhead_4 rfl ?_
  refine AW_mminI (M := mX1_sumAhead) (pc := 7) dX1_sumAhead_7 mlX1_133 wmminIS wMath wmminIC (Nat.le_of_ble_eq_true rfl) ?_ (Nat.le_refl _) (Nat.le_refl _)
  refine AW_iconst (v := 1) dX1_sumAhead_10 rfl ?_
  refine AW_isub dX1_sumAhead_11 ?_
  refine AW_istore_n (n := 1) (i := 1) rfl dX1_sumAhead_12 (Nat.le_of_ble_eq_true rfl) rfl ?_
  exact AW.sub [1, 0] rfl h
set_option maxRecDepth 20000 in
theorem eX1_sumBehind_46 {g : GX} {Q : St → Prop} {d : Nat} {ρ : Rs} {S : St} (hρ : Ok ρ) {x1 : Int32} {x2 : Int32} {x3 : Int32} (hF : ∀ k ∈ ([49] : List Nat), gF g k) (h : if x2 ≤ x3 then AW g ρ (QV Q) (d + 2) mX1_sumBehind 17 [(0, .ref 31), (1, .int (x1 + 1))] [] ρ S else vp_in x3 4800 ∧ (if (S.1 46 x3.toNatClampNeg) < 0 then AW g ρ (QV Q) (d + 2) mX1_sumBehind 46 [(0, .ref 31), (1, .int x1), (2, .int x2), (3, .int (x3 + 1))] [] ρ S else if (480 : Int32) ≤ (S.1 46 x3.toNatClampNeg) then AW g ρ (QV Q) (d + 2) mX1_sumBehind 46 [(0, .ref 31), (1, .int x1), (2, .int x2), (3, .int (x3 + 1))] [] ρ S else vp_in (S.1 46 x3.toNatClampNeg) 480 ∧ (vp_in x1 480 ∧ (vp_in (S.1 46 x3.toNatClampNeg) 480 ∧ (AW g ρ (QV Q) (d + 2) mX1_sumBehind 46 [(0, .ref 31), (1, .int x1), (2, .int x2), (3, .int (x3 + 1))] [] ρ (setL S 49 ((S.1 46 x3.toNatClampNeg).toNatClampNeg) ((S.2 49 ((S.1 46 x3.toNatClampNeg).toNatClampNeg)) + (S.2 49 x1.toNatClampNeg)))))))) : AW g ρ (QV Q) (d + 2) mX1_sumBehind 46 [(0, .ref 31), (1, .int x1), (2, .int x2), (3, .int x3)] [] ρ S := by
  refine AW_iload_n 3 (n := 3) rfl dX1_sumBehind_46 rfl ?_
  refine AW_iload_n 2 (n := 2) rfl dX1_sumBehind_47 rfl ?_
  refine AW_icmp_ge dX1_sumBehind_48 rfl (iteM h (fun h => ?_) (fun h => ?_))
  · refine AW_iinc 1 (v := x1 + 1) dX1_sumBehind_94 rfl rfl (Nat.le_of_ble_eq_true rfl) rfl ?_
    refine AW_goto (tgt := 17) dX1_sumBehind_97 rfl ?_
    exact AW.sub [1, 0] rfl h
  · refine AW_aload_n 0 (n := 0) rfl dX1_sumBehind_51 rfl ?_
    refine AW_get dX1_sumBehind_52 flX1_28 (Nat.le_of_ble_eq_true rfl) (okn hρ (Nat.le_of_ble_eq_true rfl)) rfl (v := .ref 46) (fvR (okR hρ 21 rfl)) ?_
    refine AW_iload_n 3 (n := 3) rfl dX1_sumBehind_55 rfl ?_
    refine AW_iaload dX1_sumBehind_56 (Nat.le_of_ble_eq_true rfl) (okn hρ (Nat.le_of_ble_eq_true rfl)) rfl h.1 (v := S.1 46 x3.toNatClampNeg) rfl ?_
    replace h := h.2
    refine AW_istore dX1_sumBehind_57 (Nat.le_of_ble_eq_true rfl) rfl ?_
    refine AW_iload 0 dX1_sumBehind_59 rfl ?_
    refine AW_if_lt dX1_sumBehind_61 rfl (iteM h (fun h => ?_) (fun h => ?_))
    · refine AW_iinc 4 (v := x3 + 1) dX1_sumBehind_88 rfl rfl (Nat.le_of_ble_eq_true rfl) rfl ?_
      refine AW_goto (tgt := 46) dX1_sumBehind_91 rfl ?_
      exact AW.sub [2, 3, 4, 0] rfl h
    · refine AW_iload 0 dX1_sumBehind_64 rfl ?_
      refine AW_sipush (v := 480) dX1_sumBehind_66 rfl ?_
      refine AW_icmp_ge dX1_sumBehind_69 rfl (iteM h (fun h => ?_) (fun h => ?_))
      · refine AW_iinc 4 (v := x3 + 1) dX1_sumBehind_88 rfl rfl (Nat.le_of_ble_eq_true rfl) rfl ?_
        refine AW_goto (tgt := 46) dX1_sumBehind_91 rfl ?_
        exact AW.sub [2, 3, 4, 0] rfl h
      · refine AW_aload_n 1 (n := 0) rfl dX1_sumBehind_72 rfl ?_
        refine AW_get dX1_sumBehind_73 flX1_38 (Nat.le_of_ble_eq_true rfl) (okn hρ (Nat.le_of_ble_eq_true rfl)) rfl (v := .ref 49) (fvR (okR hρ 24 rfl)) ?_
        refine AW_iload 0 dX1_sumBehind_76 rfl ?_
        refine AW_dup2_11 dX1_sumBehind_78 rfl rfl ?_
        refine AW_laload dX1_sumBehind_79 (Nat.le_of_ble_eq_true rfl) (okn hρ (Nat.le_of_ble_eq_true rfl)) rfl h.1 (v := S.2 49 ((S.1 46 x3.toNatClampNeg).toNatClampNeg)) rfl ?_
        replace h := h.2
        refine AW_aload_n 1 (n := 0) rfl dX1_sumBehind_80 rfl ?_
        refine AW_get dX1_sumBehind_81 flX1_38 (Nat.le_of_ble_eq_true rfl) (okn hρ (Nat.le_of_ble_eq_true rfl)) rfl (v := .ref 49) (fvR (okR hρ 24 rfl)) ?_
        refine AW_iload_n 2 (n := 1) rfl dX1_sumBehind_84 rfl ?_
        refine AW_laload dX1_sumBehind_85 (Nat.le_of_ble_eq_true rfl) (okn hρ (Nat.le_of_ble_eq_true rfl)) rfl h.1 (v := S.2 49 x1.toNatClampNeg) rfl ?_
        replace h := h.2
        refine AW_ladd dX1_sumBehind_86 ?_
        refine AW_lastore dX1_sumBehind_87 (Nat.le_of_ble_eq_true rfl) (okn hρ (Nat.le_of_ble_eq_true rfl)) rfl h.1 (hF _ (List.mem_of_getElem? (i := 0) rfl)) (jx := (S.1 46 x3.toNatClampNeg).toNatClampNeg) rfl ?_
        replace h := h.2
        refine AW_iinc 4 (v := x3 + 1) dX1_sumBehind_88 rfl rfl (Nat.le_of_ble_eq_true rfl) rfl ?_
        refine AW_goto (tgt := 46) dX1_sumBehind_91 rfl ?_
        exact AW.sub [2, 3, 4, 0] rfl h
set_option maxRecDepth 20000 in
theorem eX1_sumBehind_17 {g : GX} {Q : St → Prop} {d : Nat} {ρ : Rs} {S : St} (hρ : Ok ρ) {x1 : Int32} (h : if (S.1 31 2) ≤ x1 then Q S else if (480 : Int32) ≤ x1 then Q S else vp_in (x1 + 1) 481 ∧ (¬ (S.1 44 ((x1 + 1).toNatClampNeg)) < 0 ∧ (¬ 4800 < (S.1 44 ((x1 + 1).toNatClampNeg)) ∧ (vp_in x1 481 ∧ (¬ (S.1 44 x1.toNatClampNeg) < 0 ∧ (¬ 4800 < (S.1 44 x1.toNatClampNeg) ∧ (AW g ρ (QV Q) (d + 2) mX1_sumBehind 46 [(0, .ref 31), (1, .int x1), (2, .int (S.1 44 ((x1 + 1).toNatClampNeg))), (3, .int (S.1 44 x1.toNatClampNeg))] [] ρ S))))))) : AW g ρ (QV Q) (d + 2) mX1_sumBehind 17 [(0, .ref 31), (1, .int x1)] [] ρ S := by
  refine AW_iload_n 1 (n := 1) rfl dX1_sumBehind_17 rfl ?_
  refine AW_aload_n 0 (n := 0) rfl dX1_sumBehind_18 rfl ?_
  refine AW_get dX1_sumBehind_19 flX1_60 (Nat.le_of_ble_eq_true rfl) (okn hρ (Nat.le_of_ble_eq_true rfl)) rfl (v := .int (S.1 31 2)) (fun _ => rfl) ?_
  refine AW_icmp_ge dX1_sumBehind_22 rfl (iteM h (fun h => ?_) (fun h => ?_))
  · exact AW_retv dX1_sumBehind_100 rfl h
  · refine AW_iload_n 1 (n := 1) rfl dX1_sumBehind_25 rfl ?_
    refine AW_sipush (v := 480) dX1_sumBehind_26 rfl ?_
    refine AW_icmp_ge dX1_sumBehind_29 rfl (iteM h (fun h => ?_) (fun h => ?_))
    · exact AW_retv dX1_sumBehind_100 rfl h
    · refine AW_aload_n 0 (n := 0) rfl dX1_sumBehind_32 rfl ?_
      refine AW_iload_n 1 (n := 1) rfl dX1_sumBehind_33 rfl ?_
      refine AW_iconst (v := 1) dX1_sumBehind_34 rfl ?_
      refine AW_iadd dX1_sumBehind_35 ?_
      refine AW_callVi (M := mX1_sumBehind) (pc := 36) (As := [.int (x1 + 1)]) (ρ1 := ρ) (st := []) dX1_sumBehind_36 mdX1_firstLinkOf rfl mlX1_142 imX1_firstLinkOf seX1_firstLinkOf (rcv_of (q := (RX1, TX1, 15)) (Nat.le_of_ble_eq_true rfl) (okn hρ (Nat.le_of_ble_eq_true rfl)) rfl rfl) ⟨rfl, npX1_firstLinkOf⟩ (Nat.le_of_ble_eq_true rfl) (Nat.le_refl _) (Nat.le_refl _) rfl (iX1_firstLinkOf hρ h.1 h.2.1 h.2.2.1 (v := (S.1 44 ((x1 + 1).toNatClampNeg))) rfl ?_)
      replace h := h.2.2.2
      refine AW_istore_n (n := 2) (i := 2) rfl dX1_sumBehind_39 (Nat.le_of_ble_eq_true rfl) rfl ?_
      refine AW_aload_n 1 (n := 0) rfl dX1_sumBehind_40 rfl ?_
      refine AW_iload_n 2 (n := 1) rfl dX1_sumBehind_41 rfl ?_
      refine AW_callVi (M := mX1_sumBehind) (pc := 42) (As := [.int x1]) (ρ1 := ρ) (st := []) dX1_sumBehind_42 mdX1_firstLinkOf rfl mlX1_142 imX1_firstLinkOf seX1_firstLinkOf (rcv_of (q := (RX1, TX1, 15)) (Nat.le_of_ble_eq_true rfl) (okn hρ (Nat.le_of_ble_eq_true rfl)) rfl rfl) ⟨rfl, npX1_firstLinkOf⟩ (Nat.le_of_ble_eq_true rfl) (Nat.le_refl _) (Nat.le_refl _) rfl (iX1_firstLinkOf hρ h.1 h.2.1 h.2.2.1 (v := (S.1 44 x1.toNatClampNeg)) rfl ?_)
      replace h := h.2.2.2
      refine AW_istore_n (n := 3) (i := 3) rfl dX1_sumBehind_45 (Nat.le_of_ble_eq_true rfl) rfl ?_
      exact AW.sub [2, 3, 1, 0] rfl h
set_option maxRecDepth 20000 in
theorem eX1_sumBehind {g : GX} {Q : St → Prop} {d : Nat} {ρ : Rs} {S : St} (hρ : Ok ρ) (hF : ∀ k ∈ ([49] : List Nat), gF g k) (h : CALLv g (d + 1) mJ7_fill_d0a16 [.ref 49, .long 0] ρ ρ S (fun S1 => AW g ρ (QV Q) (d + 2) mX1_sumBehind 17 [(0, .ref 31), (1, .int 0)] [] ρ (setL S1 49 0 1))) : CALLv g (d + 2) mX1_sumBehind [.ref 31] ρ ρ S Q := by
  refine CALL.of mdX1_sumBehind.2.2.2.2 (Nat.le_of_ble_eq_true rfl) (Nat.le_refl _) (Nat.le_refl _) ?_
  show AW g ρ (QV Q) (d + 2) mX1_sumBehind 0 [(0, .ref 31)] [] ρ S
  refine AW_aload_n 0 (n := 0) rfl dX1_sumBehind_0 rfl ?_
  refine AW_get dX1_sumBehind_1 flX1_38 (Nat.le_of_ble_eq_true rfl) (okn hρ (Nat.le_of_ble_eq_true rfl)) rfl (v := .ref 49) (fvR (okR hρ 24 rfl)) ?_
  refine AW_lconst (v := 0) dX1_sumBehind_4 rfl ?_
  refine AW_callSv (M := mX1_sumBehind) (pc := 5) (As := [.ref 49, .long 0]) (ρ1 := ρ) (st := []) dX1_sumBehind_5 mdJ7_fill_d0a16 mlX1_149 smJ7_fill_d0a16 ⟨rfl, npJ7_fill_d0a16⟩ (Nat.le_of_ble_eq_true rfl) (Nat.le_refl _) (Nat.le_refl _) rfl (CALLv.mono h (fun S1 _ h => ?_))
  refine AW_aload_n 0 (n := 0) rfl dX1_sumBehind_8 rfl ?_
  refine AW_get dX1_sumBehind_9 flX1_38 (Nat.le_of_ble_eq_true rfl) (okn hρ (Nat.le_of_ble_eq_true rfl)) rfl (v := .ref 49) (fvR (okR hρ 24 rfl)) ?_
  refine AW_iconst (v := 0) dX1_sumBehind_12 rfl ?_
  refine AW_lconst (v := 1) dX1_sumBehind_13 rfl ?_
  refine AW_lastore dX1_sumBehind_14 (Nat.le_of_ble_eq_true rfl) (okn hρ (Nat.le_of_ble_eq_true rfl)) rfl (show ¬ (_ ∨ _) by decide) (hF _ (List.mem_of_getElem? (i := 0) rfl)) (jx := 0) rfl ?_
  refine AW_iconst (v := 0) dX1_sumBehind_15 rfl ?_
  refine AW_istore_n (n := 1) (i := 1) rfl dX1_sumBehind_16 (Nat.le_of_ble_eq_true rfl) rfl ?_
  exact AW.sub [1, 0] rfl h
set_option maxRecDepth 20000 in
theorem eX1_sumSeenCells_53 {g : GX} {Q : St → Prop} {d : Nat} {ρ : Rs} {S : St} (hρ : Ok ρ) {x1 : Int32} {x2 : Int32} {x3 : Int32} {x4 : Int32} {x5 : Int32} (h : if x4 ≤ x5 then AW g ρ (QV Q) (d + 2) mX1_sumSeenCells 32 [(0, .ref 31), (1, .int x1), (2, .int x2), (3, .int (x3 + 1))] [] ρ S else vp_in x5 4800 ∧ (vp_in (S.1 45 x5.toNatClampNeg) 320 ∧ (vp_in x3 480 ∧ (vp_in x5 4800 ∧ (vp_in (S.1 46 x5.toNatClampNeg) 480 ∧ (CALLv g (d + 1) mX1_addSeen [.ref 31, .int x1, .int (S.1 34 ((S.1 45 x5.toNatClampNeg).toNatClampNeg)), .long ((S.2 49 x3.toNatClampNeg) * (S.2 47 ((S.1 46 x5.toNatClampNeg).toNatClampNeg)))] ρ ρ S (fun S1 => AW g ρ (QV Q) (d + 2) mX1_sumSeenCells 53 [(0, .ref 31), (1, .int x1), (2, .int x2), (3, .int x3), (4, .int x4), (5, .int (x5 + 1))] [] ρ S1))))))) : AW g ρ (QV Q) (d + 2) mX1_sumSeenCells 53 [(0, .ref 31), (1, .int x1), (2, .int x2), (3, .int x3), (4, .int x4), (5, .int x5)] [] ρ S := by
  refine AW_iload 5 dX1_sumSeenCells_53 rfl ?_
  refine AW_iload 4 dX1_sumSeenCells_55 rfl ?_
  refine AW_icmp_ge dX1_sumSeenCells_57 rfl (iteM h (fun h => ?_) (fun h => ?_))
  · refine AW_iinc 3 (v := x3 + 1) dX1_sumSeenCells_95 rfl rfl (Nat.le_of_ble_eq_true rfl) rfl ?_
    refine AW_goto (tgt := 32) dX1_sumSeenCells_98 rfl ?_
    exact AW.sub [1, 2, 3, 0] rfl h
  · refine AW_aload_n 0 (n := 0) rfl dX1_sumSeenCells_60 rfl ?_
    refine AW_iload_n 1 (n := 1) rfl dX1_sumSeenCells_61 rfl ?_
    refine AW_aload_n 0 (n := 0) rfl dX1_sumSeenCells_62 rfl ?_
    refine AW_iload 5 dX1_sumSeenCells_63 rfl ?_
    refine AW_callVi (M := mX1_sumSeenCells) (pc := 65) (As := [.int x5]) (ρ1 := ρ) (st := [.int x1, .ref 31]) dX1_sumSeenCells_65 mdX1_lineBy rfl mlX1_152 imX1_lineBy seX1_lineBy (rcv_of (q := (RX1, TX1, 15)) (Nat.le_of_ble_eq_true rfl) (okn hρ (Nat.le_of_ble_eq_true rfl)) rfl rfl) ⟨rfl, npX1_lineBy⟩ (Nat.le_of_ble_eq_true rfl) (Nat.le_refl _) (Nat.le_refl _) rfl (iX1_lineBy hρ h.1 h.2.1 (v := (S.1 34 ((S.1 45 x5.toNatClampNeg).toNatClampNeg))) rfl ?_)
    replace h := h.2.2
    refine AW_aload_n 0 (n := 0) rfl dX1_sumSeenCells_68 rfl ?_
    refine AW_get dX1_sumSeenCells_69 flX1_38 (Nat.le_of_ble_eq_true rfl) (okn hρ (Nat.le_of_ble_eq_true rfl)) rfl (v := .ref 49) (fvR (okR hρ 24 rfl)) ?_
    refine AW_iload_n 3 (n := 3) rfl dX1_sumSeenCells_72 rfl ?_
    refine AW_laload dX1_sumSeenCells_73 (Nat.le_of_ble_eq_true rfl) (okn hρ (Nat.le_of_ble_eq_true rfl)) rfl h.1 (v := S.2 49 x3.toNatClampNeg) rfl ?_
    replace h := h.2
    refine AW_aload_n 0 (n := 0) rfl dX1_sumSeenCells_74 rfl ?_
    refine AW_aload_n 0 (n := 0) rfl dX1_sumSeenCells_75 rfl ?_
    refine AW_get dX1_sumSeenCells_76 flX1_28 (Nat.le_of_ble_eq_true rfl) (okn hρ (Nat.le_of_ble_eq_true rfl)) rfl (v := .ref 46) (fvR (okR hρ 21 rfl)) ?_
    refine AW_iload 5 dX1_sumSeenCells_79 rfl ?_
    refine AW_iaload dX1_sumSeenCells_81 (Nat.le_of_ble_eq_true rfl) (okn hρ (Nat.le_of_ble_eq_true rfl)) rfl h.1 (v := S.1 46 x5.toNatClampNeg) rfl ?_
    replace h := h.2
    refine AW_callVl (M := mX1_sumSeenCells) (pc := 82) (As := [.int (S.1 46 x5.toNatClampNeg)]) (ρ1 := ρ) (st := [.long (S.2 49 x3.toNatClampNeg), .int (S.1 34 ((S.1 45 x5.toNatClampNeg).toNatClampNeg)), .int x1, .ref 31]) dX1_sumSeenCells_82 mdX1_aheadOf rfl mlX1_155 imX1_aheadOf seX1_aheadOf (rcv_of (q := (RX1, TX1, 15)) (Nat.le_of_ble_eq_true rfl) (okn hρ (Nat.le_of_ble_eq_true rfl)) rfl rfl) ⟨rfl, npX1_aheadOf⟩ (Nat.le_of_ble_eq_true rfl) (Nat.le_refl _) (Nat.le_refl _) rfl (iX1_aheadOf hρ h.1 (v := (S.2 47 ((S.1 46 x5.toNatClampNeg).toNatClampNeg))) rfl ?_)
    replace h := h.2
    refine AW_lmul dX1_sumSeenCells_85 ?_
    refine AW_callVv (M := mX1_sumSeenCells) (pc := 86) (As := [.int x1, .int (S.1 34 ((S.1 45 x5.toNatClampNeg).toNatClampNeg)), .long ((S.2 49 x3.toNatClampNeg) * (S.2 47 ((S.1 46 x5.toNatClampNeg).toNatClampNeg)))]) (ρ1 := ρ) (st := []) dX1_sumSeenCells_86 mdX1_addSeen rfl mlX1_159 imX1_addSeen seX1_addSeen (rcv_of (q := (RX1, TX1, 15)) (Nat.le_of_ble_eq_true rfl) (okn hρ (Nat.le_of_ble_eq_true rfl)) rfl rfl) ⟨rfl, npX1_addSeen⟩ (Nat.le_of_ble_eq_true rfl) (Nat.le_refl _) (Nat.le_refl _) rfl (CALLv.mono h (fun S1 _ h => ?_))
    refine AW_iinc 5 (v := x5 + 1) dX1_sumSeenCells_89 rfl rfl (Nat.le_of_ble_eq_true rfl) rfl ?_
    refine AW_goto (tgt := 53) dX1_sumSeenCells_92 rfl ?_
    exact AW.sub [1, 2, 3, 4, 5, 0] rfl h
set_option maxRecDepth 20000 in
theorem eX1_sumSeenCells_32 {g : GX} {Q : St → Prop} {d : Nat} {ρ : Rs} {S : St} (hρ : Ok ρ) {x1 : Int32} {x2 : Int32} {x3 : Int32} (h : if x2 ≤ x3 then AW g ρ (QV Q) (d + 2) mX1_sumSeenCells 10 [(0, .ref 31), (1, .int (x1 + 1))] [] ρ S else vp_in (x3 + 1) 481 ∧ (¬ (S.1 44 ((x3 + 1).toNatClampNeg)) < 0 ∧ (¬ 4800 < (S.1 44 ((x3 + 1).toNatClampNeg)) ∧ (vp_in x3 481 ∧ (¬ (S.1 44 x3.toNatClampNeg) < 0 ∧ (¬ 4800 < (S.1 44 x3.toNatClampNeg) ∧ (AW g ρ (QV Q) (d + 2) mX1_sumSeenCells 53 [(0, .ref 31), (1, .int x1), (2, .int x2), (3, .int x3), (4, .int (S.1 44 ((x3 + 1).toNatClampNeg))), (5, .int (S.1 44 x3.toNatClampNeg))] [] ρ S))))))) : AW g ρ (QV Q) (d + 2) mX1_sumSeenCells 32 [(0, .ref 31), (1, .int x1), (2, .int x2), (3, .int x3)] [] ρ S := by
  refine AW_iload_n 3 (n := 3) rfl dX1_sumSeenCells_32 rfl ?_
  refine AW_iload_n 2 (n := 2) rfl dX1_sumSeenCells_33 rfl ?_
  refine AW_icmp_ge dX1_sumSeenCells_34 rfl (iteM h (fun h => ?_) (fun h => ?_))
  · refine AW_iinc 1 (v := x1 + 1) dX1_sumSeenCells_101 rfl rfl (Nat.le_of_ble_eq_true rfl) rfl ?_
    refine AW_goto (tgt := 10) dX1_sumSeenCells_104 rfl ?_
    exact AW.sub [1, 0] rfl h
  · refine AW_aload_n 0 (n := 0) rfl dX1_sumSeenCells_37 rfl ?_
    refine AW_iload_n 3 (n := 3) rfl dX1_sumSeenCells_38 rfl ?_
    refine AW_iconst (v := 1) dX1_sumSeenCells_39 rfl ?_
    refine AW_iadd dX1_sumSeenCells_40 ?_
    refine AW_callVi (M := mX1_sumSeenCells) (pc := 41) (As := [.int (x3 + 1)]) (ρ1 := ρ) (st := []) dX1_sumSeenCells_41 mdX1_firstLinkOf rfl mlX1_142 imX1_firstLinkOf seX1_firstLinkOf (rcv_of (q := (RX1, TX1, 15)) (Nat.le_of_ble_eq_true rfl) (okn hρ (Nat.le_of_ble_eq_true rfl)) rfl rfl) ⟨rfl, npX1_firstLinkOf⟩ (Nat.le_of_ble_eq_true rfl) (Nat.le_refl _) (Nat.le_refl _) rfl (iX1_firstLinkOf hρ h.1 h.2.1 h.2.2.1 (v := (S.1 44 ((x3 + 1).toNatClampNeg))) rfl ?_)
    replace h := h.2.2.2
    refine AW_istore dX1_sumSeenCells_44 (Nat.le_of_ble_eq_true rfl) rfl ?_
    refine AW_aload_n 1 (n := 0) rfl dX1_sumSeenCells_46 rfl ?_
    refine AW_iload_n 4 (n := 3) rfl dX1_sumSeenCells_47 rfl ?_
    refine AW_callVi (M := mX1_sumSeenCells) (pc := 48) (As := [.int x3]) (ρ1 := ρ) (st := []) dX1_sumSeenCells_48 mdX1_firstLinkOf rfl mlX1_142 imX1_firstLinkOf seX1_firstLinkOf (rcv_of (q := (RX1, TX1, 15)) (Nat.le_of_ble_eq_true rfl) (okn hρ (Nat.le_of_ble_eq_true rfl)) rfl rfl) ⟨rfl, npX1_firstLinkOf⟩ (Nat.le_of_ble_eq_true rfl) (Nat.le_refl _) (Nat.le_refl _) rfl (iX1_firstLinkOf hρ h.1 h.2.1 h.2.2.1 (v := (S.1 44 x3.toNatClampNeg)) rfl ?_)
    replace h := h.2.2.2
    refine AW_istore dX1_sumSeenCells_51 (Nat.le_of_ble_eq_true rfl) rfl ?_
    exact AW.sub [2, 3, 4, 5, 1, 0] rfl h
set_option maxRecDepth 20000 in
theorem eX1_sumSeenCells_10 {g : GX} {Q : St → Prop} {d : Nat} {ρ : Rs} {S : St} (hρ : Ok ρ) {x1 : Int32} (h : if (S.1 31 1) ≤ x1 then Q S else vp_in (x1 + 1) 5 ∧ (¬ (S.1 43 ((x1 + 1).toNatClampNeg)) < 0 ∧ (¬ 480 < (S.1 43 ((x1 + 1).toNatClampNeg)) ∧ (vp_in x1 5 ∧ (¬ (S.1 43 x1.toNatClampNeg) < 0 ∧ (¬ 480 < (S.1 43 x1.toNatClampNeg) ∧ (AW g ρ (QV Q) (d + 2) mX1_sumSeenCells 32 [(0, .ref 31), (1, .int x1), (2, .int (S.1 43 ((x1 + 1).toNatClampNeg))), (3, .int (S.1 43 x1.toNatClampNeg))] [] ρ S))))))) : AW g ρ (QV Q) (d + 2) mX1_sumSeenCells 10 [(0, .ref 31), (1, .int x1)] [] ρ S := by
  refine AW_iload_n 1 (n := 1) rfl dX1_sumSeenCells_10 rfl ?_
  refine AW_aload_n 0 (n := 0) rfl dX1_sumSeenCells_11 rfl ?_
  refine AW_get dX1_sumSeenCells_12 flX1_59 (Nat.le_of_ble_eq_true rfl) (okn hρ (Nat.le_of_ble_eq_true rfl)) rfl (v := .int (S.1 31 1)) (fun _ => rfl) ?_
  refine AW_icmp_ge dX1_sumSeenCells_15 rfl (iteM h (fun h => ?_) (fun h => ?_))
  · exact AW_retv dX1_sumSeenCells_107 rfl h
  · refine AW_aload_n 0 (n := 0) rfl dX1_sumSeenCells_18 rfl ?_
    refine AW_iload_n 1 (n := 1) rfl dX1_sumSeenCells_19 rfl ?_
    refine AW_iconst (v := 1) dX1_sumSeenCells_20 rfl ?_
    refine AW_iadd dX1_sumSeenCells_21 ?_
    refine AW_callVi (M := mX1_sumSeenCells) (pc := 22) (As := [.int (x1 + 1)]) (ρ1 := ρ) (st := []) dX1_sumSeenCells_22 mdX1_firstNode rfl mlX1_85 imX1_firstNode seX1_firstNode (rcv_of (q := (RX1, TX1, 15)) (Nat.le_of_ble_eq_true rfl) (okn hρ (Nat.le_of_ble_eq_true rfl)) rfl rfl) ⟨rfl, npX1_firstNode⟩ (Nat.le_of_ble_eq_true rfl) (Nat.le_refl _) (Nat.le_refl _) rfl (iX1_firstNode hρ h.1 h.2.1 h.2.2.1 (v := (S.1 43 ((x1 + 1).toNatClampNeg))) rfl ?_)
    replace h := h.2.2.2
    refine AW_istore_n (n := 2) (i := 2) rfl dX1_sumSeenCells_25 (Nat.le_of_ble_eq_true rfl) rfl ?_
    refine AW_aload_n 1 (n := 0) rfl dX1_sumSeenCells_26 rfl ?_
    refine AW_iload_n 2 (n := 1) rfl dX1_sumSeenCells_27 rfl ?_
    refine AW_callVi (M := mX1_sumSeenCells) (pc := 28) (As := [.int x1]) (ρ1 := ρ) (st := []) dX1_sumSeenCells_28 mdX1_firstNode rfl mlX1_85 imX1_firstNode seX1_firstNode (rcv_of (q := (RX1, TX1, 15)) (Nat.le_of_ble_eq_true rfl) (okn hρ (Nat.le_of_ble_eq_true rfl)) rfl rfl) ⟨rfl, npX1_firstNode⟩ (Nat.le_of_ble_eq_true rfl) (Nat.le_refl _) (Nat.le_refl _) rfl (iX1_firstNode hρ h.1 h.2.1 h.2.2.1 (v := (S.1 43 x1.toNatClampNeg)) rfl ?_)
    replace h := h.2.2.2
    refine AW_istore_n (n := 3) (i := 3) rfl dX1_sumSeenCells_31 (Nat.le_of_ble_eq_true rfl) rfl ?_
    exact AW.sub [2, 3, 1, 0] rfl h
set_option maxRecDepth 20000 in
theorem eX1_sumSeenCells {g : GX} {Q : St → Prop} {d : Nat} {ρ : Rs} {S : St} (hρ : Ok ρ) (h : CALLv g (d + 1) mJ7_fill_d0a16 [.ref 53, .long 0] ρ ρ S (fun S1 => AW g ρ (QV Q) (d + 2) mX1_sumSeenCells 10 [(0, .ref 31), (1, .int 0)] [] ρ S1)) : CALLv g (d + 2) mX1_sumSeenCells [.ref 31] ρ ρ S Q := by
  refine CALL.of mdX1_sumSeenCells.2.2.2.2 (Nat.le_of_ble_eq_true rfl) (Nat.le_refl _) (Nat.le_refl _) ?_
  show AW g ρ (QV Q) (d + 2) mX1_sumSeenCells 0 [(0, .ref 31)] [] ρ S
  refine AW_aload_n 0 (n := 0) rfl dX1_sumSeenCells_0 rfl ?_
  refine AW_get dX1_sumSeenCells_1 flX1_50 (Nat.le_of_ble_eq_true rfl) (okn hρ (Nat.le_of_ble_eq_true rfl)) rfl (v := .ref 53) (fvR (okR hρ 28 rfl)) ?_
  refine AW_lconst (v := 0) dX1_sumSeenCells_4 rfl ?_
  refine AW_callSv (M := mX1_sumSeenCells) (pc := 5) (As := [.ref 53, .long 0]) (ρ1 := ρ) (st := []) dX1_sumSeenCells_5 mdJ7_fill_d0a16 mlX1_149 smJ7_fill_d0a16 ⟨rfl, npJ7_fill_d0a16⟩ (Nat.le_of_ble_eq_true rfl) (Nat.le_refl _) (Nat.le_refl _) rfl (CALLv.mono h (fun S1 _ h => ?_))
  refine AW_iconst (v := 0) dX1_sumSeenCells_8 rfl ?_
  refine AW_istore_n (n := 1) (i := 1) rfl dX1_sumSeenCells_9 (Nat.le_of_ble_eq_true rfl) rfl ?_
  exact AW.sub [1, 0] rfl h
set_option maxRecDepth 20000 in
theorem eX1_addSeen_3 {g : GX} {Q : St → Prop} {d : Nat} {ρ : Rs} {S : St} (hρ : Ok ρ) {x1 : Int32} {x2 : Int32} {x3 : Int64} {x5 : Int32} (hF : ∀ k ∈ ([53] : List Nat), gF g k) (h : if (4 : Int32) ≤ x5 then Q S else CALLi g d mX3_inLine [.int x2, .int x5] ρ ρ S (fun v1 S1 => CALLi g d mX1_seenAt [.int x1, .int x5, .int v1] ρ ρ S1 (fun v2 S2 => if v2 < 0 then AW g ρ (QV Q) (d + 1) mX1_addSeen 3 [(0, .ref 31), (1, .int x1), (2, .int x2), (3, .long x3), (5, .int (x5 + 1))] [] ρ S2 else if (336 : Int32) ≤ v2 then AW g ρ (QV Q) (d + 1) mX1_addSeen 3 [(0, .ref 31), (1, .int x1), (2, .int x2), (3, .long x3), (5, .int (x5 + 1))] [] ρ S2 else vp_in v2 336 ∧ (vp_in v2 336 ∧ (AW g ρ (QV Q) (d + 1) mX1_addSeen 3 [(0, .ref 31), (1, .int x1), (2, .int x2), (3, .long x3), (5, .int (x5 + 1))] [] ρ (setL S2 53 v2.toNatClampNeg ((S2.2 53 v2.toNatClampNeg) + x3))))))) : AW g ρ (QV Q) (d + 1) mX1_addSeen 3 [(0, .ref 31), (1, .int x1), (2, .int x2), (3, .long x3), (5, .int x5)] [] ρ S := by
  refine AW_iload 4 dX1_addSeen_3 rfl ?_
  refine AW_iconst (v := 4) dX1_addSeen_5 rfl ?_
  refine AW_icmp_ge dX1_addSeen_6 rfl (iteM h (fun h => ?_) (fun h => ?_))
  · exact AW_retv dX1_addSeen_55 rfl h
  · refine AW_iload_n 1 (n := 1) rfl dX1_addSeen_9 rfl ?_
    refine AW_iload 4 dX1_addSeen_10 rfl ?_
    refine AW_iload_n 2 (n := 2) rfl dX1_addSeen_12 rfl ?_
    refine AW_iload 4 dX1_addSeen_13 rfl ?_
    refine AW_callSi (M := mX1_addSeen) (pc := 15) (As := [.int x2, .int x5]) (ρ1 := ρ) (st := [.int x5, .int x1]) dX1_addSeen_15 mdX3_inLine mlX1_163 smX3_inLine ⟨rfl, npX3_inLine⟩ (Nat.le_of_ble_eq_true rfl) (Nat.le_refl _) (Nat.le_refl _) rfl (CALLi.mono h (fun v1 S1 _ h => ?_))
    refine AW_callSi (M := mX1_addSeen) (pc := 18) (As := [.int x1, .int x5, .int v1]) (ρ1 := ρ) (st := []) dX1_addSeen_18 mdX1_seenAt mlX1_168 smX1_seenAt ⟨rfl, npX1_seenAt⟩ (Nat.le_of_ble_eq_true rfl) (Nat.le_refl _) (Nat.le_refl _) rfl (CALLi.mono h (fun v2 S2 _ h => ?_))
    refine AW_istore dX1_addSeen_21 (Nat.le_of_ble_eq_true rfl) rfl ?_
    refine AW_iload 0 dX1_addSeen_23 rfl ?_
    refine AW_if_lt dX1_addSeen_25 rfl (iteM h (fun h => ?_) (fun h => ?_))
    · refine AW_iinc 5 (v := x5 + 1) dX1_addSeen_49 rfl rfl (Nat.le_of_ble_eq_true rfl) rfl ?_
      refine AW_goto (tgt := 3) dX1_addSeen_52 rfl ?_
      exact AW.sub [2, 3, 4, 5, 0] rfl h
    · refine AW_iload 0 dX1_addSeen_28 rfl ?_
      refine AW_aload_n 1 (n := 0) rfl dX1_addSeen_30 rfl ?_
      refine AW_get dX1_addSeen_31 flX1_50 (Nat.le_of_ble_eq_true rfl) (okn hρ (Nat.le_of_ble_eq_true rfl)) rfl (v := .ref 53) (fvR (okR hρ 28 rfl)) ?_
      refine AW_alen (v := 336) dX1_addSeen_34 (Nat.le_of_ble_eq_true rfl) (okn hρ (Nat.le_of_ble_eq_true rfl)) (by decide) rfl rfl ?_
      refine AW_icmp_ge dX1_addSeen_35 rfl (iteM h (fun h => ?_) (fun h => ?_))
      · refine AW_iinc 5 (v := x5 + 1) dX1_addSeen_49 rfl rfl (Nat.le_of_ble_eq_true rfl) rfl ?_
        refine AW_goto (tgt := 3) dX1_addSeen_52 rfl ?_
        exact AW.sub [2, 3, 4, 5, 0] rfl h
      · refine AW_aload_n 1 (n := 0) rfl dX1_addSeen_38 rfl ?_
        refine AW_get dX1_addSeen_39 flX1_50 (Nat.le_of_ble_eq_true rfl) (okn hρ (Nat.le_of_ble_eq_true rfl)) rfl (v := .ref 53) (fvR (okR hρ 28 rfl)) ?_
        refine AW_iload 0 dX1_addSeen_42 rfl ?_
        refine AW_dup2_11 dX1_addSeen_44 rfl rfl ?_
        refine AW_laload dX1_addSeen_45 (Nat.le_of_ble_eq_true rfl) (okn hρ (Nat.le_of_ble_eq_true rfl)) rfl h.1 (v := S2.2 53 v2.toNatClampNeg) rfl ?_
        replace h := h.2
        refine AW_lload_n 4 (n := 3) rfl dX1_addSeen_46 rfl ?_
        refine AW_ladd dX1_addSeen_47 ?_
        refine AW_lastore dX1_addSeen_48 (Nat.le_of_ble_eq_true rfl) (okn hρ (Nat.le_of_ble_eq_true rfl)) rfl h.1 (hF _ (List.mem_of_getElem? (i := 0) rfl)) (jx := v2.toNatClampNeg) rfl ?_
        replace h := h.2
        refine AW_iinc 5 (v := x5 + 1) dX1_addSeen_49 rfl rfl (Nat.le_of_ble_eq_true rfl) rfl ?_
        refine AW_goto (tgt := 3) dX1_addSeen_52 rfl ?_
        exact AW.sub [2, 3, 4, 5, 0] rfl h
set_option maxRecDepth 20000 in
theorem eX1_addSeen {g : GX} {Q : St → Prop} {d : Nat} {ρ : Rs} {S : St} (hρ : Ok ρ) {x1 : Int32} {x2 : Int32} {x3 : Int64} (h : AW g ρ (QV Q) (d + 1) mX1_addSeen 3 [(0, .ref 31), (1, .int x1), (2, .int x2), (3, .long x3), (5, .int 0)] [] ρ S) : CALLv g (d + 1) mX1_addSeen [.ref 31, .int x1, .int x2, .long x3] ρ ρ S Q := by
  refine CALL.of mdX1_addSeen.2.2.2.2 (Nat.le_of_ble_eq_true rfl) (Nat.le_refl _) (Nat.le_refl _) ?_
  show AW g ρ (QV Q) (d + 1) mX1_addSeen 0 [(0, .ref 31), (1, .int x1), (2, .int x2), (3, .long x3)] [] ρ S
  refine AW_iconst (v := 0) dX1_addSeen_0 rfl ?_
  refine AW_istore dX1_addSeen_1 (Nat.le_of_ble_eq_true rfl) rfl ?_
  exact AW.sub [1, 2, 3, 4, 0] rfl h
set_option maxRecDepth 20000 in
theorem eX1_seenAt {g : GX} {Q : Int32 → St → Prop} {d : Nat} {ρ : Rs} {S : St} (hρ : Ok ρ) {x0 : Int32} {x1 : Int32} {x2 : Int32} (h : Q ((((4 * x0) + x1) * 21) + x2) S) : CALLi g d mX1_seenAt [.int x0, .int x1, .int x2] ρ ρ S Q := by
  refine CALL.of mdX1_seenAt.2.2.2.2 (Nat.le_of_ble_eq_true rfl) (Nat.le_refl _) (Nat.le_refl _) ?_
  show AW g ρ (QI Q) d mX1_seenAt 0 [(0, .int x0), (1, .int x1), (2, .int x2)] [] ρ S
  refine AW_iconst (v := 4) dX1_seenAt_0 rfl ?_
  refine AW_iload_n 0 (n := 0) rfl dX1_seenAt_1 rfl ?_
  refine AW_imul dX1_seenAt_2 ?_
  refine AW_iload_n 1 (n := 1) rfl dX1_seenAt_3 rfl ?_
  refine AW_iadd dX1_seenAt_4 ?_
  refine AW_bipush (v := 21) dX1_seenAt_5 rfl ?_
  refine AW_imul dX1_seenAt_7 ?_
  refine AW_iload_n 2 (n := 2) rfl dX1_seenAt_8 rfl ?_
  refine AW_iadd dX1_seenAt_9 ?_
  exact AW_reti dX1_seenAt_10 rfl h
set_option maxRecDepth 20000 in
theorem eX1_size {g : GX} {Q : Int64 → St → Prop} {d : Nat} {ρ : Rs} {S : St} (hρ : Ok ρ) (h : Q (S.2 47 0) S) : CALLl g (d + 1) mX1_size [.ref 31] ρ ρ S Q := by
  refine CALL.of mdX1_size.2.2.2.2 (Nat.le_of_ble_eq_true rfl) (Nat.le_refl _) (Nat.le_refl _) ?_
  show AW g ρ (QJ Q) (d + 1) mX1_size 0 [(0, .ref 31)] [] ρ S
  refine AW_aload_n 0 (n := 0) rfl dX1_size_0 rfl ?_
  refine AW_iconst (v := 0) dX1_size_1 rfl ?_
  refine AW_callVl (M := mX1_size) (pc := 2) (As := [.int 0]) (ρ1 := ρ) (st := []) dX1_size_2 mdX1_aheadOf rfl mlX1_155 imX1_aheadOf seX1_aheadOf (rcv_of (q := (RX1, TX1, 15)) (Nat.le_of_ble_eq_true rfl) (okn hρ (Nat.le_of_ble_eq_true rfl)) rfl rfl) ⟨rfl, npX1_aheadOf⟩ (Nat.le_of_ble_eq_true rfl) (Nat.le_refl _) (Nat.le_refl _) rfl (iX1_aheadOf hρ (show ¬ (_ ∨ _) by decide) (v := (S.2 47 0)) rfl ?_)
  exact AW_retl dX1_size_5 rfl h
set_option maxRecDepth 20000 in
theorem eX1_heft {g : GX} {Q : Int64 → St → Prop} {d : Nat} {ρ : Rs} {S : St} (hρ : Ok ρ) (h : Q (S.2 48 0) S) : CALLl g (d + 1) mX1_heft [.ref 31] ρ ρ S Q := by
  refine CALL.of mdX1_heft.2.2.2.2 (Nat.le_of_ble_eq_true rfl) (Nat.le_refl _) (Nat.le_refl _) ?_
  show AW g ρ (QJ Q) (d + 1) mX1_heft 0 [(0, .ref 31)] [] ρ S
  refine AW_aload_n 0 (n := 0) rfl dX1_heft_0 rfl ?_
  refine AW_get dX1_heft_1 flX1_35 (Nat.le_of_ble_eq_true rfl) (okn hρ (Nat.le_of_ble_eq_true rfl)) rfl (v := .ref 48) (fvR (okR hρ 23 rfl)) ?_
  refine AW_iconst (v := 0) dX1_heft_4 rfl ?_
  refine AW_callSl (M := mX1_heft) (pc := 5) (As := [.ref 48, .int 0]) (ρ1 := ρ) (st := []) dX1_heft_5 mdX7_get_ mlX1_175 smX7_get_ ⟨rfl, npX7_get_⟩ (Nat.le_of_ble_eq_true rfl) (Nat.le_refl _) (Nat.le_refl _) rfl (iX7_get_ hρ (Nat.le_of_ble_eq_true rfl) (okn hρ (Nat.le_of_ble_eq_true rfl)) rfl (by decide) (show ¬ (_ ∨ _) by decide) (v := (S.2 48 0)) rfl ?_)
  exact AW_retl dX1_heft_8 rfl h
set_option maxRecDepth 20000 in
theorem eX1_timesSeen {g : GX} {Q : Int64 → St → Prop} {d : Nat} {ρ : Rs} {S : St} (hρ : Ok ρ) {x1 : Int32} {x2 : Int32} {x3 : Int32} (h : CALLi g d mX1_seenAt [.int x1, .int x2, .int x3] ρ ρ S (fun v1 S1 => vp_in v1 336 ∧ (Q (S1.2 53 v1.toNatClampNeg) S1))) : CALLl g (d + 1) mX1_timesSeen [.ref 31, .int x1, .int x2, .int x3] ρ ρ S Q := by
  refine CALL.of mdX1_timesSeen.2.2.2.2 (Nat.le_of_ble_eq_true rfl) (Nat.le_refl _) (Nat.le_refl _) ?_
  show AW g ρ (QJ Q) (d + 1) mX1_timesSeen 0 [(0, .ref 31), (1, .int x1), (2, .int x2), (3, .int x3)] [] ρ S
  refine AW_aload_n 0 (n := 0) rfl dX1_timesSeen_0 rfl ?_
  refine AW_get dX1_timesSeen_1 flX1_50 (Nat.le_of_ble_eq_true rfl) (okn hρ (Nat.le_of_ble_eq_true rfl)) rfl (v := .ref 53) (fvR (okR hρ 28 rfl)) ?_
  refine AW_iload_n 1 (n := 1) rfl dX1_timesSeen_4 rfl ?_
  refine AW_iload_n 2 (n := 2) rfl dX1_timesSeen_5 rfl ?_
  refine AW_iload_n 3 (n := 3) rfl dX1_timesSeen_6 rfl ?_
  refine AW_callSi (M := mX1_timesSeen) (pc := 7) (As := [.int x1, .int x2, .int x3]) (ρ1 := ρ) (st := [.ref 53]) dX1_timesSeen_7 mdX1_seenAt mlX1_168 smX1_seenAt ⟨rfl, npX1_seenAt⟩ (Nat.le_of_ble_eq_true rfl) (Nat.le_refl _) (Nat.le_refl _) rfl (CALLi.mono h (fun v1 S1 _ h => ?_))
  refine AW_callSl (M := mX1_timesSeen) (pc := 10) (As := [.ref 53, .int v1]) (ρ1 := ρ) (st := []) dX1_timesSeen_10 mdX7_get_ mlX1_175 smX7_get_ ⟨rfl, npX7_get_⟩ (Nat.le_of_ble_eq_true rfl) (Nat.le_refl _) (Nat.le_refl _) rfl (iX7_get_ hρ (Nat.le_of_ble_eq_true rfl) (okn hρ (Nat.le_of_ble_eq_true rfl)) rfl (by decide) h.1 (v := (S1.2 53 v1.toNatClampNeg)) rfl ?_)
  replace h := h.2
  exact AW_retl dX1_timesSeen_13 rfl h
set_option maxRecDepth 20000 in
theorem eX1_sumSeen_5 {g : GX} {Q : Int64 → St → Prop} {d : Nat} {ρ : Rs} {S : St} (hρ : Ok ρ) {x1 : Int32} {x2 : Int32} {x3 : Int64} {x5 : Int32} (h : if (21 : Int32) ≤ x5 then Q x3 S else CALLl g d mX1_timesSeen [.ref 31, .int x1, .int x2, .int x5] ρ ρ S (fun v1 S1 => AW g ρ (QJ Q) (d + 1) mX1_sumSeen 5 [(0, .ref 31), (1, .int x1), (2, .int x2), (3, .long (x3 + (x5.toInt64 * v1))), (5, .int (x5 + 1))] [] ρ S1)) : AW g ρ (QJ Q) (d + 1) mX1_sumSeen 5 [(0, .ref 31), (1, .int x1), (2, .int x2), (3, .long x3), (5, .int x5)] [] ρ S := by
  refine AW_iload 4 dX1_sumSeen_5 rfl ?_
  refine AW_bipush (v := 21) dX1_sumSeen_7 rfl ?_
  refine AW_icmp_ge dX1_sumSeen_9 rfl (iteM h (fun h => ?_) (fun h => ?_))
  · refine AW_lload_n 3 (n := 3) rfl dX1_sumSeen_33 rfl ?_
    exact AW_retl dX1_sumSeen_34 rfl h
  · refine AW_lload_n 3 (n := 3) rfl dX1_sumSeen_12 rfl ?_
    refine AW_iload 4 dX1_sumSeen_13 rfl ?_
    refine AW_i2l dX1_sumSeen_15 ?_
    refine AW_aload_n 0 (n := 0) rfl dX1_sumSeen_16 rfl ?_
    refine AW_iload_n 1 (n := 1) rfl dX1_sumSeen_17 rfl ?_
    refine AW_iload_n 2 (n := 2) rfl dX1_sumSeen_18 rfl ?_
    refine AW_iload 4 dX1_sumSeen_19 rfl ?_
    refine AW_callVl (M := mX1_sumSeen) (pc := 21) (As := [.int x1, .int x2, .int x5]) (ρ1 := ρ) (st := [.long x5.toInt64, .long x3]) dX1_sumSeen_21 mdX1_timesSeen rfl mlX1_178 imX1_timesSeen seX1_timesSeen (rcv_of (q := (RX1, TX1, 15)) (Nat.le_of_ble_eq_true rfl) (okn hρ (Nat.le_of_ble_eq_true rfl)) rfl rfl) ⟨rfl, npX1_timesSeen⟩ (Nat.le_of_ble_eq_true rfl) (Nat.le_refl _) (Nat.le_refl _) rfl (CALLl.mono h (fun v1 S1 _ h => ?_))
    refine AW_lmul dX1_sumSeen_24 ?_
    refine AW_ladd dX1_sumSeen_25 ?_
    refine AW_lstore_n (n := 3) (i := 3) rfl dX1_sumSeen_26 (Nat.le_of_ble_eq_true rfl) rfl ?_
    refine AW_iinc 4 (v := x5 + 1) dX1_sumSeen_27 rfl rfl (Nat.le_of_ble_eq_true rfl) rfl ?_
    refine AW_goto (tgt := 5) dX1_sumSeen_30 rfl ?_
    exact AW.sub [2, 3, 4, 1, 0] rfl h
set_option maxRecDepth 20000 in
theorem eX1_sumSeen {g : GX} {Q : Int64 → St → Prop} {d : Nat} {ρ : Rs} {S : St} (hρ : Ok ρ) {x1 : Int32} {x2 : Int32} (h : AW g ρ (QJ Q) (d + 1) mX1_sumSeen 5 [(0, .ref 31), (1, .int x1), (2, .int x2), (3, .long 0), (5, .int 0)] [] ρ S) : CALLl g (d + 1) mX1_sumSeen [.ref 31, .int x1, .int x2] ρ ρ S Q := by
  refine CALL.of mdX1_sumSeen.2.2.2.2 (Nat.le_of_ble_eq_true rfl) (Nat.le_refl _) (Nat.le_refl _) ?_
  show AW g ρ (QJ Q) (d + 1) mX1_sumSeen 0 [(0, .ref 31), (1, .int x1), (2, .int x2)] [] ρ S
  refine AW_lconst (v := 0) dX1_sumSeen_0 rfl ?_
  refine AW_lstore_n (n := 3) (i := 3) rfl dX1_sumSeen_1 (Nat.le_of_ble_eq_true rfl) rfl ?_
  refine AW_iconst (v := 0) dX1_sumSeen_2 rfl ?_
  refine AW_istore dX1_sumSeen_3 (Nat.le_of_ble_eq_true rfl) rfl ?_
  exact AW.sub [2, 3, 4, 1, 0] rfl h
set_option maxRecDepth 20000 in
theorem eX1_lowestOf_2 {g : GX} {Q : Int32 → St → Prop} {d : Nat} {ρ : Rs} {S : St} (hρ : Ok ρ) {x1 : Int32} {x2 : Int32} {x3 : Int32} (h : if (20 : Int32) ≤ x3 then Q x3 S else CALLl g d mX1_timesSeen [.ref 31, .int x1, .int x2, .int x3] ρ ρ S (fun v1 S1 => if v1 = 0 then AW g ρ (QI Q) (d + 1) mX1_lowestOf 2 [(0, .ref 31), (1, .int x1), (2, .int x2), (3, .int (x3 + 1))] [] ρ S1 else Q x3 S1)) : AW g ρ (QI Q) (d + 1) mX1_lowestOf 2 [(0, .ref 31), (1, .int x1), (2, .int x2), (3, .int x3)] [] ρ S := by
  refine AW_iload_n 3 (n := 3) rfl dX1_lowestOf_2 rfl ?_
  refine AW_bipush (v := 20) dX1_lowestOf_3 rfl ?_
  refine AW_icmp_ge dX1_lowestOf_5 rfl (iteM h (fun h => ?_) (fun h => ?_))
  · refine AW_iload_n 3 (n := 3) rfl dX1_lowestOf_26 rfl ?_
    exact AW_reti dX1_lowestOf_27 rfl h
  · refine AW_aload_n 0 (n := 0) rfl dX1_lowestOf_8 rfl ?_
    refine AW_iload_n 1 (n := 1) rfl dX1_lowestOf_9 rfl ?_
    refine AW_iload_n 2 (n := 2) rfl dX1_lowestOf_10 rfl ?_
    refine AW_iload_n 3 (n := 3) rfl dX1_lowestOf_11 rfl ?_
    refine AW_callVl (M := mX1_lowestOf) (pc := 12) (As := [.int x1, .int x2, .int x3]) (ρ1 := ρ) (st := []) dX1_lowestOf_12 mdX1_timesSeen rfl mlX1_178 imX1_timesSeen seX1_timesSeen (rcv_of (q := (RX1, TX1, 15)) (Nat.le_of_ble_eq_true rfl) (okn hρ (Nat.le_of_ble_eq_true rfl)) rfl rfl) ⟨rfl, npX1_timesSeen⟩ (Nat.le_of_ble_eq_true rfl) (Nat.le_refl _) (Nat.le_refl _) rfl (CALLl.mono h (fun v1 S1 _ h => ?_))
    refine AW_lconst (v := 0) dX1_lowestOf_15 rfl ?_
    refine AW_lc_ne dX1_lowestOf_16 dX1_lowestOf_17 rfl (iteM h (fun h => ?_) (fun h => ?_))
    · refine AW_iinc 3 (v := x3 + 1) dX1_lowestOf_20 rfl rfl (Nat.le_of_ble_eq_true rfl) rfl ?_
      refine AW_goto (tgt := 2) dX1_lowestOf_23 rfl ?_
      exact AW.sub [1, 2, 3, 0] rfl h
    · refine AW_iload_n 3 (n := 3) rfl dX1_lowestOf_26 rfl ?_
      exact AW_reti dX1_lowestOf_27 rfl h
set_option maxRecDepth 20000 in
theorem eX1_lowestOf {g : GX} {Q : Int32 → St → Prop} {d : Nat} {ρ : Rs} {S : St} (hρ : Ok ρ) {x1 : Int32} {x2 : Int32} (h : AW g ρ (QI Q) (d + 1) mX1_lowestOf 2 [(0, .ref 31), (1, .int x1), (2, .int x2), (3, .int 0)] [] ρ S) : CALLi g (d + 1) mX1_lowestOf [.ref 31, .int x1, .int x2] ρ ρ S Q := by
  refine CALL.of mdX1_lowestOf.2.2.2.2 (Nat.le_of_ble_eq_true rfl) (Nat.le_refl _) (Nat.le_refl _) ?_
  show AW g ρ (QI Q) (d + 1) mX1_lowestOf 0 [(0, .ref 31), (1, .int x1), (2, .int x2)] [] ρ S
  refine AW_iconst (v := 0) dX1_lowestOf_0 rfl ?_
  refine AW_istore_n (n := 3) (i := 3) rfl dX1_lowestOf_1 (Nat.le_of_ble_eq_true rfl) rfl ?_
  exact AW.sub [1, 2, 3, 0] rfl h
set_option maxRecDepth 20000 in
theorem eX1_highestOf_3 {g : GX} {Q : Int32 → St → Prop} {d : Nat} {ρ : Rs} {S : St} (hρ : Ok ρ) {x1 : Int32} {x2 : Int32} {x3 : Int32} (h : if x3 ≤ 0 then Q x3 S else CALLl g d mX1_timesSeen [.ref 31, .int x1, .int x2, .int x3] ρ ρ S (fun v1 S1 => if v1 = 0 then AW g ρ (QI Q) (d + 1) mX1_highestOf 3 [(0, .ref 31), (1, .int x1), (2, .int x2), (3, .int (x3 + (-1)))] [] ρ S1 else Q x3 S1)) : AW g ρ (QI Q) (d + 1) mX1_highestOf 3 [(0, .ref 31), (1, .int x1), (2, .int x2), (3, .int x3)] [] ρ S := by
  refine AW_iload_n 3 (n := 3) rfl dX1_highestOf_3 rfl ?_
  refine AW_if_le dX1_highestOf_4 rfl (iteM h (fun h => ?_) (fun h => ?_))
  · refine AW_iload_n 3 (n := 3) rfl dX1_highestOf_25 rfl ?_
    exact AW_reti dX1_highestOf_26 rfl h
  · refine AW_aload_n 0 (n := 0) rfl dX1_highestOf_7 rfl ?_
    refine AW_iload_n 1 (n := 1) rfl dX1_highestOf_8 rfl ?_
    refine AW_iload_n 2 (n := 2) rfl dX1_highestOf_9 rfl ?_
    refine AW_iload_n 3 (n := 3) rfl dX1_highestOf_10 rfl ?_
    refine AW_callVl (M := mX1_highestOf) (pc := 11) (As := [.int x1, .int x2, .int x3]) (ρ1 := ρ) (st := []) dX1_highestOf_11 mdX1_timesSeen rfl mlX1_178 imX1_timesSeen seX1_timesSeen (rcv_of (q := (RX1, TX1, 15)) (Nat.le_of_ble_eq_true rfl) (okn hρ (Nat.le_of_ble_eq_true rfl)) rfl rfl) ⟨rfl, npX1_timesSeen⟩ (Nat.le_of_ble_eq_true rfl) (Nat.le_refl _) (Nat.le_refl _) rfl (CALLl.mono h (fun v1 S1 _ h => ?_))
    refine AW_lconst (v := 0) dX1_highestOf_14 rfl ?_
    refine AW_lc_ne dX1_highestOf_15 dX1_highestOf_16 rfl (iteM h (fun h => ?_) (fun h => ?_))
    · refine AW_iinc 3 (v := x3 + (-1)) dX1_highestOf_19 rfl rfl (Nat.le_of_ble_eq_true rfl) rfl ?_
      refine AW_goto (tgt := 3) dX1_highestOf_22 rfl ?_
      exact AW.sub [1, 2, 3, 0] rfl h
    · refine AW_iload_n 3 (n := 3) rfl dX1_highestOf_25 rfl ?_
      exact AW_reti dX1_highestOf_26 rfl h
set_option maxRecDepth 20000 in
theorem eX1_highestOf {g : GX} {Q : Int32 → St → Prop} {d : Nat} {ρ : Rs} {S : St} (hρ : Ok ρ) {x1 : Int32} {x2 : Int32} (h : AW g ρ (QI Q) (d + 1) mX1_highestOf 3 [(0, .ref 31), (1, .int x1), (2, .int x2), (3, .int 20)] [] ρ S) : CALLi g (d + 1) mX1_highestOf [.ref 31, .int x1, .int x2] ρ ρ S Q := by
  refine CALL.of mdX1_highestOf.2.2.2.2 (Nat.le_of_ble_eq_true rfl) (Nat.le_refl _) (Nat.le_refl _) ?_
  show AW g ρ (QI Q) (d + 1) mX1_highestOf 0 [(0, .ref 31), (1, .int x1), (2, .int x2)] [] ρ S
  refine AW_bipush (v := 20) dX1_highestOf_0 rfl ?_
  refine AW_istore_n (n := 3) (i := 3) rfl dX1_highestOf_2 (Nat.le_of_ble_eq_true rfl) rfl ?_
  exact AW.sub [1, 2, 3, 0] rfl h
set_option maxRecDepth 20000 in
theorem eX1_linkBy_15 {g : GX} {Q : Int32 → St → Prop} {d : Nat} {ρ : Rs} {S : St} (hρ : Ok ρ) {x2 : Int32} {x3 : Int32} {x4 : Int32} (h : if x3 ≤ x4 then Q (-1) S else vp_in x4 4800 ∧ (vp_in (S.1 45 x4.toNatClampNeg) 320 ∧ (if (S.1 34 ((S.1 45 x4.toNatClampNeg).toNatClampNeg)) = x2 then Q x4 S else AW g ρ (QI Q) (d + 2) mX1_linkBy 15 [(0, .ref 31), (2, .int x2), (3, .int x3), (4, .int (x4 + 1))] [] ρ S))) : AW g ρ (QI Q) (d + 2) mX1_linkBy 15 [(0, .ref 31), (2, .int x2), (3, .int x3), (4, .int x4)] [] ρ S := by
  refine AW_iload 3 dX1_linkBy_15 rfl ?_
  refine AW_iload_n 2 (n := 3) rfl dX1_linkBy_17 rfl ?_
  refine AW_icmp_ge dX1_linkBy_18 rfl (iteM h (fun h => ?_) (fun h => ?_))
  · refine AW_iconst (v := (-1)) dX1_linkBy_40 rfl ?_
    exact AW_reti dX1_linkBy_41 rfl h
  · refine AW_aload_n 0 (n := 0) rfl dX1_linkBy_21 rfl ?_
    refine AW_iload 3 dX1_linkBy_22 rfl ?_
    refine AW_callVi (M := mX1_linkBy) (pc := 24) (As := [.int x4]) (ρ1 := ρ) (st := []) dX1_linkBy_24 mdX1_lineBy rfl mlX1_152 imX1_lineBy seX1_lineBy (rcv_of (q := (RX1, TX1, 15)) (Nat.le_of_ble_eq_true rfl) (okn hρ (Nat.le_of_ble_eq_true rfl)) rfl rfl) ⟨rfl, npX1_lineBy⟩ (Nat.le_of_ble_eq_true rfl) (Nat.le_refl _) (Nat.le_refl _) rfl (iX1_lineBy hρ h.1 h.2.1 (v := (S.1 34 ((S.1 45 x4.toNatClampNeg).toNatClampNeg))) rfl ?_)
    replace h := h.2.2
    refine AW_iload_n 1 (n := 2) rfl dX1_linkBy_27 rfl ?_
    refine AW_icmp_ne dX1_linkBy_28 rfl (iteM h (fun h => ?_) (fun h => ?_))
    · refine AW_iload 3 dX1_linkBy_31 rfl ?_
      exact AW_reti dX1_linkBy_33 rfl h
    · refine AW_iinc 3 (v := x4 + 1) dX1_linkBy_34 rfl rfl (Nat.le_of_ble_eq_true rfl) rfl ?_
      refine AW_goto (tgt := 15) dX1_linkBy_37 rfl ?_
      exact AW.sub [1, 2, 3, 0] rfl h
set_option maxRecDepth 20000 in
theorem eX1_linkBy {g : GX} {Q : Int32 → St → Prop} {d : Nat} {ρ : Rs} {S : St} (hρ : Ok ρ) {x1 : Int32} {x2 : Int32} (h : vp_in (x1 + 1) 481 ∧ (¬ (S.1 44 ((x1 + 1).toNatClampNeg)) < 0 ∧ (¬ 4800 < (S.1 44 ((x1 + 1).toNatClampNeg)) ∧ (vp_in x1 481 ∧ (¬ (S.1 44 x1.toNatClampNeg) < 0 ∧ (¬ 4800 < (S.1 44 x1.toNatClampNeg) ∧ (AW g ρ (QI Q) (d + 2) mX1_linkBy 15 [(0, .ref 31), (2, .int x2), (3, .int (S.1 44 ((x1 + 1).toNatClampNeg))), (4, .int (S.1 44 x1.toNatClampNeg))] [] ρ S))))))) : CALLi g (d + 2) mX1_linkBy [.ref 31, .int x1, .int x2] ρ ρ S Q := by
  refine CALL.of mdX1_linkBy.2.2.2.2 (Nat.le_of_ble_eq_true rfl) (Nat.le_refl _) (Nat.le_refl _) ?_
  show AW g ρ (QI Q) (d + 2) mX1_linkBy 0 [(0, .ref 31), (1, .int x1), (2, .int x2)] [] ρ S
  refine AW_aload_n 0 (n := 0) rfl dX1_linkBy_0 rfl ?_
  refine AW_iload_n 1 (n := 1) rfl dX1_linkBy_1 rfl ?_
  refine AW_iconst (v := 1) dX1_linkBy_2 rfl ?_
  refine AW_iadd dX1_linkBy_3 ?_
  refine AW_callVi (M := mX1_linkBy) (pc := 4) (As := [.int (x1 + 1)]) (ρ1 := ρ) (st := []) dX1_linkBy_4 mdX1_firstLinkOf rfl mlX1_142 imX1_firstLinkOf seX1_firstLinkOf (rcv_of (q := (RX1, TX1, 15)) (Nat.le_of_ble_eq_true rfl) (okn hρ (Nat.le_of_ble_eq_true rfl)) rfl rfl) ⟨rfl, npX1_firstLinkOf⟩ (Nat.le_of_ble_eq_true rfl) (Nat.le_refl _) (Nat.le_refl _) rfl (iX1_firstLinkOf hρ h.1 h.2.1 h.2.2.1 (v := (S.1 44 ((x1 + 1).toNatClampNeg))) rfl ?_)
  replace h := h.2.2.2
  refine AW_istore_n (n := 3) (i := 3) rfl dX1_linkBy_7 (Nat.le_of_ble_eq_true rfl) rfl ?_
  refine AW_aload_n 1 (n := 0) rfl dX1_linkBy_8 rfl ?_
  refine AW_iload_n 2 (n := 1) rfl dX1_linkBy_9 rfl ?_
  refine AW_callVi (M := mX1_linkBy) (pc := 10) (As := [.int x1]) (ρ1 := ρ) (st := []) dX1_linkBy_10 mdX1_firstLinkOf rfl mlX1_142 imX1_firstLinkOf seX1_firstLinkOf (rcv_of (q := (RX1, TX1, 15)) (Nat.le_of_ble_eq_true rfl) (okn hρ (Nat.le_of_ble_eq_true rfl)) rfl rfl) ⟨rfl, npX1_firstLinkOf⟩ (Nat.le_of_ble_eq_true rfl) (Nat.le_refl _) (Nat.le_refl _) rfl (iX1_firstLinkOf hρ h.1 h.2.1 h.2.2.1 (v := (S.1 44 x1.toNatClampNeg)) rfl ?_)
  replace h := h.2.2.2
  refine AW_istore dX1_linkBy_13 (Nat.le_of_ble_eq_true rfl) rfl ?_
  exact AW.sub [2, 4, 1, 0] rfl h
set_option maxRecDepth 20000 in
theorem eX1_rankOf_49 {g : GX} {Q : Int64 → St → Prop} {d : Nat} {ρ : Rs} {S : St} (hρ : Ok ρ) {x1 : Int64} {x3 : Int64} {x6 : Int32} {x7 : Int32} {x8 : Int32} (h : if x7 ≤ x8 then vp_in x7 4800 ∧ (AW g ρ (QJ Q) (d + 2) mX1_rankOf 8 [(0, .ref 31), (1, .long x1), (3, .long x3), (5, .int (S.1 46 x7.toNatClampNeg)), (6, .int (x6 + 1))] [] ρ S) else vp_in x8 4800 ∧ (vp_in (S.1 46 x8.toNatClampNeg) 480 ∧ (AW g ρ (QJ Q) (d + 2) mX1_rankOf 49 [(0, .ref 31), (1, .long x1), (3, .long (x3 + (S.2 47 ((S.1 46 x8.toNatClampNeg).toNatClampNeg)))), (6, .int x6), (7, .int x7), (8, .int (x8 + 1))] [] ρ S))) : AW g ρ (QJ Q) (d + 2) mX1_rankOf 49 [(0, .ref 31), (1, .long x1), (3, .long x3), (6, .int x6), (7, .int x7), (8, .int x8)] [] ρ S := by
  refine AW_iload 5 dX1_rankOf_49 rfl ?_
  refine AW_iload 4 dX1_rankOf_51 rfl ?_
  refine AW_icmp_ge dX1_rankOf_53 rfl (iteM h (fun h => ?_) (fun h => ?_))
  · refine AW_aload_n 0 (n := 0) rfl dX1_rankOf_76 rfl ?_
    refine AW_iload 4 dX1_rankOf_77 rfl ?_
    refine AW_callVi (M := mX1_rankOf) (pc := 79) (As := [.int x7]) (ρ1 := ρ) (st := []) dX1_rankOf_79 mdX1_nodeBy rfl mlX1_191 imX1_nodeBy seX1_nodeBy (rcv_of (q := (RX1, TX1, 15)) (Nat.le_of_ble_eq_true rfl) (okn hρ (Nat.le_of_ble_eq_true rfl)) rfl rfl) ⟨rfl, npX1_nodeBy⟩ (Nat.le_of_ble_eq_true rfl) (Nat.le_refl _) (Nat.le_refl _) rfl (iX1_nodeBy hρ h.1 (v := (S.1 46 x7.toNatClampNeg)) rfl ?_)
    replace h := h.2
    refine AW_istore dX1_rankOf_82 (Nat.le_of_ble_eq_true rfl) rfl ?_
    refine AW_iinc 4 (v := x6 + 1) dX1_rankOf_84 rfl rfl (Nat.le_of_ble_eq_true rfl) rfl ?_
    refine AW_goto (tgt := 8) dX1_rankOf_87 rfl ?_
    exact AW.sub [2, 3, 4, 1, 0] rfl h
  · refine AW_lload_n 2 (n := 3) rfl dX1_rankOf_56 rfl ?_
    refine AW_aload_n 0 (n := 0) rfl dX1_rankOf_57 rfl ?_
    refine AW_aload_n 0 (n := 0) rfl dX1_rankOf_58 rfl ?_
    refine AW_get dX1_rankOf_59 flX1_28 (Nat.le_of_ble_eq_true rfl) (okn hρ (Nat.le_of_ble_eq_true rfl)) rfl (v := .ref 46) (fvR (okR hρ 21 rfl)) ?_
    refine AW_iload 5 dX1_rankOf_62 rfl ?_
    refine AW_iaload dX1_rankOf_64 (Nat.le_of_ble_eq_true rfl) (okn hρ (Nat.le_of_ble_eq_true rfl)) rfl h.1 (v := S.1 46 x8.toNatClampNeg) rfl ?_
    replace h := h.2
    refine AW_callVl (M := mX1_rankOf) (pc := 65) (As := [.int (S.1 46 x8.toNatClampNeg)]) (ρ1 := ρ) (st := [.long x3]) dX1_rankOf_65 mdX1_aheadOf rfl mlX1_155 imX1_aheadOf seX1_aheadOf (rcv_of (q := (RX1, TX1, 15)) (Nat.le_of_ble_eq_true rfl) (okn hρ (Nat.le_of_ble_eq_true rfl)) rfl rfl) ⟨rfl, npX1_aheadOf⟩ (Nat.le_of_ble_eq_true rfl) (Nat.le_refl _) (Nat.le_refl _) rfl (iX1_aheadOf hρ h.1 (v := (S.2 47 ((S.1 46 x8.toNatClampNeg).toNatClampNeg))) rfl ?_)
    replace h := h.2
    refine AW_ladd dX1_rankOf_68 ?_
    refine AW_lstore_n (n := 3) (i := 3) rfl dX1_rankOf_69 (Nat.le_of_ble_eq_true rfl) rfl ?_
    refine AW_iinc 5 (v := x8 + 1) dX1_rankOf_70 rfl rfl (Nat.le_of_ble_eq_true rfl) rfl ?_
    refine AW_goto (tgt := 49) dX1_rankOf_73 rfl ?_
    exact AW.sub [2, 3, 1, 4, 5, 0] rfl h
set_option maxRecDepth 20000 in
theorem eX1_rankOf_8 {g : GX} {Q : Int64 → St → Prop} {d : Nat} {ρ : Rs} {S : St} (hρ : Ok ρ) {x1 : Int64} {x3 : Int64} {x5 : Int32} {x6 : Int32} (h : if (S.1 31 1) ≤ x6 then Q x3 S else CALLi g (d + 1) mX3_lineOf [.long x1, .int x6] ρ ρ S (fun v1 S1 => CALLi g (d + 1) mX1_linkBy [.ref 31, .int x5, .int v1] ρ ρ S1 (fun v2 S2 => if v2 = (-1) then Q (-1) S2 else vp_in x5 481 ∧ (¬ (S2.1 44 x5.toNatClampNeg) < 0 ∧ (¬ 4800 < (S2.1 44 x5.toNatClampNeg) ∧ (AW g ρ (QJ Q) (d + 2) mX1_rankOf 49 [(0, .ref 31), (1, .long x1), (3, .long x3), (6, .int x6), (7, .int v2), (8, .int (S2.1 44 x5.toNatClampNeg))] [] ρ S2)))))) : AW g ρ (QJ Q) (d + 2) mX1_rankOf 8 [(0, .ref 31), (1, .long x1), (3, .long x3), (5, .int x5), (6, .int x6)] [] ρ S := by
  refine AW_iload 4 dX1_rankOf_8 rfl ?_
  refine AW_aload_n 0 (n := 0) rfl dX1_rankOf_10 rfl ?_
  refine AW_get dX1_rankOf_11 flX1_59 (Nat.le_of_ble_eq_true rfl) (okn hρ (Nat.le_of_ble_eq_true rfl)) rfl (v := .int (S.1 31 1)) (fun _ => rfl) ?_
  refine AW_icmp_ge dX1_rankOf_14 rfl (iteM h (fun h => ?_) (fun h => ?_))
  · refine AW_lload_n 2 (n := 3) rfl dX1_rankOf_90 rfl ?_
    exact AW_retl dX1_rankOf_91 rfl h
  · refine AW_aload_n 0 (n := 0) rfl dX1_rankOf_17 rfl ?_
    refine AW_iload 3 dX1_rankOf_18 rfl ?_
    refine AW_lload_n 1 (n := 1) rfl dX1_rankOf_20 rfl ?_
    refine AW_iload 4 dX1_rankOf_21 rfl ?_
    refine AW_callSi (M := mX1_rankOf) (pc := 23) (As := [.long x1, .int x6]) (ρ1 := ρ) (st := [.int x5, .ref 31]) dX1_rankOf_23 mdX3_lineOf mlX1_182 smX3_lineOf ⟨rfl, npX3_lineOf⟩ (Nat.le_of_ble_eq_true rfl) (Nat.le_refl _) (Nat.le_refl _) rfl (CALLi.mono h (fun v1 S1 _ h => ?_))
    refine AW_callVi (M := mX1_rankOf) (pc := 26) (As := [.int x5, .int v1]) (ρ1 := ρ) (st := []) dX1_rankOf_26 mdX1_linkBy rfl mlX1_186 imX1_linkBy seX1_linkBy (rcv_of (q := (RX1, TX1, 15)) (Nat.le_of_ble_eq_true rfl) (okn hρ (Nat.le_of_ble_eq_true rfl)) rfl rfl) ⟨rfl, npX1_linkBy⟩ (Nat.le_of_ble_eq_true rfl) (Nat.le_refl _) (Nat.le_refl _) rfl (CALLi.mono h (fun v2 S2 _ h => ?_))
    refine AW_istore dX1_rankOf_29 (Nat.le_of_ble_eq_true rfl) rfl ?_
    refine AW_iload 0 dX1_rankOf_31 rfl ?_
    refine AW_iconst (v := (-1)) dX1_rankOf_33 rfl ?_
    refine AW_icmp_ne dX1_rankOf_34 rfl (iteM h (fun h => ?_) (fun h => ?_))
    · refine AW_ldc2 (v := (-1)) dX1_rankOf_37 kcX1_189 ?_
      exact AW_retl dX1_rankOf_40 rfl h
    · refine AW_aload_n 1 (n := 0) rfl dX1_rankOf_41 rfl ?_
      refine AW_iload 4 dX1_rankOf_42 rfl ?_
      refine AW_callVi (M := mX1_rankOf) (pc := 44) (As := [.int x5]) (ρ1 := ρ) (st := []) dX1_rankOf_44 mdX1_firstLinkOf rfl mlX1_142 imX1_firstLinkOf seX1_firstLinkOf (rcv_of (q := (RX1, TX1, 15)) (Nat.le_of_ble_eq_true rfl) (okn hρ (Nat.le_of_ble_eq_true rfl)) rfl rfl) ⟨rfl, npX1_firstLinkOf⟩ (Nat.le_of_ble_eq_true rfl) (Nat.le_refl _) (Nat.le_refl _) rfl (iX1_firstLinkOf hρ h.1 h.2.1 h.2.2.1 (v := (S2.1 44 x5.toNatClampNeg)) rfl ?_)
      replace h := h.2.2.2
      refine AW_istore dX1_rankOf_47 (Nat.le_of_ble_eq_true rfl) rfl ?_
      exact AW.sub [2, 3, 4, 6, 1, 0] rfl h
set_option maxRecDepth 20000 in
theorem eX1_rankOf {g : GX} {Q : Int64 → St → Prop} {d : Nat} {ρ : Rs} {S : St} (hρ : Ok ρ) {x1 : Int64} (h : AW g ρ (QJ Q) (d + 2) mX1_rankOf 8 [(0, .ref 31), (1, .long x1), (3, .long 0), (5, .int 0), (6, .int 0)] [] ρ S) : CALLl g (d + 2) mX1_rankOf [.ref 31, .long x1] ρ ρ S Q := by
  refine CALL.of mdX1_rankOf.2.2.2.2 (Nat.le_of_ble_eq_true rfl) (Nat.le_refl _) (Nat.le_refl _) ?_
  show AW g ρ (QJ Q) (d + 2) mX1_rankOf 0 [(0, .ref 31), (1, .long x1)] [] ρ S
  refine AW_lconst (v := 0) dX1_rankOf_0 rfl ?_
  refine AW_lstore_n (n := 3) (i := 3) rfl dX1_rankOf_1 (Nat.le_of_ble_eq_true rfl) rfl ?_
  refine AW_iconst (v := 0) dX1_rankOf_2 rfl ?_
  refine AW_istore dX1_rankOf_3 (Nat.le_of_ble_eq_true rfl) rfl ?_
  refine AW_iconst (v := 0) dX1_rankOf_5 rfl ?_
  refine AW_istore dX1_rankOf_6 (Nat.le_of_ble_eq_true rfl) rfl ?_
  exact AW.sub [3, 4, 2, 1, 0] rfl h
set_option maxRecDepth 20000 in
theorem eX1_cellsOf_84 {g : GX} {Q : Int64 → St → Prop} {d : Nat} {ρ : Rs} {S : St} (hρ : Ok ρ) {x3 : Int64} {x5 : Int64} {x8 : Int32} {x9 : Int32} (h : vp_in x9 4800 ∧ (vp_in (S.1 45 x9.toNatClampNeg) 320 ∧ (CALLl g (d + 1) mX3_withLine [.long x3, .int x8, .int (S.1 34 ((S.1 45 x9.toNatClampNeg).toNatClampNeg))] ρ ρ S (fun v1 S1 => vp_in x9 4800 ∧ (AW g ρ (QJ Q) (d + 2) mX1_cellsOf 11 [(0, .ref 31), (3, .long v1), (5, .long x5), (7, .int (S1.1 46 x9.toNatClampNeg)), (8, .int (x8 + 1))] [] ρ S1))))) : AW g ρ (QJ Q) (d + 2) mX1_cellsOf 84 [(0, .ref 31), (3, .long x3), (5, .long x5), (8, .int x8), (9, .int x9)] [] ρ S := by
  refine AW_lload_n 1 (n := 3) rfl dX1_cellsOf_84 rfl ?_
  refine AW_iload 3 dX1_cellsOf_85 rfl ?_
  refine AW_aload_n 0 (n := 0) rfl dX1_cellsOf_87 rfl ?_
  refine AW_iload 4 dX1_cellsOf_88 rfl ?_
  refine AW_callVi (M := mX1_cellsOf) (pc := 90) (As := [.int x9]) (ρ1 := ρ) (st := [.int x8, .long x3]) dX1_cellsOf_90 mdX1_lineBy rfl mlX1_152 imX1_lineBy seX1_lineBy (rcv_of (q := (RX1, TX1, 15)) (Nat.le_of_ble_eq_true rfl) (okn hρ (Nat.le_of_ble_eq_true rfl)) rfl rfl) ⟨rfl, npX1_lineBy⟩ (Nat.le_of_ble_eq_true rfl) (Nat.le_refl _) (Nat.le_refl _) rfl (iX1_lineBy hρ h.1 h.2.1 (v := (S.1 34 ((S.1 45 x9.toNatClampNeg).toNatClampNeg))) rfl ?_)
  replace h := h.2.2
  refine AW_callSl (M := mX1_cellsOf) (pc := 93) (As := [.long x3, .int x8, .int (S.1 34 ((S.1 45 x9.toNatClampNeg).toNatClampNeg))]) (ρ1 := ρ) (st := []) dX1_cellsOf_93 mdX3_withLine mlX1_194 smX3_withLine ⟨rfl, npX3_withLine⟩ (Nat.le_of_ble_eq_true rfl) (Nat.le_refl _) (Nat.le_refl _) rfl (CALLl.mono h (fun v1 S1 _ h => ?_))
  refine AW_lstore_n (n := 3) (i := 3) rfl dX1_cellsOf_96 (Nat.le_of_ble_eq_true rfl) rfl ?_
  refine AW_aload_n 1 (n := 0) rfl dX1_cellsOf_97 rfl ?_
  refine AW_iload 4 dX1_cellsOf_98 rfl ?_
  refine AW_callVi (M := mX1_cellsOf) (pc := 100) (As := [.int x9]) (ρ1 := ρ) (st := []) dX1_cellsOf_100 mdX1_nodeBy rfl mlX1_191 imX1_nodeBy seX1_nodeBy (rcv_of (q := (RX1, TX1, 15)) (Nat.le_of_ble_eq_true rfl) (okn hρ (Nat.le_of_ble_eq_true rfl)) rfl rfl) ⟨rfl, npX1_nodeBy⟩ (Nat.le_of_ble_eq_true rfl) (Nat.le_refl _) (Nat.le_refl _) rfl (iX1_nodeBy hρ h.1 (v := (S1.1 46 x9.toNatClampNeg)) rfl ?_)
  replace h := h.2
  refine AW_istore dX1_cellsOf_103 (Nat.le_of_ble_eq_true rfl) rfl ?_
  refine AW_iinc 4 (v := x8 + 1) dX1_cellsOf_105 rfl rfl (Nat.le_of_ble_eq_true rfl) rfl ?_
  refine AW_goto (tgt := 11) dX1_cellsOf_108 rfl ?_
  exact AW.sub [3, 2, 4, 1, 0] rfl h
set_option maxRecDepth 20000 in
theorem eX1_cellsOf_40 {g : GX} {Q : Int64 → St → Prop} {d : Nat} {ρ : Rs} {S : St} (hρ : Ok ρ) {x3 : Int64} {x5 : Int64} {x8 : Int32} {x9 : Int32} {x10 : Int32} (h : if x10 ≤ x9 then AW g ρ (QJ Q) (d + 2) mX1_cellsOf 84 [(0, .ref 31), (3, .long x3), (5, .long x5), (8, .int x8), (9, .int x9)] [] ρ S else vp_in x9 4800 ∧ (vp_in (S.1 46 x9.toNatClampNeg) 480 ∧ (if (S.2 47 ((S.1 46 x9.toNatClampNeg).toNatClampNeg)) ≤ x5 then AW g ρ (QJ Q) (d + 2) mX1_cellsOf 40 [(0, .ref 31), (3, .long x3), (5, .long (x5 - (S.2 47 ((S.1 46 x9.toNatClampNeg).toNatClampNeg)))), (8, .int x8), (9, .int (x9 + 1)), (10, .int x10)] [] ρ S else AW g ρ (QJ Q) (d + 2) mX1_cellsOf 84 [(0, .ref 31), (3, .long x3), (5, .long x5), (8, .int x8), (9, .int x9)] [] ρ S))) : AW g ρ (QJ Q) (d + 2) mX1_cellsOf 40 [(0, .ref 31), (3, .long x3), (5, .long x5), (8, .int x8), (9, .int x9), (10, .int x10)] [] ρ S := by
  refine AW_iload 4 dX1_cellsOf_40 rfl ?_
  refine AW_iload 5 dX1_cellsOf_42 rfl ?_
  refine AW_icmp_ge dX1_cellsOf_44 rfl (iteM h (fun h => ?_) (fun h => ?_))
  · exact AW.sub [0, 1, 2, 3, 4] rfl h
  · refine AW_aload_n 0 (n := 0) rfl dX1_cellsOf_47 rfl ?_
    refine AW_aload_n 0 (n := 0) rfl dX1_cellsOf_48 rfl ?_
    refine AW_get dX1_cellsOf_49 flX1_28 (Nat.le_of_ble_eq_true rfl) (okn hρ (Nat.le_of_ble_eq_true rfl)) rfl (v := .ref 46) (fvR (okR hρ 21 rfl)) ?_
    refine AW_iload 4 dX1_cellsOf_52 rfl ?_
    refine AW_iaload dX1_cellsOf_54 (Nat.le_of_ble_eq_true rfl) (okn hρ (Nat.le_of_ble_eq_true rfl)) rfl h.1 (v := S.1 46 x9.toNatClampNeg) rfl ?_
    replace h := h.2
    refine AW_callVl (M := mX1_cellsOf) (pc := 55) (As := [.int (S.1 46 x9.toNatClampNeg)]) (ρ1 := ρ) (st := []) dX1_cellsOf_55 mdX1_aheadOf rfl mlX1_155 imX1_aheadOf seX1_aheadOf (rcv_of (q := (RX1, TX1, 15)) (Nat.le_of_ble_eq_true rfl) (okn hρ (Nat.le_of_ble_eq_true rfl)) rfl rfl) ⟨rfl, npX1_aheadOf⟩ (Nat.le_of_ble_eq_true rfl) (Nat.le_refl _) (Nat.le_refl _) rfl (iX1_aheadOf hρ h.1 (v := (S.2 47 ((S.1 46 x9.toNatClampNeg).toNatClampNeg))) rfl ?_)
    replace h := h.2
    refine AW_lstore dX1_cellsOf_58 (Nat.le_of_ble_eq_true rfl) rfl ?_
    refine AW_lload 3 dX1_cellsOf_60 rfl ?_
    refine AW_lload 0 dX1_cellsOf_62 rfl ?_
    refine AW_lc_ge dX1_cellsOf_64 dX1_cellsOf_65 rfl (iteM h (fun h => ?_) (fun h => ?_))
    · refine AW_lload 3 dX1_cellsOf_71 rfl ?_
      refine AW_lload 0 dX1_cellsOf_73 rfl ?_
      refine AW_lsub dX1_cellsOf_75 ?_
      refine AW_lstore dX1_cellsOf_76 (Nat.le_of_ble_eq_true rfl) rfl ?_
      refine AW_iinc 5 (v := x9 + 1) dX1_cellsOf_78 rfl rfl (Nat.le_of_ble_eq_true rfl) rfl ?_
      refine AW_goto (tgt := 40) dX1_cellsOf_81 rfl ?_
      exact AW.sub [3, 4, 1, 5, 0, 6] rfl h
    · refine AW_goto (tgt := 84) dX1_cellsOf_68 rfl ?_
      exact AW.sub [1, 2, 3, 4, 5] rfl h
set_option maxRecDepth 20000 in
theorem eX1_cellsOf_11 {g : GX} {Q : Int64 → St → Prop} {d : Nat} {ρ : Rs} {S : St} (hρ : Ok ρ) {x3 : Int64} {x5 : Int64} {x7 : Int32} {x8 : Int32} (h : if (S.1 31 1) ≤ x8 then Q x3 S else vp_in x7 481 ∧ (¬ (S.1 44 x7.toNatClampNeg) < 0 ∧ (¬ 4800 < (S.1 44 x7.toNatClampNeg) ∧ (vp_in (x7 + 1) 481 ∧ (¬ (S.1 44 ((x7 + 1).toNatClampNeg)) < 0 ∧ (¬ 4800 < (S.1 44 ((x7 + 1).toNatClampNeg)) ∧ (AW g ρ (QJ Q) (d + 2) mX1_cellsOf 40 [(0, .ref 31), (3, .long x3), (5, .long x5), (8, .int x8), (9, .int (S.1 44 x7.toNatClampNeg)), (10, .int ((S.1 44 ((x7 + 1).toNatClampNeg)) - 1))] [] ρ S))))))) : AW g ρ (QJ Q) (d + 2) mX1_cellsOf 11 [(0, .ref 31), (3, .long x3), (5, .long x5), (7, .int x7), (8, .int x8)] [] ρ S := by
  refine AW_iload 4 dX1_cellsOf_11 rfl ?_
  refine AW_aload_n 0 (n := 0) rfl dX1_cellsOf_13 rfl ?_
  refine AW_get dX1_cellsOf_14 flX1_59 (Nat.le_of_ble_eq_true rfl) (okn hρ (Nat.le_of_ble_eq_true rfl)) rfl (v := .int (S.1 31 1)) (fun _ => rfl) ?_
  refine AW_icmp_ge dX1_cellsOf_17 rfl (iteM h (fun h => ?_) (fun h => ?_))
  · refine AW_lload_n 1 (n := 3) rfl dX1_cellsOf_111 rfl ?_
    exact AW_retl dX1_cellsOf_112 rfl h
  · refine AW_aload_n 0 (n := 0) rfl dX1_cellsOf_20 rfl ?_
    refine AW_iload 3 dX1_cellsOf_21 rfl ?_
    refine AW_callVi (M := mX1_cellsOf) (pc := 23) (As := [.int x7]) (ρ1 := ρ) (st := []) dX1_cellsOf_23 mdX1_firstLinkOf rfl mlX1_142 imX1_firstLinkOf seX1_firstLinkOf (rcv_of (q := (RX1, TX1, 15)) (Nat.le_of_ble_eq_true rfl) (okn hρ (Nat.le_of_ble_eq_true rfl)) rfl rfl) ⟨rfl, npX1_firstLinkOf⟩ (Nat.le_of_ble_eq_true rfl) (Nat.le_refl _) (Nat.le_refl _) rfl (iX1_firstLinkOf hρ h.1 h.2.1 h.2.2.1 (v := (S.1 44 x7.toNatClampNeg)) rfl ?_)
    replace h := h.2.2.2
    refine AW_istore dX1_cellsOf_26 (Nat.le_of_ble_eq_true rfl) rfl ?_
    refine AW_aload_n 1 (n := 0) rfl dX1_cellsOf_28 rfl ?_
    refine AW_iload 4 dX1_cellsOf_29 rfl ?_
    refine AW_iconst (v := 1) dX1_cellsOf_31 rfl ?_
    refine AW_iadd dX1_cellsOf_32 ?_
    refine AW_callVi (M := mX1_cellsOf) (pc := 33) (As := [.int (x7 + 1)]) (ρ1 := ρ) (st := []) dX1_cellsOf_33 mdX1_firstLinkOf rfl mlX1_142 imX1_firstLinkOf seX1_firstLinkOf (rcv_of (q := (RX1, TX1, 15)) (Nat.le_of_ble_eq_true rfl) (okn hρ (Nat.le_of_ble_eq_true rfl)) rfl rfl) ⟨rfl, npX1_firstLinkOf⟩ (Nat.le_of_ble_eq_true rfl) (Nat.le_refl _) (Nat.le_refl _) rfl (iX1_firstLinkOf hρ h.1 h.2.1 h.2.2.1 (v := (S.1 44 ((x7 + 1).toNatClampNeg))) rfl ?_)
    replace h := h.2.2.2
    refine AW_iconst (v := 1) dX1_cellsOf_36 rfl ?_
    refine AW_isub dX1_cellsOf_37 ?_
    refine AW_istore dX1_cellsOf_38 (Nat.le_of_ble_eq_true rfl) rfl ?_
    exact AW.sub [2, 3, 4, 6, 1, 0] rfl h
set_option maxRecDepth 20000 in
theorem eX1_cellsOf {g : GX} {Q : Int64 → St → Prop} {d : Nat} {ρ : Rs} {S : St} (hρ : Ok ρ) {x1 : Int64} (h : AW g ρ (QJ Q) (d + 2) mX1_cellsOf 11 [(0, .ref 31), (3, .long 0), (5, .long x1), (7, .int 0), (8, .int 0)] [] ρ S) : CALLl g (d + 2) mX1_cellsOf [.ref 31, .long x1] ρ ρ S Q := by
  refine CALL.of mdX1_cellsOf.2.2.2.2 (Nat.le_of_ble_eq_true rfl) (Nat.le_refl _) (Nat.le_refl _) ?_
  show AW g ρ (QJ Q) (d + 2) mX1_cellsOf 0 [(0, .ref 31), (1, .long x1)] [] ρ S
  refine AW_lconst (v := 0) dX1_cellsOf_0 rfl ?_
  refine AW_lstore_n (n := 3) (i := 3) rfl dX1_cellsOf_1 (Nat.le_of_ble_eq_true rfl) rfl ?_
  refine AW_lload_n 2 (n := 1) rfl dX1_cellsOf_2 rfl ?_
  refine AW_lstore dX1_cellsOf_3 (Nat.le_of_ble_eq_true rfl) rfl ?_
  refine AW_iconst (v := 0) dX1_cellsOf_5 rfl ?_
  refine AW_istore dX1_cellsOf_6 (Nat.le_of_ble_eq_true rfl) rfl ?_
  refine AW_iconst (v := 0) dX1_cellsOf_8 rfl ?_
  refine AW_istore dX1_cellsOf_9 (Nat.le_of_ble_eq_true rfl) rfl ?_
  exact AW.sub [4, 3, 2, 1, 0] rfl h
