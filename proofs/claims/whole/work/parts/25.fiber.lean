set_option maxRecDepth 20000 in
theorem eX1_make_108 {g : GX} {Q : St → Prop} {d : Nat} {ρ : Rs} {S : St} (hρ : Ok ρ) {x2 : Int32} (hF : ∀ k ∈ ([44] : List Nat), gF g k) (h : if (S.1 31 2) < x2 then CALLv g d mX1_sumAhead [.ref 31] ρ ρ S (fun S1 => CALLv g d mX1_sumBehind [.ref 31] ρ ρ S1 (fun S2 => CALLv g d mX1_sumSeenCells [.ref 31] ρ ρ S2 (fun S3 => Q S3))) else vp_in x2 481 ∧ (AW g ρ (QV Q) (d + 1) mX1_make 108 [(0, .ref 31), (2, .int (x2 + 1))] [] ρ (setI S 44 x2.toNatClampNeg (S.1 31 14)))) : AW g ρ (QV Q) (d + 1) mX1_make 108 [(0, .ref 31), (2, .int x2)] [] ρ S := by
  refine AW_iload_n 1 (n := 2) rfl dX1_make_108 rfl ?_
  refine AW_aload_n 0 (n := 0) rfl dX1_make_109 rfl ?_
  refine AW_get dX1_make_110 flX1_60 (Nat.le_of_ble_eq_true rfl) (okn hρ (Nat.le_of_ble_eq_true rfl)) rfl (v := .int (S.1 31 2)) (fun _ => rfl) ?_
  refine AW_icmp_gt dX1_make_113 rfl (iteM h (fun h => ?_) (fun h => ?_))
  · refine AW_aload_n 0 (n := 0) rfl dX1_make_132 rfl ?_
    refine AW_callVv (M := mX1_make) (pc := 133) (As := []) (ρ1 := ρ) (st := []) dX1_make_133 mdX1_sumAhead rfl mlX1_88 imX1_sumAhead seX1_sumAhead (rcv_of (q := (RX1, TX1, 15)) (Nat.le_of_ble_eq_true rfl) (okn hρ (Nat.le_of_ble_eq_true rfl)) rfl rfl) ⟨rfl, npX1_sumAhead⟩ (Nat.le_of_ble_eq_true rfl) (Nat.le_refl _) (Nat.le_refl _) rfl (CALLv.mono h (fun S1 _ h => ?_))
    refine AW_aload_n 0 (n := 0) rfl dX1_make_136 rfl ?_
    refine AW_callVv (M := mX1_make) (pc := 137) (As := []) (ρ1 := ρ) (st := []) dX1_make_137 mdX1_sumBehind rfl mlX1_91 imX1_sumBehind seX1_sumBehind (rcv_of (q := (RX1, TX1, 15)) (Nat.le_of_ble_eq_true rfl) (okn hρ (Nat.le_of_ble_eq_true rfl)) rfl rfl) ⟨rfl, npX1_sumBehind⟩ (Nat.le_of_ble_eq_true rfl) (Nat.le_refl _) (Nat.le_refl _) rfl (CALLv.mono h (fun S2 _ h => ?_))
    refine AW_aload_n 0 (n := 0) rfl dX1_make_140 rfl ?_
    refine AW_callVv (M := mX1_make) (pc := 141) (As := []) (ρ1 := ρ) (st := []) dX1_make_141 mdX1_sumSeenCells rfl mlX1_94 imX1_sumSeenCells seX1_sumSeenCells (rcv_of (q := (RX1, TX1, 15)) (Nat.le_of_ble_eq_true rfl) (okn hρ (Nat.le_of_ble_eq_true rfl)) rfl rfl) ⟨rfl, npX1_sumSeenCells⟩ (Nat.le_of_ble_eq_true rfl) (Nat.le_refl _) (Nat.le_refl _) rfl (CALLv.mono h (fun S3 _ h => ?_))
    exact AW_retv dX1_make_144 rfl h
  · refine AW_aload_n 0 (n := 0) rfl dX1_make_116 rfl ?_
    refine AW_get dX1_make_117 flX1_22 (Nat.le_of_ble_eq_true rfl) (okn hρ (Nat.le_of_ble_eq_true rfl)) rfl (v := .ref 44) (fvR (okR hρ 19 rfl)) ?_
    refine AW_iload_n 1 (n := 2) rfl dX1_make_120 rfl ?_
    refine AW_aload_n 0 (n := 0) rfl dX1_make_121 rfl ?_
    refine AW_get dX1_make_122 flX1_63 (Nat.le_of_ble_eq_true rfl) (okn hρ (Nat.le_of_ble_eq_true rfl)) rfl (v := .int (S.1 31 14)) (fun _ => rfl) ?_
    refine AW_iastore dX1_make_125 (Nat.le_of_ble_eq_true rfl) (okn hρ (Nat.le_of_ble_eq_true rfl)) rfl h.1 (hF _ (List.mem_of_getElem? (i := 0) rfl)) (jx := x2.toNatClampNeg) rfl ?_
    replace h := h.2
    refine AW_iinc 1 (v := x2 + 1) dX1_make_126 rfl rfl (Nat.le_of_ble_eq_true rfl) rfl ?_
    refine AW_goto (tgt := 108) dX1_make_129 rfl ?_
    exact AW.sub [1, 0] rfl h
set_option maxRecDepth 20000 in
theorem eX1_make_62 {g : GX} {Q : St → Prop} {d : Nat} {ρ : Rs} {S : St} (hρ : Ok ρ) {x2 : Int32} (hF : ∀ k ∈ ([43] : List Nat), gF g k) (h : if (S.1 31 1) ≤ x2 then vp_in (S.1 31 1) 6 ∧ (AW g ρ (QV Q) (d + 1) mX1_make 108 [(0, .ref 31), (2, .int (S.1 43 ((S.1 31 1).toNatClampNeg)))] [] ρ S) else if (4 : Int32) ≤ x2 then vp_in (S.1 31 1) 6 ∧ (AW g ρ (QV Q) (d + 1) mX1_make 108 [(0, .ref 31), (2, .int (S.1 43 ((S.1 31 1).toNatClampNeg)))] [] ρ S) else vp_in (x2 + 1) 6 ∧ (CALLv g d mX1_linkLevel [.ref 31, .int x2] ρ ρ (setI S 43 ((x2 + 1).toNatClampNeg) (S.1 31 2)) (fun S1 => AW g ρ (QV Q) (d + 1) mX1_make 62 [(0, .ref 31), (2, .int (x2 + 1))] [] ρ S1))) : AW g ρ (QV Q) (d + 1) mX1_make 62 [(0, .ref 31), (2, .int x2)] [] ρ S := by
  refine AW_iload_n 1 (n := 2) rfl dX1_make_62 rfl ?_
  refine AW_aload_n 0 (n := 0) rfl dX1_make_63 rfl ?_
  refine AW_get dX1_make_64 flX1_59 (Nat.le_of_ble_eq_true rfl) (okn hρ (Nat.le_of_ble_eq_true rfl)) rfl (v := .int (S.1 31 1)) (fun _ => rfl) ?_
  refine AW_icmp_ge dX1_make_67 rfl (iteM h (fun h => ?_) (fun h => ?_))
  · refine AW_aload_n 0 (n := 0) rfl dX1_make_98 rfl ?_
    refine AW_get dX1_make_99 flX1_18 (Nat.le_of_ble_eq_true rfl) (okn hρ (Nat.le_of_ble_eq_true rfl)) rfl (v := .ref 43) (fvR (okR hρ 18 rfl)) ?_
    refine AW_aload_n 0 (n := 0) rfl dX1_make_102 rfl ?_
    refine AW_get dX1_make_103 flX1_59 (Nat.le_of_ble_eq_true rfl) (okn hρ (Nat.le_of_ble_eq_true rfl)) rfl (v := .int (S.1 31 1)) (fun _ => rfl) ?_
    refine AW_iaload dX1_make_106 (Nat.le_of_ble_eq_true rfl) (okn hρ (Nat.le_of_ble_eq_true rfl)) rfl h.1 (v := S.1 43 ((S.1 31 1).toNatClampNeg)) rfl ?_
    replace h := h.2
    refine AW_istore_n (n := 2) (i := 2) rfl dX1_make_107 (Nat.le_of_ble_eq_true rfl) rfl ?_
    exact AW.sub [1, 0] rfl h
  · refine AW_iload_n 1 (n := 2) rfl dX1_make_70 rfl ?_
    refine AW_iconst (v := 4) dX1_make_71 rfl ?_
    refine AW_icmp_ge dX1_make_72 rfl (iteM h (fun h => ?_) (fun h => ?_))
    · refine AW_aload_n 0 (n := 0) rfl dX1_make_98 rfl ?_
      refine AW_get dX1_make_99 flX1_18 (Nat.le_of_ble_eq_true rfl) (okn hρ (Nat.le_of_ble_eq_true rfl)) rfl (v := .ref 43) (fvR (okR hρ 18 rfl)) ?_
      refine AW_aload_n 0 (n := 0) rfl dX1_make_102 rfl ?_
      refine AW_get dX1_make_103 flX1_59 (Nat.le_of_ble_eq_true rfl) (okn hρ (Nat.le_of_ble_eq_true rfl)) rfl (v := .int (S.1 31 1)) (fun _ => rfl) ?_
      refine AW_iaload dX1_make_106 (Nat.le_of_ble_eq_true rfl) (okn hρ (Nat.le_of_ble_eq_true rfl)) rfl h.1 (v := S.1 43 ((S.1 31 1).toNatClampNeg)) rfl ?_
      replace h := h.2
      refine AW_istore_n (n := 2) (i := 2) rfl dX1_make_107 (Nat.le_of_ble_eq_true rfl) rfl ?_
      exact AW.sub [1, 0] rfl h
    · refine AW_aload_n 0 (n := 0) rfl dX1_make_75 rfl ?_
      refine AW_get dX1_make_76 flX1_18 (Nat.le_of_ble_eq_true rfl) (okn hρ (Nat.le_of_ble_eq_true rfl)) rfl (v := .ref 43) (fvR (okR hρ 18 rfl)) ?_
      refine AW_iload_n 1 (n := 2) rfl dX1_make_79 rfl ?_
      refine AW_iconst (v := 1) dX1_make_80 rfl ?_
      refine AW_iadd dX1_make_81 ?_
      refine AW_aload_n 0 (n := 0) rfl dX1_make_82 rfl ?_
      refine AW_get dX1_make_83 flX1_60 (Nat.le_of_ble_eq_true rfl) (okn hρ (Nat.le_of_ble_eq_true rfl)) rfl (v := .int (S.1 31 2)) (fun _ => rfl) ?_
      refine AW_iastore dX1_make_86 (Nat.le_of_ble_eq_true rfl) (okn hρ (Nat.le_of_ble_eq_true rfl)) rfl h.1 (hF _ (List.mem_of_getElem? (i := 0) rfl)) (jx := (x2 + 1).toNatClampNeg) rfl ?_
      replace h := h.2
      refine AW_aload_n 0 (n := 0) rfl dX1_make_87 rfl ?_
      refine AW_iload_n 1 (n := 2) rfl dX1_make_88 rfl ?_
      refine AW_callVv (M := mX1_make) (pc := 89) (As := [.int x2]) (ρ1 := ρ) (st := []) dX1_make_89 mdX1_linkLevel rfl mlX1_84 imX1_linkLevel seX1_linkLevel (rcv_of (q := (RX1, TX1, 15)) (Nat.le_of_ble_eq_true rfl) (okn hρ (Nat.le_of_ble_eq_true rfl)) rfl rfl) ⟨rfl, npX1_linkLevel⟩ (Nat.le_of_ble_eq_true rfl) (Nat.le_refl _) (Nat.le_refl _) rfl (CALLv.mono h (fun S1 _ h => ?_))
      refine AW_iinc 1 (v := x2 + 1) dX1_make_92 rfl rfl (Nat.le_of_ble_eq_true rfl) rfl ?_
      refine AW_goto (tgt := 62) dX1_make_95 rfl ?_
      exact AW.sub [1, 0] rfl h
set_option maxRecDepth 20000 in
theorem eX1_make {g : GX} {Q : St → Prop} {d : Nat} {ρ : Rs} {S : St} (hρ : Ok ρ) (hF : ∀ k ∈ ([31, 43] : List Nat), gF g k) (h : CALLv g d mX2_make [.ref 32, .ref 21] ρ ρ (setI (setI (setI S 31 1 (S.1 21 0)) 31 2 0) 31 14 0) (fun S1 => CALLi g d mX2_takenBy [.ref 32, .ref 23] ρ ρ S1 (fun v2 S2 => CALLi g d mX2_codeOf [.ref 32, .ref 23] ρ ρ S2 (fun v3 S3 => CALLi g d mX1_addNode [.ref 31, .int v2, .int v3] ρ ρ S3 (fun v4 S4 => AW g ρ (QV Q) (d + 1) mX1_make 62 [(0, .ref 31), (2, .int 0)] [] ρ (setI S4 43 0 0)))))) : CALLv g (d + 1) mX1_make [.ref 31, .ref 21] ρ ρ S Q := by
  refine CALL.of mdX1_make.2.2.2.2 (Nat.le_of_ble_eq_true rfl) (Nat.le_refl _) (Nat.le_refl _) ?_
  show AW g ρ (QV Q) (d + 1) mX1_make 0 [(0, .ref 31), (1, .ref 21)] [] ρ S
  refine AW_aload_n 0 (n := 0) rfl dX1_make_0 rfl ?_
  refine AW_aload_n 1 (n := 1) rfl dX1_make_1 rfl ?_
  refine AW_get dX1_make_2 flX1_53 (Nat.le_of_ble_eq_true rfl) (okn hρ (Nat.le_of_ble_eq_true rfl)) rfl (v := .int (S.1 21 0)) (fun _ => rfl) ?_
  refine AW_put dX1_make_5 flX1_59 fp_1_1 (Nat.le_of_ble_eq_true rfl) (okn hρ (Nat.le_of_ble_eq_true rfl)) rfl (fun _ => rfl) (fun _ => rfl) rfl rfl rfl rfl (Fr.setI _ _ _ rfl) (fun _ _ => rfl) (ρ2 := ρ) (S2 := setI S 31 1 (S.1 21 0)) (fun _ => rfl) (fun _ _ _ q1 _ => fvI_o q1) (hF _ (List.mem_of_getElem? (i := 0) rfl)) ?_
  refine AW_aload_n 0 (n := 0) rfl dX1_make_8 rfl ?_
  refine AW_iconst (v := 0) dX1_make_9 rfl ?_
  refine AW_put dX1_make_10 flX1_60 fp_1_2 (Nat.le_of_ble_eq_true rfl) (okn hρ (Nat.le_of_ble_eq_true rfl)) rfl (fun _ => rfl) (fun _ => rfl) rfl rfl rfl rfl (Fr.setI _ _ _ rfl) (fun _ _ => rfl) (ρ2 := ρ) (S2 := setI (setI S 31 1 (S.1 21 0)) 31 2 0) (fun _ => rfl) (fun _ _ _ q1 _ => fvI_o q1) (hF _ (List.mem_of_getElem? (i := 0) rfl)) ?_
  refine AW_aload_n 0 (n := 0) rfl dX1_make_13 rfl ?_
  refine AW_iconst (v := 0) dX1_make_14 rfl ?_
  refine AW_put dX1_make_15 flX1_63 fp_1_14 (Nat.le_of_ble_eq_true rfl) (okn hρ (Nat.le_of_ble_eq_true rfl)) rfl (fun _ => rfl) (fun _ => rfl) rfl rfl rfl rfl (Fr.setI _ _ _ rfl) (fun _ _ => rfl) (ρ2 := ρ) (S2 := setI (setI (setI S 31 1 (S.1 21 0)) 31 2 0) 31 14 0) (fun _ => rfl) (fun _ _ _ q1 _ => fvI_o q1) (hF _ (List.mem_of_getElem? (i := 0) rfl)) ?_
  refine AW_aload_n 0 (n := 0) rfl dX1_make_18 rfl ?_
  refine AW_get dX1_make_19 flX1_12 (Nat.le_of_ble_eq_true rfl) (okn hρ (Nat.le_of_ble_eq_true rfl)) rfl (v := .ref 32) (fvR (okR hρ 17 rfl)) ?_
  refine AW_aload_n 1 (n := 1) rfl dX1_make_22 rfl ?_
  refine AW_callVv (M := mX1_make) (pc := 23) (As := [.ref 21]) (ρ1 := ρ) (st := []) dX1_make_23 mdX2_make rfl mlX1_66 imX2_make seX2_make (rcv_of (q := (RX2, TX2, 8)) (Nat.le_of_ble_eq_true rfl) (okn hρ (Nat.le_of_ble_eq_true rfl)) rfl rfl) ⟨rfl, npX2_make⟩ (Nat.le_of_ble_eq_true rfl) (Nat.le_refl _) (Nat.le_refl _) rfl (CALLv.mono h (fun S1 _ h => ?_))
  refine AW_aload_n 0 (n := 0) rfl dX1_make_26 rfl ?_
  refine AW_aload_n 0 (n := 0) rfl dX1_make_27 rfl ?_
  refine AW_get dX1_make_28 flX1_12 (Nat.le_of_ble_eq_true rfl) (okn hρ (Nat.le_of_ble_eq_true rfl)) rfl (v := .ref 32) (fvR (okR hρ 17 rfl)) ?_
  refine AW_aload_n 1 (n := 1) rfl dX1_make_31 rfl ?_
  refine AW_get dX1_make_32 flX1_70 (Nat.le_of_ble_eq_true rfl) (okn hρ (Nat.le_of_ble_eq_true rfl)) rfl (v := .ref 23) (fvR (okR hρ 11 rfl)) ?_
  refine AW_callVi (M := mX1_make) (pc := 35) (As := [.ref 23]) (ρ1 := ρ) (st := [.ref 31]) dX1_make_35 mdX2_takenBy rfl mlX1_73 imX2_takenBy seX2_takenBy (rcv_of (q := (RX2, TX2, 8)) (Nat.le_of_ble_eq_true rfl) (okn hρ (Nat.le_of_ble_eq_true rfl)) rfl rfl) ⟨rfl, npX2_takenBy⟩ (Nat.le_of_ble_eq_true rfl) (Nat.le_refl _) (Nat.le_refl _) rfl (CALLi.mono h (fun v2 S2 _ h => ?_))
  refine AW_aload_n 0 (n := 0) rfl dX1_make_38 rfl ?_
  refine AW_get dX1_make_39 flX1_12 (Nat.le_of_ble_eq_true rfl) (okn hρ (Nat.le_of_ble_eq_true rfl)) rfl (v := .ref 32) (fvR (okR hρ 17 rfl)) ?_
  refine AW_aload_n 1 (n := 1) rfl dX1_make_42 rfl ?_
  refine AW_get dX1_make_43 flX1_70 (Nat.le_of_ble_eq_true rfl) (okn hρ (Nat.le_of_ble_eq_true rfl)) rfl (v := .ref 23) (fvR (okR hρ 11 rfl)) ?_
  refine AW_callVi (M := mX1_make) (pc := 46) (As := [.ref 23]) (ρ1 := ρ) (st := [.int v2, .ref 31]) dX1_make_46 mdX2_codeOf rfl mlX1_77 imX2_codeOf seX2_codeOf (rcv_of (q := (RX2, TX2, 8)) (Nat.le_of_ble_eq_true rfl) (okn hρ (Nat.le_of_ble_eq_true rfl)) rfl rfl) ⟨rfl, npX2_codeOf⟩ (Nat.le_of_ble_eq_true rfl) (Nat.le_refl _) (Nat.le_refl _) rfl (CALLi.mono h (fun v3 S3 _ h => ?_))
  refine AW_callVi (M := mX1_make) (pc := 49) (As := [.int v2, .int v3]) (ρ1 := ρ) (st := []) dX1_make_49 mdX1_addNode rfl mlX1_80 imX1_addNode seX1_addNode (rcv_of (q := (RX1, TX1, 15)) (Nat.le_of_ble_eq_true rfl) (okn hρ (Nat.le_of_ble_eq_true rfl)) rfl rfl) ⟨rfl, npX1_addNode⟩ (Nat.le_of_ble_eq_true rfl) (Nat.le_refl _) (Nat.le_refl _) rfl (CALLi.mono h (fun v4 S4 _ h => ?_))
  refine AW_pop dX1_make_52 rfl ?_
  refine AW_aload_n 0 (n := 0) rfl dX1_make_53 rfl ?_
  refine AW_get dX1_make_54 flX1_18 (Nat.le_of_ble_eq_true rfl) (okn hρ (Nat.le_of_ble_eq_true rfl)) rfl (v := .ref 43) (fvR (okR hρ 18 rfl)) ?_
  refine AW_iconst (v := 0) dX1_make_57 rfl ?_
  refine AW_iconst (v := 0) dX1_make_58 rfl ?_
  refine AW_iastore dX1_make_59 (Nat.le_of_ble_eq_true rfl) (okn hρ (Nat.le_of_ble_eq_true rfl)) rfl (show ¬ (_ ∨ _) by decide) (hF _ (List.mem_of_getElem? (i := 1) rfl)) (jx := 0) rfl ?_
  refine AW_iconst (v := 0) dX1_make_60 rfl ?_
  refine AW_istore_n (n := 2) (i := 2) rfl dX1_make_61 (Nat.le_of_ble_eq_true rfl) rfl ?_
  exact AW.sub [1, 0] rfl h
set_option maxRecDepth 20000 in
theorem eX1_linkLevel_47 {g : GX} {Q : St → Prop} {d : Nat} {ρ : Rs} {S : St} (hρ : Ok ρ) {x1 : Int32} {x2 : Int32} {x3 : Int32} (h : vp_in (x1 + 1) 5 ∧ (if (S.1 33 ((x1 + 1).toNatClampNeg)) ≤ x3 then AW g ρ (QV Q) (d + 1) mX1_linkLevel 15 [(0, .ref 31), (1, .int x1), (2, .int (x2 + 1))] [] ρ S else CALLv g d mX1_link [.ref 31, .int x2, .int x3] ρ ρ S (fun S1 => AW g ρ (QV Q) (d + 1) mX1_linkLevel 47 [(0, .ref 31), (1, .int x1), (2, .int x2), (3, .int (x3 + 1))] [] ρ S1))) : AW g ρ (QV Q) (d + 1) mX1_linkLevel 47 [(0, .ref 31), (1, .int x1), (2, .int x2), (3, .int x3)] [] ρ S := by
  refine AW_iload_n 3 (n := 3) rfl dX1_linkLevel_47 rfl ?_
  refine AW_aload_n 0 (n := 0) rfl dX1_linkLevel_48 rfl ?_
  refine AW_get dX1_linkLevel_49 flX1_12 (Nat.le_of_ble_eq_true rfl) (okn hρ (Nat.le_of_ble_eq_true rfl)) rfl (v := .ref 32) (fvR (okR hρ 17 rfl)) ?_
  refine AW_get dX1_linkLevel_52 flX1_103 (Nat.le_of_ble_eq_true rfl) (okn hρ (Nat.le_of_ble_eq_true rfl)) rfl (v := .ref 33) (fvR (okR hρ 29 rfl)) ?_
  refine AW_iload_n 1 (n := 1) rfl dX1_linkLevel_55 rfl ?_
  refine AW_iconst (v := 1) dX1_linkLevel_56 rfl ?_
  refine AW_iadd dX1_linkLevel_57 ?_
  refine AW_iaload dX1_linkLevel_58 (Nat.le_of_ble_eq_true rfl) (okn hρ (Nat.le_of_ble_eq_true rfl)) rfl h.1 (v := S.1 33 ((x1 + 1).toNatClampNeg)) rfl ?_
  replace h := h.2
  refine AW_icmp_ge dX1_linkLevel_59 rfl (iteM h (fun h => ?_) (fun h => ?_))
  · refine AW_iinc 2 (v := x2 + 1) dX1_linkLevel_74 rfl rfl (Nat.le_of_ble_eq_true rfl) rfl ?_
    refine AW_goto (tgt := 15) dX1_linkLevel_77 rfl ?_
    exact AW.sub [1, 2, 0] rfl h
  · refine AW_aload_n 0 (n := 0) rfl dX1_linkLevel_62 rfl ?_
    refine AW_iload_n 2 (n := 2) rfl dX1_linkLevel_63 rfl ?_
    refine AW_iload_n 3 (n := 3) rfl dX1_linkLevel_64 rfl ?_
    refine AW_callVv (M := mX1_linkLevel) (pc := 65) (As := [.int x2, .int x3]) (ρ1 := ρ) (st := []) dX1_linkLevel_65 mdX1_link rfl mlX1_106 imX1_link seX1_link (rcv_of (q := (RX1, TX1, 15)) (Nat.le_of_ble_eq_true rfl) (okn hρ (Nat.le_of_ble_eq_true rfl)) rfl rfl) ⟨rfl, npX1_link⟩ (Nat.le_of_ble_eq_true rfl) (Nat.le_refl _) (Nat.le_refl _) rfl (CALLv.mono h (fun S1 _ h => ?_))
    refine AW_iinc 3 (v := x3 + 1) dX1_linkLevel_68 rfl rfl (Nat.le_of_ble_eq_true rfl) rfl ?_
    refine AW_goto (tgt := 47) dX1_linkLevel_71 rfl ?_
    exact AW.sub [1, 2, 3, 0] rfl h
set_option maxRecDepth 20000 in
theorem eX1_linkLevel_15 {g : GX} {Q : St → Prop} {d : Nat} {ρ : Rs} {S : St} (hρ : Ok ρ) {x1 : Int32} {x2 : Int32} (hF : ∀ k ∈ ([44] : List Nat), gF g k) (h : vp_in (x1 + 1) 6 ∧ (if (S.1 43 ((x1 + 1).toNatClampNeg)) ≤ x2 then Q S else vp_in x2 481 ∧ (vp_in x1 5 ∧ (AW g ρ (QV Q) (d + 1) mX1_linkLevel 47 [(0, .ref 31), (1, .int x1), (2, .int x2), (3, .int (S.1 33 x1.toNatClampNeg))] [] ρ (setI S 44 x2.toNatClampNeg (S.1 31 14)))))) : AW g ρ (QV Q) (d + 1) mX1_linkLevel 15 [(0, .ref 31), (1, .int x1), (2, .int x2)] [] ρ S := by
  refine AW_iload_n 2 (n := 2) rfl dX1_linkLevel_15 rfl ?_
  refine AW_aload_n 0 (n := 0) rfl dX1_linkLevel_16 rfl ?_
  refine AW_get dX1_linkLevel_17 flX1_18 (Nat.le_of_ble_eq_true rfl) (okn hρ (Nat.le_of_ble_eq_true rfl)) rfl (v := .ref 43) (fvR (okR hρ 18 rfl)) ?_
  refine AW_iload_n 1 (n := 1) rfl dX1_linkLevel_20 rfl ?_
  refine AW_iconst (v := 1) dX1_linkLevel_21 rfl ?_
  refine AW_iadd dX1_linkLevel_22 ?_
  refine AW_iaload dX1_linkLevel_23 (Nat.le_of_ble_eq_true rfl) (okn hρ (Nat.le_of_ble_eq_true rfl)) rfl h.1 (v := S.1 43 ((x1 + 1).toNatClampNeg)) rfl ?_
  replace h := h.2
  refine AW_icmp_ge dX1_linkLevel_24 rfl (iteM h (fun h => ?_) (fun h => ?_))
  · exact AW_retv dX1_linkLevel_80 rfl h
  · refine AW_aload_n 0 (n := 0) rfl dX1_linkLevel_27 rfl ?_
    refine AW_get dX1_linkLevel_28 flX1_22 (Nat.le_of_ble_eq_true rfl) (okn hρ (Nat.le_of_ble_eq_true rfl)) rfl (v := .ref 44) (fvR (okR hρ 19 rfl)) ?_
    refine AW_iload_n 2 (n := 2) rfl dX1_linkLevel_31 rfl ?_
    refine AW_aload_n 0 (n := 0) rfl dX1_linkLevel_32 rfl ?_
    refine AW_get dX1_linkLevel_33 flX1_63 (Nat.le_of_ble_eq_true rfl) (okn hρ (Nat.le_of_ble_eq_true rfl)) rfl (v := .int (S.1 31 14)) (fun _ => rfl) ?_
    refine AW_iastore dX1_linkLevel_36 (Nat.le_of_ble_eq_true rfl) (okn hρ (Nat.le_of_ble_eq_true rfl)) rfl h.1 (hF _ (List.mem_of_getElem? (i := 0) rfl)) (jx := x2.toNatClampNeg) rfl ?_
    replace h := h.2
    refine AW_aload_n 0 (n := 0) rfl dX1_linkLevel_37 rfl ?_
    refine AW_get dX1_linkLevel_38 flX1_12 (Nat.le_of_ble_eq_true rfl) (okn hρ (Nat.le_of_ble_eq_true rfl)) rfl (v := .ref 32) (fvR (okR hρ 17 rfl)) ?_
    refine AW_get dX1_linkLevel_41 flX1_103 (Nat.le_of_ble_eq_true rfl) (okn hρ (Nat.le_of_ble_eq_true rfl)) rfl (v := .ref 33) (fvR (okR hρ 29 rfl)) ?_
    refine AW_iload_n 1 (n := 1) rfl dX1_linkLevel_44 rfl ?_
    refine AW_iaload dX1_linkLevel_45 (Nat.le_of_ble_eq_true rfl) (okn hρ (Nat.le_of_ble_eq_true rfl)) rfl h.1 (v := S.1 33 x1.toNatClampNeg) rfl ?_
    replace h := h.2
    refine AW_istore_n (n := 3) (i := 3) rfl dX1_linkLevel_46 (Nat.le_of_ble_eq_true rfl) rfl ?_
    exact AW.sub [1, 2, 3, 0] rfl h
set_option maxRecDepth 20000 in
theorem eX1_linkLevel {g : GX} {Q : St → Prop} {d : Nat} {ρ : Rs} {S : St} (hρ : Ok ρ) {x1 : Int32} (h : CALLv g d mJ7_fill_53178 [.ref 52, .int (-1)] ρ ρ S (fun S1 => vp_in x1 6 ∧ (AW g ρ (QV Q) (d + 1) mX1_linkLevel 15 [(0, .ref 31), (1, .int x1), (2, .int (S1.1 43 x1.toNatClampNeg))] [] ρ S1))) : CALLv g (d + 1) mX1_linkLevel [.ref 31, .int x1] ρ ρ S Q := by
  refine CALL.of mdX1_linkLevel.2.2.2.2 (Nat.le_of_ble_eq_true rfl) (Nat.le_refl _) (Nat.le_refl _) ?_
  show AW g ρ (QV Q) (d + 1) mX1_linkLevel 0 [(0, .ref 31), (1, .int x1)] [] ρ S
  refine AW_aload_n 0 (n := 0) rfl dX1_linkLevel_0 rfl ?_
  refine AW_get dX1_linkLevel_1 flX1_47 (Nat.le_of_ble_eq_true rfl) (okn hρ (Nat.le_of_ble_eq_true rfl)) rfl (v := .ref 52) (fvR (okR hρ 27 rfl)) ?_
  refine AW_iconst (v := (-1)) dX1_linkLevel_4 rfl ?_
  refine AW_callSv (M := mX1_linkLevel) (pc := 5) (As := [.ref 52, .int (-1)]) (ρ1 := ρ) (st := []) dX1_linkLevel_5 mdJ7_fill_53178 mlX1_97 smJ7_fill_53178 ⟨rfl, npJ7_fill_53178⟩ (Nat.le_of_ble_eq_true rfl) (Nat.le_refl _) (Nat.le_refl _) rfl (CALLv.mono h (fun S1 _ h => ?_))
  refine AW_aload_n 0 (n := 0) rfl dX1_linkLevel_8 rfl ?_
  refine AW_get dX1_linkLevel_9 flX1_18 (Nat.le_of_ble_eq_true rfl) (okn hρ (Nat.le_of_ble_eq_true rfl)) rfl (v := .ref 43) (fvR (okR hρ 18 rfl)) ?_
  refine AW_iload_n 1 (n := 1) rfl dX1_linkLevel_12 rfl ?_
  refine AW_iaload dX1_linkLevel_13 (Nat.le_of_ble_eq_true rfl) (okn hρ (Nat.le_of_ble_eq_true rfl)) rfl h.1 (v := S1.1 43 x1.toNatClampNeg) rfl ?_
  replace h := h.2
  refine AW_istore_n (n := 2) (i := 2) rfl dX1_linkLevel_14 (Nat.le_of_ble_eq_true rfl) rfl ?_
  exact AW.sub [1, 2, 0] rfl h
set_option maxRecDepth 20000 in
theorem eX1_link_99 {g : GX} {Q : St → Prop} {d : Nat} {ρ : Rs} {S : St} (hρ : Ok ρ) {x2 : Int32} {x4 : Int32} (hF : ∀ k ∈ ([45, 46, 31] : List Nat), gF g k) (h : vp_in (S.1 31 14) 4800 ∧ (vp_in x4 480 ∧ (vp_in (S.1 31 14) 4800 ∧ (Q (setI (setI (setI S 45 ((S.1 31 14).toNatClampNeg) x2) 46 ((S.1 31 14).toNatClampNeg) (S.1 52 x4.toNatClampNeg)) 31 14 ((S.1 31 14) + 1)))))) : AW g ρ (QV Q) (d + 1) mX1_link 99 [(0, .ref 31), (2, .int x2), (4, .int x4)] [] ρ S := by
  refine AW_aload_n 0 (n := 0) rfl dX1_link_99 rfl ?_
  refine AW_get dX1_link_100 flX1_25 (Nat.le_of_ble_eq_true rfl) (okn hρ (Nat.le_of_ble_eq_true rfl)) rfl (v := .ref 45) (fvR (okR hρ 20 rfl)) ?_
  refine AW_aload_n 0 (n := 0) rfl dX1_link_103 rfl ?_
  refine AW_get dX1_link_104 flX1_63 (Nat.le_of_ble_eq_true rfl) (okn hρ (Nat.le_of_ble_eq_true rfl)) rfl (v := .int (S.1 31 14)) (fun _ => rfl) ?_
  refine AW_iload_n 1 (n := 2) rfl dX1_link_107 rfl ?_
  refine AW_iastore dX1_link_108 (Nat.le_of_ble_eq_true rfl) (okn hρ (Nat.le_of_ble_eq_true rfl)) rfl h.1 (hF _ (List.mem_of_getElem? (i := 0) rfl)) (jx := (S.1 31 14).toNatClampNeg) rfl ?_
  replace h := h.2
  refine AW_aload_n 0 (n := 0) rfl dX1_link_109 rfl ?_
  refine AW_get dX1_link_110 flX1_28 (Nat.le_of_ble_eq_true rfl) (okn hρ (Nat.le_of_ble_eq_true rfl)) rfl (v := .ref 46) (fvR (okR hρ 21 rfl)) ?_
  refine AW_aload_n 0 (n := 0) rfl dX1_link_113 rfl ?_
  refine AW_get dX1_link_114 flX1_63 (Nat.le_of_ble_eq_true rfl) (okn hρ (Nat.le_of_ble_eq_true rfl)) rfl (v := .int (S.1 31 14)) (fun _ => rfl) ?_
  refine AW_aload_n 0 (n := 0) rfl dX1_link_117 rfl ?_
  refine AW_get dX1_link_118 flX1_47 (Nat.le_of_ble_eq_true rfl) (okn hρ (Nat.le_of_ble_eq_true rfl)) rfl (v := .ref 52) (fvR (okR hρ 27 rfl)) ?_
  refine AW_iload 2 dX1_link_121 rfl ?_
  refine AW_iaload dX1_link_123 (Nat.le_of_ble_eq_true rfl) (okn hρ (Nat.le_of_ble_eq_true rfl)) rfl h.1 (v := S.1 52 x4.toNatClampNeg) rfl ?_
  replace h := h.2
  refine AW_iastore dX1_link_124 (Nat.le_of_ble_eq_true rfl) (okn hρ (Nat.le_of_ble_eq_true rfl)) rfl h.1 (hF _ (List.mem_of_getElem? (i := 1) rfl)) (jx := (S.1 31 14).toNatClampNeg) rfl ?_
  replace h := h.2
  refine AW_aload_n 0 (n := 0) rfl dX1_link_125 rfl ?_
  refine AW_dup dX1_link_126 rfl ?_
  refine AW_get dX1_link_127 flX1_63 (Nat.le_of_ble_eq_true rfl) (okn hρ (Nat.le_of_ble_eq_true rfl)) rfl (v := .int (S.1 31 14)) (fun _ => rfl) ?_
  refine AW_iconst (v := 1) dX1_link_130 rfl ?_
  refine AW_iadd dX1_link_131 ?_
  refine AW_put dX1_link_132 flX1_63 fp_1_14 (Nat.le_of_ble_eq_true rfl) (okn hρ (Nat.le_of_ble_eq_true rfl)) rfl (fun _ => rfl) (fun _ => rfl) rfl rfl rfl rfl (Fr.setI _ _ _ rfl) (fun _ _ => rfl) (ρ2 := ρ) (S2 := setI (setI (setI S 45 ((S.1 31 14).toNatClampNeg) x2) 46 ((S.1 31 14).toNatClampNeg) (S.1 52 x4.toNatClampNeg)) 31 14 ((S.1 31 14) + 1)) (fun _ => rfl) (fun _ _ _ q1 _ => fvI_o q1) (hF _ (List.mem_of_getElem? (i := 2) rfl)) ?_
  exact AW_retv dX1_link_135 rfl h
set_option maxRecDepth 20000 in
theorem eX1_link {g : GX} {Q : St → Prop} {d : Nat} {ρ : Rs} {S : St} (hρ : Ok ρ) {x1 : Int32} {x2 : Int32} (hF : ∀ k ∈ ([52] : List Nat), gF g k) (h : vp_in x1 480 ∧ (vp_in x2 320 ∧ (vp_in x1 480 ∧ (vp_in x2 320 ∧ (if ((((S.1 50 x1.toNatClampNeg) ||| 8521760) - (S.1 35 x2.toNatClampNeg)) &&& 8521760) = 8521760 then if ((S.1 51 x1.toNatClampNeg) - (S.1 36 x2.toNatClampNeg)) < 0 then Q S else if (480 : Int32) ≤ ((S.1 51 x1.toNatClampNeg) - (S.1 36 x2.toNatClampNeg)) then Q S else if (S.1 31 14) < 4800 then vp_in ((S.1 51 x1.toNatClampNeg) - (S.1 36 x2.toNatClampNeg)) 480 ∧ (if (S.1 52 (((S.1 51 x1.toNatClampNeg) - (S.1 36 x2.toNatClampNeg)).toNatClampNeg)) = (-1) then CALLi g d mX1_addNode [.ref 31, .int ((((S.1 50 x1.toNatClampNeg) ||| 8521760) - (S.1 35 x2.toNatClampNeg)) &&& (-8521761)), .int ((S.1 51 x1.toNatClampNeg) - (S.1 36 x2.toNatClampNeg))] ρ ρ S (fun v1 S1 => vp_in ((S.1 51 x1.toNatClampNeg) - (S.1 36 x2.toNatClampNeg)) 480 ∧ (AW g ρ (QV Q) (d + 1) mX1_link 99 [(0, .ref 31), (2, .int x2), (4, .int ((S.1 51 x1.toNatClampNeg) - (S.1 36 x2.toNatClampNeg)))] [] ρ (setI S1 52 (((S.1 51 x1.toNatClampNeg) - (S.1 36 x2.toNatClampNeg)).toNatClampNeg) v1))) else AW g ρ (QV Q) (d + 1) mX1_link 99 [(0, .ref 31), (2, .int x2), (4, .int ((S.1 51 x1.toNatClampNeg) - (S.1 36 x2.toNatClampNeg)))] [] ρ S) else Q S else Q S))))) : CALLv g (d + 1) mX1_link [.ref 31, .int x1, .int x2] ρ ρ S Q := by
  refine CALL.of mdX1_link.2.2.2.2 (Nat.le_of_ble_eq_true rfl) (Nat.le_refl _) (Nat.le_refl _) ?_
  show AW g ρ (QV Q) (d + 1) mX1_link 0 [(0, .ref 31), (1, .int x1), (2, .int x2)] [] ρ S
  refine AW_aload_n 0 (n := 0) rfl dX1_link_0 rfl ?_
  refine AW_get dX1_link_1 flX1_41 (Nat.le_of_ble_eq_true rfl) (okn hρ (Nat.le_of_ble_eq_true rfl)) rfl (v := .ref 50) (fvR (okR hρ 25 rfl)) ?_
  refine AW_iload_n 1 (n := 1) rfl dX1_link_4 rfl ?_
  refine AW_iaload dX1_link_5 (Nat.le_of_ble_eq_true rfl) (okn hρ (Nat.le_of_ble_eq_true rfl)) rfl h.1 (v := S.1 50 x1.toNatClampNeg) rfl ?_
  replace h := h.2
  refine AW_ldc (v := 8521760) dX1_link_6 kcX1_110 ?_
  refine AW_ior dX1_link_8 ?_
  refine AW_aload_n 0 (n := 0) rfl dX1_link_9 rfl ?_
  refine AW_get dX1_link_10 flX1_12 (Nat.le_of_ble_eq_true rfl) (okn hρ (Nat.le_of_ble_eq_true rfl)) rfl (v := .ref 32) (fvR (okR hρ 17 rfl)) ?_
  refine AW_get dX1_link_13 flX1_111 (Nat.le_of_ble_eq_true rfl) (okn hρ (Nat.le_of_ble_eq_true rfl)) rfl (v := .ref 35) (fvR (okR hρ 31 rfl)) ?_
  refine AW_iload_n 2 (n := 2) rfl dX1_link_16 rfl ?_
  refine AW_iaload dX1_link_17 (Nat.le_of_ble_eq_true rfl) (okn hρ (Nat.le_of_ble_eq_true rfl)) rfl h.1 (v := S.1 35 x2.toNatClampNeg) rfl ?_
  replace h := h.2
  refine AW_isub dX1_link_18 ?_
  refine AW_istore_n (n := 3) (i := 3) rfl dX1_link_19 (Nat.le_of_ble_eq_true rfl) rfl ?_
  refine AW_aload_n 1 (n := 0) rfl dX1_link_20 rfl ?_
  refine AW_get dX1_link_21 flX1_44 (Nat.le_of_ble_eq_true rfl) (okn hρ (Nat.le_of_ble_eq_true rfl)) rfl (v := .ref 51) (fvR (okR hρ 26 rfl)) ?_
  refine AW_iload_n 2 (n := 1) rfl dX1_link_24 rfl ?_
  refine AW_iaload dX1_link_25 (Nat.le_of_ble_eq_true rfl) (okn hρ (Nat.le_of_ble_eq_true rfl)) rfl h.1 (v := S.1 51 x1.toNatClampNeg) rfl ?_
  replace h := h.2
  refine AW_aload_n 1 (n := 0) rfl dX1_link_26 rfl ?_
  refine AW_get dX1_link_27 flX1_12 (Nat.le_of_ble_eq_true rfl) (okn hρ (Nat.le_of_ble_eq_true rfl)) rfl (v := .ref 32) (fvR (okR hρ 17 rfl)) ?_
  refine AW_get dX1_link_30 flX1_114 (Nat.le_of_ble_eq_true rfl) (okn hρ (Nat.le_of_ble_eq_true rfl)) rfl (v := .ref 36) (fvR (okR hρ 32 rfl)) ?_
  refine AW_iload_n 3 (n := 2) rfl dX1_link_33 rfl ?_
  refine AW_iaload dX1_link_34 (Nat.le_of_ble_eq_true rfl) (okn hρ (Nat.le_of_ble_eq_true rfl)) rfl h.1 (v := S.1 36 x2.toNatClampNeg) rfl ?_
  replace h := h.2
  refine AW_isub dX1_link_35 ?_
  refine AW_istore dX1_link_36 (Nat.le_of_ble_eq_true rfl) rfl ?_
  refine AW_iload_n 1 (n := 3) rfl dX1_link_38 rfl ?_
  refine AW_ldc (v := 8521760) dX1_link_39 kcX1_110 ?_
  refine AW_iand dX1_link_41 ?_
  refine AW_ldc (v := 8521760) dX1_link_42 kcX1_110 ?_
  refine AW_icmp_ne dX1_link_44 rfl (iteM h (fun h => ?_) (fun h => ?_))
  · refine AW_iload 0 dX1_link_47 rfl ?_
    refine AW_if_lt dX1_link_49 rfl (iteM h (fun h => ?_) (fun h => ?_))
    · exact AW_retv dX1_link_70 rfl h
    · refine AW_iload 0 dX1_link_52 rfl ?_
      refine AW_sipush (v := 480) dX1_link_54 rfl ?_
      refine AW_icmp_ge dX1_link_57 rfl (iteM h (fun h => ?_) (fun h => ?_))
      · exact AW_retv dX1_link_70 rfl h
      · refine AW_aload_n 2 (n := 0) rfl dX1_link_60 rfl ?_
        refine AW_get dX1_link_61 flX1_63 (Nat.le_of_ble_eq_true rfl) (okn hρ (Nat.le_of_ble_eq_true rfl)) rfl (v := .int (S.1 31 14)) (fun _ => rfl) ?_
        refine AW_sipush (v := 4800) dX1_link_64 rfl ?_
        refine AW_icmp_lt dX1_link_67 rfl (iteM h (fun h => ?_) (fun h => ?_))
        · refine AW_aload_n 2 (n := 0) rfl dX1_link_71 rfl ?_
          refine AW_get dX1_link_72 flX1_47 (Nat.le_of_ble_eq_true rfl) (okn hρ (Nat.le_of_ble_eq_true rfl)) rfl (v := .ref 52) (fvR (okR hρ 27 rfl)) ?_
          refine AW_iload 0 dX1_link_75 rfl ?_
          refine AW_iaload dX1_link_77 (Nat.le_of_ble_eq_true rfl) (okn hρ (Nat.le_of_ble_eq_true rfl)) rfl h.1 (v := S.1 52 (((S.1 51 x1.toNatClampNeg) - (S.1 36 x2.toNatClampNeg)).toNatClampNeg)) rfl ?_
          replace h := h.2
          refine AW_iconst (v := (-1)) dX1_link_78 rfl ?_
          refine AW_icmp_ne dX1_link_79 rfl (iteM h (fun h => ?_) (fun h => ?_))
          · refine AW_aload_n 2 (n := 0) rfl dX1_link_82 rfl ?_
            refine AW_get dX1_link_83 flX1_47 (Nat.le_of_ble_eq_true rfl) (okn hρ (Nat.le_of_ble_eq_true rfl)) rfl (v := .ref 52) (fvR (okR hρ 27 rfl)) ?_
            refine AW_iload 0 dX1_link_86 rfl ?_
            refine AW_aload_n 2 (n := 0) rfl dX1_link_88 rfl ?_
            refine AW_iload_n 1 (n := 3) rfl dX1_link_89 rfl ?_
            refine AW_ldc (v := (-8521761)) dX1_link_90 kcX1_115 ?_
            refine AW_iand dX1_link_92 ?_
            refine AW_iload 0 dX1_link_93 rfl ?_
            refine AW_callVi (M := mX1_link) (pc := 95) (As := [.int ((((S.1 50 x1.toNatClampNeg) ||| 8521760) - (S.1 35 x2.toNatClampNeg)) &&& (-8521761)), .int ((S.1 51 x1.toNatClampNeg) - (S.1 36 x2.toNatClampNeg))]) (ρ1 := ρ) (st := [.int ((S.1 51 x1.toNatClampNeg) - (S.1 36 x2.toNatClampNeg)), .ref 52]) dX1_link_95 mdX1_addNode rfl mlX1_80 imX1_addNode seX1_addNode (rcv_of (q := (RX1, TX1, 15)) (Nat.le_of_ble_eq_true rfl) (okn hρ (Nat.le_of_ble_eq_true rfl)) rfl rfl) ⟨rfl, npX1_addNode⟩ (Nat.le_of_ble_eq_true rfl) (Nat.le_refl _) (Nat.le_refl _) rfl (CALLi.mono h (fun v1 S1 _ h => ?_))
            refine AW_iastore dX1_link_98 (Nat.le_of_ble_eq_true rfl) (okn hρ (Nat.le_of_ble_eq_true rfl)) rfl h.1 (hF _ (List.mem_of_getElem? (i := 0) rfl)) (jx := ((S.1 51 x1.toNatClampNeg) - (S.1 36 x2.toNatClampNeg)).toNatClampNeg) rfl ?_
            replace h := h.2
            exact AW.sub [2, 4, 0] rfl h
          · exact AW.sub [2, 4, 0] rfl h
        · exact AW_retv dX1_link_70 rfl h
  · exact AW_retv dX1_link_70 rfl h
set_option maxRecDepth 20000 in
theorem eX1_addNode {g : GX} {Q : Int32 → St → Prop} {d : Nat} {ρ : Rs} {S : St} (hρ : Ok ρ) {x1 : Int32} {x2 : Int32} (hF : ∀ k ∈ ([50, 51, 31] : List Nat), gF g k) (h : vp_in (if (479 : Int32) < (S.1 31 2) then 479 else (S.1 31 2)) 480 ∧ (vp_in (if (479 : Int32) < (S.1 31 2) then 479 else (S.1 31 2)) 480 ∧ (Q (if (479 : Int32) < (S.1 31 2) then 479 else (S.1 31 2)) (setI (setI (setI S 50 ((if (479 : Int32) < (S.1 31 2) then 479 else (S.1 31 2)).toNatClampNeg) x1) 51 ((if (479 : Int32) < (S.1 31 2) then 479 else (S.1 31 2)).toNatClampNeg) x2) 31 2 ((if (479 : Int32) < (S.1 31 2) then 479 else (S.1 31 2)) + 1))))) : CALLi g (d + 1) mX1_addNode [.ref 31, .int x1, .int x2] ρ ρ S Q := by
  refine CALL.of mdX1_addNode.2.2.2.2 (Nat.le_of_ble_eq_true rfl) (Nat.le_refl _) (Nat.le_refl _) ?_
  show AW g ρ (QI Q) (d + 1) mX1_addNode 0 [(0, .ref 31), (1, .int x1), (2, .int x2)] [] ρ S
  refine AW_aload_n 0 (n := 0) rfl dX1_addNode_0 rfl ?_
  refine AW_get dX1_addNode_1 flX1_60 (Nat.le_of_ble_eq_true rfl) (okn hρ (Nat.le_of_ble_eq_true rfl)) rfl (v := .int (S.1 31 2)) (fun _ => rfl) ?_
  refine AW_sipush (v := 479) dX1_addNode_4 rfl ?_
  refine AW_mminI (M := mX1_addNode) (pc := 7) dX1_addNode_7 mlX1_116 wmminIS wMath wmminIC (Nat.le_of_ble_eq_true rfl) ?_ (Nat.le_refl _) (Nat.le_refl _)
  refine AW_istore_n (n := 3) (i := 3) rfl dX1_addNode_10 (Nat.le_of_ble_eq_true rfl) rfl ?_
  refine AW_aload_n 1 (n := 0) rfl dX1_addNode_11 rfl ?_
  refine AW_get dX1_addNode_12 flX1_41 (Nat.le_of_ble_eq_true rfl) (okn hρ (Nat.le_of_ble_eq_true rfl)) rfl (v := .ref 50) (fvR (okR hρ 25 rfl)) ?_
  refine AW_iload_n 0 (n := 3) rfl dX1_addNode_15 rfl ?_
  refine AW_iload_n 2 (n := 1) rfl dX1_addNode_16 rfl ?_
  refine AW_iastore dX1_addNode_17 (Nat.le_of_ble_eq_true rfl) (okn hρ (Nat.le_of_ble_eq_true rfl)) rfl h.1 (hF _ (List.mem_of_getElem? (i := 0) rfl)) (jx := (if (479 : Int32) < (S.1 31 2) then 479 else (S.1 31 2)).toNatClampNeg) rfl ?_
  replace h := h.2
  refine AW_aload_n 1 (n := 0) rfl dX1_addNode_18 rfl ?_
  refine AW_get dX1_addNode_19 flX1_44 (Nat.le_of_ble_eq_true rfl) (okn hρ (Nat.le_of_ble_eq_true rfl)) rfl (v := .ref 51) (fvR (okR hρ 26 rfl)) ?_
  refine AW_iload_n 0 (n := 3) rfl dX1_addNode_22 rfl ?_
  refine AW_iload_n 3 (n := 2) rfl dX1_addNode_23 rfl ?_
  refine AW_iastore dX1_addNode_24 (Nat.le_of_ble_eq_true rfl) (okn hρ (Nat.le_of_ble_eq_true rfl)) rfl h.1 (hF _ (List.mem_of_getElem? (i := 1) rfl)) (jx := (if (479 : Int32) < (S.1 31 2) then 479 else (S.1 31 2)).toNatClampNeg) rfl ?_
  replace h := h.2
  refine AW_aload_n 1 (n := 0) rfl dX1_addNode_25 rfl ?_
  refine AW_iload_n 0 (n := 3) rfl dX1_addNode_26 rfl ?_
  refine AW_iconst (v := 1) dX1_addNode_27 rfl ?_
  refine AW_iadd dX1_addNode_28 ?_
  refine AW_put dX1_addNode_29 flX1_60 fp_1_2 (Nat.le_of_ble_eq_true rfl) (okn hρ (Nat.le_of_ble_eq_true rfl)) rfl (fun _ => rfl) (fun _ => rfl) rfl rfl rfl rfl (Fr.setI _ _ _ rfl) (fun _ _ => rfl) (ρ2 := ρ) (S2 := setI (setI (setI S 50 ((if (479 : Int32) < (S.1 31 2) then 479 else (S.1 31 2)).toNatClampNeg) x1) 51 ((if (479 : Int32) < (S.1 31 2) then 479 else (S.1 31 2)).toNatClampNeg) x2) 31 2 ((if (479 : Int32) < (S.1 31 2) then 479 else (S.1 31 2)) + 1)) (fun _ => rfl) (fun _ _ _ q1 _ => fvI_o q1) (hF _ (List.mem_of_getElem? (i := 2) rfl)) ?_
  refine AW_iload_n 0 (n := 3) rfl dX1_addNode_32 rfl ?_
  exact AW_reti dX1_addNode_33 rfl h
set_option maxRecDepth 20000 in
theorem eX1_sumAhead_67 {g : GX} {Q : St → Prop} {d : Nat} {ρ : Rs} {S : St} (hρ : Ok ρ) {x1 : Int32} {x3 : Int32} (hF : ∀ k ∈ ([47, 48] : List Nat), gF g k) (h : vp_in (x1 + 1) 481 ∧ (if (S.1 44 ((x1 + 1).toNatClampNeg)) ≤ x3 then AW g ρ (QV Q) d mX1_sumAhead 7 [(0, .ref 31), (1, .int (x1 + (-1)))] [] ρ S else vp_in x3 4800 ∧ (vp_in x1 480 ∧ (vp_in (S.1 46 x3.toNatClampNeg) 480 ∧ (vp_in x1 480 ∧ (vp_in x1 480 ∧ (vp_in x3 4800 ∧ (vp_in (S.1 45 x3.toNatClampNeg) 320 ∧ (vp_in (S.1 46 x3.toNatClampNeg) 480 ∧ (vp_in x1 480 ∧ (AW g ρ (QV Q) d mX1_sumAhead 67 [(0, .ref 31), (1, .int x1), (3, .int (x3 + 1))] [] ρ (setL (setL S 47 x1.toNatClampNeg ((S.2 47 x1.toNatClampNeg) + (S.2 47 ((S.1 46 x3.toNatClampNeg).toNatClampNeg)))) 48 x1.toNatClampNeg ((S.2 48 x1.toNatClampNeg) + ((S.2 38 ((S.1 45 x3.toNatClampNeg).toNatClampNeg)) * (S.2 48 ((S.1 46 x3.toNatClampNeg).toNatClampNeg)))))))))))))))) : AW g ρ (QV Q) d mX1_sumAhead 67 [(0, .ref 31), (1, .int x1), (3, .int x3)] [] ρ S := by
  refine AW_iload_n 2 (n := 3) rfl dX1_sumAhead_67 rfl ?_
  refine AW_aload_n 0 (n := 0) rfl dX1_sumAhead_68 rfl ?_
  refine AW_get dX1_sumAhead_69 flX1_22 (Nat.le_of_ble_eq_true rfl) (okn hρ (Nat.le_of_ble_eq_true rfl)) rfl (v := .ref 44) (fvR (okR hρ 19 rfl)) ?_
  refine AW_iload_n 1 (n := 1) rfl dX1_sumAhead_72 rfl ?_
  refine AW_iconst (v := 1) dX1_sumAhead_73 rfl ?_
  refine AW_iadd dX1_sumAhead_74 ?_
  refine AW_iaload dX1_sumAhead_75 (Nat.le_of_ble_eq_true rfl) (okn hρ (Nat.le_of_ble_eq_true rfl)) rfl h.1 (v := S.1 44 ((x1 + 1).toNatClampNeg)) rfl ?_
  replace h := h.2
  refine AW_icmp_ge dX1_sumAhead_76 rfl (iteM h (fun h => ?_) (fun h => ?_))
  · refine AW_iinc 1 (v := x1 + (-1)) dX1_sumAhead_142 rfl rfl (Nat.le_of_ble_eq_true rfl) rfl ?_
    refine AW_goto (tgt := 7) dX1_sumAhead_145 rfl ?_
    exact AW.sub [1, 0] rfl h
  · refine AW_aload_n 0 (n := 0) rfl dX1_sumAhead_79 rfl ?_
    refine AW_get dX1_sumAhead_80 flX1_28 (Nat.le_of_ble_eq_true rfl) (okn hρ (Nat.le_of_ble_eq_true rfl)) rfl (v := .ref 46) (fvR (okR hρ 21 rfl)) ?_
    refine AW_iload_n 2 (n := 3) rfl dX1_sumAhead_83 rfl ?_
    refine AW_iaload dX1_sumAhead_84 (Nat.le_of_ble_eq_true rfl) (okn hρ (Nat.le_of_ble_eq_true rfl)) rfl h.1 (v := S.1 46 x3.toNatClampNeg) rfl ?_
    replace h := h.2
    refine AW_istore dX1_sumAhead_85 (Nat.le_of_ble_eq_true rfl) rfl ?_
    refine AW_aload_n 1 (n := 0) rfl dX1_sumAhead_87 rfl ?_
    refine AW_get dX1_sumAhead_88 flX1_31 (Nat.le_of_ble_eq_true rfl) (okn hρ (Nat.le_of_ble_eq_true rfl)) rfl (v := .ref 47) (fvR (okR hρ 22 rfl)) ?_
    refine AW_iload_n 2 (n := 1) rfl dX1_sumAhead_91 rfl ?_
    refine AW_dup2_11 dX1_sumAhead_92 rfl rfl ?_
    refine AW_laload dX1_sumAhead_93 (Nat.le_of_ble_eq_true rfl) (okn hρ (Nat.le_of_ble_eq_true rfl)) rfl h.1 (v := S.2 47 x1.toNatClampNeg) rfl ?_
    replace h := h.2
    refine AW_aload_n 1 (n := 0) rfl dX1_sumAhead_94 rfl ?_
    refine AW_get dX1_sumAhead_95 flX1_31 (Nat.le_of_ble_eq_true rfl) (okn hρ (Nat.le_of_ble_eq_true rfl)) rfl (v := .ref 47) (fvR (okR hρ 22 rfl)) ?_
    refine AW_iload 0 dX1_sumAhead_98 rfl ?_
    refine AW_laload dX1_sumAhead_100 (Nat.le_of_ble_eq_true rfl) (okn hρ (Nat.le_of_ble_eq_true rfl)) rfl h.1 (v := S.2 47 ((S.1 46 x3.toNatClampNeg).toNatClampNeg)) rfl ?_
    replace h := h.2
    refine AW_ladd dX1_sumAhead_101 ?_
    refine AW_lastore dX1_sumAhead_102 (Nat.le_of_ble_eq_true rfl) (okn hρ (Nat.le_of_ble_eq_true rfl)) rfl h.1 (hF _ (List.mem_of_getElem? (i := 0) rfl)) (jx := x1.toNatClampNeg) rfl ?_
    replace h := h.2
    refine AW_aload_n 1 (n := 0) rfl dX1_sumAhead_103 rfl ?_
    refine AW_get dX1_sumAhead_104 flX1_35 (Nat.le_of_ble_eq_true rfl) (okn hρ (Nat.le_of_ble_eq_true rfl)) rfl (v := .ref 48) (fvR (okR hρ 23 rfl)) ?_
    refine AW_iload_n 2 (n := 1) rfl dX1_sumAhead_107 rfl ?_
    refine AW_dup2_11 dX1_sumAhead_108 rfl rfl ?_
    refine AW_laload dX1_sumAhead_109 (Nat.le_of_ble_eq_true rfl) (okn hρ (Nat.le_of_ble_eq_true rfl)) rfl h.1 (v := S.2 48 x1.toNatClampNeg) rfl ?_
    replace h := h.2
    refine AW_aload_n 1 (n := 0) rfl dX1_sumAhead_110 rfl ?_
    refine AW_get dX1_sumAhead_111 flX1_12 (Nat.le_of_ble_eq_true rfl) (okn hρ (Nat.le_of_ble_eq_true rfl)) rfl (v := .ref 32) (fvR (okR hρ 17 rfl)) ?_
    refine AW_get dX1_sumAhead_114 flX1_121 (Nat.le_of_ble_eq_true rfl) (okn hρ (Nat.le_of_ble_eq_true rfl)) rfl (v := .ref 37) (fvR (okR hρ 33 rfl)) ?_
    refine AW_iconst (v := 0) dX1_sumAhead_117 rfl ?_
    refine AW_aaload dX1_sumAhead_118 (Nat.le_of_ble_eq_true rfl) (okn hρ (Nat.le_of_ble_eq_true rfl)) rfl (show ¬ (_ ∨ _) by decide) (okR hρ 35 rfl) ?_
    refine AW_aload_n 1 (n := 0) rfl dX1_sumAhead_119 rfl ?_
    refine AW_get dX1_sumAhead_120 flX1_25 (Nat.le_of_ble_eq_true rfl) (okn hρ (Nat.le_of_ble_eq_true rfl)) rfl (v := .ref 45) (fvR (okR hρ 20 rfl)) ?_
    refine AW_iload_n 3 (n := 3) rfl dX1_sumAhead_123 rfl ?_
    refine AW_iaload dX1_sumAhead_124 (Nat.le_of_ble_eq_true rfl) (okn hρ (Nat.le_of_ble_eq_true rfl)) rfl h.1 (v := S.1 45 x3.toNatClampNeg) rfl ?_
    replace h := h.2
    refine AW_laload dX1_sumAhead_125 (Nat.le_of_ble_eq_true rfl) (okn hρ (Nat.le_of_ble_eq_true rfl)) rfl h.1 (v := S.2 38 ((S.1 45 x3.toNatClampNeg).toNatClampNeg)) rfl ?_
    replace h := h.2
    refine AW_aload_n 1 (n := 0) rfl dX1_sumAhead_126 rfl ?_
    refine AW_get dX1_sumAhead_127 flX1_35 (Nat.le_of_ble_eq_true rfl) (okn hρ (Nat.le_of_ble_eq_true rfl)) rfl (v := .ref 48) (fvR (okR hρ 23 rfl)) ?_
    refine AW_iload 0 dX1_sumAhead_130 rfl ?_
    refine AW_laload dX1_sumAhead_132 (Nat.le_of_ble_eq_true rfl) (okn hρ (Nat.le_of_ble_eq_true rfl)) rfl h.1 (v := S.2 48 ((S.1 46 x3.toNatClampNeg).toNatClampNeg)) rfl ?_
    replace h := h.2
    refine AW_lmul dX1_sumAhead_133 ?_
    refine AW_ladd dX1_sumAhead_134 ?_
    refine AW_lastore dX1_sumAhead_135 (Nat.le_of_ble_eq_true rfl) (okn hρ (Nat.le_of_ble_eq_true rfl)) rfl h.1 (hF _ (List.mem_of_getElem? (i := 1) rfl)) (jx := x1.toNatClampNeg) rfl ?_
    replace h := h.2
    refine AW_iinc 3 (v := x3 + 1) dX1_sumAhead_136 rfl rfl (Nat.le_of_ble_eq_true rfl) rfl ?_
    refine AW_goto (tgt := 67) dX1_sumAhead_139 rfl ?_
    exact AW.sub [2, 3, 0] rfl h
set_option maxRecDepth 20000 in
theorem eX1_sumAhead_44 {g : GX} {Q : St → Prop} {d : Nat} {ρ : Rs} {S : St} (hρ : Ok ρ) {x1 : Int32} {x2 : Int32} {s0 : Int64} {s1 : Int32} (hF : ∀ k ∈ ([47, 48] : List Nat), gF g k) (h : vp_in s1 480 ∧ (if x2 = 0 then vp_in x1 480 ∧ (vp_in x1 481 ∧ (AW g ρ (QV Q) d mX1_sumAhead 67 [(0, .ref 31), (1, .int x1), (3, .int (S.1 44 x1.toNatClampNeg))] [] ρ (setL (setL S 47 s1.toNatClampNeg s0) 48 x1.toNatClampNeg 0))) else vp_in x1 480 ∧ (vp_in x1 481 ∧ (AW g ρ (QV Q) d mX1_sumAhead 67 [(0, .ref 31), (1, .int x1), (3, .int (S.1 44 x1.toNatClampNeg))] [] ρ (setL (setL S 47 s1.toNatClampNeg s0) 48 x1.toNatClampNeg 1))))) : AW g ρ (QV Q) d mX1_sumAhead 44 [(0, .ref 31), (1, .int x1), (2, .int x2)] [.long s0, .int s1, .ref 47] ρ S := by
  refine AW_lastore dX1_sumAhead_44 (Nat.le_of_ble_eq_true rfl) (okn hρ (Nat.le_of_ble_eq_true rfl)) rfl h.1 (hF _ (List.mem_of_getElem? (i := 0) rfl)) (jx := s1.toNatClampNeg) rfl ?_
  replace h := h.2
  refine AW_aload_n 0 (n := 0) rfl dX1_sumAhead_45 rfl ?_
  refine AW_get dX1_sumAhead_46 flX1_35 (Nat.le_of_ble_eq_true rfl) (okn hρ (Nat.le_of_ble_eq_true rfl)) rfl (v := .ref 48) (fvR (okR hρ 23 rfl)) ?_
  refine AW_iload_n 1 (n := 1) rfl dX1_sumAhead_49 rfl ?_
  refine AW_iload_n 2 (n := 2) rfl dX1_sumAhead_50 rfl ?_
  refine AW_if_eq dX1_sumAhead_51 rfl (iteM h (fun h => ?_) (fun h => ?_))
  · refine AW_lconst (v := 0) dX1_sumAhead_58 rfl ?_
    refine AW_lastore dX1_sumAhead_59 (Nat.le_of_ble_eq_true rfl) (okn hρ (Nat.le_of_ble_eq_true rfl)) rfl h.1 (hF _ (List.mem_of_getElem? (i := 1) rfl)) (jx := x1.toNatClampNeg) rfl ?_
    replace h := h.2
    refine AW_aload_n 0 (n := 0) rfl dX1_sumAhead_60 rfl ?_
    refine AW_get dX1_sumAhead_61 flX1_22 (Nat.le_of_ble_eq_true rfl) (okn hρ (Nat.le_of_ble_eq_true rfl)) rfl (v := .ref 44) (fvR (okR hρ 19 rfl)) ?_
    refine AW_iload_n 1 (n := 1) rfl dX1_sumAhead_64 rfl ?_
    refine AW_iaload dX1_sumAhead_65 (Nat.le_of_ble_eq_true rfl) (okn hρ (Nat.le_of_ble_eq_true rfl)) rfl h.1 (v := S.1 44 x1.toNatClampNeg) rfl ?_
    replace h := h.2
    refine AW_istore_n (n := 3) (i := 3) rfl dX1_sumAhead_66 (Nat.le_of_ble_eq_true rfl) rfl ?_
    exact AW.sub [1, 2, 0] rfl h
  · refine AW_lconst (v := 1) dX1_sumAhead_54 rfl ?_
    refine AW_goto (tgt := 59) dX1_sumAhead_55 rfl ?_
    refine AW_lastore dX1_sumAhead_59 (Nat.le_of_ble_eq_true rfl) (okn hρ (Nat.le_of_ble_eq_true rfl)) rfl h.1 (hF _ (List.mem_of_getElem? (i := 1) rfl)) (jx := x1.toNatClampNeg) rfl ?_
    replace h := h.2
    refine AW_aload_n 0 (n := 0) rfl dX1_sumAhead_60 rfl ?_
    refine AW_get dX1_sumAhead_61 flX1_22 (Nat.le_of_ble_eq_true rfl) (okn hρ (Nat.le_of_ble_eq_true rfl)) rfl (v := .ref 44) (fvR (okR hρ 19 rfl)) ?_
    refine AW_iload_n 1 (n := 1) rfl dX1_sumAhead_64 rfl ?_
    refine AW_iaload dX1_sumAhead_65 (Nat.le_of_ble_eq_true rfl) (okn hρ (Nat.le_of_ble_eq_true rfl)) rfl h.1 (v := S.1 44 x1.toNatClampNeg) rfl ?_
    replace h := h.2
    refine AW_istore_n (n := 3) (i := 3) rfl dX1_sumAhead_66 (Nat.le_of_ble_eq_true rfl) rfl ?_
    exact AW.sub [1, 2, 0] rfl h
set_option maxRecDepth 20000 in
theorem eX1_sumAhead_7 {g : GX} {Q : St → Prop} {d : Nat} {ρ : Rs} {S : St} (hρ : Ok ρ) {x1 : Int32} (h : if x1 < 0 then Q S else vp_in (S.1 31 1) 6 ∧ (if x1 < (S.1 43 ((S.1 31 1).toNatClampNeg)) then if (0 : Int32) = 0 then AW g ρ (QV Q) d mX1_sumAhead 44 [(0, .ref 31), (1, .int x1), (2, .int 0)] [.long 0, .int x1, .ref 47] ρ S else AW g ρ (QV Q) d mX1_sumAhead 44 [(0, .ref 31), (1, .int x1), (2, .int 0)] [.long 1, .int x1, .ref 47] ρ S else if (1 : Int32) = 0 then AW g ρ (QV Q) d mX1_sumAhead 44 [(0, .ref 31), (1, .int x1), (2, .int 1)] [.long 0, .int x1, .ref 47] ρ S else AW g ρ (QV Q) d mX1_sumAhead 44 [(0, .ref 31), (1, .int x1), (2, .int 1)] [.long 1, .int x1, .ref 47] ρ S)) : AW g ρ (QV Q) d mX1_sumAhead 7 [(0, .ref 31), (1, .int x1)] [] ρ S := by
  refine AW_iload_n 1 (n := 1) rfl dX1_sumAhead_7 rfl ?_
  refine AW_if_lt dX1_sumAhead_8 rfl (iteM h (fun h => ?_) (fun h => ?_))
  · exact AW_retv dX1_sumAhead_148 rfl h
  · refine AW_iload_n 1 (n := 1) rfl dX1_sumAhead_11 rfl ?_
    refine AW_aload_n 0 (n := 0) rfl dX1_sumAhead_12 rfl ?_
    refine AW_get dX1_sumAhead_13 flX1_18 (Nat.le_of_ble_eq_true rfl) (okn hρ (Nat.le_of_ble_eq_true rfl)) rfl (v := .ref 43) (fvR (okR hρ 18 rfl)) ?_
    refine AW_aload_n 0 (n := 0) rfl dX1_sumAhead_16 rfl ?_
    refine AW_get dX1_sumAhead_17 flX1_59 (Nat.le_of_ble_eq_true rfl) (okn hρ (Nat.le_of_ble_eq_true rfl)) rfl (v := .int (S.1 31 1)) (fun _ => rfl) ?_
    refine AW_iaload dX1_sumAhead_20 (Nat.le_of_ble_eq_true rfl) (okn hρ (Nat.le_of_ble_eq_true rfl)) rfl h.1 (v := S.1 43 ((S.1 31 1).toNatClampNeg)) rfl ?_
    replace h := h.2
    refine AW_icmp_lt dX1_sumAhead_21 rfl (iteM h (fun h => ?_) (fun h => ?_))
    · refine AW_iconst (v := 0) dX1_sumAhead_28 rfl ?_
      refine AW_istore_n (n := 2) (i := 2) rfl dX1_sumAhead_29 (Nat.le_of_ble_eq_true rfl) rfl ?_
      refine AW_aload_n 1 (n := 0) rfl dX1_sumAhead_30 rfl ?_
      refine AW_get dX1_sumAhead_31 flX1_31 (Nat.le_of_ble_eq_true rfl) (okn hρ (Nat.le_of_ble_eq_true rfl)) rfl (v := .ref 47) (fvR (okR hρ 22 rfl)) ?_
      refine AW_iload_n 2 (n := 1) rfl dX1_sumAhead_34 rfl ?_
      refine AW_iload_n 0 (n := 2) rfl dX1_sumAhead_35 rfl ?_
      refine AW_if_eq dX1_sumAhead_36 rfl (iteM h (fun h => ?_) (fun h => ?_))
      · refine AW_lconst (v := 0) dX1_sumAhead_43 rfl ?_
        exact AW.sub [1, 2, 0] rfl h
      · refine AW_lconst (v := 1) dX1_sumAhead_39 rfl ?_
        refine AW_goto (tgt := 44) dX1_sumAhead_40 rfl ?_
        exact AW.sub [1, 2, 0] rfl h
    · refine AW_iconst (v := 1) dX1_sumAhead_24 rfl ?_
      refine AW_goto (tgt := 29) dX1_sumAhead_25 rfl ?_
      refine AW_istore_n (n := 2) (i := 2) rfl dX1_sumAhead_29 (Nat.le_of_ble_eq_true rfl) rfl ?_
      refine AW_aload_n 1 (n := 0) rfl dX1_sumAhead_30 rfl ?_
      refine AW_get dX1_sumAhead_31 flX1_31 (Nat.le_of_ble_eq_true rfl) (okn hρ (Nat.le_of_ble_eq_true rfl)) rfl (v := .ref 47) (fvR (okR hρ 22 rfl)) ?_
      refine AW_iload_n 2 (n := 1) rfl dX1_sumAhead_34 rfl ?_
      refine AW_iload_n 0 (n := 2) rfl dX1_sumAhead_35 rfl ?_
      refine AW_if_eq dX1_sumAhead_36 rfl (iteM h (fun h => ?_) (fun h => ?_))
      · refine AW_lconst (v := 0) dX1_sumAhead_43 rfl ?_
        exact AW.sub [1, 2, 0] rfl h
      · refine AW_lconst (v := 1) dX1_sumAhead_39 rfl ?_
        refine AW_goto (tgt := 44) dX1_sumAhead_40 rfl ?_
        exact AW.sub [1, 2, 0] rfl h
set_option maxRecDepth 20000 in
theorem eX1_sumAhead {g : GX} {Q : St → Prop} {d : Nat} {ρ : Rs} {S : St} (hρ : Ok ρ) (h : AW g ρ (QV Q) d mX1_sumAhead 7 [(0, .ref 31), (1, .int ((S.1 31 2) - 1))] [] ρ S) : CALLv g d mX1_sumAhead [.ref 31] ρ ρ S Q := by
  refine CALL.of mdX1_sumAhead.2.2.2.2 (Nat.le_of_ble_eq_true rfl) (Nat.le_refl _) (Nat.le_refl _) ?_
  show AW g ρ (QV Q) d mX1_sumAhead 0 [(0, .ref 31)] [] ρ S
  refine AW_aload_n 0 (n := 0) rfl dX1_sumAhead_0 rfl ?_
  refine AW_get dX1_sumAhead_1 flX1_60 (Nat.le_of_ble_eq_true rfl) (okn hρ (Nat.le_of_ble_eq_true rfl)) rfl (v := .int (S.1 31 2)) (fun _ => rfl) ?_
  refine AW_iconst (v := 1) dX1_sumAhead_4 rfl ?_
  refine AW_isub dX1_sumAhead_5 ?_
  refine AW_istore_n (n := 1) (i := 1) rfl dX1_sumAhead_6 (Nat.le_of_ble_eq_true rfl) rfl ?_
  exact AW.sub [1, 0] rfl h
set_option maxRecDepth 20000 in
theorem eX1_sumBehind_32 {g : GX} {Q : St → Prop} {d : Nat} {ρ : Rs} {S : St} (hρ : Ok ρ) {x1 : Int32} {x2 : Int32} (hF : ∀ k ∈ ([49] : List Nat), gF g k) (h : vp_in (x1 + 1) 481 ∧ (if (S.1 44 ((x1 + 1).toNatClampNeg)) ≤ x2 then AW g ρ (QV Q) (d + 1) mX1_sumBehind 17 [(0, .ref 31), (1, .int (x1 + 1))] [] ρ S else vp_in x2 4800 ∧ (vp_in (S.1 46 x2.toNatClampNeg) 480 ∧ (vp_in x1 480 ∧ (vp_in (S.1 46 x2.toNatClampNeg) 480 ∧ (AW g ρ (QV Q) (d + 1) mX1_sumBehind 32 [(0, .ref 31), (1, .int x1), (2, .int (x2 + 1))] [] ρ (setL S 49 ((S.1 46 x2.toNatClampNeg).toNatClampNeg) ((S.2 49 ((S.1 46 x2.toNatClampNeg).toNatClampNeg)) + (S.2 49 x1.toNatClampNeg))))))))) : AW g ρ (QV Q) (d + 1) mX1_sumBehind 32 [(0, .ref 31), (1, .int x1), (2, .int x2)] [] ρ S := by
  refine AW_iload_n 2 (n := 2) rfl dX1_sumBehind_32 rfl ?_
  refine AW_aload_n 0 (n := 0) rfl dX1_sumBehind_33 rfl ?_
  refine AW_get dX1_sumBehind_34 flX1_22 (Nat.le_of_ble_eq_true rfl) (okn hρ (Nat.le_of_ble_eq_true rfl)) rfl (v := .ref 44) (fvR (okR hρ 19 rfl)) ?_
  refine AW_iload_n 1 (n := 1) rfl dX1_sumBehind_37 rfl ?_
  refine AW_iconst (v := 1) dX1_sumBehind_38 rfl ?_
  refine AW_iadd dX1_sumBehind_39 ?_
  refine AW_iaload dX1_sumBehind_40 (Nat.le_of_ble_eq_true rfl) (okn hρ (Nat.le_of_ble_eq_true rfl)) rfl h.1 (v := S.1 44 ((x1 + 1).toNatClampNeg)) rfl ?_
  replace h := h.2
  refine AW_icmp_ge dX1_sumBehind_41 rfl (iteM h (fun h => ?_) (fun h => ?_))
  · refine AW_iinc 1 (v := x1 + 1) dX1_sumBehind_70 rfl rfl (Nat.le_of_ble_eq_true rfl) rfl ?_
    refine AW_goto (tgt := 17) dX1_sumBehind_73 rfl ?_
    exact AW.sub [1, 0] rfl h
  · refine AW_aload_n 0 (n := 0) rfl dX1_sumBehind_44 rfl ?_
    refine AW_get dX1_sumBehind_45 flX1_38 (Nat.le_of_ble_eq_true rfl) (okn hρ (Nat.le_of_ble_eq_true rfl)) rfl (v := .ref 49) (fvR (okR hρ 24 rfl)) ?_
    refine AW_aload_n 0 (n := 0) rfl dX1_sumBehind_48 rfl ?_
    refine AW_get dX1_sumBehind_49 flX1_28 (Nat.le_of_ble_eq_true rfl) (okn hρ (Nat.le_of_ble_eq_true rfl)) rfl (v := .ref 46) (fvR (okR hρ 21 rfl)) ?_
    refine AW_iload_n 2 (n := 2) rfl dX1_sumBehind_52 rfl ?_
    refine AW_iaload dX1_sumBehind_53 (Nat.le_of_ble_eq_true rfl) (okn hρ (Nat.le_of_ble_eq_true rfl)) rfl h.1 (v := S.1 46 x2.toNatClampNeg) rfl ?_
    replace h := h.2
    refine AW_dup2_11 dX1_sumBehind_54 rfl rfl ?_
    refine AW_laload dX1_sumBehind_55 (Nat.le_of_ble_eq_true rfl) (okn hρ (Nat.le_of_ble_eq_true rfl)) rfl h.1 (v := S.2 49 ((S.1 46 x2.toNatClampNeg).toNatClampNeg)) rfl ?_
    replace h := h.2
    refine AW_aload_n 0 (n := 0) rfl dX1_sumBehind_56 rfl ?_
    refine AW_get dX1_sumBehind_57 flX1_38 (Nat.le_of_ble_eq_true rfl) (okn hρ (Nat.le_of_ble_eq_true rfl)) rfl (v := .ref 49) (fvR (okR hρ 24 rfl)) ?_
    refine AW_iload_n 1 (n := 1) rfl dX1_sumBehind_60 rfl ?_
    refine AW_laload dX1_sumBehind_61 (Nat.le_of_ble_eq_true rfl) (okn hρ (Nat.le_of_ble_eq_true rfl)) rfl h.1 (v := S.2 49 x1.toNatClampNeg) rfl ?_
    replace h := h.2
    refine AW_ladd dX1_sumBehind_62 ?_
    refine AW_lastore dX1_sumBehind_63 (Nat.le_of_ble_eq_true rfl) (okn hρ (Nat.le_of_ble_eq_true rfl)) rfl h.1 (hF _ (List.mem_of_getElem? (i := 0) rfl)) (jx := (S.1 46 x2.toNatClampNeg).toNatClampNeg) rfl ?_
    replace h := h.2
    refine AW_iinc 2 (v := x2 + 1) dX1_sumBehind_64 rfl rfl (Nat.le_of_ble_eq_true rfl) rfl ?_
    refine AW_goto (tgt := 32) dX1_sumBehind_67 rfl ?_
    exact AW.sub [1, 2, 0] rfl h
set_option maxRecDepth 20000 in
theorem eX1_sumBehind_17 {g : GX} {Q : St → Prop} {d : Nat} {ρ : Rs} {S : St} (hρ : Ok ρ) {x1 : Int32} (h : if (S.1 31 2) ≤ x1 then Q S else vp_in x1 481 ∧ (AW g ρ (QV Q) (d + 1) mX1_sumBehind 32 [(0, .ref 31), (1, .int x1), (2, .int (S.1 44 x1.toNatClampNeg))] [] ρ S)) : AW g ρ (QV Q) (d + 1) mX1_sumBehind 17 [(0, .ref 31), (1, .int x1)] [] ρ S := by
  refine AW_iload_n 1 (n := 1) rfl dX1_sumBehind_17 rfl ?_
  refine AW_aload_n 0 (n := 0) rfl dX1_sumBehind_18 rfl ?_
  refine AW_get dX1_sumBehind_19 flX1_60 (Nat.le_of_ble_eq_true rfl) (okn hρ (Nat.le_of_ble_eq_true rfl)) rfl (v := .int (S.1 31 2)) (fun _ => rfl) ?_
  refine AW_icmp_ge dX1_sumBehind_22 rfl (iteM h (fun h => ?_) (fun h => ?_))
  · exact AW_retv dX1_sumBehind_76 rfl h
  · refine AW_aload_n 0 (n := 0) rfl dX1_sumBehind_25 rfl ?_
    refine AW_get dX1_sumBehind_26 flX1_22 (Nat.le_of_ble_eq_true rfl) (okn hρ (Nat.le_of_ble_eq_true rfl)) rfl (v := .ref 44) (fvR (okR hρ 19 rfl)) ?_
    refine AW_iload_n 1 (n := 1) rfl dX1_sumBehind_29 rfl ?_
    refine AW_iaload dX1_sumBehind_30 (Nat.le_of_ble_eq_true rfl) (okn hρ (Nat.le_of_ble_eq_true rfl)) rfl h.1 (v := S.1 44 x1.toNatClampNeg) rfl ?_
    replace h := h.2
    refine AW_istore_n (n := 2) (i := 2) rfl dX1_sumBehind_31 (Nat.le_of_ble_eq_true rfl) rfl ?_
    exact AW.sub [1, 2, 0] rfl h
set_option maxRecDepth 20000 in
theorem eX1_sumBehind {g : GX} {Q : St → Prop} {d : Nat} {ρ : Rs} {S : St} (hρ : Ok ρ) (hF : ∀ k ∈ ([49] : List Nat), gF g k) (h : CALLv g d mJ7_fill_d0a16 [.ref 49, .long 0] ρ ρ S (fun S1 => AW g ρ (QV Q) (d + 1) mX1_sumBehind 17 [(0, .ref 31), (1, .int 0)] [] ρ (setL S1 49 0 1))) : CALLv g (d + 1) mX1_sumBehind [.ref 31] ρ ρ S Q := by
  refine CALL.of mdX1_sumBehind.2.2.2.2 (Nat.le_of_ble_eq_true rfl) (Nat.le_refl _) (Nat.le_refl _) ?_
  show AW g ρ (QV Q) (d + 1) mX1_sumBehind 0 [(0, .ref 31)] [] ρ S
  refine AW_aload_n 0 (n := 0) rfl dX1_sumBehind_0 rfl ?_
  refine AW_get dX1_sumBehind_1 flX1_38 (Nat.le_of_ble_eq_true rfl) (okn hρ (Nat.le_of_ble_eq_true rfl)) rfl (v := .ref 49) (fvR (okR hρ 24 rfl)) ?_
  refine AW_lconst (v := 0) dX1_sumBehind_4 rfl ?_
  refine AW_callSv (M := mX1_sumBehind) (pc := 5) (As := [.ref 49, .long 0]) (ρ1 := ρ) (st := []) dX1_sumBehind_5 mdJ7_fill_d0a16 mlX1_125 smJ7_fill_d0a16 ⟨rfl, npJ7_fill_d0a16⟩ (Nat.le_of_ble_eq_true rfl) (Nat.le_refl _) (Nat.le_refl _) rfl (CALLv.mono h (fun S1 _ h => ?_))
  refine AW_aload_n 0 (n := 0) rfl dX1_sumBehind_8 rfl ?_
  refine AW_get dX1_sumBehind_9 flX1_38 (Nat.le_of_ble_eq_true rfl) (okn hρ (Nat.le_of_ble_eq_true rfl)) rfl (v := .ref 49) (fvR (okR hρ 24 rfl)) ?_
  refine AW_iconst (v := 0) dX1_sumBehind_12 rfl ?_
  refine AW_lconst (v := 1) dX1_sumBehind_13 rfl ?_
  refine AW_lastore dX1_sumBehind_14 (Nat.le_of_ble_eq_true rfl) (okn hρ (Nat.le_of_ble_eq_true rfl)) rfl (show ¬ (_ ∨ _) by decide) (hF _ (List.mem_of_getElem? (i := 0) rfl)) (jx := 0) rfl ?_
  refine AW_iconst (v := 0) dX1_sumBehind_15 rfl ?_
  refine AW_istore_n (n := 1) (i := 1) rfl dX1_sumBehind_16 (Nat.le_of_ble_eq_true rfl) rfl ?_
  exact AW.sub [1, 0] rfl h
set_option maxRecDepth 20000 in
theorem eX1_sumSeenCells_44 {g : GX} {Q : St → Prop} {d : Nat} {ρ : Rs} {S : St} (hρ : Ok ρ) {x1 : Int32} {x2 : Int32} {x3 : Int32} (h : vp_in (x2 + 1) 481 ∧ (if (S.1 44 ((x2 + 1).toNatClampNeg)) ≤ x3 then AW g ρ (QV Q) (d + 1) mX1_sumSeenCells 25 [(0, .ref 31), (1, .int x1), (2, .int (x2 + 1))] [] ρ S else vp_in x3 4800 ∧ (vp_in (S.1 45 x3.toNatClampNeg) 320 ∧ (vp_in x2 480 ∧ (vp_in x3 4800 ∧ (vp_in (S.1 46 x3.toNatClampNeg) 480 ∧ (CALLv g d mX1_addSeen [.ref 31, .int x1, .int (S.1 34 ((S.1 45 x3.toNatClampNeg).toNatClampNeg)), .long ((S.2 49 x2.toNatClampNeg) * (S.2 47 ((S.1 46 x3.toNatClampNeg).toNatClampNeg)))] ρ ρ S (fun S1 => AW g ρ (QV Q) (d + 1) mX1_sumSeenCells 44 [(0, .ref 31), (1, .int x1), (2, .int x2), (3, .int (x3 + 1))] [] ρ S1)))))))) : AW g ρ (QV Q) (d + 1) mX1_sumSeenCells 44 [(0, .ref 31), (1, .int x1), (2, .int x2), (3, .int x3)] [] ρ S := by
  refine AW_iload_n 3 (n := 3) rfl dX1_sumSeenCells_44 rfl ?_
  refine AW_aload_n 0 (n := 0) rfl dX1_sumSeenCells_45 rfl ?_
  refine AW_get dX1_sumSeenCells_46 flX1_22 (Nat.le_of_ble_eq_true rfl) (okn hρ (Nat.le_of_ble_eq_true rfl)) rfl (v := .ref 44) (fvR (okR hρ 19 rfl)) ?_
  refine AW_iload_n 2 (n := 2) rfl dX1_sumSeenCells_49 rfl ?_
  refine AW_iconst (v := 1) dX1_sumSeenCells_50 rfl ?_
  refine AW_iadd dX1_sumSeenCells_51 ?_
  refine AW_iaload dX1_sumSeenCells_52 (Nat.le_of_ble_eq_true rfl) (okn hρ (Nat.le_of_ble_eq_true rfl)) rfl h.1 (v := S.1 44 ((x2 + 1).toNatClampNeg)) rfl ?_
  replace h := h.2
  refine AW_icmp_ge dX1_sumSeenCells_53 rfl (iteM h (fun h => ?_) (fun h => ?_))
  · refine AW_iinc 2 (v := x2 + 1) dX1_sumSeenCells_99 rfl rfl (Nat.le_of_ble_eq_true rfl) rfl ?_
    refine AW_goto (tgt := 25) dX1_sumSeenCells_102 rfl ?_
    exact AW.sub [1, 2, 0] rfl h
  · refine AW_aload_n 0 (n := 0) rfl dX1_sumSeenCells_56 rfl ?_
    refine AW_iload_n 1 (n := 1) rfl dX1_sumSeenCells_57 rfl ?_
    refine AW_aload_n 0 (n := 0) rfl dX1_sumSeenCells_58 rfl ?_
    refine AW_get dX1_sumSeenCells_59 flX1_12 (Nat.le_of_ble_eq_true rfl) (okn hρ (Nat.le_of_ble_eq_true rfl)) rfl (v := .ref 32) (fvR (okR hρ 17 rfl)) ?_
    refine AW_get dX1_sumSeenCells_62 flX1_128 (Nat.le_of_ble_eq_true rfl) (okn hρ (Nat.le_of_ble_eq_true rfl)) rfl (v := .ref 34) (fvR (okR hρ 30 rfl)) ?_
    refine AW_aload_n 0 (n := 0) rfl dX1_sumSeenCells_65 rfl ?_
    refine AW_get dX1_sumSeenCells_66 flX1_25 (Nat.le_of_ble_eq_true rfl) (okn hρ (Nat.le_of_ble_eq_true rfl)) rfl (v := .ref 45) (fvR (okR hρ 20 rfl)) ?_
    refine AW_iload_n 3 (n := 3) rfl dX1_sumSeenCells_69 rfl ?_
    refine AW_iaload dX1_sumSeenCells_70 (Nat.le_of_ble_eq_true rfl) (okn hρ (Nat.le_of_ble_eq_true rfl)) rfl h.1 (v := S.1 45 x3.toNatClampNeg) rfl ?_
    replace h := h.2
    refine AW_iaload dX1_sumSeenCells_71 (Nat.le_of_ble_eq_true rfl) (okn hρ (Nat.le_of_ble_eq_true rfl)) rfl h.1 (v := S.1 34 ((S.1 45 x3.toNatClampNeg).toNatClampNeg)) rfl ?_
    replace h := h.2
    refine AW_aload_n 0 (n := 0) rfl dX1_sumSeenCells_72 rfl ?_
    refine AW_get dX1_sumSeenCells_73 flX1_38 (Nat.le_of_ble_eq_true rfl) (okn hρ (Nat.le_of_ble_eq_true rfl)) rfl (v := .ref 49) (fvR (okR hρ 24 rfl)) ?_
    refine AW_iload_n 2 (n := 2) rfl dX1_sumSeenCells_76 rfl ?_
    refine AW_laload dX1_sumSeenCells_77 (Nat.le_of_ble_eq_true rfl) (okn hρ (Nat.le_of_ble_eq_true rfl)) rfl h.1 (v := S.2 49 x2.toNatClampNeg) rfl ?_
    replace h := h.2
    refine AW_aload_n 0 (n := 0) rfl dX1_sumSeenCells_78 rfl ?_
    refine AW_get dX1_sumSeenCells_79 flX1_31 (Nat.le_of_ble_eq_true rfl) (okn hρ (Nat.le_of_ble_eq_true rfl)) rfl (v := .ref 47) (fvR (okR hρ 22 rfl)) ?_
    refine AW_aload_n 0 (n := 0) rfl dX1_sumSeenCells_82 rfl ?_
    refine AW_get dX1_sumSeenCells_83 flX1_28 (Nat.le_of_ble_eq_true rfl) (okn hρ (Nat.le_of_ble_eq_true rfl)) rfl (v := .ref 46) (fvR (okR hρ 21 rfl)) ?_
    refine AW_iload_n 3 (n := 3) rfl dX1_sumSeenCells_86 rfl ?_
    refine AW_iaload dX1_sumSeenCells_87 (Nat.le_of_ble_eq_true rfl) (okn hρ (Nat.le_of_ble_eq_true rfl)) rfl h.1 (v := S.1 46 x3.toNatClampNeg) rfl ?_
    replace h := h.2
    refine AW_laload dX1_sumSeenCells_88 (Nat.le_of_ble_eq_true rfl) (okn hρ (Nat.le_of_ble_eq_true rfl)) rfl h.1 (v := S.2 47 ((S.1 46 x3.toNatClampNeg).toNatClampNeg)) rfl ?_
    replace h := h.2
    refine AW_lmul dX1_sumSeenCells_89 ?_
    refine AW_callVv (M := mX1_sumSeenCells) (pc := 90) (As := [.int x1, .int (S.1 34 ((S.1 45 x3.toNatClampNeg).toNatClampNeg)), .long ((S.2 49 x2.toNatClampNeg) * (S.2 47 ((S.1 46 x3.toNatClampNeg).toNatClampNeg)))]) (ρ1 := ρ) (st := []) dX1_sumSeenCells_90 mdX1_addSeen rfl mlX1_131 imX1_addSeen seX1_addSeen (rcv_of (q := (RX1, TX1, 15)) (Nat.le_of_ble_eq_true rfl) (okn hρ (Nat.le_of_ble_eq_true rfl)) rfl rfl) ⟨rfl, npX1_addSeen⟩ (Nat.le_of_ble_eq_true rfl) (Nat.le_refl _) (Nat.le_refl _) rfl (CALLv.mono h (fun S1 _ h => ?_))
    refine AW_iinc 3 (v := x3 + 1) dX1_sumSeenCells_93 rfl rfl (Nat.le_of_ble_eq_true rfl) rfl ?_
    refine AW_goto (tgt := 44) dX1_sumSeenCells_96 rfl ?_
    exact AW.sub [1, 2, 3, 0] rfl h
set_option maxRecDepth 20000 in
theorem eX1_sumSeenCells_25 {g : GX} {Q : St → Prop} {d : Nat} {ρ : Rs} {S : St} (hρ : Ok ρ) {x1 : Int32} {x2 : Int32} (h : vp_in (x1 + 1) 6 ∧ (if (S.1 43 ((x1 + 1).toNatClampNeg)) ≤ x2 then AW g ρ (QV Q) (d + 1) mX1_sumSeenCells 10 [(0, .ref 31), (1, .int (x1 + 1))] [] ρ S else vp_in x2 481 ∧ (AW g ρ (QV Q) (d + 1) mX1_sumSeenCells 44 [(0, .ref 31), (1, .int x1), (2, .int x2), (3, .int (S.1 44 x2.toNatClampNeg))] [] ρ S))) : AW g ρ (QV Q) (d + 1) mX1_sumSeenCells 25 [(0, .ref 31), (1, .int x1), (2, .int x2)] [] ρ S := by
  refine AW_iload_n 2 (n := 2) rfl dX1_sumSeenCells_25 rfl ?_
  refine AW_aload_n 0 (n := 0) rfl dX1_sumSeenCells_26 rfl ?_
  refine AW_get dX1_sumSeenCells_27 flX1_18 (Nat.le_of_ble_eq_true rfl) (okn hρ (Nat.le_of_ble_eq_true rfl)) rfl (v := .ref 43) (fvR (okR hρ 18 rfl)) ?_
  refine AW_iload_n 1 (n := 1) rfl dX1_sumSeenCells_30 rfl ?_
  refine AW_iconst (v := 1) dX1_sumSeenCells_31 rfl ?_
  refine AW_iadd dX1_sumSeenCells_32 ?_
  refine AW_iaload dX1_sumSeenCells_33 (Nat.le_of_ble_eq_true rfl) (okn hρ (Nat.le_of_ble_eq_true rfl)) rfl h.1 (v := S.1 43 ((x1 + 1).toNatClampNeg)) rfl ?_
  replace h := h.2
  refine AW_icmp_ge dX1_sumSeenCells_34 rfl (iteM h (fun h => ?_) (fun h => ?_))
  · refine AW_iinc 1 (v := x1 + 1) dX1_sumSeenCells_105 rfl rfl (Nat.le_of_ble_eq_true rfl) rfl ?_
    refine AW_goto (tgt := 10) dX1_sumSeenCells_108 rfl ?_
    exact AW.sub [1, 0] rfl h
  · refine AW_aload_n 0 (n := 0) rfl dX1_sumSeenCells_37 rfl ?_
    refine AW_get dX1_sumSeenCells_38 flX1_22 (Nat.le_of_ble_eq_true rfl) (okn hρ (Nat.le_of_ble_eq_true rfl)) rfl (v := .ref 44) (fvR (okR hρ 19 rfl)) ?_
    refine AW_iload_n 2 (n := 2) rfl dX1_sumSeenCells_41 rfl ?_
    refine AW_iaload dX1_sumSeenCells_42 (Nat.le_of_ble_eq_true rfl) (okn hρ (Nat.le_of_ble_eq_true rfl)) rfl h.1 (v := S.1 44 x2.toNatClampNeg) rfl ?_
    replace h := h.2
    refine AW_istore_n (n := 3) (i := 3) rfl dX1_sumSeenCells_43 (Nat.le_of_ble_eq_true rfl) rfl ?_
    exact AW.sub [1, 2, 3, 0] rfl h
set_option maxRecDepth 20000 in
theorem eX1_sumSeenCells_10 {g : GX} {Q : St → Prop} {d : Nat} {ρ : Rs} {S : St} (hρ : Ok ρ) {x1 : Int32} (h : if (S.1 31 1) ≤ x1 then Q S else vp_in x1 6 ∧ (AW g ρ (QV Q) (d + 1) mX1_sumSeenCells 25 [(0, .ref 31), (1, .int x1), (2, .int (S.1 43 x1.toNatClampNeg))] [] ρ S)) : AW g ρ (QV Q) (d + 1) mX1_sumSeenCells 10 [(0, .ref 31), (1, .int x1)] [] ρ S := by
  refine AW_iload_n 1 (n := 1) rfl dX1_sumSeenCells_10 rfl ?_
  refine AW_aload_n 0 (n := 0) rfl dX1_sumSeenCells_11 rfl ?_
  refine AW_get dX1_sumSeenCells_12 flX1_59 (Nat.le_of_ble_eq_true rfl) (okn hρ (Nat.le_of_ble_eq_true rfl)) rfl (v := .int (S.1 31 1)) (fun _ => rfl) ?_
  refine AW_icmp_ge dX1_sumSeenCells_15 rfl (iteM h (fun h => ?_) (fun h => ?_))
  · exact AW_retv dX1_sumSeenCells_111 rfl h
  · refine AW_aload_n 0 (n := 0) rfl dX1_sumSeenCells_18 rfl ?_
    refine AW_get dX1_sumSeenCells_19 flX1_18 (Nat.le_of_ble_eq_true rfl) (okn hρ (Nat.le_of_ble_eq_true rfl)) rfl (v := .ref 43) (fvR (okR hρ 18 rfl)) ?_
    refine AW_iload_n 1 (n := 1) rfl dX1_sumSeenCells_22 rfl ?_
    refine AW_iaload dX1_sumSeenCells_23 (Nat.le_of_ble_eq_true rfl) (okn hρ (Nat.le_of_ble_eq_true rfl)) rfl h.1 (v := S.1 43 x1.toNatClampNeg) rfl ?_
    replace h := h.2
    refine AW_istore_n (n := 2) (i := 2) rfl dX1_sumSeenCells_24 (Nat.le_of_ble_eq_true rfl) rfl ?_
    exact AW.sub [1, 2, 0] rfl h
set_option maxRecDepth 20000 in
theorem eX1_sumSeenCells {g : GX} {Q : St → Prop} {d : Nat} {ρ : Rs} {S : St} (hρ : Ok ρ) (h : CALLv g d mJ7_fill_d0a16 [.ref 53, .long 0] ρ ρ S (fun S1 => AW g ρ (QV Q) (d + 1) mX1_sumSeenCells 10 [(0, .ref 31), (1, .int 0)] [] ρ S1)) : CALLv g (d + 1) mX1_sumSeenCells [.ref 31] ρ ρ S Q := by
  refine CALL.of mdX1_sumSeenCells.2.2.2.2 (Nat.le_of_ble_eq_true rfl) (Nat.le_refl _) (Nat.le_refl _) ?_
  show AW g ρ (QV Q) (d + 1) mX1_sumSeenCells 0 [(0, .ref 31)] [] ρ S
  refine AW_aload_n 0 (n := 0) rfl dX1_sumSeenCells_0 rfl ?_
  refine AW_get dX1_sumSeenCells_1 flX1_50 (Nat.le_of_ble_eq_true rfl) (okn hρ (Nat.le_of_ble_eq_true rfl)) rfl (v := .ref 53) (fvR (okR hρ 28 rfl)) ?_
  refine AW_lconst (v := 0) dX1_sumSeenCells_4 rfl ?_
  refine AW_callSv (M := mX1_sumSeenCells) (pc := 5) (As := [.ref 53, .long 0]) (ρ1 := ρ) (st := []) dX1_sumSeenCells_5 mdJ7_fill_d0a16 mlX1_125 smJ7_fill_d0a16 ⟨rfl, npJ7_fill_d0a16⟩ (Nat.le_of_ble_eq_true rfl) (Nat.le_refl _) (Nat.le_refl _) rfl (CALLv.mono h (fun S1 _ h => ?_))
  refine AW_iconst (v := 0) dX1_sumSeenCells_8 rfl ?_
  refine AW_istore_n (n := 1) (i := 1) rfl dX1_sumSeenCells_9 (Nat.le_of_ble_eq_true rfl) rfl ?_
  exact AW.sub [1, 0] rfl h
set_option maxRecDepth 20000 in
theorem eX1_addSeen_3 {g : GX} {Q : St → Prop} {d : Nat} {ρ : Rs} {S : St} (hρ : Ok ρ) {x1 : Int32} {x2 : Int32} {x3 : Int64} {x5 : Int32} (hF : ∀ k ∈ ([53] : List Nat), gF g k) (h : if (4 : Int32) ≤ x5 then Q S else CALLi g d mX3_inLine [.int x2, .int x5] ρ ρ S (fun v1 S1 => CALLi g d mX1_seenAt [.int x1, .int x5, .int v1] ρ ρ S1 (fun v2 S2 => vp_in v2 336 ∧ (vp_in v2 336 ∧ (AW g ρ (QV Q) (d + 1) mX1_addSeen 3 [(0, .ref 31), (1, .int x1), (2, .int x2), (3, .long x3), (5, .int (x5 + 1))] [] ρ (setL S2 53 v2.toNatClampNeg ((S2.2 53 v2.toNatClampNeg) + x3))))))) : AW g ρ (QV Q) (d + 1) mX1_addSeen 3 [(0, .ref 31), (1, .int x1), (2, .int x2), (3, .long x3), (5, .int x5)] [] ρ S := by
  refine AW_iload 4 dX1_addSeen_3 rfl ?_
  refine AW_iconst (v := 4) dX1_addSeen_5 rfl ?_
  refine AW_icmp_ge dX1_addSeen_6 rfl (iteM h (fun h => ?_) (fun h => ?_))
  · exact AW_retv dX1_addSeen_36 rfl h
  · refine AW_aload_n 0 (n := 0) rfl dX1_addSeen_9 rfl ?_
    refine AW_get dX1_addSeen_10 flX1_50 (Nat.le_of_ble_eq_true rfl) (okn hρ (Nat.le_of_ble_eq_true rfl)) rfl (v := .ref 53) (fvR (okR hρ 28 rfl)) ?_
    refine AW_iload_n 1 (n := 1) rfl dX1_addSeen_13 rfl ?_
    refine AW_iload 4 dX1_addSeen_14 rfl ?_
    refine AW_iload_n 2 (n := 2) rfl dX1_addSeen_16 rfl ?_
    refine AW_iload 4 dX1_addSeen_17 rfl ?_
    refine AW_callSi (M := mX1_addSeen) (pc := 19) (As := [.int x2, .int x5]) (ρ1 := ρ) (st := [.int x5, .int x1, .ref 53]) dX1_addSeen_19 mdX3_inLine mlX1_135 smX3_inLine ⟨rfl, npX3_inLine⟩ (Nat.le_of_ble_eq_true rfl) (Nat.le_refl _) (Nat.le_refl _) rfl (CALLi.mono h (fun v1 S1 _ h => ?_))
    refine AW_callSi (M := mX1_addSeen) (pc := 22) (As := [.int x1, .int x5, .int v1]) (ρ1 := ρ) (st := [.ref 53]) dX1_addSeen_22 mdX1_seenAt mlX1_140 smX1_seenAt ⟨rfl, npX1_seenAt⟩ (Nat.le_of_ble_eq_true rfl) (Nat.le_refl _) (Nat.le_refl _) rfl (CALLi.mono h (fun v2 S2 _ h => ?_))
    refine AW_dup2_11 dX1_addSeen_25 rfl rfl ?_
    refine AW_laload dX1_addSeen_26 (Nat.le_of_ble_eq_true rfl) (okn hρ (Nat.le_of_ble_eq_true rfl)) rfl h.1 (v := S2.2 53 v2.toNatClampNeg) rfl ?_
    replace h := h.2
    refine AW_lload_n 3 (n := 3) rfl dX1_addSeen_27 rfl ?_
    refine AW_ladd dX1_addSeen_28 ?_
    refine AW_lastore dX1_addSeen_29 (Nat.le_of_ble_eq_true rfl) (okn hρ (Nat.le_of_ble_eq_true rfl)) rfl h.1 (hF _ (List.mem_of_getElem? (i := 0) rfl)) (jx := v2.toNatClampNeg) rfl ?_
    replace h := h.2
    refine AW_iinc 4 (v := x5 + 1) dX1_addSeen_30 rfl rfl (Nat.le_of_ble_eq_true rfl) rfl ?_
    refine AW_goto (tgt := 3) dX1_addSeen_33 rfl ?_
    exact AW.sub [1, 2, 3, 4, 0] rfl h
set_option maxRecDepth 20000 in
theorem eX1_addSeen {g : GX} {Q : St → Prop} {d : Nat} {ρ : Rs} {S : St} (hρ : Ok ρ) {x1 : Int32} {x2 : Int32} {x3 : Int64} (h : AW g ρ (QV Q) (d + 1) mX1_addSeen 3 [(0, .ref 31), (1, .int x1), (2, .int x2), (3, .long x3), (5, .int 0)] [] ρ S) : CALLv g (d + 1) mX1_addSeen [.ref 31, .int x1, .int x2, .long x3] ρ ρ S Q := by
  refine CALL.of mdX1_addSeen.2.2.2.2 (Nat.le_of_ble_eq_true rfl) (Nat.le_refl _) (Nat.le_refl _) ?_
  show AW g ρ (QV Q) (d + 1) mX1_addSeen 0 [(0, .ref 31), (1, .int x1), (2, .int x2), (3, .long x3)] [] ρ S
  refine AW_iconst (v := 0) dX1_addSeen_0 rfl ?_
  refine AW_istore dX1_addSeen_1 (Nat.le_of_ble_eq_true rfl) rfl ?_
  exact AW.sub [1, 2, 3, 4, 0] rfl h
set_option maxRecDepth 20000 in
theorem eX1_seenAt {g : GX} {Q : Int32 → St → Prop} {d : Nat} {ρ : Rs} {S : St} (hρ : Ok ρ) {x0 : Int32} {x1 : Int32} {x2 : Int32} (h : Q ((((4 * x0) + x1) * 21) + x2) S) : CALLi g d mX1_seenAt [.int x0, .int x1, .int x2] ρ ρ S Q := by
  refine CALL.of mdX1_seenAt.2.2.2.2 (Nat.le_of_ble_eq_true rfl) (Nat.le_refl _) (Nat.le_refl _) ?_
  show AW g ρ (QI Q) d mX1_seenAt 0 [(0, .int x0), (1, .int x1), (2, .int x2)] [] ρ S
  refine AW_iconst (v := 4) dX1_seenAt_0 rfl ?_
  refine AW_iload_n 0 (n := 0) rfl dX1_seenAt_1 rfl ?_
  refine AW_imul dX1_seenAt_2 ?_
  refine AW_iload_n 1 (n := 1) rfl dX1_seenAt_3 rfl ?_
  refine AW_iadd dX1_seenAt_4 ?_
  refine AW_bipush (v := 21) dX1_seenAt_5 rfl ?_
  refine AW_imul dX1_seenAt_7 ?_
  refine AW_iload_n 2 (n := 2) rfl dX1_seenAt_8 rfl ?_
  refine AW_iadd dX1_seenAt_9 ?_
  exact AW_reti dX1_seenAt_10 rfl h
set_option maxRecDepth 20000 in
theorem eX1_size {g : GX} {Q : Int64 → St → Prop} {d : Nat} {ρ : Rs} {S : St} (hρ : Ok ρ) (h : Q (S.2 47 0) S) : CALLl g d mX1_size [.ref 31] ρ ρ S Q := by
  refine CALL.of mdX1_size.2.2.2.2 (Nat.le_of_ble_eq_true rfl) (Nat.le_refl _) (Nat.le_refl _) ?_
  show AW g ρ (QJ Q) d mX1_size 0 [(0, .ref 31)] [] ρ S
  refine AW_aload_n 0 (n := 0) rfl dX1_size_0 rfl ?_
  refine AW_get dX1_size_1 flX1_31 (Nat.le_of_ble_eq_true rfl) (okn hρ (Nat.le_of_ble_eq_true rfl)) rfl (v := .ref 47) (fvR (okR hρ 22 rfl)) ?_
  refine AW_iconst (v := 0) dX1_size_4 rfl ?_
  refine AW_laload dX1_size_5 (Nat.le_of_ble_eq_true rfl) (okn hρ (Nat.le_of_ble_eq_true rfl)) rfl (show ¬ (_ ∨ _) by decide) (v := S.2 47 0) rfl ?_
  exact AW_retl dX1_size_6 rfl h
set_option maxRecDepth 20000 in
theorem eX1_heft {g : GX} {Q : Int64 → St → Prop} {d : Nat} {ρ : Rs} {S : St} (hρ : Ok ρ) (h : Q (S.2 48 0) S) : CALLl g d mX1_heft [.ref 31] ρ ρ S Q := by
  refine CALL.of mdX1_heft.2.2.2.2 (Nat.le_of_ble_eq_true rfl) (Nat.le_refl _) (Nat.le_refl _) ?_
  show AW g ρ (QJ Q) d mX1_heft 0 [(0, .ref 31)] [] ρ S
  refine AW_aload_n 0 (n := 0) rfl dX1_heft_0 rfl ?_
  refine AW_get dX1_heft_1 flX1_35 (Nat.le_of_ble_eq_true rfl) (okn hρ (Nat.le_of_ble_eq_true rfl)) rfl (v := .ref 48) (fvR (okR hρ 23 rfl)) ?_
  refine AW_iconst (v := 0) dX1_heft_4 rfl ?_
  refine AW_laload dX1_heft_5 (Nat.le_of_ble_eq_true rfl) (okn hρ (Nat.le_of_ble_eq_true rfl)) rfl (show ¬ (_ ∨ _) by decide) (v := S.2 48 0) rfl ?_
  exact AW_retl dX1_heft_6 rfl h
set_option maxRecDepth 20000 in
theorem eX1_timesSeen {g : GX} {Q : Int64 → St → Prop} {d : Nat} {ρ : Rs} {S : St} (hρ : Ok ρ) {x1 : Int32} {x2 : Int32} {x3 : Int32} (h : CALLi g d mX1_seenAt [.int x1, .int x2, .int x3] ρ ρ S (fun v1 S1 => if v1 < 0 then Q 0 S1 else if (336 : Int32) ≤ v1 then Q 0 S1 else vp_in v1 336 ∧ (Q (S1.2 53 v1.toNatClampNeg) S1))) : CALLl g (d + 1) mX1_timesSeen [.ref 31, .int x1, .int x2, .int x3] ρ ρ S Q := by
  refine CALL.of mdX1_timesSeen.2.2.2.2 (Nat.le_of_ble_eq_true rfl) (Nat.le_refl _) (Nat.le_refl _) ?_
  show AW g ρ (QJ Q) (d + 1) mX1_timesSeen 0 [(0, .ref 31), (1, .int x1), (2, .int x2), (3, .int x3)] [] ρ S
  refine AW_iload_n 1 (n := 1) rfl dX1_timesSeen_0 rfl ?_
  refine AW_iload_n 2 (n := 2) rfl dX1_timesSeen_1 rfl ?_
  refine AW_iload_n 3 (n := 3) rfl dX1_timesSeen_2 rfl ?_
  refine AW_callSi (M := mX1_timesSeen) (pc := 3) (As := [.int x1, .int x2, .int x3]) (ρ1 := ρ) (st := []) dX1_timesSeen_3 mdX1_seenAt mlX1_140 smX1_seenAt ⟨rfl, npX1_seenAt⟩ (Nat.le_of_ble_eq_true rfl) (Nat.le_refl _) (Nat.le_refl _) rfl (CALLi.mono h (fun v1 S1 _ h => ?_))
  refine AW_istore dX1_timesSeen_6 (Nat.le_of_ble_eq_true rfl) rfl ?_
  refine AW_iload 0 dX1_timesSeen_8 rfl ?_
  refine AW_if_lt dX1_timesSeen_10 rfl (iteM h (fun h => ?_) (fun h => ?_))
  · refine AW_lconst (v := 0) dX1_timesSeen_33 rfl ?_
    exact AW_retl dX1_timesSeen_34 rfl h
  · refine AW_iload 0 dX1_timesSeen_13 rfl ?_
    refine AW_aload_n 1 (n := 0) rfl dX1_timesSeen_15 rfl ?_
    refine AW_get dX1_timesSeen_16 flX1_50 (Nat.le_of_ble_eq_true rfl) (okn hρ (Nat.le_of_ble_eq_true rfl)) rfl (v := .ref 53) (fvR (okR hρ 28 rfl)) ?_
    refine AW_alen (v := 336) dX1_timesSeen_19 (Nat.le_of_ble_eq_true rfl) (okn hρ (Nat.le_of_ble_eq_true rfl)) (by decide) rfl rfl ?_
    refine AW_icmp_ge dX1_timesSeen_20 rfl (iteM h (fun h => ?_) (fun h => ?_))
    · refine AW_lconst (v := 0) dX1_timesSeen_33 rfl ?_
      exact AW_retl dX1_timesSeen_34 rfl h
    · refine AW_aload_n 1 (n := 0) rfl dX1_timesSeen_23 rfl ?_
      refine AW_get dX1_timesSeen_24 flX1_50 (Nat.le_of_ble_eq_true rfl) (okn hρ (Nat.le_of_ble_eq_true rfl)) rfl (v := .ref 53) (fvR (okR hρ 28 rfl)) ?_
      refine AW_iload 0 dX1_timesSeen_27 rfl ?_
      refine AW_laload dX1_timesSeen_29 (Nat.le_of_ble_eq_true rfl) (okn hρ (Nat.le_of_ble_eq_true rfl)) rfl h.1 (v := S1.2 53 v1.toNatClampNeg) rfl ?_
      replace h := h.2
      refine AW_goto (tgt := 34) dX1_timesSeen_30 rfl ?_
      exact AW_retl dX1_timesSeen_34 rfl h
set_option maxRecDepth 20000 in
theorem eX1_sumSeen_5 {g : GX} {Q : Int64 → St → Prop} {d : Nat} {ρ : Rs} {S : St} (hρ : Ok ρ) {x1 : Int32} {x2 : Int32} {x3 : Int64} {x5 : Int32} (h : if (21 : Int32) ≤ x5 then Q x3 S else CALLl g d mX1_timesSeen [.ref 31, .int x1, .int x2, .int x5] ρ ρ S (fun v1 S1 => AW g ρ (QJ Q) (d + 1) mX1_sumSeen 5 [(0, .ref 31), (1, .int x1), (2, .int x2), (3, .long (x3 + (x5.toInt64 * v1))), (5, .int (x5 + 1))] [] ρ S1)) : AW g ρ (QJ Q) (d + 1) mX1_sumSeen 5 [(0, .ref 31), (1, .int x1), (2, .int x2), (3, .long x3), (5, .int x5)] [] ρ S := by
  refine AW_iload 4 dX1_sumSeen_5 rfl ?_
  refine AW_bipush (v := 21) dX1_sumSeen_7 rfl ?_
  refine AW_icmp_ge dX1_sumSeen_9 rfl (iteM h (fun h => ?_) (fun h => ?_))
  · refine AW_lload_n 3 (n := 3) rfl dX1_sumSeen_33 rfl ?_
    exact AW_retl dX1_sumSeen_34 rfl h
  · refine AW_lload_n 3 (n := 3) rfl dX1_sumSeen_12 rfl ?_
    refine AW_iload 4 dX1_sumSeen_13 rfl ?_
    refine AW_i2l dX1_sumSeen_15 ?_
    refine AW_aload_n 0 (n := 0) rfl dX1_sumSeen_16 rfl ?_
    refine AW_iload_n 1 (n := 1) rfl dX1_sumSeen_17 rfl ?_
    refine AW_iload_n 2 (n := 2) rfl dX1_sumSeen_18 rfl ?_
    refine AW_iload 4 dX1_sumSeen_19 rfl ?_
    refine AW_callVl (M := mX1_sumSeen) (pc := 21) (As := [.int x1, .int x2, .int x5]) (ρ1 := ρ) (st := [.long x5.toInt64, .long x3]) dX1_sumSeen_21 mdX1_timesSeen rfl mlX1_144 imX1_timesSeen seX1_timesSeen (rcv_of (q := (RX1, TX1, 15)) (Nat.le_of_ble_eq_true rfl) (okn hρ (Nat.le_of_ble_eq_true rfl)) rfl rfl) ⟨rfl, npX1_timesSeen⟩ (Nat.le_of_ble_eq_true rfl) (Nat.le_refl _) (Nat.le_refl _) rfl (CALLl.mono h (fun v1 S1 _ h => ?_))
    refine AW_lmul dX1_sumSeen_24 ?_
    refine AW_ladd dX1_sumSeen_25 ?_
    refine AW_lstore_n (n := 3) (i := 3) rfl dX1_sumSeen_26 (Nat.le_of_ble_eq_true rfl) rfl ?_
    refine AW_iinc 4 (v := x5 + 1) dX1_sumSeen_27 rfl rfl (Nat.le_of_ble_eq_true rfl) rfl ?_
    refine AW_goto (tgt := 5) dX1_sumSeen_30 rfl ?_
    exact AW.sub [2, 3, 4, 1, 0] rfl h
set_option maxRecDepth 20000 in
theorem eX1_sumSeen {g : GX} {Q : Int64 → St → Prop} {d : Nat} {ρ : Rs} {S : St} (hρ : Ok ρ) {x1 : Int32} {x2 : Int32} (h : AW g ρ (QJ Q) (d + 1) mX1_sumSeen 5 [(0, .ref 31), (1, .int x1), (2, .int x2), (3, .long 0), (5, .int 0)] [] ρ S) : CALLl g (d + 1) mX1_sumSeen [.ref 31, .int x1, .int x2] ρ ρ S Q := by
  refine CALL.of mdX1_sumSeen.2.2.2.2 (Nat.le_of_ble_eq_true rfl) (Nat.le_refl _) (Nat.le_refl _) ?_
  show AW g ρ (QJ Q) (d + 1) mX1_sumSeen 0 [(0, .ref 31), (1, .int x1), (2, .int x2)] [] ρ S
  refine AW_lconst (v := 0) dX1_sumSeen_0 rfl ?_
  refine AW_lstore_n (n := 3) (i := 3) rfl dX1_sumSeen_1 (Nat.le_of_ble_eq_true rfl) rfl ?_
  refine AW_iconst (v := 0) dX1_sumSeen_2 rfl ?_
  refine AW_istore dX1_sumSeen_3 (Nat.le_of_ble_eq_true rfl) rfl ?_
  exact AW.sub [2, 3, 4, 1, 0] rfl h
set_option maxRecDepth 20000 in
theorem eX1_lowestOf_2 {g : GX} {Q : Int32 → St → Prop} {d : Nat} {ρ : Rs} {S : St} (hρ : Ok ρ) {x1 : Int32} {x2 : Int32} {x3 : Int32} (h : if (20 : Int32) ≤ x3 then Q x3 S else CALLl g d mX1_timesSeen [.ref 31, .int x1, .int x2, .int x3] ρ ρ S (fun v1 S1 => if v1 = 0 then AW g ρ (QI Q) (d + 1) mX1_lowestOf 2 [(0, .ref 31), (1, .int x1), (2, .int x2), (3, .int (x3 + 1))] [] ρ S1 else Q x3 S1)) : AW g ρ (QI Q) (d + 1) mX1_lowestOf 2 [(0, .ref 31), (1, .int x1), (2, .int x2), (3, .int x3)] [] ρ S := by
  refine AW_iload_n 3 (n := 3) rfl dX1_lowestOf_2 rfl ?_
  refine AW_bipush (v := 20) dX1_lowestOf_3 rfl ?_
  refine AW_icmp_ge dX1_lowestOf_5 rfl (iteM h (fun h => ?_) (fun h => ?_))
  · refine AW_iload_n 3 (n := 3) rfl dX1_lowestOf_26 rfl ?_
    exact AW_reti dX1_lowestOf_27 rfl h
  · refine AW_aload_n 0 (n := 0) rfl dX1_lowestOf_8 rfl ?_
    refine AW_iload_n 1 (n := 1) rfl dX1_lowestOf_9 rfl ?_
    refine AW_iload_n 2 (n := 2) rfl dX1_lowestOf_10 rfl ?_
    refine AW_iload_n 3 (n := 3) rfl dX1_lowestOf_11 rfl ?_
    refine AW_callVl (M := mX1_lowestOf) (pc := 12) (As := [.int x1, .int x2, .int x3]) (ρ1 := ρ) (st := []) dX1_lowestOf_12 mdX1_timesSeen rfl mlX1_144 imX1_timesSeen seX1_timesSeen (rcv_of (q := (RX1, TX1, 15)) (Nat.le_of_ble_eq_true rfl) (okn hρ (Nat.le_of_ble_eq_true rfl)) rfl rfl) ⟨rfl, npX1_timesSeen⟩ (Nat.le_of_ble_eq_true rfl) (Nat.le_refl _) (Nat.le_refl _) rfl (CALLl.mono h (fun v1 S1 _ h => ?_))
    refine AW_lconst (v := 0) dX1_lowestOf_15 rfl ?_
    refine AW_lc_ne dX1_lowestOf_16 dX1_lowestOf_17 rfl (iteM h (fun h => ?_) (fun h => ?_))
    · refine AW_iinc 3 (v := x3 + 1) dX1_lowestOf_20 rfl rfl (Nat.le_of_ble_eq_true rfl) rfl ?_
      refine AW_goto (tgt := 2) dX1_lowestOf_23 rfl ?_
      exact AW.sub [1, 2, 3, 0] rfl h
    · refine AW_iload_n 3 (n := 3) rfl dX1_lowestOf_26 rfl ?_
      exact AW_reti dX1_lowestOf_27 rfl h
set_option maxRecDepth 20000 in
theorem eX1_lowestOf {g : GX} {Q : Int32 → St → Prop} {d : Nat} {ρ : Rs} {S : St} (hρ : Ok ρ) {x1 : Int32} {x2 : Int32} (h : AW g ρ (QI Q) (d + 1) mX1_lowestOf 2 [(0, .ref 31), (1, .int x1), (2, .int x2), (3, .int 0)] [] ρ S) : CALLi g (d + 1) mX1_lowestOf [.ref 31, .int x1, .int x2] ρ ρ S Q := by
  refine CALL.of mdX1_lowestOf.2.2.2.2 (Nat.le_of_ble_eq_true rfl) (Nat.le_refl _) (Nat.le_refl _) ?_
  show AW g ρ (QI Q) (d + 1) mX1_lowestOf 0 [(0, .ref 31), (1, .int x1), (2, .int x2)] [] ρ S
  refine AW_iconst (v := 0) dX1_lowestOf_0 rfl ?_
  refine AW_istore_n (n := 3) (i := 3) rfl dX1_lowestOf_1 (Nat.le_of_ble_eq_true rfl) rfl ?_
  exact AW.sub [1, 2, 3, 0] rfl h
set_option maxRecDepth 20000 in
theorem eX1_highestOf_3 {g : GX} {Q : Int32 → St → Prop} {d : Nat} {ρ : Rs} {S : St} (hρ : Ok ρ) {x1 : Int32} {x2 : Int32} {x3 : Int32} (h : if x3 ≤ 0 then Q x3 S else CALLl g d mX1_timesSeen [.ref 31, .int x1, .int x2, .int x3] ρ ρ S (fun v1 S1 => if v1 = 0 then AW g ρ (QI Q) (d + 1) mX1_highestOf 3 [(0, .ref 31), (1, .int x1), (2, .int x2), (3, .int (x3 + (-1)))] [] ρ S1 else Q x3 S1)) : AW g ρ (QI Q) (d + 1) mX1_highestOf 3 [(0, .ref 31), (1, .int x1), (2, .int x2), (3, .int x3)] [] ρ S := by
  refine AW_iload_n 3 (n := 3) rfl dX1_highestOf_3 rfl ?_
  refine AW_if_le dX1_highestOf_4 rfl (iteM h (fun h => ?_) (fun h => ?_))
  · refine AW_iload_n 3 (n := 3) rfl dX1_highestOf_25 rfl ?_
    exact AW_reti dX1_highestOf_26 rfl h
  · refine AW_aload_n 0 (n := 0) rfl dX1_highestOf_7 rfl ?_
    refine AW_iload_n 1 (n := 1) rfl dX1_highestOf_8 rfl ?_
    refine AW_iload_n 2 (n := 2) rfl dX1_highestOf_9 rfl ?_
    refine AW_iload_n 3 (n := 3) rfl dX1_highestOf_10 rfl ?_
    refine AW_callVl (M := mX1_highestOf) (pc := 11) (As := [.int x1, .int x2, .int x3]) (ρ1 := ρ) (st := []) dX1_highestOf_11 mdX1_timesSeen rfl mlX1_144 imX1_timesSeen seX1_timesSeen (rcv_of (q := (RX1, TX1, 15)) (Nat.le_of_ble_eq_true rfl) (okn hρ (Nat.le_of_ble_eq_true rfl)) rfl rfl) ⟨rfl, npX1_timesSeen⟩ (Nat.le_of_ble_eq_true rfl) (Nat.le_refl _) (Nat.le_refl _) rfl (CALLl.mono h (fun v1 S1 _ h => ?_))
    refine AW_lconst (v := 0) dX1_highestOf_14 rfl ?_
    refine AW_lc_ne dX1_highestOf_15 dX1_highestOf_16 rfl (iteM h (fun h => ?_) (fun h => ?_))
    · refine AW_iinc 3 (v := x3 + (-1)) dX1_highestOf_19 rfl rfl (Nat.le_of_ble_eq_true rfl) rfl ?_
      refine AW_goto (tgt := 3) dX1_highestOf_22 rfl ?_
      exact AW.sub [1, 2, 3, 0] rfl h
    · refine AW_iload_n 3 (n := 3) rfl dX1_highestOf_25 rfl ?_
      exact AW_reti dX1_highestOf_26 rfl h
set_option maxRecDepth 20000 in
theorem eX1_highestOf {g : GX} {Q : Int32 → St → Prop} {d : Nat} {ρ : Rs} {S : St} (hρ : Ok ρ) {x1 : Int32} {x2 : Int32} (h : AW g ρ (QI Q) (d + 1) mX1_highestOf 3 [(0, .ref 31), (1, .int x1), (2, .int x2), (3, .int 20)] [] ρ S) : CALLi g (d + 1) mX1_highestOf [.ref 31, .int x1, .int x2] ρ ρ S Q := by
  refine CALL.of mdX1_highestOf.2.2.2.2 (Nat.le_of_ble_eq_true rfl) (Nat.le_refl _) (Nat.le_refl _) ?_
  show AW g ρ (QI Q) (d + 1) mX1_highestOf 0 [(0, .ref 31), (1, .int x1), (2, .int x2)] [] ρ S
  refine AW_bipush (v := 20) dX1_highestOf_0 rfl ?_
  refine AW_istore_n (n := 3) (i := 3) rfl dX1_highestOf_2 (Nat.le_of_ble_eq_true rfl) rfl ?_
  exact AW.sub [1, 2, 3, 0] rfl h
set_option maxRecDepth 20000 in
theorem eX1_linkBy_7 {g : GX} {Q : Int32 → St → Prop} {d : Nat} {ρ : Rs} {S : St} (hρ : Ok ρ) {x1 : Int32} {x2 : Int32} {x3 : Int32} (h : vp_in (x1 + 1) 481 ∧ (if (S.1 44 ((x1 + 1).toNatClampNeg)) ≤ x3 then Q (-1) S else vp_in x3 4800 ∧ (vp_in (S.1 45 x3.toNatClampNeg) 320 ∧ (if (S.1 34 ((S.1 45 x3.toNatClampNeg).toNatClampNeg)) = x2 then Q x3 S else AW g ρ (QI Q) d mX1_linkBy 7 [(0, .ref 31), (1, .int x1), (2, .int x2), (3, .int (x3 + 1))] [] ρ S)))) : AW g ρ (QI Q) d mX1_linkBy 7 [(0, .ref 31), (1, .int x1), (2, .int x2), (3, .int x3)] [] ρ S := by
  refine AW_iload_n 3 (n := 3) rfl dX1_linkBy_7 rfl ?_
  refine AW_aload_n 0 (n := 0) rfl dX1_linkBy_8 rfl ?_
  refine AW_get dX1_linkBy_9 flX1_22 (Nat.le_of_ble_eq_true rfl) (okn hρ (Nat.le_of_ble_eq_true rfl)) rfl (v := .ref 44) (fvR (okR hρ 19 rfl)) ?_
  refine AW_iload_n 1 (n := 1) rfl dX1_linkBy_12 rfl ?_
  refine AW_iconst (v := 1) dX1_linkBy_13 rfl ?_
  refine AW_iadd dX1_linkBy_14 ?_
  refine AW_iaload dX1_linkBy_15 (Nat.le_of_ble_eq_true rfl) (okn hρ (Nat.le_of_ble_eq_true rfl)) rfl h.1 (v := S.1 44 ((x1 + 1).toNatClampNeg)) rfl ?_
  replace h := h.2
  refine AW_icmp_ge dX1_linkBy_16 rfl (iteM h (fun h => ?_) (fun h => ?_))
  · refine AW_iconst (v := (-1)) dX1_linkBy_45 rfl ?_
    exact AW_reti dX1_linkBy_46 rfl h
  · refine AW_aload_n 0 (n := 0) rfl dX1_linkBy_19 rfl ?_
    refine AW_get dX1_linkBy_20 flX1_12 (Nat.le_of_ble_eq_true rfl) (okn hρ (Nat.le_of_ble_eq_true rfl)) rfl (v := .ref 32) (fvR (okR hρ 17 rfl)) ?_
    refine AW_get dX1_linkBy_23 flX1_128 (Nat.le_of_ble_eq_true rfl) (okn hρ (Nat.le_of_ble_eq_true rfl)) rfl (v := .ref 34) (fvR (okR hρ 30 rfl)) ?_
    refine AW_aload_n 0 (n := 0) rfl dX1_linkBy_26 rfl ?_
    refine AW_get dX1_linkBy_27 flX1_25 (Nat.le_of_ble_eq_true rfl) (okn hρ (Nat.le_of_ble_eq_true rfl)) rfl (v := .ref 45) (fvR (okR hρ 20 rfl)) ?_
    refine AW_iload_n 3 (n := 3) rfl dX1_linkBy_30 rfl ?_
    refine AW_iaload dX1_linkBy_31 (Nat.le_of_ble_eq_true rfl) (okn hρ (Nat.le_of_ble_eq_true rfl)) rfl h.1 (v := S.1 45 x3.toNatClampNeg) rfl ?_
    replace h := h.2
    refine AW_iaload dX1_linkBy_32 (Nat.le_of_ble_eq_true rfl) (okn hρ (Nat.le_of_ble_eq_true rfl)) rfl h.1 (v := S.1 34 ((S.1 45 x3.toNatClampNeg).toNatClampNeg)) rfl ?_
    replace h := h.2
    refine AW_iload_n 2 (n := 2) rfl dX1_linkBy_33 rfl ?_
    refine AW_icmp_ne dX1_linkBy_34 rfl (iteM h (fun h => ?_) (fun h => ?_))
    · refine AW_iload_n 3 (n := 3) rfl dX1_linkBy_37 rfl ?_
      exact AW_reti dX1_linkBy_38 rfl h
    · refine AW_iinc 3 (v := x3 + 1) dX1_linkBy_39 rfl rfl (Nat.le_of_ble_eq_true rfl) rfl ?_
      refine AW_goto (tgt := 7) dX1_linkBy_42 rfl ?_
      exact AW.sub [1, 2, 3, 0] rfl h
set_option maxRecDepth 20000 in
theorem eX1_linkBy {g : GX} {Q : Int32 → St → Prop} {d : Nat} {ρ : Rs} {S : St} (hρ : Ok ρ) {x1 : Int32} {x2 : Int32} (h : vp_in x1 481 ∧ (AW g ρ (QI Q) d mX1_linkBy 7 [(0, .ref 31), (1, .int x1), (2, .int x2), (3, .int (S.1 44 x1.toNatClampNeg))] [] ρ S)) : CALLi g d mX1_linkBy [.ref 31, .int x1, .int x2] ρ ρ S Q := by
  refine CALL.of mdX1_linkBy.2.2.2.2 (Nat.le_of_ble_eq_true rfl) (Nat.le_refl _) (Nat.le_refl _) ?_
  show AW g ρ (QI Q) d mX1_linkBy 0 [(0, .ref 31), (1, .int x1), (2, .int x2)] [] ρ S
  refine AW_aload_n 0 (n := 0) rfl dX1_linkBy_0 rfl ?_
  refine AW_get dX1_linkBy_1 flX1_22 (Nat.le_of_ble_eq_true rfl) (okn hρ (Nat.le_of_ble_eq_true rfl)) rfl (v := .ref 44) (fvR (okR hρ 19 rfl)) ?_
  refine AW_iload_n 1 (n := 1) rfl dX1_linkBy_4 rfl ?_
  refine AW_iaload dX1_linkBy_5 (Nat.le_of_ble_eq_true rfl) (okn hρ (Nat.le_of_ble_eq_true rfl)) rfl h.1 (v := S.1 44 x1.toNatClampNeg) rfl ?_
  replace h := h.2
  refine AW_istore_n (n := 3) (i := 3) rfl dX1_linkBy_6 (Nat.le_of_ble_eq_true rfl) rfl ?_
  exact AW.sub [1, 2, 3, 0] rfl h
set_option maxRecDepth 20000 in
theorem eX1_rankOf_50 {g : GX} {Q : Int64 → St → Prop} {d : Nat} {ρ : Rs} {S : St} (hρ : Ok ρ) {x1 : Int64} {x3 : Int64} {x6 : Int32} {x7 : Int32} {x8 : Int32} (h : if x7 ≤ x8 then vp_in x7 4800 ∧ (AW g ρ (QJ Q) (d + 1) mX1_rankOf 8 [(0, .ref 31), (1, .long x1), (3, .long x3), (5, .int (S.1 46 x7.toNatClampNeg)), (6, .int (x6 + 1))] [] ρ S) else vp_in x8 4800 ∧ (vp_in (S.1 46 x8.toNatClampNeg) 480 ∧ (AW g ρ (QJ Q) (d + 1) mX1_rankOf 50 [(0, .ref 31), (1, .long x1), (3, .long (x3 + (S.2 47 ((S.1 46 x8.toNatClampNeg).toNatClampNeg)))), (6, .int x6), (7, .int x7), (8, .int (x8 + 1))] [] ρ S))) : AW g ρ (QJ Q) (d + 1) mX1_rankOf 50 [(0, .ref 31), (1, .long x1), (3, .long x3), (6, .int x6), (7, .int x7), (8, .int x8)] [] ρ S := by
  refine AW_iload 5 dX1_rankOf_50 rfl ?_
  refine AW_iload 4 dX1_rankOf_52 rfl ?_
  refine AW_icmp_ge dX1_rankOf_54 rfl (iteM h (fun h => ?_) (fun h => ?_))
  · refine AW_aload_n 0 (n := 0) rfl dX1_rankOf_78 rfl ?_
    refine AW_get dX1_rankOf_79 flX1_28 (Nat.le_of_ble_eq_true rfl) (okn hρ (Nat.le_of_ble_eq_true rfl)) rfl (v := .ref 46) (fvR (okR hρ 21 rfl)) ?_
    refine AW_iload 4 dX1_rankOf_82 rfl ?_
    refine AW_iaload dX1_rankOf_84 (Nat.le_of_ble_eq_true rfl) (okn hρ (Nat.le_of_ble_eq_true rfl)) rfl h.1 (v := S.1 46 x7.toNatClampNeg) rfl ?_
    replace h := h.2
    refine AW_istore dX1_rankOf_85 (Nat.le_of_ble_eq_true rfl) rfl ?_
    refine AW_iinc 4 (v := x6 + 1) dX1_rankOf_87 rfl rfl (Nat.le_of_ble_eq_true rfl) rfl ?_
    refine AW_goto (tgt := 8) dX1_rankOf_90 rfl ?_
    exact AW.sub [2, 3, 4, 1, 0] rfl h
  · refine AW_lload_n 2 (n := 3) rfl dX1_rankOf_57 rfl ?_
    refine AW_aload_n 0 (n := 0) rfl dX1_rankOf_58 rfl ?_
    refine AW_get dX1_rankOf_59 flX1_31 (Nat.le_of_ble_eq_true rfl) (okn hρ (Nat.le_of_ble_eq_true rfl)) rfl (v := .ref 47) (fvR (okR hρ 22 rfl)) ?_
    refine AW_aload_n 0 (n := 0) rfl dX1_rankOf_62 rfl ?_
    refine AW_get dX1_rankOf_63 flX1_28 (Nat.le_of_ble_eq_true rfl) (okn hρ (Nat.le_of_ble_eq_true rfl)) rfl (v := .ref 46) (fvR (okR hρ 21 rfl)) ?_
    refine AW_iload 5 dX1_rankOf_66 rfl ?_
    refine AW_iaload dX1_rankOf_68 (Nat.le_of_ble_eq_true rfl) (okn hρ (Nat.le_of_ble_eq_true rfl)) rfl h.1 (v := S.1 46 x8.toNatClampNeg) rfl ?_
    replace h := h.2
    refine AW_laload dX1_rankOf_69 (Nat.le_of_ble_eq_true rfl) (okn hρ (Nat.le_of_ble_eq_true rfl)) rfl h.1 (v := S.2 47 ((S.1 46 x8.toNatClampNeg).toNatClampNeg)) rfl ?_
    replace h := h.2
    refine AW_ladd dX1_rankOf_70 ?_
    refine AW_lstore_n (n := 3) (i := 3) rfl dX1_rankOf_71 (Nat.le_of_ble_eq_true rfl) rfl ?_
    refine AW_iinc 5 (v := x8 + 1) dX1_rankOf_72 rfl rfl (Nat.le_of_ble_eq_true rfl) rfl ?_
    refine AW_goto (tgt := 50) dX1_rankOf_75 rfl ?_
    exact AW.sub [2, 3, 1, 4, 5, 0] rfl h
set_option maxRecDepth 20000 in
theorem eX1_rankOf_8 {g : GX} {Q : Int64 → St → Prop} {d : Nat} {ρ : Rs} {S : St} (hρ : Ok ρ) {x1 : Int64} {x3 : Int64} {x5 : Int32} {x6 : Int32} (h : if (S.1 31 1) ≤ x6 then Q x3 S else CALLi g d mX3_lineOf [.long x1, .int x6] ρ ρ S (fun v1 S1 => CALLi g d mX1_linkBy [.ref 31, .int x5, .int v1] ρ ρ S1 (fun v2 S2 => if v2 = (-1) then Q (-1) S2 else vp_in x5 481 ∧ (AW g ρ (QJ Q) (d + 1) mX1_rankOf 50 [(0, .ref 31), (1, .long x1), (3, .long x3), (6, .int x6), (7, .int v2), (8, .int (S2.1 44 x5.toNatClampNeg))] [] ρ S2)))) : AW g ρ (QJ Q) (d + 1) mX1_rankOf 8 [(0, .ref 31), (1, .long x1), (3, .long x3), (5, .int x5), (6, .int x6)] [] ρ S := by
  refine AW_iload 4 dX1_rankOf_8 rfl ?_
  refine AW_aload_n 0 (n := 0) rfl dX1_rankOf_10 rfl ?_
  refine AW_get dX1_rankOf_11 flX1_59 (Nat.le_of_ble_eq_true rfl) (okn hρ (Nat.le_of_ble_eq_true rfl)) rfl (v := .int (S.1 31 1)) (fun _ => rfl) ?_
  refine AW_icmp_ge dX1_rankOf_14 rfl (iteM h (fun h => ?_) (fun h => ?_))
  · refine AW_lload_n 2 (n := 3) rfl dX1_rankOf_93 rfl ?_
    exact AW_retl dX1_rankOf_94 rfl h
  · refine AW_aload_n 0 (n := 0) rfl dX1_rankOf_17 rfl ?_
    refine AW_iload 3 dX1_rankOf_18 rfl ?_
    refine AW_lload_n 1 (n := 1) rfl dX1_rankOf_20 rfl ?_
    refine AW_iload 4 dX1_rankOf_21 rfl ?_
    refine AW_callSi (M := mX1_rankOf) (pc := 23) (As := [.long x1, .int x6]) (ρ1 := ρ) (st := [.int x5, .ref 31]) dX1_rankOf_23 mdX3_lineOf mlX1_148 smX3_lineOf ⟨rfl, npX3_lineOf⟩ (Nat.le_of_ble_eq_true rfl) (Nat.le_refl _) (Nat.le_refl _) rfl (CALLi.mono h (fun v1 S1 _ h => ?_))
    refine AW_callVi (M := mX1_rankOf) (pc := 26) (As := [.int x5, .int v1]) (ρ1 := ρ) (st := []) dX1_rankOf_26 mdX1_linkBy rfl mlX1_152 imX1_linkBy seX1_linkBy (rcv_of (q := (RX1, TX1, 15)) (Nat.le_of_ble_eq_true rfl) (okn hρ (Nat.le_of_ble_eq_true rfl)) rfl rfl) ⟨rfl, npX1_linkBy⟩ (Nat.le_of_ble_eq_true rfl) (Nat.le_refl _) (Nat.le_refl _) rfl (CALLi.mono h (fun v2 S2 _ h => ?_))
    refine AW_istore dX1_rankOf_29 (Nat.le_of_ble_eq_true rfl) rfl ?_
    refine AW_iload 0 dX1_rankOf_31 rfl ?_
    refine AW_iconst (v := (-1)) dX1_rankOf_33 rfl ?_
    refine AW_icmp_ne dX1_rankOf_34 rfl (iteM h (fun h => ?_) (fun h => ?_))
    · refine AW_ldc2 (v := (-1)) dX1_rankOf_37 kcX1_155 ?_
      exact AW_retl dX1_rankOf_40 rfl h
    · refine AW_aload_n 1 (n := 0) rfl dX1_rankOf_41 rfl ?_
      refine AW_get dX1_rankOf_42 flX1_22 (Nat.le_of_ble_eq_true rfl) (okn hρ (Nat.le_of_ble_eq_true rfl)) rfl (v := .ref 44) (fvR (okR hρ 19 rfl)) ?_
      refine AW_iload 4 dX1_rankOf_45 rfl ?_
      refine AW_iaload dX1_rankOf_47 (Nat.le_of_ble_eq_true rfl) (okn hρ (Nat.le_of_ble_eq_true rfl)) rfl h.1 (v := S2.1 44 x5.toNatClampNeg) rfl ?_
      replace h := h.2
      refine AW_istore dX1_rankOf_48 (Nat.le_of_ble_eq_true rfl) rfl ?_
      exact AW.sub [2, 3, 4, 6, 1, 0] rfl h
set_option maxRecDepth 20000 in
theorem eX1_rankOf {g : GX} {Q : Int64 → St → Prop} {d : Nat} {ρ : Rs} {S : St} (hρ : Ok ρ) {x1 : Int64} (h : AW g ρ (QJ Q) (d + 1) mX1_rankOf 8 [(0, .ref 31), (1, .long x1), (3, .long 0), (5, .int 0), (6, .int 0)] [] ρ S) : CALLl g (d + 1) mX1_rankOf [.ref 31, .long x1] ρ ρ S Q := by
  refine CALL.of mdX1_rankOf.2.2.2.2 (Nat.le_of_ble_eq_true rfl) (Nat.le_refl _) (Nat.le_refl _) ?_
  show AW g ρ (QJ Q) (d + 1) mX1_rankOf 0 [(0, .ref 31), (1, .long x1)] [] ρ S
  refine AW_lconst (v := 0) dX1_rankOf_0 rfl ?_
  refine AW_lstore_n (n := 3) (i := 3) rfl dX1_rankOf_1 (Nat.le_of_ble_eq_true rfl) rfl ?_
  refine AW_iconst (v := 0) dX1_rankOf_2 rfl ?_
  refine AW_istore dX1_rankOf_3 (Nat.le_of_ble_eq_true rfl) rfl ?_
  refine AW_iconst (v := 0) dX1_rankOf_5 rfl ?_
  refine AW_istore dX1_rankOf_6 (Nat.le_of_ble_eq_true rfl) rfl ?_
  exact AW.sub [3, 4, 2, 1, 0] rfl h
set_option maxRecDepth 20000 in
theorem eX1_cellsOf_86 {g : GX} {Q : Int64 → St → Prop} {d : Nat} {ρ : Rs} {S : St} (hρ : Ok ρ) {x3 : Int64} {x5 : Int64} {x8 : Int32} {x9 : Int32} (h : vp_in x9 4800 ∧ (vp_in (S.1 45 x9.toNatClampNeg) 320 ∧ (CALLl g d mX3_withLine [.long x3, .int x8, .int (S.1 34 ((S.1 45 x9.toNatClampNeg).toNatClampNeg))] ρ ρ S (fun v1 S1 => vp_in x9 4800 ∧ (AW g ρ (QJ Q) (d + 1) mX1_cellsOf 11 [(0, .ref 31), (3, .long v1), (5, .long x5), (7, .int (S1.1 46 x9.toNatClampNeg)), (8, .int (x8 + 1))] [] ρ S1))))) : AW g ρ (QJ Q) (d + 1) mX1_cellsOf 86 [(0, .ref 31), (3, .long x3), (5, .long x5), (8, .int x8), (9, .int x9)] [] ρ S := by
  refine AW_lload_n 1 (n := 3) rfl dX1_cellsOf_86 rfl ?_
  refine AW_iload 3 dX1_cellsOf_87 rfl ?_
  refine AW_aload_n 0 (n := 0) rfl dX1_cellsOf_89 rfl ?_
  refine AW_get dX1_cellsOf_90 flX1_12 (Nat.le_of_ble_eq_true rfl) (okn hρ (Nat.le_of_ble_eq_true rfl)) rfl (v := .ref 32) (fvR (okR hρ 17 rfl)) ?_
  refine AW_get dX1_cellsOf_93 flX1_128 (Nat.le_of_ble_eq_true rfl) (okn hρ (Nat.le_of_ble_eq_true rfl)) rfl (v := .ref 34) (fvR (okR hρ 30 rfl)) ?_
  refine AW_aload_n 0 (n := 0) rfl dX1_cellsOf_96 rfl ?_
  refine AW_get dX1_cellsOf_97 flX1_25 (Nat.le_of_ble_eq_true rfl) (okn hρ (Nat.le_of_ble_eq_true rfl)) rfl (v := .ref 45) (fvR (okR hρ 20 rfl)) ?_
  refine AW_iload 4 dX1_cellsOf_100 rfl ?_
  refine AW_iaload dX1_cellsOf_102 (Nat.le_of_ble_eq_true rfl) (okn hρ (Nat.le_of_ble_eq_true rfl)) rfl h.1 (v := S.1 45 x9.toNatClampNeg) rfl ?_
  replace h := h.2
  refine AW_iaload dX1_cellsOf_103 (Nat.le_of_ble_eq_true rfl) (okn hρ (Nat.le_of_ble_eq_true rfl)) rfl h.1 (v := S.1 34 ((S.1 45 x9.toNatClampNeg).toNatClampNeg)) rfl ?_
  replace h := h.2
  refine AW_callSl (M := mX1_cellsOf) (pc := 104) (As := [.long x3, .int x8, .int (S.1 34 ((S.1 45 x9.toNatClampNeg).toNatClampNeg))]) (ρ1 := ρ) (st := []) dX1_cellsOf_104 mdX3_withLine mlX1_157 smX3_withLine ⟨rfl, npX3_withLine⟩ (Nat.le_of_ble_eq_true rfl) (Nat.le_refl _) (Nat.le_refl _) rfl (CALLl.mono h (fun v1 S1 _ h => ?_))
  refine AW_lstore_n (n := 3) (i := 3) rfl dX1_cellsOf_107 (Nat.le_of_ble_eq_true rfl) rfl ?_
  refine AW_aload_n 1 (n := 0) rfl dX1_cellsOf_108 rfl ?_
  refine AW_get dX1_cellsOf_109 flX1_28 (Nat.le_of_ble_eq_true rfl) (okn hρ (Nat.le_of_ble_eq_true rfl)) rfl (v := .ref 46) (fvR (okR hρ 21 rfl)) ?_
  refine AW_iload 4 dX1_cellsOf_112 rfl ?_
  refine AW_iaload dX1_cellsOf_114 (Nat.le_of_ble_eq_true rfl) (okn hρ (Nat.le_of_ble_eq_true rfl)) rfl h.1 (v := S1.1 46 x9.toNatClampNeg) rfl ?_
  replace h := h.2
  refine AW_istore dX1_cellsOf_115 (Nat.le_of_ble_eq_true rfl) rfl ?_
  refine AW_iinc 4 (v := x8 + 1) dX1_cellsOf_117 rfl rfl (Nat.le_of_ble_eq_true rfl) rfl ?_
  refine AW_goto (tgt := 11) dX1_cellsOf_120 rfl ?_
  exact AW.sub [3, 2, 4, 1, 0] rfl h
set_option maxRecDepth 20000 in
theorem eX1_cellsOf_29 {g : GX} {Q : Int64 → St → Prop} {d : Nat} {ρ : Rs} {S : St} (hρ : Ok ρ) {x3 : Int64} {x5 : Int64} {x7 : Int32} {x8 : Int32} {x9 : Int32} (h : vp_in (x7 + 1) 481 ∧ (if ((S.1 44 ((x7 + 1).toNatClampNeg)) - 1) ≤ x9 then AW g ρ (QJ Q) (d + 1) mX1_cellsOf 86 [(0, .ref 31), (3, .long x3), (5, .long x5), (8, .int x8), (9, .int x9)] [] ρ S else vp_in x9 4800 ∧ (vp_in (S.1 46 x9.toNatClampNeg) 480 ∧ (if x5 < (S.2 47 ((S.1 46 x9.toNatClampNeg).toNatClampNeg)) then AW g ρ (QJ Q) (d + 1) mX1_cellsOf 86 [(0, .ref 31), (3, .long x3), (5, .long x5), (8, .int x8), (9, .int x9)] [] ρ S else vp_in x9 4800 ∧ (vp_in (S.1 46 x9.toNatClampNeg) 480 ∧ (AW g ρ (QJ Q) (d + 1) mX1_cellsOf 29 [(0, .ref 31), (3, .long x3), (5, .long (x5 - (S.2 47 ((S.1 46 x9.toNatClampNeg).toNatClampNeg)))), (7, .int x7), (8, .int x8), (9, .int (x9 + 1))] [] ρ S)))))) : AW g ρ (QJ Q) (d + 1) mX1_cellsOf 29 [(0, .ref 31), (3, .long x3), (5, .long x5), (7, .int x7), (8, .int x8), (9, .int x9)] [] ρ S := by
  refine AW_iload 5 dX1_cellsOf_29 rfl ?_
  refine AW_aload_n 0 (n := 0) rfl dX1_cellsOf_31 rfl ?_
  refine AW_get dX1_cellsOf_32 flX1_22 (Nat.le_of_ble_eq_true rfl) (okn hρ (Nat.le_of_ble_eq_true rfl)) rfl (v := .ref 44) (fvR (okR hρ 19 rfl)) ?_
  refine AW_iload 3 dX1_cellsOf_35 rfl ?_
  refine AW_iconst (v := 1) dX1_cellsOf_37 rfl ?_
  refine AW_iadd dX1_cellsOf_38 ?_
  refine AW_iaload dX1_cellsOf_39 (Nat.le_of_ble_eq_true rfl) (okn hρ (Nat.le_of_ble_eq_true rfl)) rfl h.1 (v := S.1 44 ((x7 + 1).toNatClampNeg)) rfl ?_
  replace h := h.2
  refine AW_iconst (v := 1) dX1_cellsOf_40 rfl ?_
  refine AW_isub dX1_cellsOf_41 ?_
  refine AW_icmp_ge dX1_cellsOf_42 rfl (iteM h (fun h => ?_) (fun h => ?_))
  · exact AW.sub [0, 1, 2, 4, 5] rfl h
  · refine AW_lload 2 dX1_cellsOf_45 rfl ?_
    refine AW_aload_n 0 (n := 0) rfl dX1_cellsOf_47 rfl ?_
    refine AW_get dX1_cellsOf_48 flX1_31 (Nat.le_of_ble_eq_true rfl) (okn hρ (Nat.le_of_ble_eq_true rfl)) rfl (v := .ref 47) (fvR (okR hρ 22 rfl)) ?_
    refine AW_aload_n 0 (n := 0) rfl dX1_cellsOf_51 rfl ?_
    refine AW_get dX1_cellsOf_52 flX1_28 (Nat.le_of_ble_eq_true rfl) (okn hρ (Nat.le_of_ble_eq_true rfl)) rfl (v := .ref 46) (fvR (okR hρ 21 rfl)) ?_
    refine AW_iload 5 dX1_cellsOf_55 rfl ?_
    refine AW_iaload dX1_cellsOf_57 (Nat.le_of_ble_eq_true rfl) (okn hρ (Nat.le_of_ble_eq_true rfl)) rfl h.1 (v := S.1 46 x9.toNatClampNeg) rfl ?_
    replace h := h.2
    refine AW_laload dX1_cellsOf_58 (Nat.le_of_ble_eq_true rfl) (okn hρ (Nat.le_of_ble_eq_true rfl)) rfl h.1 (v := S.2 47 ((S.1 46 x9.toNatClampNeg).toNatClampNeg)) rfl ?_
    replace h := h.2
    refine AW_lc_lt dX1_cellsOf_59 dX1_cellsOf_60 rfl (iteM h (fun h => ?_) (fun h => ?_))
    · exact AW.sub [0, 1, 2, 4, 5] rfl h
    · refine AW_lload 2 dX1_cellsOf_63 rfl ?_
      refine AW_aload_n 0 (n := 0) rfl dX1_cellsOf_65 rfl ?_
      refine AW_get dX1_cellsOf_66 flX1_31 (Nat.le_of_ble_eq_true rfl) (okn hρ (Nat.le_of_ble_eq_true rfl)) rfl (v := .ref 47) (fvR (okR hρ 22 rfl)) ?_
      refine AW_aload_n 0 (n := 0) rfl dX1_cellsOf_69 rfl ?_
      refine AW_get dX1_cellsOf_70 flX1_28 (Nat.le_of_ble_eq_true rfl) (okn hρ (Nat.le_of_ble_eq_true rfl)) rfl (v := .ref 46) (fvR (okR hρ 21 rfl)) ?_
      refine AW_iload 5 dX1_cellsOf_73 rfl ?_
      refine AW_iaload dX1_cellsOf_75 (Nat.le_of_ble_eq_true rfl) (okn hρ (Nat.le_of_ble_eq_true rfl)) rfl h.1 (v := S.1 46 x9.toNatClampNeg) rfl ?_
      replace h := h.2
      refine AW_laload dX1_cellsOf_76 (Nat.le_of_ble_eq_true rfl) (okn hρ (Nat.le_of_ble_eq_true rfl)) rfl h.1 (v := S.2 47 ((S.1 46 x9.toNatClampNeg).toNatClampNeg)) rfl ?_
      replace h := h.2
      refine AW_lsub dX1_cellsOf_77 ?_
      refine AW_lstore dX1_cellsOf_78 (Nat.le_of_ble_eq_true rfl) rfl ?_
      refine AW_iinc 5 (v := x9 + 1) dX1_cellsOf_80 rfl rfl (Nat.le_of_ble_eq_true rfl) rfl ?_
      refine AW_goto (tgt := 29) dX1_cellsOf_83 rfl ?_
      exact AW.sub [2, 3, 1, 4, 5, 0] rfl h
set_option maxRecDepth 20000 in
theorem eX1_cellsOf_11 {g : GX} {Q : Int64 → St → Prop} {d : Nat} {ρ : Rs} {S : St} (hρ : Ok ρ) {x3 : Int64} {x5 : Int64} {x7 : Int32} {x8 : Int32} (h : if (S.1 31 1) ≤ x8 then Q x3 S else vp_in x7 481 ∧ (AW g ρ (QJ Q) (d + 1) mX1_cellsOf 29 [(0, .ref 31), (3, .long x3), (5, .long x5), (7, .int x7), (8, .int x8), (9, .int (S.1 44 x7.toNatClampNeg))] [] ρ S)) : AW g ρ (QJ Q) (d + 1) mX1_cellsOf 11 [(0, .ref 31), (3, .long x3), (5, .long x5), (7, .int x7), (8, .int x8)] [] ρ S := by
  refine AW_iload 4 dX1_cellsOf_11 rfl ?_
  refine AW_aload_n 0 (n := 0) rfl dX1_cellsOf_13 rfl ?_
  refine AW_get dX1_cellsOf_14 flX1_59 (Nat.le_of_ble_eq_true rfl) (okn hρ (Nat.le_of_ble_eq_true rfl)) rfl (v := .int (S.1 31 1)) (fun _ => rfl) ?_
  refine AW_icmp_ge dX1_cellsOf_17 rfl (iteM h (fun h => ?_) (fun h => ?_))
  · refine AW_lload_n 1 (n := 3) rfl dX1_cellsOf_123 rfl ?_
    exact AW_retl dX1_cellsOf_124 rfl h
  · refine AW_aload_n 0 (n := 0) rfl dX1_cellsOf_20 rfl ?_
    refine AW_get dX1_cellsOf_21 flX1_22 (Nat.le_of_ble_eq_true rfl) (okn hρ (Nat.le_of_ble_eq_true rfl)) rfl (v := .ref 44) (fvR (okR hρ 19 rfl)) ?_
    refine AW_iload 3 dX1_cellsOf_24 rfl ?_
    refine AW_iaload dX1_cellsOf_26 (Nat.le_of_ble_eq_true rfl) (okn hρ (Nat.le_of_ble_eq_true rfl)) rfl h.1 (v := S.1 44 x7.toNatClampNeg) rfl ?_
    replace h := h.2
    refine AW_istore dX1_cellsOf_27 (Nat.le_of_ble_eq_true rfl) rfl ?_
    exact AW.sub [1, 2, 3, 4, 5, 0] rfl h
set_option maxRecDepth 20000 in
theorem eX1_cellsOf {g : GX} {Q : Int64 → St → Prop} {d : Nat} {ρ : Rs} {S : St} (hρ : Ok ρ) {x1 : Int64} (h : AW g ρ (QJ Q) (d + 1) mX1_cellsOf 11 [(0, .ref 31), (3, .long 0), (5, .long x1), (7, .int 0), (8, .int 0)] [] ρ S) : CALLl g (d + 1) mX1_cellsOf [.ref 31, .long x1] ρ ρ S Q := by
  refine CALL.of mdX1_cellsOf.2.2.2.2 (Nat.le_of_ble_eq_true rfl) (Nat.le_refl _) (Nat.le_refl _) ?_
  show AW g ρ (QJ Q) (d + 1) mX1_cellsOf 0 [(0, .ref 31), (1, .long x1)] [] ρ S
  refine AW_lconst (v := 0) dX1_cellsOf_0 rfl ?_
  refine AW_lstore_n (n := 3) (i := 3) rfl dX1_cellsOf_1 (Nat.le_of_ble_eq_true rfl) rfl ?_
  refine AW_lload_n 2 (n := 1) rfl dX1_cellsOf_2 rfl ?_
  refine AW_lstore dX1_cellsOf_3 (Nat.le_of_ble_eq_true rfl) rfl ?_
  refine AW_iconst (v := 0) dX1_cellsOf_5 rfl ?_
  refine AW_istore dX1_cellsOf_6 (Nat.le_of_ble_eq_true rfl) rfl ?_
  refine AW_iconst (v := 0) dX1_cellsOf_8 rfl ?_
  refine AW_istore dX1_cellsOf_9 (Nat.le_of_ble_eq_true rfl) rfl ?_
  exact AW.sub [4, 3, 2, 1, 0] rfl h
