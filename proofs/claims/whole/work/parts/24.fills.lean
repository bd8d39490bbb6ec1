set_option maxRecDepth 20000 in
theorem eX2_make_17 {g : GX} {Q : St → Prop} {d : Nat} {ρ : Rs} {S : St} (hρ : Ok ρ) {x2 : Int32} (hF : ∀ k ∈ ([33] : List Nat), gF g k) (h : if (S.1 21 0) ≤ x2 then Q S else if (4 : Int32) ≤ x2 then Q S else vp_in x2 5 ∧ (vp_in x2 4 ∧ (CALLv g (d + 1) mX2_lay [.ref 32, .ref 21, .int x2, .int 0, .int (S.1 22 x2.toNatClampNeg), .int 0] ρ ρ (setI S 33 x2.toNatClampNeg (S.1 32 7)) (fun S1 => vp_in (x2 + 1) 5 ∧ (AW g ρ (QV Q) (d + 2) mX2_make 17 [(0, .ref 32), (1, .ref 21), (2, .int (x2 + 1))] [] ρ (setI S1 33 ((x2 + 1).toNatClampNeg) (S1.1 32 7))))))) : AW g ρ (QV Q) (d + 2) mX2_make 17 [(0, .ref 32), (1, .ref 21), (2, .int x2)] [] ρ S := by
  refine AW_iload_n 2 (n := 2) rfl dX2_make_17 rfl ?_
  refine AW_aload_n 1 (n := 1) rfl dX2_make_18 rfl ?_
  refine AW_get dX2_make_19 flX2_42 (Nat.le_of_ble_eq_true rfl) (okn hρ (Nat.le_of_ble_eq_true rfl)) rfl (v := .int (S.1 21 0)) (fun _ => rfl) ?_
  refine AW_icmp_ge dX2_make_22 rfl (iteM h (fun h => ?_) (fun h => ?_))
  · exact AW_retv dX2_make_71 rfl h
  · refine AW_iload_n 2 (n := 2) rfl dX2_make_25 rfl ?_
    refine AW_iconst (v := 4) dX2_make_26 rfl ?_
    refine AW_icmp_ge dX2_make_27 rfl (iteM h (fun h => ?_) (fun h => ?_))
    · exact AW_retv dX2_make_71 rfl h
    · refine AW_aload_n 0 (n := 0) rfl dX2_make_30 rfl ?_
      refine AW_get dX2_make_31 flX2_9 (Nat.le_of_ble_eq_true rfl) (okn hρ (Nat.le_of_ble_eq_true rfl)) rfl (v := .ref 33) (fvR (okR hρ 29 rfl)) ?_
      refine AW_iload_n 2 (n := 2) rfl dX2_make_34 rfl ?_
      refine AW_aload_n 0 (n := 0) rfl dX2_make_35 rfl ?_
      refine AW_get dX2_make_36 flX2_38 (Nat.le_of_ble_eq_true rfl) (okn hρ (Nat.le_of_ble_eq_true rfl)) rfl (v := .int (S.1 32 7)) (fun _ => rfl) ?_
      refine AW_iastore dX2_make_39 (Nat.le_of_ble_eq_true rfl) (okn hρ (Nat.le_of_ble_eq_true rfl)) rfl h.1 (hF _ (List.mem_of_getElem? (i := 0) rfl)) (jx := x2.toNatClampNeg) rfl ?_
      replace h := h.2
      refine AW_aload_n 0 (n := 0) rfl dX2_make_40 rfl ?_
      refine AW_aload_n 1 (n := 1) rfl dX2_make_41 rfl ?_
      refine AW_iload_n 2 (n := 2) rfl dX2_make_42 rfl ?_
      refine AW_iconst (v := 0) dX2_make_43 rfl ?_
      refine AW_aload_n 1 (n := 1) rfl dX2_make_44 rfl ?_
      refine AW_iload_n 2 (n := 2) rfl dX2_make_45 rfl ?_
      refine AW_callVi (M := mX2_make) (pc := 46) (As := [.int x2]) (ρ1 := ρ) (st := [.int 0, .int x2, .ref 21, .ref 32]) dX2_make_46 mdX9_rowSum rfl mlX2_47 imX9_rowSum seX9_rowSum (rcv_of (q := (RX9, TX9, 10)) (Nat.le_of_ble_eq_true rfl) (okn hρ (Nat.le_of_ble_eq_true rfl)) rfl rfl) ⟨rfl, npX9_rowSum⟩ (Nat.le_of_ble_eq_true rfl) (Nat.le_refl _) (Nat.le_refl _) rfl (iX9_rowSum hρ h.1 (v := (S.1 22 x2.toNatClampNeg)) rfl ?_)
      replace h := h.2
      refine AW_iconst (v := 0) dX2_make_49 rfl ?_
      refine AW_callSv (M := mX2_make) (pc := 50) (As := [.ref 32, .ref 21, .int x2, .int 0, .int (S.1 22 x2.toNatClampNeg), .int 0]) (ρ1 := ρ) (st := []) dX2_make_50 mdX2_lay mlX2_51 smX2_lay ⟨rfl, npX2_lay⟩ (Nat.le_of_ble_eq_true rfl) (Nat.le_refl _) (Nat.le_refl _) rfl (CALLv.mono h (fun S1 _ h => ?_))
      refine AW_aload_n 0 (n := 0) rfl dX2_make_53 rfl ?_
      refine AW_get dX2_make_54 flX2_9 (Nat.le_of_ble_eq_true rfl) (okn hρ (Nat.le_of_ble_eq_true rfl)) rfl (v := .ref 33) (fvR (okR hρ 29 rfl)) ?_
      refine AW_iload_n 2 (n := 2) rfl dX2_make_57 rfl ?_
      refine AW_iconst (v := 1) dX2_make_58 rfl ?_
      refine AW_iadd dX2_make_59 ?_
      refine AW_aload_n 0 (n := 0) rfl dX2_make_60 rfl ?_
      refine AW_get dX2_make_61 flX2_38 (Nat.le_of_ble_eq_true rfl) (okn hρ (Nat.le_of_ble_eq_true rfl)) rfl (v := .int (S1.1 32 7)) (fun _ => rfl) ?_
      refine AW_iastore dX2_make_64 (Nat.le_of_ble_eq_true rfl) (okn hρ (Nat.le_of_ble_eq_true rfl)) rfl h.1 (hF _ (List.mem_of_getElem? (i := 0) rfl)) (jx := (x2 + 1).toNatClampNeg) rfl ?_
      replace h := h.2
      refine AW_iinc 2 (v := x2 + 1) dX2_make_65 rfl rfl (Nat.le_of_ble_eq_true rfl) rfl ?_
      refine AW_goto (tgt := 17) dX2_make_68 rfl ?_
      exact AW.sub [1, 2, 0] rfl h
set_option maxRecDepth 20000 in
theorem eX2_make {g : GX} {Q : St → Prop} {d : Nat} {ρ : Rs} {S : St} (hρ : Ok ρ) (hF : ∀ k ∈ ([32] : List Nat), gF g k) (h : CALLv g (d + 1) mX2_setStrides [.ref 32, .ref 21] ρ ρ S (fun S1 => CALLv g (d + 1) mX2_setScale [.ref 32, .ref 21] ρ ρ S1 (fun S2 => AW g ρ (QV Q) (d + 2) mX2_make 17 [(0, .ref 32), (1, .ref 21), (2, .int 0)] [] ρ (setI S2 32 7 0)))) : CALLv g (d + 2) mX2_make [.ref 32, .ref 21] ρ ρ S Q := by
  refine CALL.of mdX2_make.2.2.2.2 (Nat.le_of_ble_eq_true rfl) (Nat.le_refl _) (Nat.le_refl _) ?_
  show AW g ρ (QV Q) (d + 2) mX2_make 0 [(0, .ref 32), (1, .ref 21)] [] ρ S
  refine AW_aload_n 0 (n := 0) rfl dX2_make_0 rfl ?_
  refine AW_aload_n 1 (n := 1) rfl dX2_make_1 rfl ?_
  refine AW_callVv (M := mX2_make) (pc := 2) (As := [.ref 21]) (ρ1 := ρ) (st := []) dX2_make_2 mdX2_setStrides rfl mlX2_31 imX2_setStrides seX2_setStrides (rcv_of (q := (RX2, TX2, 8)) (Nat.le_of_ble_eq_true rfl) (okn hρ (Nat.le_of_ble_eq_true rfl)) rfl rfl) ⟨rfl, npX2_setStrides⟩ (Nat.le_of_ble_eq_true rfl) (Nat.le_refl _) (Nat.le_refl _) rfl (CALLv.mono h (fun S1 _ h => ?_))
  refine AW_aload_n 0 (n := 0) rfl dX2_make_5 rfl ?_
  refine AW_aload_n 1 (n := 1) rfl dX2_make_6 rfl ?_
  refine AW_callVv (M := mX2_make) (pc := 7) (As := [.ref 21]) (ρ1 := ρ) (st := []) dX2_make_7 mdX2_setScale rfl mlX2_35 imX2_setScale seX2_setScale (rcv_of (q := (RX2, TX2, 8)) (Nat.le_of_ble_eq_true rfl) (okn hρ (Nat.le_of_ble_eq_true rfl)) rfl rfl) ⟨rfl, npX2_setScale⟩ (Nat.le_of_ble_eq_true rfl) (Nat.le_refl _) (Nat.le_refl _) rfl (CALLv.mono h (fun S2 _ h => ?_))
  refine AW_aload_n 0 (n := 0) rfl dX2_make_10 rfl ?_
  refine AW_iconst (v := 0) dX2_make_11 rfl ?_
  refine AW_put dX2_make_12 flX2_38 fp_2_7 (Nat.le_of_ble_eq_true rfl) (okn hρ (Nat.le_of_ble_eq_true rfl)) rfl (fun _ => rfl) (fun _ => rfl) rfl rfl rfl rfl (Fr.setI _ _ _ rfl) (fun _ _ => rfl) (ρ2 := ρ) (S2 := setI S2 32 7 0) (fun _ => rfl) (fun _ _ _ q1 _ => fvI_o q1) (hF _ (List.mem_of_getElem? (i := 0) rfl)) ?_
  refine AW_iconst (v := 0) dX2_make_15 rfl ?_
  refine AW_istore_n (n := 2) (i := 2) rfl dX2_make_16 (Nat.le_of_ble_eq_true rfl) rfl ?_
  exact AW.sub [1, 2, 0] rfl h
set_option maxRecDepth 20000 in
theorem eX2_takenByAll_4 {g : GX} {Q : Int32 → St → Prop} {d : Nat} {ρ : Rs} {S : St} (hρ : Ok ρ) {x2 : Int32} {x3 : Int32} (h : if (4 : Int32) ≤ x3 then Q x2 S else vp_in x3 4 ∧ (AW g ρ (QI Q) (d + 2) mX2_takenByAll 4 [(1, .ref 21), (2, .int (x2 ||| ((S.1 23 x3.toNatClampNeg) <<< ((6 * x3) &&& 31)))), (3, .int (x3 + 1))] [] ρ S)) : AW g ρ (QI Q) (d + 2) mX2_takenByAll 4 [(1, .ref 21), (2, .int x2), (3, .int x3)] [] ρ S := by
  refine AW_iload_n 2 (n := 3) rfl dX2_takenByAll_4 rfl ?_
  refine AW_iconst (v := 4) dX2_takenByAll_5 rfl ?_
  refine AW_icmp_ge dX2_takenByAll_6 rfl (iteM h (fun h => ?_) (fun h => ?_))
  · refine AW_iload_n 1 (n := 2) rfl dX2_takenByAll_28 rfl ?_
    exact AW_reti dX2_takenByAll_29 rfl h
  · refine AW_iload_n 1 (n := 2) rfl dX2_takenByAll_9 rfl ?_
    refine AW_aload_n 0 (n := 1) rfl dX2_takenByAll_10 rfl ?_
    refine AW_iload_n 2 (n := 3) rfl dX2_takenByAll_11 rfl ?_
    refine AW_callVi (M := mX2_takenByAll) (pc := 12) (As := [.int x3]) (ρ1 := ρ) (st := [.int x2]) dX2_takenByAll_12 mdX9_columnSum rfl mlX2_65 imX9_columnSum seX9_columnSum (rcv_of (q := (RX9, TX9, 10)) (Nat.le_of_ble_eq_true rfl) (okn hρ (Nat.le_of_ble_eq_true rfl)) rfl rfl) ⟨rfl, npX9_columnSum⟩ (Nat.le_of_ble_eq_true rfl) (Nat.le_refl _) (Nat.le_refl _) rfl (iX9_columnSum hρ h.1 (v := (S.1 23 x3.toNatClampNeg)) rfl ?_)
    replace h := h.2
    refine AW_bipush (v := 6) dX2_takenByAll_15 rfl ?_
    refine AW_iload_n 2 (n := 3) rfl dX2_takenByAll_17 rfl ?_
    refine AW_imul dX2_takenByAll_18 ?_
    refine AW_ishl dX2_takenByAll_19 ?_
    refine AW_ior dX2_takenByAll_20 ?_
    refine AW_istore_n (n := 2) (i := 2) rfl dX2_takenByAll_21 (Nat.le_of_ble_eq_true rfl) rfl ?_
    refine AW_iinc 2 (v := x3 + 1) dX2_takenByAll_22 rfl rfl (Nat.le_of_ble_eq_true rfl) rfl ?_
    refine AW_goto (tgt := 4) dX2_takenByAll_25 rfl ?_
    exact AW.sub [2, 1, 0] rfl h
set_option maxRecDepth 20000 in
theorem eX2_takenByAll {g : GX} {Q : Int32 → St → Prop} {d : Nat} {ρ : Rs} {S : St} (hρ : Ok ρ) (h : AW g ρ (QI Q) (d + 2) mX2_takenByAll 4 [(1, .ref 21), (2, .int 0), (3, .int 0)] [] ρ S) : CALLi g (d + 2) mX2_takenByAll [.ref 32, .ref 21] ρ ρ S Q := by
  refine CALL.of mdX2_takenByAll.2.2.2.2 (Nat.le_of_ble_eq_true rfl) (Nat.le_refl _) (Nat.le_refl _) ?_
  show AW g ρ (QI Q) (d + 2) mX2_takenByAll 0 [(0, .ref 32), (1, .ref 21)] [] ρ S
  refine AW_iconst (v := 0) dX2_takenByAll_0 rfl ?_
  refine AW_istore_n (n := 2) (i := 2) rfl dX2_takenByAll_1 (Nat.le_of_ble_eq_true rfl) rfl ?_
  refine AW_iconst (v := 0) dX2_takenByAll_2 rfl ?_
  refine AW_istore_n (n := 3) (i := 3) rfl dX2_takenByAll_3 (Nat.le_of_ble_eq_true rfl) rfl ?_
  exact AW.sub [3, 1, 0] rfl h
set_option maxRecDepth 20000 in
theorem eX2_codeOfAll_4 {g : GX} {Q : Int32 → St → Prop} {d : Nat} {ρ : Rs} {S : St} (hρ : Ok ρ) {x2 : Int32} {x3 : Int32} (h : if (4 : Int32) ≤ x3 then Q x2 S else vp_in x3 4 ∧ (vp_in x3 4 ∧ (AW g ρ (QI Q) (d + 2) mX2_codeOfAll 4 [(0, .ref 32), (1, .ref 21), (2, .int (x2 + ((S.1 23 x3.toNatClampNeg) * (S.1 42 x3.toNatClampNeg)))), (3, .int (x3 + 1))] [] ρ S))) : AW g ρ (QI Q) (d + 2) mX2_codeOfAll 4 [(0, .ref 32), (1, .ref 21), (2, .int x2), (3, .int x3)] [] ρ S := by
  refine AW_iload_n 3 (n := 3) rfl dX2_codeOfAll_4 rfl ?_
  refine AW_iconst (v := 4) dX2_codeOfAll_5 rfl ?_
  refine AW_icmp_ge dX2_codeOfAll_6 rfl (iteM h (fun h => ?_) (fun h => ?_))
  · refine AW_iload_n 2 (n := 2) rfl dX2_codeOfAll_30 rfl ?_
    exact AW_reti dX2_codeOfAll_31 rfl h
  · refine AW_iload_n 2 (n := 2) rfl dX2_codeOfAll_9 rfl ?_
    refine AW_aload_n 1 (n := 1) rfl dX2_codeOfAll_10 rfl ?_
    refine AW_iload_n 3 (n := 3) rfl dX2_codeOfAll_11 rfl ?_
    refine AW_callVi (M := mX2_codeOfAll) (pc := 12) (As := [.int x3]) (ρ1 := ρ) (st := [.int x2]) dX2_codeOfAll_12 mdX9_columnSum rfl mlX2_65 imX9_columnSum seX9_columnSum (rcv_of (q := (RX9, TX9, 10)) (Nat.le_of_ble_eq_true rfl) (okn hρ (Nat.le_of_ble_eq_true rfl)) rfl rfl) ⟨rfl, npX9_columnSum⟩ (Nat.le_of_ble_eq_true rfl) (Nat.le_refl _) (Nat.le_refl _) rfl (iX9_columnSum hρ h.1 (v := (S.1 23 x3.toNatClampNeg)) rfl ?_)
    replace h := h.2
    refine AW_aload_n 0 (n := 0) rfl dX2_codeOfAll_15 rfl ?_
    refine AW_get dX2_codeOfAll_16 flX2_28 (Nat.le_of_ble_eq_true rfl) (okn hρ (Nat.le_of_ble_eq_true rfl)) rfl (v := .ref 42) (fvR (okR hρ 34 rfl)) ?_
    refine AW_iload_n 3 (n := 3) rfl dX2_codeOfAll_19 rfl ?_
    refine AW_iaload dX2_codeOfAll_20 (Nat.le_of_ble_eq_true rfl) (okn hρ (Nat.le_of_ble_eq_true rfl)) rfl h.1 (v := S.1 42 x3.toNatClampNeg) rfl ?_
    replace h := h.2
    refine AW_imul dX2_codeOfAll_21 ?_
    refine AW_iadd dX2_codeOfAll_22 ?_
    refine AW_istore_n (n := 2) (i := 2) rfl dX2_codeOfAll_23 (Nat.le_of_ble_eq_true rfl) rfl ?_
    refine AW_iinc 3 (v := x3 + 1) dX2_codeOfAll_24 rfl rfl (Nat.le_of_ble_eq_true rfl) rfl ?_
    refine AW_goto (tgt := 4) dX2_codeOfAll_27 rfl ?_
    exact AW.sub [2, 3, 1, 0] rfl h
set_option maxRecDepth 20000 in
theorem eX2_codeOfAll {g : GX} {Q : Int32 → St → Prop} {d : Nat} {ρ : Rs} {S : St} (hρ : Ok ρ) (h : AW g ρ (QI Q) (d + 2) mX2_codeOfAll 4 [(0, .ref 32), (1, .ref 21), (2, .int 0), (3, .int 0)] [] ρ S) : CALLi g (d + 2) mX2_codeOfAll [.ref 32, .ref 21] ρ ρ S Q := by
  refine CALL.of mdX2_codeOfAll.2.2.2.2 (Nat.le_of_ble_eq_true rfl) (Nat.le_refl _) (Nat.le_refl _) ?_
  show AW g ρ (QI Q) (d + 2) mX2_codeOfAll 0 [(0, .ref 32), (1, .ref 21)] [] ρ S
  refine AW_iconst (v := 0) dX2_codeOfAll_0 rfl ?_
  refine AW_istore_n (n := 2) (i := 2) rfl dX2_codeOfAll_1 (Nat.le_of_ble_eq_true rfl) rfl ?_
  refine AW_iconst (v := 0) dX2_codeOfAll_2 rfl ?_
  refine AW_istore_n (n := 3) (i := 3) rfl dX2_codeOfAll_3 (Nat.le_of_ble_eq_true rfl) rfl ?_
  exact AW.sub [2, 3, 1, 0] rfl h
set_option maxRecDepth 20000 in
theorem eX2_setStrides_12 {g : GX} {Q : St → Prop} {d : Nat} {ρ : Rs} {S : St} (hρ : Ok ρ) {x2 : Int32} {x3 : Int32} (hF : ∀ k ∈ ([42] : List Nat), gF g k) (h : if ((S.1 21 1) - 1) ≤ x3 then Q S else if (4 : Int32) ≤ x3 then Q S else vp_in x3 4 ∧ (vp_in x3 4 ∧ (AW g ρ (QV Q) (d + 2) mX2_setStrides 12 [(0, .ref 32), (1, .ref 21), (2, .int (x2 * ((S.1 23 x3.toNatClampNeg) + 1))), (3, .int (x3 + 1))] [] ρ (setI S 42 x3.toNatClampNeg x2)))) : AW g ρ (QV Q) (d + 2) mX2_setStrides 12 [(0, .ref 32), (1, .ref 21), (2, .int x2), (3, .int x3)] [] ρ S := by
  refine AW_iload_n 3 (n := 3) rfl dX2_setStrides_12 rfl ?_
  refine AW_aload_n 1 (n := 1) rfl dX2_setStrides_13 rfl ?_
  refine AW_get dX2_setStrides_14 flX2_74 (Nat.le_of_ble_eq_true rfl) (okn hρ (Nat.le_of_ble_eq_true rfl)) rfl (v := .int (S.1 21 1)) (fun _ => rfl) ?_
  refine AW_iconst (v := 1) dX2_setStrides_17 rfl ?_
  refine AW_isub dX2_setStrides_18 ?_
  refine AW_icmp_ge dX2_setStrides_19 rfl (iteM h (fun h => ?_) (fun h => ?_))
  · exact AW_retv dX2_setStrides_50 rfl h
  · refine AW_iload_n 3 (n := 3) rfl dX2_setStrides_22 rfl ?_
    refine AW_iconst (v := 4) dX2_setStrides_23 rfl ?_
    refine AW_icmp_ge dX2_setStrides_24 rfl (iteM h (fun h => ?_) (fun h => ?_))
    · exact AW_retv dX2_setStrides_50 rfl h
    · refine AW_aload_n 0 (n := 0) rfl dX2_setStrides_27 rfl ?_
      refine AW_get dX2_setStrides_28 flX2_28 (Nat.le_of_ble_eq_true rfl) (okn hρ (Nat.le_of_ble_eq_true rfl)) rfl (v := .ref 42) (fvR (okR hρ 34 rfl)) ?_
      refine AW_iload_n 3 (n := 3) rfl dX2_setStrides_31 rfl ?_
      refine AW_iload_n 2 (n := 2) rfl dX2_setStrides_32 rfl ?_
      refine AW_iastore dX2_setStrides_33 (Nat.le_of_ble_eq_true rfl) (okn hρ (Nat.le_of_ble_eq_true rfl)) rfl h.1 (hF _ (List.mem_of_getElem? (i := 0) rfl)) (jx := x3.toNatClampNeg) rfl ?_
      replace h := h.2
      refine AW_iload_n 2 (n := 2) rfl dX2_setStrides_34 rfl ?_
      refine AW_aload_n 1 (n := 1) rfl dX2_setStrides_35 rfl ?_
      refine AW_iload_n 3 (n := 3) rfl dX2_setStrides_36 rfl ?_
      refine AW_callVi (M := mX2_setStrides) (pc := 37) (As := [.int x3]) (ρ1 := ρ) (st := [.int x2]) dX2_setStrides_37 mdX9_columnSum rfl mlX2_65 imX9_columnSum seX9_columnSum (rcv_of (q := (RX9, TX9, 10)) (Nat.le_of_ble_eq_true rfl) (okn hρ (Nat.le_of_ble_eq_true rfl)) rfl rfl) ⟨rfl, npX9_columnSum⟩ (Nat.le_of_ble_eq_true rfl) (Nat.le_refl _) (Nat.le_refl _) rfl (iX9_columnSum hρ h.1 (v := (S.1 23 x3.toNatClampNeg)) rfl ?_)
      replace h := h.2
      refine AW_iconst (v := 1) dX2_setStrides_40 rfl ?_
      refine AW_iadd dX2_setStrides_41 ?_
      refine AW_imul dX2_setStrides_42 ?_
      refine AW_istore_n (n := 2) (i := 2) rfl dX2_setStrides_43 (Nat.le_of_ble_eq_true rfl) rfl ?_
      refine AW_iinc 3 (v := x3 + 1) dX2_setStrides_44 rfl rfl (Nat.le_of_ble_eq_true rfl) rfl ?_
      refine AW_goto (tgt := 12) dX2_setStrides_47 rfl ?_
      exact AW.sub [2, 3, 1, 0] rfl h
set_option maxRecDepth 20000 in
theorem eX2_setStrides {g : GX} {Q : St → Prop} {d : Nat} {ρ : Rs} {S : St} (hρ : Ok ρ) (h : CALLv g (d + 1) mJ7_fill_53178 [.ref 42, .int 0] ρ ρ S (fun S1 => AW g ρ (QV Q) (d + 2) mX2_setStrides 12 [(0, .ref 32), (1, .ref 21), (2, .int 1), (3, .int 0)] [] ρ S1)) : CALLv g (d + 2) mX2_setStrides [.ref 32, .ref 21] ρ ρ S Q := by
  refine CALL.of mdX2_setStrides.2.2.2.2 (Nat.le_of_ble_eq_true rfl) (Nat.le_refl _) (Nat.le_refl _) ?_
  show AW g ρ (QV Q) (d + 2) mX2_setStrides 0 [(0, .ref 32), (1, .ref 21)] [] ρ S
  refine AW_aload_n 0 (n := 0) rfl dX2_setStrides_0 rfl ?_
  refine AW_get dX2_setStrides_1 flX2_28 (Nat.le_of_ble_eq_true rfl) (okn hρ (Nat.le_of_ble_eq_true rfl)) rfl (v := .ref 42) (fvR (okR hρ 34 rfl)) ?_
  refine AW_iconst (v := 0) dX2_setStrides_4 rfl ?_
  refine AW_callSv (M := mX2_setStrides) (pc := 5) (As := [.ref 42, .int 0]) (ρ1 := ρ) (st := []) dX2_setStrides_5 mdJ7_fill_53178 mlX2_68 smJ7_fill_53178 ⟨rfl, npJ7_fill_53178⟩ (Nat.le_of_ble_eq_true rfl) (Nat.le_refl _) (Nat.le_refl _) rfl (CALLv.mono h (fun S1 _ h => ?_))
  refine AW_iconst (v := 1) dX2_setStrides_8 rfl ?_
  refine AW_istore_n (n := 2) (i := 2) rfl dX2_setStrides_9 (Nat.le_of_ble_eq_true rfl) rfl ?_
  refine AW_iconst (v := 0) dX2_setStrides_10 rfl ?_
  refine AW_istore_n (n := 3) (i := 3) rfl dX2_setStrides_11 (Nat.le_of_ble_eq_true rfl) rfl ?_
  exact AW.sub [2, 3, 1, 0] rfl h
set_option maxRecDepth 20000 in
theorem eX2_setScale_7 {g : GX} {Q : St → Prop} {d : Nat} {ρ : Rs} {S : St} (hρ : Ok ρ) {x2 : Int32} (hF : ∀ k ∈ ([32] : List Nat), gF g k) (h : if (4 : Int32) ≤ x2 then Q S else vp_in x2 4 ∧ (vp_in x2 4 ∧ (AW g ρ (QV Q) (d + 2) mX2_setScale 7 [(0, .ref 32), (1, .ref 21), (2, .int (x2 + 1))] [] ρ (setL (setL S 32 6 ((S.2 32 6) * ((if (1 : Int32) < (S.1 22 x2.toNatClampNeg) then (S.1 22 x2.toNatClampNeg) else 1).toInt64))) 32 6 (((S.2 32 6) * ((if (1 : Int32) < (S.1 22 x2.toNatClampNeg) then (S.1 22 x2.toNatClampNeg) else 1).toInt64)) * ((if (1 : Int32) < (S.1 23 x2.toNatClampNeg) then (S.1 23 x2.toNatClampNeg) else 1).toInt64)))))) : AW g ρ (QV Q) (d + 2) mX2_setScale 7 [(0, .ref 32), (1, .ref 21), (2, .int x2)] [] ρ S := by
  refine AW_iload_n 2 (n := 2) rfl dX2_setScale_7 rfl ?_
  refine AW_iconst (v := 4) dX2_setScale_8 rfl ?_
  refine AW_icmp_ge dX2_setScale_9 rfl (iteM h (fun h => ?_) (fun h => ?_))
  · exact AW_retv dX2_setScale_56 rfl h
  · refine AW_aload_n 0 (n := 0) rfl dX2_setScale_12 rfl ?_
    refine AW_dup dX2_setScale_13 rfl ?_
    refine AW_get dX2_setScale_14 flX2_77 (Nat.le_of_ble_eq_true rfl) (okn hρ (Nat.le_of_ble_eq_true rfl)) rfl (v := .long (S.2 32 6)) (fun _ => rfl) ?_
    refine AW_iconst (v := 1) dX2_setScale_17 rfl ?_
    refine AW_aload_n 1 (n := 1) rfl dX2_setScale_18 rfl ?_
    refine AW_iload_n 2 (n := 2) rfl dX2_setScale_19 rfl ?_
    refine AW_callVi (M := mX2_setScale) (pc := 20) (As := [.int x2]) (ρ1 := ρ) (st := [.int 1, .long (S.2 32 6), .ref 32]) dX2_setScale_20 mdX9_rowSum rfl mlX2_47 imX9_rowSum seX9_rowSum (rcv_of (q := (RX9, TX9, 10)) (Nat.le_of_ble_eq_true rfl) (okn hρ (Nat.le_of_ble_eq_true rfl)) rfl rfl) ⟨rfl, npX9_rowSum⟩ (Nat.le_of_ble_eq_true rfl) (Nat.le_refl _) (Nat.le_refl _) rfl (iX9_rowSum hρ h.1 (v := (S.1 22 x2.toNatClampNeg)) rfl ?_)
    replace h := h.2
    refine AW_mmaxI (M := mX2_setScale) (pc := 23) dX2_setScale_23 mlX2_81 wmmaxIS wMath wmmaxIC (Nat.le_of_ble_eq_true rfl) ?_ (Nat.le_refl _) (Nat.le_refl _)
    refine AW_i2l dX2_setScale_26 ?_
    refine AW_lmul dX2_setScale_27 ?_
    refine AW_put dX2_setScale_28 flX2_77 fp_2_6 (Nat.le_of_ble_eq_true rfl) (okn hρ (Nat.le_of_ble_eq_true rfl)) rfl (fun _ => rfl) (fun _ => rfl) rfl rfl rfl rfl (Fr.setL _ _ _ rfl) (fun _ _ => rfl) (ρ2 := ρ) (S2 := setL S 32 6 ((S.2 32 6) * ((if (1 : Int32) < (S.1 22 x2.toNatClampNeg) then (S.1 22 x2.toNatClampNeg) else 1).toInt64))) (fun _ => rfl) (fun _ _ _ q1 _ => fvL_o q1) (hF _ (List.mem_of_getElem? (i := 0) rfl)) ?_
    refine AW_aload_n 0 (n := 0) rfl dX2_setScale_31 rfl ?_
    refine AW_dup dX2_setScale_32 rfl ?_
    refine AW_get dX2_setScale_33 flX2_77 (Nat.le_of_ble_eq_true rfl) (okn hρ (Nat.le_of_ble_eq_true rfl)) rfl (v := .long ((S.2 32 6) * ((if (1 : Int32) < (S.1 22 x2.toNatClampNeg) then (S.1 22 x2.toNatClampNeg) else 1).toInt64))) (fun _ => rfl) ?_
    refine AW_iconst (v := 1) dX2_setScale_36 rfl ?_
    refine AW_aload_n 1 (n := 1) rfl dX2_setScale_37 rfl ?_
    refine AW_iload_n 2 (n := 2) rfl dX2_setScale_38 rfl ?_
    refine AW_callVi (M := mX2_setScale) (pc := 39) (As := [.int x2]) (ρ1 := ρ) (st := [.int 1, .long ((S.2 32 6) * ((if (1 : Int32) < (S.1 22 x2.toNatClampNeg) then (S.1 22 x2.toNatClampNeg) else 1).toInt64)), .ref 32]) dX2_setScale_39 mdX9_columnSum rfl mlX2_65 imX9_columnSum seX9_columnSum (rcv_of (q := (RX9, TX9, 10)) (Nat.le_of_ble_eq_true rfl) (okn hρ (Nat.le_of_ble_eq_true rfl)) rfl rfl) ⟨rfl, npX9_columnSum⟩ (Nat.le_of_ble_eq_true rfl) (Nat.le_refl _) (Nat.le_refl _) rfl (iX9_columnSum hρ h.1 (v := (S.1 23 x2.toNatClampNeg)) rfl ?_)
    replace h := h.2
    refine AW_mmaxI (M := mX2_setScale) (pc := 42) dX2_setScale_42 mlX2_81 wmmaxIS wMath wmmaxIC (Nat.le_of_ble_eq_true rfl) ?_ (Nat.le_refl _) (Nat.le_refl _)
    refine AW_i2l dX2_setScale_45 ?_
    refine AW_lmul dX2_setScale_46 ?_
    refine AW_put dX2_setScale_47 flX2_77 fp_2_6 (Nat.le_of_ble_eq_true rfl) (okn hρ (Nat.le_of_ble_eq_true rfl)) rfl (fun _ => rfl) (fun _ => rfl) rfl rfl rfl rfl (Fr.setL _ _ _ rfl) (fun _ _ => rfl) (ρ2 := ρ) (S2 := setL (setL S 32 6 ((S.2 32 6) * ((if (1 : Int32) < (S.1 22 x2.toNatClampNeg) then (S.1 22 x2.toNatClampNeg) else 1).toInt64))) 32 6 (((S.2 32 6) * ((if (1 : Int32) < (S.1 22 x2.toNatClampNeg) then (S.1 22 x2.toNatClampNeg) else 1).toInt64)) * ((if (1 : Int32) < (S.1 23 x2.toNatClampNeg) then (S.1 23 x2.toNatClampNeg) else 1).toInt64))) (fun _ => rfl) (fun _ _ _ q1 _ => fvL_o q1) (hF _ (List.mem_of_getElem? (i := 0) rfl)) ?_
    refine AW_iinc 2 (v := x2 + 1) dX2_setScale_50 rfl rfl (Nat.le_of_ble_eq_true rfl) rfl ?_
    refine AW_goto (tgt := 7) dX2_setScale_53 rfl ?_
    exact AW.sub [1, 2, 0] rfl h
set_option maxRecDepth 20000 in
theorem eX2_setScale {g : GX} {Q : St → Prop} {d : Nat} {ρ : Rs} {S : St} (hρ : Ok ρ) (hF : ∀ k ∈ ([32] : List Nat), gF g k) (h : AW g ρ (QV Q) (d + 2) mX2_setScale 7 [(0, .ref 32), (1, .ref 21), (2, .int 0)] [] ρ (setL S 32 6 1)) : CALLv g (d + 2) mX2_setScale [.ref 32, .ref 21] ρ ρ S Q := by
  refine CALL.of mdX2_setScale.2.2.2.2 (Nat.le_of_ble_eq_true rfl) (Nat.le_refl _) (Nat.le_refl _) ?_
  show AW g ρ (QV Q) (d + 2) mX2_setScale 0 [(0, .ref 32), (1, .ref 21)] [] ρ S
  refine AW_aload_n 0 (n := 0) rfl dX2_setScale_0 rfl ?_
  refine AW_lconst (v := 1) dX2_setScale_1 rfl ?_
  refine AW_put dX2_setScale_2 flX2_77 fp_2_6 (Nat.le_of_ble_eq_true rfl) (okn hρ (Nat.le_of_ble_eq_true rfl)) rfl (fun _ => rfl) (fun _ => rfl) rfl rfl rfl rfl (Fr.setL _ _ _ rfl) (fun _ _ => rfl) (ρ2 := ρ) (S2 := setL S 32 6 1) (fun _ => rfl) (fun _ _ _ q1 _ => fvL_o q1) (hF _ (List.mem_of_getElem? (i := 0) rfl)) ?_
  refine AW_iconst (v := 0) dX2_setScale_5 rfl ?_
  refine AW_istore_n (n := 2) (i := 2) rfl dX2_setScale_6 (Nat.le_of_ble_eq_true rfl) rfl ?_
  exact AW.sub [1, 2, 0] rfl h
set_option maxRecDepth 20000 in
theorem eX2_lay_69 {g : GX} {Q : St → Prop} {d : Nat} {ρ : Rs} {S : St} (hρ : Ok ρ) {x2 : Int32} {x3 : Int32} {x4 : Int32} {x5 : Int32} {x6 : Int32} {x7 : Int32} (h : if x6 < x7 then Q S else CALLi g (d + 1) mX3_putInLine [.int x5, .int x3, .int x7] ρ ρ S (fun v1 S1 => CALLv g (d + 1) mX2_lay [.ref 32, .ref 21, .int x2, .int (x3 + 1), .int (x4 - x7), .int v1] ρ ρ S1 (fun S2 => AW g ρ (QV Q) (d + 2) mX2_lay 69 [(0, .ref 32), (1, .ref 21), (2, .int x2), (3, .int x3), (4, .int x4), (5, .int x5), (6, .int x6), (7, .int (x7 + 1))] [] ρ S2))) : AW g ρ (QV Q) (d + 2) mX2_lay 69 [(0, .ref 32), (1, .ref 21), (2, .int x2), (3, .int x3), (4, .int x4), (5, .int x5), (6, .int x6), (7, .int x7)] [] ρ S := by
  refine AW_iload 7 dX2_lay_69 rfl ?_
  refine AW_iload 6 dX2_lay_71 rfl ?_
  refine AW_icmp_gt dX2_lay_73 rfl (iteM h (fun h => ?_) (fun h => ?_))
  · exact AW_retv dX2_lay_104 rfl h
  · refine AW_aload_n 0 (n := 0) rfl dX2_lay_76 rfl ?_
    refine AW_aload_n 1 (n := 1) rfl dX2_lay_77 rfl ?_
    refine AW_iload_n 2 (n := 2) rfl dX2_lay_78 rfl ?_
    refine AW_iload_n 3 (n := 3) rfl dX2_lay_79 rfl ?_
    refine AW_iconst (v := 1) dX2_lay_80 rfl ?_
    refine AW_iadd dX2_lay_81 ?_
    refine AW_iload 4 dX2_lay_82 rfl ?_
    refine AW_iload 7 dX2_lay_84 rfl ?_
    refine AW_isub dX2_lay_86 ?_
    refine AW_iload 5 dX2_lay_87 rfl ?_
    refine AW_iload_n 3 (n := 3) rfl dX2_lay_89 rfl ?_
    refine AW_iload 7 dX2_lay_90 rfl ?_
    refine AW_callSi (M := mX2_lay) (pc := 92) (As := [.int x5, .int x3, .int x7]) (ρ1 := ρ) (st := [.int (x4 - x7), .int (x3 + 1), .int x2, .ref 21, .ref 32]) dX2_lay_92 mdX3_putInLine mlX2_97 smX3_putInLine ⟨rfl, npX3_putInLine⟩ (Nat.le_of_ble_eq_true rfl) (Nat.le_refl _) (Nat.le_refl _) rfl (CALLi.mono h (fun v1 S1 _ h => ?_))
    refine AW_callSv (M := mX2_lay) (pc := 95) (As := [.ref 32, .ref 21, .int x2, .int (x3 + 1), .int (x4 - x7), .int v1]) (ρ1 := ρ) (st := []) dX2_lay_95 mdX2_lay mlX2_51 smX2_lay ⟨rfl, npX2_lay⟩ (Nat.le_of_ble_eq_true rfl) (Nat.le_refl _) (Nat.le_refl _) rfl (CALLv.mono h (fun S2 _ h => ?_))
    refine AW_iinc 7 (v := x7 + 1) dX2_lay_98 rfl rfl (Nat.le_of_ble_eq_true rfl) rfl ?_
    refine AW_goto (tgt := 69) dX2_lay_101 rfl ?_
    exact AW.sub [1, 2, 3, 4, 5, 6, 7, 0] rfl h
set_option maxRecDepth 20000 in
theorem eX2_lay {g : GX} {Q : St → Prop} {d : Nat} {ρ : Rs} {S : St} (hρ : Ok ρ) {x2 : Int32} {x3 : Int32} {x4 : Int32} {x5 : Int32} (h : if x3 < 0 then CALLv g (d + 1) mX2_keep [.ref 32, .ref 21, .int x2, .int x5] ρ ρ S (fun S1 => Q S1) else if (S.1 21 1) ≤ x3 then CALLv g (d + 1) mX2_keep [.ref 32, .ref 21, .int x2, .int x5] ρ ρ S (fun S2 => Q S2) else if x3 < 4 then CALLi g (d + 1) mX9_isHole [.ref 21, .int x2, .int x3] ρ ρ S (fun v3 S3 => if v3 = 0 then vp_in x3 4 ∧ (if x3 = ((S3.1 21 1) - 1) then AW g ρ (QV Q) (d + 2) mX2_lay 69 [(0, .ref 32), (1, .ref 21), (2, .int x2), (3, .int x3), (4, .int x4), (5, .int x5), (6, .int (if (S3.1 23 x3.toNatClampNeg) < x4 then (S3.1 23 x3.toNatClampNeg) else x4)), (7, .int x4)] [] ρ S3 else AW g ρ (QV Q) (d + 2) mX2_lay 69 [(0, .ref 32), (1, .ref 21), (2, .int x2), (3, .int x3), (4, .int x4), (5, .int x5), (6, .int (if (S3.1 23 x3.toNatClampNeg) < x4 then (S3.1 23 x3.toNatClampNeg) else x4)), (7, .int 0)] [] ρ S3) else if x3 = ((S3.1 21 1) - 1) then AW g ρ (QV Q) (d + 2) mX2_lay 69 [(0, .ref 32), (1, .ref 21), (2, .int x2), (3, .int x3), (4, .int x4), (5, .int x5), (6, .int 0), (7, .int x4)] [] ρ S3 else AW g ρ (QV Q) (d + 2) mX2_lay 69 [(0, .ref 32), (1, .ref 21), (2, .int x2), (3, .int x3), (4, .int x4), (5, .int x5), (6, .int 0), (7, .int 0)] [] ρ S3) else CALLv g (d + 1) mX2_keep [.ref 32, .ref 21, .int x2, .int x5] ρ ρ S (fun S4 => Q S4)) : CALLv g (d + 2) mX2_lay [.ref 32, .ref 21, .int x2, .int x3, .int x4, .int x5] ρ ρ S Q := by
  refine CALL.of mdX2_lay.2.2.2.2 (Nat.le_of_ble_eq_true rfl) (Nat.le_refl _) (Nat.le_refl _) ?_
  show AW g ρ (QV Q) (d + 2) mX2_lay 0 [(0, .ref 32), (1, .ref 21), (2, .int x2), (3, .int x3), (4, .int x4), (5, .int x5)] [] ρ S
  refine AW_iload_n 3 (n := 3) rfl dX2_lay_0 rfl ?_
  refine AW_if_lt dX2_lay_1 rfl (iteM h (fun h => ?_) (fun h => ?_))
  · refine AW_aload_n 0 (n := 0) rfl dX2_lay_17 rfl ?_
    refine AW_aload_n 1 (n := 1) rfl dX2_lay_18 rfl ?_
    refine AW_iload_n 2 (n := 2) rfl dX2_lay_19 rfl ?_
    refine AW_iload 5 dX2_lay_20 rfl ?_
    refine AW_callVv (M := mX2_lay) (pc := 22) (As := [.ref 21, .int x2, .int x5]) (ρ1 := ρ) (st := []) dX2_lay_22 mdX2_keep rfl mlX2_86 imX2_keep seX2_keep (rcv_of (q := (RX2, TX2, 8)) (Nat.le_of_ble_eq_true rfl) (okn hρ (Nat.le_of_ble_eq_true rfl)) rfl rfl) ⟨rfl, npX2_keep⟩ (Nat.le_of_ble_eq_true rfl) (Nat.le_refl _) (Nat.le_refl _) rfl (CALLv.mono h (fun S1 _ h => ?_))
    exact AW_retv dX2_lay_25 rfl h
  · refine AW_iload_n 3 (n := 3) rfl dX2_lay_4 rfl ?_
    refine AW_aload_n 1 (n := 1) rfl dX2_lay_5 rfl ?_
    refine AW_get dX2_lay_6 flX2_74 (Nat.le_of_ble_eq_true rfl) (okn hρ (Nat.le_of_ble_eq_true rfl)) rfl (v := .int (S.1 21 1)) (fun _ => rfl) ?_
    refine AW_icmp_ge dX2_lay_9 rfl (iteM h (fun h => ?_) (fun h => ?_))
    · refine AW_aload_n 0 (n := 0) rfl dX2_lay_17 rfl ?_
      refine AW_aload_n 1 (n := 1) rfl dX2_lay_18 rfl ?_
      refine AW_iload_n 2 (n := 2) rfl dX2_lay_19 rfl ?_
      refine AW_iload 5 dX2_lay_20 rfl ?_
      refine AW_callVv (M := mX2_lay) (pc := 22) (As := [.ref 21, .int x2, .int x5]) (ρ1 := ρ) (st := []) dX2_lay_22 mdX2_keep rfl mlX2_86 imX2_keep seX2_keep (rcv_of (q := (RX2, TX2, 8)) (Nat.le_of_ble_eq_true rfl) (okn hρ (Nat.le_of_ble_eq_true rfl)) rfl rfl) ⟨rfl, npX2_keep⟩ (Nat.le_of_ble_eq_true rfl) (Nat.le_refl _) (Nat.le_refl _) rfl (CALLv.mono h (fun S2 _ h => ?_))
      exact AW_retv dX2_lay_25 rfl h
    · refine AW_iload_n 3 (n := 3) rfl dX2_lay_12 rfl ?_
      refine AW_iconst (v := 4) dX2_lay_13 rfl ?_
      refine AW_icmp_lt dX2_lay_14 rfl (iteM h (fun h => ?_) (fun h => ?_))
      · refine AW_aload_n 1 (n := 1) rfl dX2_lay_26 rfl ?_
        refine AW_iload_n 2 (n := 2) rfl dX2_lay_27 rfl ?_
        refine AW_iload_n 3 (n := 3) rfl dX2_lay_28 rfl ?_
        refine AW_callVi (M := mX2_lay) (pc := 29) (As := [.int x2, .int x3]) (ρ1 := ρ) (st := []) dX2_lay_29 mdX9_isHole rfl mlX2_90 imX9_isHole seX9_isHole (rcv_of (q := (RX9, TX9, 10)) (Nat.le_of_ble_eq_true rfl) (okn hρ (Nat.le_of_ble_eq_true rfl)) rfl rfl) ⟨rfl, npX9_isHole⟩ (Nat.le_of_ble_eq_true rfl) (Nat.le_refl _) (Nat.le_refl _) rfl (CALLi.mono h (fun v3 S3 _ h => ?_))
        refine AW_if_eq dX2_lay_32 rfl (iteM h (fun h => ?_) (fun h => ?_))
        · refine AW_iload 4 dX2_lay_39 rfl ?_
          refine AW_aload_n 1 (n := 1) rfl dX2_lay_41 rfl ?_
          refine AW_iload_n 3 (n := 3) rfl dX2_lay_42 rfl ?_
          refine AW_callVi (M := mX2_lay) (pc := 43) (As := [.int x3]) (ρ1 := ρ) (st := [.int x4]) dX2_lay_43 mdX9_columnSum rfl mlX2_65 imX9_columnSum seX9_columnSum (rcv_of (q := (RX9, TX9, 10)) (Nat.le_of_ble_eq_true rfl) (okn hρ (Nat.le_of_ble_eq_true rfl)) rfl rfl) ⟨rfl, npX9_columnSum⟩ (Nat.le_of_ble_eq_true rfl) (Nat.le_refl _) (Nat.le_refl _) rfl (iX9_columnSum hρ h.1 (v := (S3.1 23 x3.toNatClampNeg)) rfl ?_)
          replace h := h.2
          refine AW_mminI (M := mX2_lay) (pc := 46) dX2_lay_46 mlX2_94 wmminIS wMath wmminIC (Nat.le_of_ble_eq_true rfl) ?_ (Nat.le_refl _) (Nat.le_refl _)
          refine AW_istore dX2_lay_49 (Nat.le_of_ble_eq_true rfl) rfl ?_
          refine AW_iload_n 4 (n := 3) rfl dX2_lay_51 rfl ?_
          refine AW_aload_n 2 (n := 1) rfl dX2_lay_52 rfl ?_
          refine AW_get dX2_lay_53 flX2_74 (Nat.le_of_ble_eq_true rfl) (okn hρ (Nat.le_of_ble_eq_true rfl)) rfl (v := .int (S3.1 21 1)) (fun _ => rfl) ?_
          refine AW_iconst (v := 1) dX2_lay_56 rfl ?_
          refine AW_isub dX2_lay_57 ?_
          refine AW_icmp_ne dX2_lay_58 rfl (iteM h (fun h => ?_) (fun h => ?_))
          · refine AW_iload 5 dX2_lay_61 rfl ?_
            refine AW_goto (tgt := 67) dX2_lay_63 rfl ?_
            refine AW_istore dX2_lay_67 (Nat.le_of_ble_eq_true rfl) rfl ?_
            exact AW.sub [2, 3, 4, 5, 6, 7, 1, 0] rfl h
          · refine AW_iconst (v := 0) dX2_lay_66 rfl ?_
            refine AW_istore dX2_lay_67 (Nat.le_of_ble_eq_true rfl) rfl ?_
            exact AW.sub [2, 3, 4, 5, 6, 7, 1, 0] rfl h
        · refine AW_iconst (v := 0) dX2_lay_35 rfl ?_
          refine AW_goto (tgt := 49) dX2_lay_36 rfl ?_
          refine AW_istore dX2_lay_49 (Nat.le_of_ble_eq_true rfl) rfl ?_
          refine AW_iload_n 4 (n := 3) rfl dX2_lay_51 rfl ?_
          refine AW_aload_n 2 (n := 1) rfl dX2_lay_52 rfl ?_
          refine AW_get dX2_lay_53 flX2_74 (Nat.le_of_ble_eq_true rfl) (okn hρ (Nat.le_of_ble_eq_true rfl)) rfl (v := .int (S3.1 21 1)) (fun _ => rfl) ?_
          refine AW_iconst (v := 1) dX2_lay_56 rfl ?_
          refine AW_isub dX2_lay_57 ?_
          refine AW_icmp_ne dX2_lay_58 rfl (iteM h (fun h => ?_) (fun h => ?_))
          · refine AW_iload 5 dX2_lay_61 rfl ?_
            refine AW_goto (tgt := 67) dX2_lay_63 rfl ?_
            refine AW_istore dX2_lay_67 (Nat.le_of_ble_eq_true rfl) rfl ?_
            exact AW.sub [2, 3, 4, 5, 6, 7, 1, 0] rfl h
          · refine AW_iconst (v := 0) dX2_lay_66 rfl ?_
            refine AW_istore dX2_lay_67 (Nat.le_of_ble_eq_true rfl) rfl ?_
            exact AW.sub [2, 3, 4, 5, 6, 7, 1, 0] rfl h
      · refine AW_aload_n 0 (n := 0) rfl dX2_lay_17 rfl ?_
        refine AW_aload_n 1 (n := 1) rfl dX2_lay_18 rfl ?_
        refine AW_iload_n 2 (n := 2) rfl dX2_lay_19 rfl ?_
        refine AW_iload 5 dX2_lay_20 rfl ?_
        refine AW_callVv (M := mX2_lay) (pc := 22) (As := [.ref 21, .int x2, .int x5]) (ρ1 := ρ) (st := []) dX2_lay_22 mdX2_keep rfl mlX2_86 imX2_keep seX2_keep (rcv_of (q := (RX2, TX2, 8)) (Nat.le_of_ble_eq_true rfl) (okn hρ (Nat.le_of_ble_eq_true rfl)) rfl rfl) ⟨rfl, npX2_keep⟩ (Nat.le_of_ble_eq_true rfl) (Nat.le_refl _) (Nat.le_refl _) rfl (CALLv.mono h (fun S4 _ h => ?_))
        exact AW_retv dX2_lay_25 rfl h
set_option maxRecDepth 20000 in
theorem eX2_keep_32 {g : GX} {Q : St → Prop} {d : Nat} {ρ : Rs} {S : St} (hρ : Ok ρ) {x2 : Int32} {x3 : Int32} {x4 : Int32} {x5 : Int32} {x6 : Int32} {x7 : Int64} {x9 : Int64} {x11 : Int64} {x13 : Int64} {x15 : Int32} (hF : ∀ k ∈ ([34, 35, 36, 32] : List Nat), gF g k) (hFr_38 : ∀ i, i < 4 → gF g (38 + i)) (h : if (4 : Int32) ≤ x15 then vp_in (S.1 32 7) 320 ∧ (vp_in (S.1 32 7) 320 ∧ (vp_in (S.1 32 7) 320 ∧ (vp_in (S.1 32 7) 320 ∧ (Q (setI (setL (setL (setL (setL (setI (setI (setI S 34 ((S.1 32 7).toNatClampNeg) x3) 35 ((S.1 32 7).toNatClampNeg) x5) 36 ((S.1 32 7).toNatClampNeg) x6) 38 ((S.1 32 7).toNatClampNeg) x7) 39 ((S.1 32 7).toNatClampNeg) x9) 40 ((S.1 32 7).toNatClampNeg) x11) 41 ((S.1 32 7).toNatClampNeg) x13) 32 7 (if ((S.1 32 7) + 1) < 320 then ((S.1 32 7) + 1) else 320)))))) else CALLi g (d + 1) mX3_inLine [.int x3, .int x15] ρ ρ S (fun v1 S1 => vp_in x15 4 ∧ (vp_in x15 4 ∧ (CALLl g (d + 1) mX2_factorial [.int v1] ρ ρ S1 (fun v2 S2 => CALLl g (d + 1) mX7_quotient [.long x7, .long v2] ρ ρ S2 (fun v3 S3 => CALLl g (d + 1) mX7_quotient [.long (S3.2 32 6), .long (x4.toInt64 * ((S1.1 23 x15.toNatClampNeg).toInt64))] ρ ρ S3 (fun v4 S4 => AW g ρ (QV Q) (d + 2) mX2_keep 32 [(0, .ref 32), (1, .ref 21), (2, .int x2), (3, .int x3), (4, .int x4), (5, .int (x5 ||| (v1 <<< ((6 * x15) &&& 31)))), (6, .int (x6 + (v1 * (S1.1 42 x15.toNatClampNeg)))), (7, .long v3), (9, .long (x9 + (((v1 * v1).toInt64) * v4))), (11, .long (x11 + (((v1 * (x2 + 1)) * (x15 + 1)).toInt64))), (13, .long (if v1.toInt64 < x13 then x13 else v1.toInt64)), (15, .int (x15 + 1))] [] ρ S4))))))) : AW g ρ (QV Q) (d + 2) mX2_keep 32 [(0, .ref 32), (1, .ref 21), (2, .int x2), (3, .int x3), (4, .int x4), (5, .int x5), (6, .int x6), (7, .long x7), (9, .long x9), (11, .long x11), (13, .long x13), (15, .int x15)] [] ρ S := by
  refine AW_iload 11 dX2_keep_32 rfl ?_
  refine AW_iconst (v := 4) dX2_keep_34 rfl ?_
  refine AW_icmp_ge dX2_keep_35 rfl (iteM h (fun h => ?_) (fun h => ?_))
  · refine AW_aload_n 0 (n := 0) rfl dX2_keep_153 rfl ?_
    refine AW_get dX2_keep_154 flX2_15 (Nat.le_of_ble_eq_true rfl) (okn hρ (Nat.le_of_ble_eq_true rfl)) rfl (v := .ref 34) (fvR (okR hρ 30 rfl)) ?_
    refine AW_aload_n 0 (n := 0) rfl dX2_keep_157 rfl ?_
    refine AW_get dX2_keep_158 flX2_38 (Nat.le_of_ble_eq_true rfl) (okn hρ (Nat.le_of_ble_eq_true rfl)) rfl (v := .int (S.1 32 7)) (fun _ => rfl) ?_
    refine AW_iload_n 3 (n := 3) rfl dX2_keep_161 rfl ?_
    refine AW_callSv (M := mX2_keep) (pc := 162) (As := [.ref 34, .int (S.1 32 7), .int x3]) (ρ1 := ρ) (st := []) dX2_keep_162 mdX7_put mlX2_116 smX7_put ⟨rfl, npX7_put⟩ (Nat.le_of_ble_eq_true rfl) (Nat.le_refl _) (Nat.le_refl _) rfl (iX7_put hρ (Nat.le_of_ble_eq_true rfl) (okn hρ (Nat.le_of_ble_eq_true rfl)) rfl (hF _ (List.mem_of_getElem? (i := 0) rfl)) (jx := (S.1 32 7).toNatClampNeg) rfl (by decide) h.1 ?_)
    replace h := h.2
    refine AW_aload_n 0 (n := 0) rfl dX2_keep_165 rfl ?_
    refine AW_get dX2_keep_166 flX2_18 (Nat.le_of_ble_eq_true rfl) (okn hρ (Nat.le_of_ble_eq_true rfl)) rfl (v := .ref 35) (fvR (okR hρ 31 rfl)) ?_
    refine AW_aload_n 0 (n := 0) rfl dX2_keep_169 rfl ?_
    refine AW_get dX2_keep_170 flX2_38 (Nat.le_of_ble_eq_true rfl) (okn hρ (Nat.le_of_ble_eq_true rfl)) rfl (v := .int (S.1 32 7)) (fun _ => rfl) ?_
    refine AW_iload 5 dX2_keep_173 rfl ?_
    refine AW_callSv (M := mX2_keep) (pc := 175) (As := [.ref 35, .int (S.1 32 7), .int x5]) (ρ1 := ρ) (st := []) dX2_keep_175 mdX7_put mlX2_116 smX7_put ⟨rfl, npX7_put⟩ (Nat.le_of_ble_eq_true rfl) (Nat.le_refl _) (Nat.le_refl _) rfl (iX7_put hρ (Nat.le_of_ble_eq_true rfl) (okn hρ (Nat.le_of_ble_eq_true rfl)) rfl (hF _ (List.mem_of_getElem? (i := 1) rfl)) (jx := (S.1 32 7).toNatClampNeg) rfl (by decide) h.1 ?_)
    replace h := h.2
    refine AW_aload_n 0 (n := 0) rfl dX2_keep_178 rfl ?_
    refine AW_get dX2_keep_179 flX2_21 (Nat.le_of_ble_eq_true rfl) (okn hρ (Nat.le_of_ble_eq_true rfl)) rfl (v := .ref 36) (fvR (okR hρ 32 rfl)) ?_
    refine AW_aload_n 0 (n := 0) rfl dX2_keep_182 rfl ?_
    refine AW_get dX2_keep_183 flX2_38 (Nat.le_of_ble_eq_true rfl) (okn hρ (Nat.le_of_ble_eq_true rfl)) rfl (v := .int (S.1 32 7)) (fun _ => rfl) ?_
    refine AW_iload 6 dX2_keep_186 rfl ?_
    refine AW_callSv (M := mX2_keep) (pc := 188) (As := [.ref 36, .int (S.1 32 7), .int x6]) (ρ1 := ρ) (st := []) dX2_keep_188 mdX7_put mlX2_116 smX7_put ⟨rfl, npX7_put⟩ (Nat.le_of_ble_eq_true rfl) (Nat.le_refl _) (Nat.le_refl _) rfl (iX7_put hρ (Nat.le_of_ble_eq_true rfl) (okn hρ (Nat.le_of_ble_eq_true rfl)) rfl (hF _ (List.mem_of_getElem? (i := 2) rfl)) (jx := (S.1 32 7).toNatClampNeg) rfl (by decide) h.1 ?_)
    replace h := h.2
    refine AW_aload_n 0 (n := 0) rfl dX2_keep_191 rfl ?_
    refine AW_lload 7 dX2_keep_192 rfl ?_
    refine AW_lload 8 dX2_keep_194 rfl ?_
    refine AW_lload 9 dX2_keep_196 rfl ?_
    refine AW_lload 10 dX2_keep_198 rfl ?_
    refine AW_callVv (M := mX2_keep) (pc := 200) (As := [.long x7, .long x9, .long x11, .long x13]) (ρ1 := ρ) (st := []) dX2_keep_200 mdX2_putParts rfl mlX2_120 imX2_putParts seX2_putParts (rcv_of (q := (RX2, TX2, 8)) (Nat.le_of_ble_eq_true rfl) (okn hρ (Nat.le_of_ble_eq_true rfl)) rfl rfl) ⟨rfl, npX2_putParts⟩ (Nat.le_of_ble_eq_true rfl) (Nat.le_refl _) (Nat.le_refl _) rfl (iX2_putParts hρ hFr_38 h.1 ?_)
    replace h := h.2
    refine AW_aload_n 0 (n := 0) rfl dX2_keep_203 rfl ?_
    refine AW_sipush (v := 320) dX2_keep_204 rfl ?_
    refine AW_aload_n 0 (n := 0) rfl dX2_keep_207 rfl ?_
    refine AW_get dX2_keep_208 flX2_38 (Nat.le_of_ble_eq_true rfl) (okn hρ (Nat.le_of_ble_eq_true rfl)) rfl (v := .int (S.1 32 7)) (fun _ => rfl) ?_
    refine AW_iconst (v := 1) dX2_keep_211 rfl ?_
    refine AW_iadd dX2_keep_212 ?_
    refine AW_mminI (M := mX2_keep) (pc := 213) dX2_keep_213 mlX2_94 wmminIS wMath wmminIC (Nat.le_of_ble_eq_true rfl) ?_ (Nat.le_refl _) (Nat.le_refl _)
    refine AW_put dX2_keep_216 flX2_38 fp_2_7 (Nat.le_of_ble_eq_true rfl) (okn hρ (Nat.le_of_ble_eq_true rfl)) rfl (fun _ => rfl) (fun _ => rfl) rfl rfl rfl rfl (Fr.setI _ _ _ rfl) (fun _ _ => rfl) (ρ2 := ρ) (S2 := setI (setL (setL (setL (setL (setI (setI (setI S 34 ((S.1 32 7).toNatClampNeg) x3) 35 ((S.1 32 7).toNatClampNeg) x5) 36 ((S.1 32 7).toNatClampNeg) x6) 38 ((S.1 32 7).toNatClampNeg) x7) 39 ((S.1 32 7).toNatClampNeg) x9) 40 ((S.1 32 7).toNatClampNeg) x11) 41 ((S.1 32 7).toNatClampNeg) x13) 32 7 (if ((S.1 32 7) + 1) < 320 then ((S.1 32 7) + 1) else 320)) (fun _ => rfl) (fun _ _ _ q1 _ => fvI_o q1) (hF _ (List.mem_of_getElem? (i := 3) rfl)) ?_
    exact AW_retv dX2_keep_219 rfl h
  · refine AW_iload_n 3 (n := 3) rfl dX2_keep_38 rfl ?_
    refine AW_iload 11 dX2_keep_39 rfl ?_
    refine AW_callSi (M := mX2_keep) (pc := 41) (As := [.int x3, .int x15]) (ρ1 := ρ) (st := []) dX2_keep_41 mdX3_inLine mlX2_107 smX3_inLine ⟨rfl, npX3_inLine⟩ (Nat.le_of_ble_eq_true rfl) (Nat.le_refl _) (Nat.le_refl _) rfl (CALLi.mono h (fun v1 S1 _ h => ?_))
    refine AW_istore dX2_keep_44 (Nat.le_of_ble_eq_true rfl) rfl ?_
    refine AW_iload 5 dX2_keep_46 rfl ?_
    refine AW_i2l dX2_keep_48 ?_
    refine AW_aload_n 2 (n := 1) rfl dX2_keep_49 rfl ?_
    refine AW_iload 12 dX2_keep_50 rfl ?_
    refine AW_callVi (M := mX2_keep) (pc := 52) (As := [.int x15]) (ρ1 := ρ) (st := [.long x4.toInt64]) dX2_keep_52 mdX9_columnSum rfl mlX2_65 imX9_columnSum seX9_columnSum (rcv_of (q := (RX9, TX9, 10)) (Nat.le_of_ble_eq_true rfl) (okn hρ (Nat.le_of_ble_eq_true rfl)) rfl rfl) ⟨rfl, npX9_columnSum⟩ (Nat.le_of_ble_eq_true rfl) (Nat.le_refl _) (Nat.le_refl _) rfl (iX9_columnSum hρ h.1 (v := (S1.1 23 x15.toNatClampNeg)) rfl ?_)
    replace h := h.2
    refine AW_i2l dX2_keep_55 ?_
    refine AW_lmul dX2_keep_56 ?_
    refine AW_lstore dX2_keep_57 (Nat.le_of_ble_eq_true rfl) rfl ?_
    refine AW_iload 7 dX2_keep_59 rfl ?_
    refine AW_iload 1 dX2_keep_61 rfl ?_
    refine AW_bipush (v := 6) dX2_keep_63 rfl ?_
    refine AW_iload 13 dX2_keep_65 rfl ?_
    refine AW_imul dX2_keep_67 ?_
    refine AW_ishl dX2_keep_68 ?_
    refine AW_ior dX2_keep_69 ?_
    refine AW_istore dX2_keep_70 (Nat.le_of_ble_eq_true rfl) rfl ?_
    refine AW_iload 8 dX2_keep_72 rfl ?_
    refine AW_iload 2 dX2_keep_74 rfl ?_
    refine AW_aload_n 3 (n := 0) rfl dX2_keep_76 rfl ?_
    refine AW_get dX2_keep_77 flX2_28 (Nat.le_of_ble_eq_true rfl) (okn hρ (Nat.le_of_ble_eq_true rfl)) rfl (v := .ref 42) (fvR (okR hρ 34 rfl)) ?_
    refine AW_iload 13 dX2_keep_80 rfl ?_
    refine AW_iaload dX2_keep_82 (Nat.le_of_ble_eq_true rfl) (okn hρ (Nat.le_of_ble_eq_true rfl)) rfl h.1 (v := S1.1 42 x15.toNatClampNeg) rfl ?_
    replace h := h.2
    refine AW_imul dX2_keep_83 ?_
    refine AW_iadd dX2_keep_84 ?_
    refine AW_istore dX2_keep_85 (Nat.le_of_ble_eq_true rfl) rfl ?_
    refine AW_lload 9 dX2_keep_87 rfl ?_
    refine AW_iload 3 dX2_keep_89 rfl ?_
    refine AW_callSl (M := mX2_keep) (pc := 91) (As := [.int v1]) (ρ1 := ρ) (st := [.long x7]) dX2_keep_91 mdX2_factorial mlX2_103 smX2_factorial ⟨rfl, npX2_factorial⟩ (Nat.le_of_ble_eq_true rfl) (Nat.le_refl _) (Nat.le_refl _) rfl (CALLl.mono h (fun v2 S2 _ h => ?_))
    refine AW_callSl (M := mX2_keep) (pc := 94) (As := [.long x7, .long v2]) (ρ1 := ρ) (st := []) dX2_keep_94 mdX7_quotient mlX2_110 smX7_quotient ⟨rfl, npX7_quotient⟩ (Nat.le_of_ble_eq_true rfl) (Nat.le_refl _) (Nat.le_refl _) rfl (CALLl.mono h (fun v3 S3 _ h => ?_))
    refine AW_lstore dX2_keep_97 (Nat.le_of_ble_eq_true rfl) rfl ?_
    refine AW_lload 10 dX2_keep_99 rfl ?_
    refine AW_iload 4 dX2_keep_101 rfl ?_
    refine AW_iload 4 dX2_keep_103 rfl ?_
    refine AW_imul dX2_keep_105 ?_
    refine AW_i2l dX2_keep_106 ?_
    refine AW_aload_n 5 (n := 0) rfl dX2_keep_107 rfl ?_
    refine AW_get dX2_keep_108 flX2_77 (Nat.le_of_ble_eq_true rfl) (okn hρ (Nat.le_of_ble_eq_true rfl)) rfl (v := .long (S3.2 32 6)) (fun _ => rfl) ?_
    refine AW_lload 3 dX2_keep_111 rfl ?_
    refine AW_callSl (M := mX2_keep) (pc := 113) (As := [.long (S3.2 32 6), .long (x4.toInt64 * ((S1.1 23 x15.toNatClampNeg).toInt64))]) (ρ1 := ρ) (st := [.long ((v1 * v1).toInt64), .long x9]) dX2_keep_113 mdX7_quotient mlX2_110 smX7_quotient ⟨rfl, npX7_quotient⟩ (Nat.le_of_ble_eq_true rfl) (Nat.le_refl _) (Nat.le_refl _) rfl (CALLl.mono h (fun v4 S4 _ h => ?_))
    refine AW_lmul dX2_keep_116 ?_
    refine AW_ladd dX2_keep_117 ?_
    refine AW_lstore dX2_keep_118 (Nat.le_of_ble_eq_true rfl) rfl ?_
    refine AW_lload 11 dX2_keep_120 rfl ?_
    refine AW_iload 5 dX2_keep_122 rfl ?_
    refine AW_iload_n 8 (n := 2) rfl dX2_keep_124 rfl ?_
    refine AW_iconst (v := 1) dX2_keep_125 rfl ?_
    refine AW_iadd dX2_keep_126 ?_
    refine AW_imul dX2_keep_127 ?_
    refine AW_iload 13 dX2_keep_128 rfl ?_
    refine AW_iconst (v := 1) dX2_keep_130 rfl ?_
    refine AW_iadd dX2_keep_131 ?_
    refine AW_imul dX2_keep_132 ?_
    refine AW_i2l dX2_keep_133 ?_
    refine AW_ladd dX2_keep_134 ?_
    refine AW_lstore dX2_keep_135 (Nat.le_of_ble_eq_true rfl) rfl ?_
    refine AW_lload 12 dX2_keep_137 rfl ?_
    refine AW_iload 6 dX2_keep_139 rfl ?_
    refine AW_i2l dX2_keep_141 ?_
    refine AW_mmaxL (M := mX2_keep) (pc := 142) dX2_keep_142 mlX2_114 wmmaxLS wMath wmmaxLC (Nat.le_of_ble_eq_true rfl) ?_ (Nat.le_refl _) (Nat.le_refl _)
    refine AW_lstore dX2_keep_145 (Nat.le_of_ble_eq_true rfl) rfl ?_
    refine AW_iinc 13 (v := x15 + 1) dX2_keep_147 rfl rfl (Nat.le_of_ble_eq_true rfl) rfl ?_
    refine AW_goto (tgt := 32) dX2_keep_150 rfl ?_
    exact AW.sub [9, 10, 11, 12, 13, 6, 5, 4, 3, 2, 1, 0] rfl h
set_option maxRecDepth 20000 in
theorem eX2_keep {g : GX} {Q : St → Prop} {d : Nat} {ρ : Rs} {S : St} (hρ : Ok ρ) {x2 : Int32} {x3 : Int32} (h : vp_in x2 4 ∧ (CALLl g (d + 1) mX2_factorial [.int (S.1 22 x2.toNatClampNeg)] ρ ρ S (fun v1 S1 => AW g ρ (QV Q) (d + 2) mX2_keep 32 [(0, .ref 32), (1, .ref 21), (2, .int x2), (3, .int x3), (4, .int (S.1 22 x2.toNatClampNeg)), (5, .int 0), (6, .int 0), (7, .long v1), (9, .long 0), (11, .long 0), (13, .long 0), (15, .int 0)] [] ρ S1))) : CALLv g (d + 2) mX2_keep [.ref 32, .ref 21, .int x2, .int x3] ρ ρ S Q := by
  refine CALL.of mdX2_keep.2.2.2.2 (Nat.le_of_ble_eq_true rfl) (Nat.le_refl _) (Nat.le_refl _) ?_
  show AW g ρ (QV Q) (d + 2) mX2_keep 0 [(0, .ref 32), (1, .ref 21), (2, .int x2), (3, .int x3)] [] ρ S
  refine AW_aload_n 1 (n := 1) rfl dX2_keep_0 rfl ?_
  refine AW_iload_n 2 (n := 2) rfl dX2_keep_1 rfl ?_
  refine AW_callVi (M := mX2_keep) (pc := 2) (As := [.int x2]) (ρ1 := ρ) (st := []) dX2_keep_2 mdX9_rowSum rfl mlX2_47 imX9_rowSum seX9_rowSum (rcv_of (q := (RX9, TX9, 10)) (Nat.le_of_ble_eq_true rfl) (okn hρ (Nat.le_of_ble_eq_true rfl)) rfl rfl) ⟨rfl, npX9_rowSum⟩ (Nat.le_of_ble_eq_true rfl) (Nat.le_refl _) (Nat.le_refl _) rfl (iX9_rowSum hρ h.1 (v := (S.1 22 x2.toNatClampNeg)) rfl ?_)
  replace h := h.2
  refine AW_istore dX2_keep_5 (Nat.le_of_ble_eq_true rfl) rfl ?_
  refine AW_iconst (v := 0) dX2_keep_7 rfl ?_
  refine AW_istore dX2_keep_8 (Nat.le_of_ble_eq_true rfl) rfl ?_
  refine AW_iconst (v := 0) dX2_keep_10 rfl ?_
  refine AW_istore dX2_keep_11 (Nat.le_of_ble_eq_true rfl) rfl ?_
  refine AW_iload 2 dX2_keep_13 rfl ?_
  refine AW_callSl (M := mX2_keep) (pc := 15) (As := [.int (S.1 22 x2.toNatClampNeg)]) (ρ1 := ρ) (st := []) dX2_keep_15 mdX2_factorial mlX2_103 smX2_factorial ⟨rfl, npX2_factorial⟩ (Nat.le_of_ble_eq_true rfl) (Nat.le_refl _) (Nat.le_refl _) rfl (CALLl.mono h (fun v1 S1 _ h => ?_))
  refine AW_lstore dX2_keep_18 (Nat.le_of_ble_eq_true rfl) rfl ?_
  refine AW_lconst (v := 0) dX2_keep_20 rfl ?_
  refine AW_lstore dX2_keep_21 (Nat.le_of_ble_eq_true rfl) rfl ?_
  refine AW_lconst (v := 0) dX2_keep_23 rfl ?_
  refine AW_lstore dX2_keep_24 (Nat.le_of_ble_eq_true rfl) rfl ?_
  refine AW_lconst (v := 0) dX2_keep_26 rfl ?_
  refine AW_lstore dX2_keep_27 (Nat.le_of_ble_eq_true rfl) rfl ?_
  refine AW_iconst (v := 0) dX2_keep_29 rfl ?_
  refine AW_istore dX2_keep_30 (Nat.le_of_ble_eq_true rfl) rfl ?_
  exact AW.sub [8, 9, 10, 11, 7, 6, 5, 4, 3, 2, 1, 0] rfl h
set_option maxRecDepth 20000 in
theorem eX2_factorial {g : GX} {Q : Int64 → St → Prop} {d : Nat} {ρ : Rs} {S : St} (hρ : Ok ρ) {x0 : Int32} (h : if x0 < 0 then Q 1 S else if (21 : Int32) ≤ x0 then Q 1 S else vp_in x0 21 ∧ (Q (facL.getD x0.toNatClampNeg 0) S)) : CALLl g d mX2_factorial [.int x0] ρ ρ S Q := by
  refine CALL.of mdX2_factorial.2.2.2.2 (Nat.le_of_ble_eq_true rfl) (Nat.le_refl _) (Nat.le_refl _) ?_
  show AW g ρ (QJ Q) d mX2_factorial 0 [(0, .int x0)] [] ρ S
  refine AW_iload_n 0 (n := 0) rfl dX2_factorial_0 rfl ?_
  refine AW_if_lt dX2_factorial_1 rfl (iteM h (fun h => ?_) (fun h => ?_))
  · refine AW_lconst (v := 1) dX2_factorial_20 rfl ?_
    exact AW_retl dX2_factorial_21 rfl h
  · refine AW_iload_n 0 (n := 0) rfl dX2_factorial_4 rfl ?_
    refine AW_getF dX2_factorial_5 flX2_124 ?_
    refine AW_faclen dX2_factorial_8 ?_
    refine AW_icmp_ge dX2_factorial_9 rfl (iteM h (fun h => ?_) (fun h => ?_))
    · refine AW_lconst (v := 1) dX2_factorial_20 rfl ?_
      exact AW_retl dX2_factorial_21 rfl h
    · refine AW_getF dX2_factorial_12 flX2_124 ?_
      refine AW_iload_n 0 (n := 0) rfl dX2_factorial_15 rfl ?_
      refine AW_facld dX2_factorial_16 h.1 ?_
      replace h := h.2
      refine AW_goto (tgt := 21) dX2_factorial_17 rfl ?_
      exact AW_retl dX2_factorial_21 rfl h
