set_option maxRecDepth 20000 in
theorem eX2_make_17 {g : GX} {Q : St → Prop} {d : Nat} {ρ : Rs} {S : St} (hρ : Ok ρ) {x2 : Int32} (hF : ∀ k ∈ ([33] : List Nat), gF g k) (h : if (S.1 21 0) ≤ x2 then Q S else if (4 : Int32) ≤ x2 then Q S else vp_in x2 5 ∧ (vp_in x2 4 ∧ (CALLv g d mX2_lay [.ref 32, .ref 21, .int x2, .int 0, .int (S.1 22 x2.toNatClampNeg), .int 0] ρ ρ (setI S 33 x2.toNatClampNeg (S.1 32 7)) (fun S1 => vp_in (x2 + 1) 5 ∧ (AW g ρ (QV Q) (d + 1) mX2_make 17 [(0, .ref 32), (1, .ref 21), (2, .int (x2 + 1))] [] ρ (setI S1 33 ((x2 + 1).toNatClampNeg) (S1.1 32 7))))))) : AW g ρ (QV Q) (d + 1) mX2_make 17 [(0, .ref 32), (1, .ref 21), (2, .int x2)] [] ρ S := by
  refine AW_iload_n 2 (n := 2) rfl dX2_make_17 rfl ?_
  refine AW_aload_n 1 (n := 1) rfl dX2_make_18 rfl ?_
  refine AW_get dX2_make_19 flX2_43 (Nat.le_of_ble_eq_true rfl) (okn hρ (Nat.le_of_ble_eq_true rfl)) rfl (v := .int (S.1 21 0)) (fun _ => rfl) ?_
  refine AW_icmp_ge dX2_make_22 rfl (iteM h (fun h => ?_) (fun h => ?_))
  · exact AW_retv dX2_make_72 rfl h
  · refine AW_iload_n 2 (n := 2) rfl dX2_make_25 rfl ?_
    refine AW_iconst (v := 4) dX2_make_26 rfl ?_
    refine AW_icmp_ge dX2_make_27 rfl (iteM h (fun h => ?_) (fun h => ?_))
    · exact AW_retv dX2_make_72 rfl h
    · refine AW_aload_n 0 (n := 0) rfl dX2_make_30 rfl ?_
      refine AW_get dX2_make_31 flX2_9 (Nat.le_of_ble_eq_true rfl) (okn hρ (Nat.le_of_ble_eq_true rfl)) rfl (v := .ref 33) (fvR (okR hρ 29 rfl)) ?_
      refine AW_iload_n 2 (n := 2) rfl dX2_make_34 rfl ?_
      refine AW_aload_n 0 (n := 0) rfl dX2_make_35 rfl ?_
      refine AW_get dX2_make_36 flX2_39 (Nat.le_of_ble_eq_true rfl) (okn hρ (Nat.le_of_ble_eq_true rfl)) rfl (v := .int (S.1 32 7)) (fun _ => rfl) ?_
      refine AW_iastore dX2_make_39 (Nat.le_of_ble_eq_true rfl) (okn hρ (Nat.le_of_ble_eq_true rfl)) rfl h.1 (hF _ (List.mem_of_getElem? (i := 0) rfl)) (jx := x2.toNatClampNeg) rfl ?_
      replace h := h.2
      refine AW_aload_n 0 (n := 0) rfl dX2_make_40 rfl ?_
      refine AW_aload_n 1 (n := 1) rfl dX2_make_41 rfl ?_
      refine AW_iload_n 2 (n := 2) rfl dX2_make_42 rfl ?_
      refine AW_iconst (v := 0) dX2_make_43 rfl ?_
      refine AW_aload_n 1 (n := 1) rfl dX2_make_44 rfl ?_
      refine AW_get dX2_make_45 flX2_48 (Nat.le_of_ble_eq_true rfl) (okn hρ (Nat.le_of_ble_eq_true rfl)) rfl (v := .ref 22) (fvR (okR hρ 10 rfl)) ?_
      refine AW_iload_n 2 (n := 2) rfl dX2_make_48 rfl ?_
      refine AW_iaload dX2_make_49 (Nat.le_of_ble_eq_true rfl) (okn hρ (Nat.le_of_ble_eq_true rfl)) rfl h.1 (v := S.1 22 x2.toNatClampNeg) rfl ?_
      replace h := h.2
      refine AW_iconst (v := 0) dX2_make_50 rfl ?_
      refine AW_callSv (M := mX2_make) (pc := 51) (As := [.ref 32, .ref 21, .int x2, .int 0, .int (S.1 22 x2.toNatClampNeg), .int 0]) (ρ1 := ρ) (st := []) dX2_make_51 mdX2_lay mlX2_51 smX2_lay ⟨rfl, npX2_lay⟩ (Nat.le_of_ble_eq_true rfl) (Nat.le_refl _) (Nat.le_refl _) rfl (CALLv.mono h (fun S1 _ h => ?_))
      refine AW_aload_n 0 (n := 0) rfl dX2_make_54 rfl ?_
      refine AW_get dX2_make_55 flX2_9 (Nat.le_of_ble_eq_true rfl) (okn hρ (Nat.le_of_ble_eq_true rfl)) rfl (v := .ref 33) (fvR (okR hρ 29 rfl)) ?_
      refine AW_iload_n 2 (n := 2) rfl dX2_make_58 rfl ?_
      refine AW_iconst (v := 1) dX2_make_59 rfl ?_
      refine AW_iadd dX2_make_60 ?_
      refine AW_aload_n 0 (n := 0) rfl dX2_make_61 rfl ?_
      refine AW_get dX2_make_62 flX2_39 (Nat.le_of_ble_eq_true rfl) (okn hρ (Nat.le_of_ble_eq_true rfl)) rfl (v := .int (S1.1 32 7)) (fun _ => rfl) ?_
      refine AW_iastore dX2_make_65 (Nat.le_of_ble_eq_true rfl) (okn hρ (Nat.le_of_ble_eq_true rfl)) rfl h.1 (hF _ (List.mem_of_getElem? (i := 0) rfl)) (jx := (x2 + 1).toNatClampNeg) rfl ?_
      replace h := h.2
      refine AW_iinc 2 (v := x2 + 1) dX2_make_66 rfl rfl (Nat.le_of_ble_eq_true rfl) rfl ?_
      refine AW_goto (tgt := 17) dX2_make_69 rfl ?_
      exact AW.sub [1, 2, 0] rfl h
set_option maxRecDepth 20000 in
theorem eX2_make {g : GX} {Q : St → Prop} {d : Nat} {ρ : Rs} {S : St} (hρ : Ok ρ) (hF : ∀ k ∈ ([32] : List Nat), gF g k) (h : CALLv g d mX2_setStrides [.ref 32, .ref 21] ρ ρ S (fun S1 => CALLv g d mX2_setScale [.ref 32, .ref 21] ρ ρ S1 (fun S2 => AW g ρ (QV Q) (d + 1) mX2_make 17 [(0, .ref 32), (1, .ref 21), (2, .int 0)] [] ρ (setI S2 32 7 0)))) : CALLv g (d + 1) mX2_make [.ref 32, .ref 21] ρ ρ S Q := by
  refine CALL.of mdX2_make.2.2.2.2 (Nat.le_of_ble_eq_true rfl) (Nat.le_refl _) (Nat.le_refl _) ?_
  show AW g ρ (QV Q) (d + 1) mX2_make 0 [(0, .ref 32), (1, .ref 21)] [] ρ S
  refine AW_aload_n 0 (n := 0) rfl dX2_make_0 rfl ?_
  refine AW_aload_n 1 (n := 1) rfl dX2_make_1 rfl ?_
  refine AW_callVv (M := mX2_make) (pc := 2) (As := [.ref 21]) (ρ1 := ρ) (st := []) dX2_make_2 mdX2_setStrides rfl mlX2_32 imX2_setStrides seX2_setStrides (rcv_of (q := (RX2, TX2, 8)) (Nat.le_of_ble_eq_true rfl) (okn hρ (Nat.le_of_ble_eq_true rfl)) rfl rfl) ⟨rfl, npX2_setStrides⟩ (Nat.le_of_ble_eq_true rfl) (Nat.le_refl _) (Nat.le_refl _) rfl (CALLv.mono h (fun S1 _ h => ?_))
  refine AW_aload_n 0 (n := 0) rfl dX2_make_5 rfl ?_
  refine AW_aload_n 1 (n := 1) rfl dX2_make_6 rfl ?_
  refine AW_callVv (M := mX2_make) (pc := 7) (As := [.ref 21]) (ρ1 := ρ) (st := []) dX2_make_7 mdX2_setScale rfl mlX2_36 imX2_setScale seX2_setScale (rcv_of (q := (RX2, TX2, 8)) (Nat.le_of_ble_eq_true rfl) (okn hρ (Nat.le_of_ble_eq_true rfl)) rfl rfl) ⟨rfl, npX2_setScale⟩ (Nat.le_of_ble_eq_true rfl) (Nat.le_refl _) (Nat.le_refl _) rfl (CALLv.mono h (fun S2 _ h => ?_))
  refine AW_aload_n 0 (n := 0) rfl dX2_make_10 rfl ?_
  refine AW_iconst (v := 0) dX2_make_11 rfl ?_
  refine AW_put dX2_make_12 flX2_39 fp_2_7 (Nat.le_of_ble_eq_true rfl) (okn hρ (Nat.le_of_ble_eq_true rfl)) rfl (fun _ => rfl) (fun _ => rfl) rfl rfl rfl rfl (Fr.setI _ _ _ rfl) (fun _ _ => rfl) (ρ2 := ρ) (S2 := setI S2 32 7 0) (fun _ => rfl) (fun _ _ _ q1 _ => fvI_o q1) (hF _ (List.mem_of_getElem? (i := 0) rfl)) ?_
  refine AW_iconst (v := 0) dX2_make_15 rfl ?_
  refine AW_istore_n (n := 2) (i := 2) rfl dX2_make_16 (Nat.le_of_ble_eq_true rfl) rfl ?_
  exact AW.sub [1, 2, 0] rfl h
set_option maxRecDepth 20000 in
theorem eX2_takenBy_4 {g : GX} {Q : Int32 → St → Prop} {d : Nat} {ρ : Rs} {S : St} (hρ : Ok ρ) {k1 n1 : Nat} (h16_1 : 16 ≤ k1) (hn_1 : k1 < rn ρ) (hs_1 : shp ρ k1 = .inr (0, n1)) {x2 : Int32} {x3 : Int32} (h : if (4 : Int32) ≤ x3 then Q x2 S else if (Int32.ofNat n1) ≤ x3 then Q x2 S else vp_in x3 n1 ∧ (AW g ρ (QI Q) d mX2_takenBy 4 [(1, .ref k1), (2, .int (x2 ||| ((S.1 k1 x3.toNatClampNeg) <<< ((6 * x3) &&& 31)))), (3, .int (x3 + 1))] [] ρ S)) : AW g ρ (QI Q) d mX2_takenBy 4 [(1, .ref k1), (2, .int x2), (3, .int x3)] [] ρ S := by
  refine AW_iload_n 2 (n := 3) rfl dX2_takenBy_4 rfl ?_
  refine AW_iconst (v := 4) dX2_takenBy_5 rfl ?_
  refine AW_icmp_ge dX2_takenBy_6 rfl (iteM h (fun h => ?_) (fun h => ?_))
  · refine AW_iload_n 1 (n := 2) rfl dX2_takenBy_32 rfl ?_
    exact AW_reti dX2_takenBy_33 rfl h
  · refine AW_iload_n 2 (n := 3) rfl dX2_takenBy_9 rfl ?_
    refine AW_aload_n 0 (n := 1) rfl dX2_takenBy_10 rfl ?_
    refine AW_alen (v := Int32.ofNat n1) dX2_takenBy_11 h16_1 hn_1 (by decide) hs_1 rfl ?_
    refine AW_icmp_ge dX2_takenBy_12 rfl (iteM h (fun h => ?_) (fun h => ?_))
    · refine AW_iload_n 1 (n := 2) rfl dX2_takenBy_32 rfl ?_
      exact AW_reti dX2_takenBy_33 rfl h
    · refine AW_iload_n 1 (n := 2) rfl dX2_takenBy_15 rfl ?_
      refine AW_aload_n 0 (n := 1) rfl dX2_takenBy_16 rfl ?_
      refine AW_iload_n 2 (n := 3) rfl dX2_takenBy_17 rfl ?_
      refine AW_iaload dX2_takenBy_18 h16_1 hn_1 hs_1 h.1 (v := S.1 k1 x3.toNatClampNeg) rfl ?_
      replace h := h.2
      refine AW_bipush (v := 6) dX2_takenBy_19 rfl ?_
      refine AW_iload_n 2 (n := 3) rfl dX2_takenBy_21 rfl ?_
      refine AW_imul dX2_takenBy_22 ?_
      refine AW_ishl dX2_takenBy_23 ?_
      refine AW_ior dX2_takenBy_24 ?_
      refine AW_istore_n (n := 2) (i := 2) rfl dX2_takenBy_25 (Nat.le_of_ble_eq_true rfl) rfl ?_
      refine AW_iinc 2 (v := x3 + 1) dX2_takenBy_26 rfl rfl (Nat.le_of_ble_eq_true rfl) rfl ?_
      refine AW_goto (tgt := 4) dX2_takenBy_29 rfl ?_
      exact AW.sub [2, 1, 0] rfl h
set_option maxRecDepth 20000 in
theorem eX2_takenBy {g : GX} {Q : Int32 → St → Prop} {d : Nat} {ρ : Rs} {S : St} (hρ : Ok ρ) {k1 n1 : Nat} (h16_1 : 16 ≤ k1) (hn_1 : k1 < rn ρ) (hs_1 : shp ρ k1 = .inr (0, n1)) (h : AW g ρ (QI Q) d mX2_takenBy 4 [(1, .ref k1), (2, .int 0), (3, .int 0)] [] ρ S) : CALLi g d mX2_takenBy [.ref 32, .ref k1] ρ ρ S Q := by
  refine CALL.of mdX2_takenBy.2.2.2.2 (Nat.le_of_ble_eq_true rfl) (Nat.le_refl _) (Nat.le_refl _) ?_
  show AW g ρ (QI Q) d mX2_takenBy 0 [(0, .ref 32), (1, .ref k1)] [] ρ S
  refine AW_iconst (v := 0) dX2_takenBy_0 rfl ?_
  refine AW_istore_n (n := 2) (i := 2) rfl dX2_takenBy_1 (Nat.le_of_ble_eq_true rfl) rfl ?_
  refine AW_iconst (v := 0) dX2_takenBy_2 rfl ?_
  refine AW_istore_n (n := 3) (i := 3) rfl dX2_takenBy_3 (Nat.le_of_ble_eq_true rfl) rfl ?_
  exact AW.sub [3, 1, 0] rfl h
set_option maxRecDepth 20000 in
theorem eX2_codeOf_4 {g : GX} {Q : Int32 → St → Prop} {d : Nat} {ρ : Rs} {S : St} (hρ : Ok ρ) {k1 n1 : Nat} (h16_1 : 16 ≤ k1) (hn_1 : k1 < rn ρ) (hs_1 : shp ρ k1 = .inr (0, n1)) {x2 : Int32} {x3 : Int32} (h : if (4 : Int32) ≤ x3 then Q x2 S else if (Int32.ofNat n1) ≤ x3 then Q x2 S else vp_in x3 n1 ∧ (vp_in x3 4 ∧ (AW g ρ (QI Q) d mX2_codeOf 4 [(0, .ref 32), (1, .ref k1), (2, .int (x2 + ((S.1 k1 x3.toNatClampNeg) * (S.1 42 x3.toNatClampNeg)))), (3, .int (x3 + 1))] [] ρ S))) : AW g ρ (QI Q) d mX2_codeOf 4 [(0, .ref 32), (1, .ref k1), (2, .int x2), (3, .int x3)] [] ρ S := by
  refine AW_iload_n 3 (n := 3) rfl dX2_codeOf_4 rfl ?_
  refine AW_iconst (v := 4) dX2_codeOf_5 rfl ?_
  refine AW_icmp_ge dX2_codeOf_6 rfl (iteM h (fun h => ?_) (fun h => ?_))
  · refine AW_iload_n 2 (n := 2) rfl dX2_codeOf_34 rfl ?_
    exact AW_reti dX2_codeOf_35 rfl h
  · refine AW_iload_n 3 (n := 3) rfl dX2_codeOf_9 rfl ?_
    refine AW_aload_n 1 (n := 1) rfl dX2_codeOf_10 rfl ?_
    refine AW_alen (v := Int32.ofNat n1) dX2_codeOf_11 h16_1 hn_1 (by decide) hs_1 rfl ?_
    refine AW_icmp_ge dX2_codeOf_12 rfl (iteM h (fun h => ?_) (fun h => ?_))
    · refine AW_iload_n 2 (n := 2) rfl dX2_codeOf_34 rfl ?_
      exact AW_reti dX2_codeOf_35 rfl h
    · refine AW_iload_n 2 (n := 2) rfl dX2_codeOf_15 rfl ?_
      refine AW_aload_n 1 (n := 1) rfl dX2_codeOf_16 rfl ?_
      refine AW_iload_n 3 (n := 3) rfl dX2_codeOf_17 rfl ?_
      refine AW_iaload dX2_codeOf_18 h16_1 hn_1 hs_1 h.1 (v := S.1 k1 x3.toNatClampNeg) rfl ?_
      replace h := h.2
      refine AW_aload_n 0 (n := 0) rfl dX2_codeOf_19 rfl ?_
      refine AW_get dX2_codeOf_20 flX2_29 (Nat.le_of_ble_eq_true rfl) (okn hρ (Nat.le_of_ble_eq_true rfl)) rfl (v := .ref 42) (fvR (okR hρ 34 rfl)) ?_
      refine AW_iload_n 3 (n := 3) rfl dX2_codeOf_23 rfl ?_
      refine AW_iaload dX2_codeOf_24 (Nat.le_of_ble_eq_true rfl) (okn hρ (Nat.le_of_ble_eq_true rfl)) rfl h.1 (v := S.1 42 x3.toNatClampNeg) rfl ?_
      replace h := h.2
      refine AW_imul dX2_codeOf_25 ?_
      refine AW_iadd dX2_codeOf_26 ?_
      refine AW_istore_n (n := 2) (i := 2) rfl dX2_codeOf_27 (Nat.le_of_ble_eq_true rfl) rfl ?_
      refine AW_iinc 3 (v := x3 + 1) dX2_codeOf_28 rfl rfl (Nat.le_of_ble_eq_true rfl) rfl ?_
      refine AW_goto (tgt := 4) dX2_codeOf_31 rfl ?_
      exact AW.sub [2, 3, 1, 0] rfl h
set_option maxRecDepth 20000 in
theorem eX2_codeOf {g : GX} {Q : Int32 → St → Prop} {d : Nat} {ρ : Rs} {S : St} (hρ : Ok ρ) {k1 n1 : Nat} (h16_1 : 16 ≤ k1) (hn_1 : k1 < rn ρ) (hs_1 : shp ρ k1 = .inr (0, n1)) (h : AW g ρ (QI Q) d mX2_codeOf 4 [(0, .ref 32), (1, .ref k1), (2, .int 0), (3, .int 0)] [] ρ S) : CALLi g d mX2_codeOf [.ref 32, .ref k1] ρ ρ S Q := by
  refine CALL.of mdX2_codeOf.2.2.2.2 (Nat.le_of_ble_eq_true rfl) (Nat.le_refl _) (Nat.le_refl _) ?_
  show AW g ρ (QI Q) d mX2_codeOf 0 [(0, .ref 32), (1, .ref k1)] [] ρ S
  refine AW_iconst (v := 0) dX2_codeOf_0 rfl ?_
  refine AW_istore_n (n := 2) (i := 2) rfl dX2_codeOf_1 (Nat.le_of_ble_eq_true rfl) rfl ?_
  refine AW_iconst (v := 0) dX2_codeOf_2 rfl ?_
  refine AW_istore_n (n := 3) (i := 3) rfl dX2_codeOf_3 (Nat.le_of_ble_eq_true rfl) rfl ?_
  exact AW.sub [2, 3, 1, 0] rfl h
set_option maxRecDepth 20000 in
theorem eX2_setStrides_12 {g : GX} {Q : St → Prop} {d : Nat} {ρ : Rs} {S : St} (hρ : Ok ρ) {x2 : Int32} {x3 : Int32} (hF : ∀ k ∈ ([42] : List Nat), gF g k) (h : if ((S.1 21 1) - 1) ≤ x3 then Q S else if (4 : Int32) ≤ x3 then Q S else vp_in x3 4 ∧ (vp_in x3 4 ∧ (AW g ρ (QV Q) (d + 1) mX2_setStrides 12 [(0, .ref 32), (1, .ref 21), (2, .int (x2 * ((S.1 23 x3.toNatClampNeg) + 1))), (3, .int (x3 + 1))] [] ρ (setI S 42 x3.toNatClampNeg x2)))) : AW g ρ (QV Q) (d + 1) mX2_setStrides 12 [(0, .ref 32), (1, .ref 21), (2, .int x2), (3, .int x3)] [] ρ S := by
  refine AW_iload_n 3 (n := 3) rfl dX2_setStrides_12 rfl ?_
  refine AW_aload_n 1 (n := 1) rfl dX2_setStrides_13 rfl ?_
  refine AW_get dX2_setStrides_14 flX2_61 (Nat.le_of_ble_eq_true rfl) (okn hρ (Nat.le_of_ble_eq_true rfl)) rfl (v := .int (S.1 21 1)) (fun _ => rfl) ?_
  refine AW_iconst (v := 1) dX2_setStrides_17 rfl ?_
  refine AW_isub dX2_setStrides_18 ?_
  refine AW_icmp_ge dX2_setStrides_19 rfl (iteM h (fun h => ?_) (fun h => ?_))
  · exact AW_retv dX2_setStrides_51 rfl h
  · refine AW_iload_n 3 (n := 3) rfl dX2_setStrides_22 rfl ?_
    refine AW_iconst (v := 4) dX2_setStrides_23 rfl ?_
    refine AW_icmp_ge dX2_setStrides_24 rfl (iteM h (fun h => ?_) (fun h => ?_))
    · exact AW_retv dX2_setStrides_51 rfl h
    · refine AW_aload_n 0 (n := 0) rfl dX2_setStrides_27 rfl ?_
      refine AW_get dX2_setStrides_28 flX2_29 (Nat.le_of_ble_eq_true rfl) (okn hρ (Nat.le_of_ble_eq_true rfl)) rfl (v := .ref 42) (fvR (okR hρ 34 rfl)) ?_
      refine AW_iload_n 3 (n := 3) rfl dX2_setStrides_31 rfl ?_
      refine AW_iload_n 2 (n := 2) rfl dX2_setStrides_32 rfl ?_
      refine AW_iastore dX2_setStrides_33 (Nat.le_of_ble_eq_true rfl) (okn hρ (Nat.le_of_ble_eq_true rfl)) rfl h.1 (hF _ (List.mem_of_getElem? (i := 0) rfl)) (jx := x3.toNatClampNeg) rfl ?_
      replace h := h.2
      refine AW_iload_n 2 (n := 2) rfl dX2_setStrides_34 rfl ?_
      refine AW_aload_n 1 (n := 1) rfl dX2_setStrides_35 rfl ?_
      refine AW_get dX2_setStrides_36 flX2_64 (Nat.le_of_ble_eq_true rfl) (okn hρ (Nat.le_of_ble_eq_true rfl)) rfl (v := .ref 23) (fvR (okR hρ 11 rfl)) ?_
      refine AW_iload_n 3 (n := 3) rfl dX2_setStrides_39 rfl ?_
      refine AW_iaload dX2_setStrides_40 (Nat.le_of_ble_eq_true rfl) (okn hρ (Nat.le_of_ble_eq_true rfl)) rfl h.1 (v := S.1 23 x3.toNatClampNeg) rfl ?_
      replace h := h.2
      refine AW_iconst (v := 1) dX2_setStrides_41 rfl ?_
      refine AW_iadd dX2_setStrides_42 ?_
      refine AW_imul dX2_setStrides_43 ?_
      refine AW_istore_n (n := 2) (i := 2) rfl dX2_setStrides_44 (Nat.le_of_ble_eq_true rfl) rfl ?_
      refine AW_iinc 3 (v := x3 + 1) dX2_setStrides_45 rfl rfl (Nat.le_of_ble_eq_true rfl) rfl ?_
      refine AW_goto (tgt := 12) dX2_setStrides_48 rfl ?_
      exact AW.sub [2, 3, 1, 0] rfl h
set_option maxRecDepth 20000 in
theorem eX2_setStrides {g : GX} {Q : St → Prop} {d : Nat} {ρ : Rs} {S : St} (hρ : Ok ρ) (h : CALLv g d mJ7_fill_53178 [.ref 42, .int 0] ρ ρ S (fun S1 => AW g ρ (QV Q) (d + 1) mX2_setStrides 12 [(0, .ref 32), (1, .ref 21), (2, .int 1), (3, .int 0)] [] ρ S1)) : CALLv g (d + 1) mX2_setStrides [.ref 32, .ref 21] ρ ρ S Q := by
  refine CALL.of mdX2_setStrides.2.2.2.2 (Nat.le_of_ble_eq_true rfl) (Nat.le_refl _) (Nat.le_refl _) ?_
  show AW g ρ (QV Q) (d + 1) mX2_setStrides 0 [(0, .ref 32), (1, .ref 21)] [] ρ S
  refine AW_aload_n 0 (n := 0) rfl dX2_setStrides_0 rfl ?_
  refine AW_get dX2_setStrides_1 flX2_29 (Nat.le_of_ble_eq_true rfl) (okn hρ (Nat.le_of_ble_eq_true rfl)) rfl (v := .ref 42) (fvR (okR hρ 34 rfl)) ?_
  refine AW_iconst (v := 0) dX2_setStrides_4 rfl ?_
  refine AW_callSv (M := mX2_setStrides) (pc := 5) (As := [.ref 42, .int 0]) (ρ1 := ρ) (st := []) dX2_setStrides_5 mdJ7_fill_53178 mlX2_55 smJ7_fill_53178 ⟨rfl, npJ7_fill_53178⟩ (Nat.le_of_ble_eq_true rfl) (Nat.le_refl _) (Nat.le_refl _) rfl (CALLv.mono h (fun S1 _ h => ?_))
  refine AW_iconst (v := 1) dX2_setStrides_8 rfl ?_
  refine AW_istore_n (n := 2) (i := 2) rfl dX2_setStrides_9 (Nat.le_of_ble_eq_true rfl) rfl ?_
  refine AW_iconst (v := 0) dX2_setStrides_10 rfl ?_
  refine AW_istore_n (n := 3) (i := 3) rfl dX2_setStrides_11 (Nat.le_of_ble_eq_true rfl) rfl ?_
  exact AW.sub [2, 3, 1, 0] rfl h
set_option maxRecDepth 20000 in
theorem eX2_setScale_7 {g : GX} {Q : St → Prop} {d : Nat} {ρ : Rs} {S : St} (hρ : Ok ρ) {x2 : Int32} (hF : ∀ k ∈ ([32] : List Nat), gF g k) (h : if (4 : Int32) ≤ x2 then Q S else vp_in x2 4 ∧ (vp_in x2 4 ∧ (AW g ρ (QV Q) (d + 1) mX2_setScale 7 [(0, .ref 32), (1, .ref 21), (2, .int (x2 + 1))] [] ρ (setL (setL S 32 6 ((S.2 32 6) * ((if (1 : Int32) < (S.1 22 x2.toNatClampNeg) then (S.1 22 x2.toNatClampNeg) else 1).toInt64))) 32 6 (((S.2 32 6) * ((if (1 : Int32) < (S.1 22 x2.toNatClampNeg) then (S.1 22 x2.toNatClampNeg) else 1).toInt64)) * ((if (1 : Int32) < (S.1 23 x2.toNatClampNeg) then (S.1 23 x2.toNatClampNeg) else 1).toInt64)))))) : AW g ρ (QV Q) (d + 1) mX2_setScale 7 [(0, .ref 32), (1, .ref 21), (2, .int x2)] [] ρ S := by
  refine AW_iload_n 2 (n := 2) rfl dX2_setScale_7 rfl ?_
  refine AW_iconst (v := 4) dX2_setScale_8 rfl ?_
  refine AW_icmp_ge dX2_setScale_9 rfl (iteM h (fun h => ?_) (fun h => ?_))
  · exact AW_retv dX2_setScale_58 rfl h
  · refine AW_aload_n 0 (n := 0) rfl dX2_setScale_12 rfl ?_
    refine AW_dup dX2_setScale_13 rfl ?_
    refine AW_get dX2_setScale_14 flX2_67 (Nat.le_of_ble_eq_true rfl) (okn hρ (Nat.le_of_ble_eq_true rfl)) rfl (v := .long (S.2 32 6)) (fun _ => rfl) ?_
    refine AW_iconst (v := 1) dX2_setScale_17 rfl ?_
    refine AW_aload_n 1 (n := 1) rfl dX2_setScale_18 rfl ?_
    refine AW_get dX2_setScale_19 flX2_48 (Nat.le_of_ble_eq_true rfl) (okn hρ (Nat.le_of_ble_eq_true rfl)) rfl (v := .ref 22) (fvR (okR hρ 10 rfl)) ?_
    refine AW_iload_n 2 (n := 2) rfl dX2_setScale_22 rfl ?_
    refine AW_iaload dX2_setScale_23 (Nat.le_of_ble_eq_true rfl) (okn hρ (Nat.le_of_ble_eq_true rfl)) rfl h.1 (v := S.1 22 x2.toNatClampNeg) rfl ?_
    replace h := h.2
    refine AW_mmaxI (M := mX2_setScale) (pc := 24) dX2_setScale_24 mlX2_71 wmmaxIS wMath wmmaxIC (Nat.le_of_ble_eq_true rfl) ?_ (Nat.le_refl _) (Nat.le_refl _)
    refine AW_i2l dX2_setScale_27 ?_
    refine AW_lmul dX2_setScale_28 ?_
    refine AW_put dX2_setScale_29 flX2_67 fp_2_6 (Nat.le_of_ble_eq_true rfl) (okn hρ (Nat.le_of_ble_eq_true rfl)) rfl (fun _ => rfl) (fun _ => rfl) rfl rfl rfl rfl (Fr.setL _ _ _ rfl) (fun _ _ => rfl) (ρ2 := ρ) (S2 := setL S 32 6 ((S.2 32 6) * ((if (1 : Int32) < (S.1 22 x2.toNatClampNeg) then (S.1 22 x2.toNatClampNeg) else 1).toInt64))) (fun _ => rfl) (fun _ _ _ q1 _ => fvL_o q1) (hF _ (List.mem_of_getElem? (i := 0) rfl)) ?_
    refine AW_aload_n 0 (n := 0) rfl dX2_setScale_32 rfl ?_
    refine AW_dup dX2_setScale_33 rfl ?_
    refine AW_get dX2_setScale_34 flX2_67 (Nat.le_of_ble_eq_true rfl) (okn hρ (Nat.le_of_ble_eq_true rfl)) rfl (v := .long ((S.2 32 6) * ((if (1 : Int32) < (S.1 22 x2.toNatClampNeg) then (S.1 22 x2.toNatClampNeg) else 1).toInt64))) (fun _ => rfl) ?_
    refine AW_iconst (v := 1) dX2_setScale_37 rfl ?_
    refine AW_aload_n 1 (n := 1) rfl dX2_setScale_38 rfl ?_
    refine AW_get dX2_setScale_39 flX2_64 (Nat.le_of_ble_eq_true rfl) (okn hρ (Nat.le_of_ble_eq_true rfl)) rfl (v := .ref 23) (fvR (okR hρ 11 rfl)) ?_
    refine AW_iload_n 2 (n := 2) rfl dX2_setScale_42 rfl ?_
    refine AW_iaload dX2_setScale_43 (Nat.le_of_ble_eq_true rfl) (okn hρ (Nat.le_of_ble_eq_true rfl)) rfl h.1 (v := S.1 23 x2.toNatClampNeg) rfl ?_
    replace h := h.2
    refine AW_mmaxI (M := mX2_setScale) (pc := 44) dX2_setScale_44 mlX2_71 wmmaxIS wMath wmmaxIC (Nat.le_of_ble_eq_true rfl) ?_ (Nat.le_refl _) (Nat.le_refl _)
    refine AW_i2l dX2_setScale_47 ?_
    refine AW_lmul dX2_setScale_48 ?_
    refine AW_put dX2_setScale_49 flX2_67 fp_2_6 (Nat.le_of_ble_eq_true rfl) (okn hρ (Nat.le_of_ble_eq_true rfl)) rfl (fun _ => rfl) (fun _ => rfl) rfl rfl rfl rfl (Fr.setL _ _ _ rfl) (fun _ _ => rfl) (ρ2 := ρ) (S2 := setL (setL S 32 6 ((S.2 32 6) * ((if (1 : Int32) < (S.1 22 x2.toNatClampNeg) then (S.1 22 x2.toNatClampNeg) else 1).toInt64))) 32 6 (((S.2 32 6) * ((if (1 : Int32) < (S.1 22 x2.toNatClampNeg) then (S.1 22 x2.toNatClampNeg) else 1).toInt64)) * ((if (1 : Int32) < (S.1 23 x2.toNatClampNeg) then (S.1 23 x2.toNatClampNeg) else 1).toInt64))) (fun _ => rfl) (fun _ _ _ q1 _ => fvL_o q1) (hF _ (List.mem_of_getElem? (i := 0) rfl)) ?_
    refine AW_iinc 2 (v := x2 + 1) dX2_setScale_52 rfl rfl (Nat.le_of_ble_eq_true rfl) rfl ?_
    refine AW_goto (tgt := 7) dX2_setScale_55 rfl ?_
    exact AW.sub [1, 2, 0] rfl h
set_option maxRecDepth 20000 in
theorem eX2_setScale {g : GX} {Q : St → Prop} {d : Nat} {ρ : Rs} {S : St} (hρ : Ok ρ) (hF : ∀ k ∈ ([32] : List Nat), gF g k) (h : AW g ρ (QV Q) (d + 1) mX2_setScale 7 [(0, .ref 32), (1, .ref 21), (2, .int 0)] [] ρ (setL S 32 6 1)) : CALLv g (d + 1) mX2_setScale [.ref 32, .ref 21] ρ ρ S Q := by
  refine CALL.of mdX2_setScale.2.2.2.2 (Nat.le_of_ble_eq_true rfl) (Nat.le_refl _) (Nat.le_refl _) ?_
  show AW g ρ (QV Q) (d + 1) mX2_setScale 0 [(0, .ref 32), (1, .ref 21)] [] ρ S
  refine AW_aload_n 0 (n := 0) rfl dX2_setScale_0 rfl ?_
  refine AW_lconst (v := 1) dX2_setScale_1 rfl ?_
  refine AW_put dX2_setScale_2 flX2_67 fp_2_6 (Nat.le_of_ble_eq_true rfl) (okn hρ (Nat.le_of_ble_eq_true rfl)) rfl (fun _ => rfl) (fun _ => rfl) rfl rfl rfl rfl (Fr.setL _ _ _ rfl) (fun _ _ => rfl) (ρ2 := ρ) (S2 := setL S 32 6 1) (fun _ => rfl) (fun _ _ _ q1 _ => fvL_o q1) (hF _ (List.mem_of_getElem? (i := 0) rfl)) ?_
  refine AW_iconst (v := 0) dX2_setScale_5 rfl ?_
  refine AW_istore_n (n := 2) (i := 2) rfl dX2_setScale_6 (Nat.le_of_ble_eq_true rfl) rfl ?_
  exact AW.sub [1, 2, 0] rfl h
set_option maxRecDepth 20000 in
theorem eX2_lay_70 {g : GX} {Q : St → Prop} {d : Nat} {ρ : Rs} {S : St} (hρ : Ok ρ) {x2 : Int32} {x3 : Int32} {x4 : Int32} {x5 : Int32} {x6 : Int32} {x7 : Int32} (h : if x6 < x7 then Q S else CALLi g d mX3_putInLine [.int x5, .int x3, .int x7] ρ ρ S (fun v1 S1 => CALLv g d mX2_lay [.ref 32, .ref 21, .int x2, .int (x3 + 1), .int (x4 - x7), .int v1] ρ ρ S1 (fun S2 => AW g ρ (QV Q) (d + 1) mX2_lay 70 [(0, .ref 32), (1, .ref 21), (2, .int x2), (3, .int x3), (4, .int x4), (5, .int x5), (6, .int x6), (7, .int (x7 + 1))] [] ρ S2))) : AW g ρ (QV Q) (d + 1) mX2_lay 70 [(0, .ref 32), (1, .ref 21), (2, .int x2), (3, .int x3), (4, .int x4), (5, .int x5), (6, .int x6), (7, .int x7)] [] ρ S := by
  refine AW_iload 7 dX2_lay_70 rfl ?_
  refine AW_iload 6 dX2_lay_72 rfl ?_
  refine AW_icmp_gt dX2_lay_74 rfl (iteM h (fun h => ?_) (fun h => ?_))
  · exact AW_retv dX2_lay_105 rfl h
  · refine AW_aload_n 0 (n := 0) rfl dX2_lay_77 rfl ?_
    refine AW_aload_n 1 (n := 1) rfl dX2_lay_78 rfl ?_
    refine AW_iload_n 2 (n := 2) rfl dX2_lay_79 rfl ?_
    refine AW_iload_n 3 (n := 3) rfl dX2_lay_80 rfl ?_
    refine AW_iconst (v := 1) dX2_lay_81 rfl ?_
    refine AW_iadd dX2_lay_82 ?_
    refine AW_iload 4 dX2_lay_83 rfl ?_
    refine AW_iload 7 dX2_lay_85 rfl ?_
    refine AW_isub dX2_lay_87 ?_
    refine AW_iload 5 dX2_lay_88 rfl ?_
    refine AW_iload_n 3 (n := 3) rfl dX2_lay_90 rfl ?_
    refine AW_iload 7 dX2_lay_91 rfl ?_
    refine AW_callSi (M := mX2_lay) (pc := 93) (As := [.int x5, .int x3, .int x7]) (ρ1 := ρ) (st := [.int (x4 - x7), .int (x3 + 1), .int x2, .ref 21, .ref 32]) dX2_lay_93 mdX3_putInLine mlX2_88 smX3_putInLine ⟨rfl, npX3_putInLine⟩ (Nat.le_of_ble_eq_true rfl) (Nat.le_refl _) (Nat.le_refl _) rfl (CALLi.mono h (fun v1 S1 _ h => ?_))
    refine AW_callSv (M := mX2_lay) (pc := 96) (As := [.ref 32, .ref 21, .int x2, .int (x3 + 1), .int (x4 - x7), .int v1]) (ρ1 := ρ) (st := []) dX2_lay_96 mdX2_lay mlX2_51 smX2_lay ⟨rfl, npX2_lay⟩ (Nat.le_of_ble_eq_true rfl) (Nat.le_refl _) (Nat.le_refl _) rfl (CALLv.mono h (fun S2 _ h => ?_))
    refine AW_iinc 7 (v := x7 + 1) dX2_lay_99 rfl rfl (Nat.le_of_ble_eq_true rfl) rfl ?_
    refine AW_goto (tgt := 70) dX2_lay_102 rfl ?_
    exact AW.sub [1, 2, 3, 4, 5, 6, 7, 0] rfl h
set_option maxRecDepth 20000 in
theorem eX2_lay {g : GX} {Q : St → Prop} {d : Nat} {ρ : Rs} {S : St} (hρ : Ok ρ) {x2 : Int32} {x3 : Int32} {x4 : Int32} {x5 : Int32} (h : if x3 < 0 then CALLv g d mX2_keep [.ref 32, .ref 21, .int x2, .int x5] ρ ρ S (fun S1 => Q S1) else if (S.1 21 1) ≤ x3 then CALLv g d mX2_keep [.ref 32, .ref 21, .int x2, .int x5] ρ ρ S (fun S2 => Q S2) else if x3 < 4 then CALLi g d mX9_isHole [.ref 21, .int x2, .int x3] ρ ρ S (fun v3 S3 => if v3 = 0 then vp_in x3 4 ∧ (if x3 = ((S3.1 21 1) - 1) then AW g ρ (QV Q) (d + 1) mX2_lay 70 [(0, .ref 32), (1, .ref 21), (2, .int x2), (3, .int x3), (4, .int x4), (5, .int x5), (6, .int (if (S3.1 23 x3.toNatClampNeg) < x4 then (S3.1 23 x3.toNatClampNeg) else x4)), (7, .int x4)] [] ρ S3 else AW g ρ (QV Q) (d + 1) mX2_lay 70 [(0, .ref 32), (1, .ref 21), (2, .int x2), (3, .int x3), (4, .int x4), (5, .int x5), (6, .int (if (S3.1 23 x3.toNatClampNeg) < x4 then (S3.1 23 x3.toNatClampNeg) else x4)), (7, .int 0)] [] ρ S3) else if x3 = ((S3.1 21 1) - 1) then AW g ρ (QV Q) (d + 1) mX2_lay 70 [(0, .ref 32), (1, .ref 21), (2, .int x2), (3, .int x3), (4, .int x4), (5, .int x5), (6, .int 0), (7, .int x4)] [] ρ S3 else AW g ρ (QV Q) (d + 1) mX2_lay 70 [(0, .ref 32), (1, .ref 21), (2, .int x2), (3, .int x3), (4, .int x4), (5, .int x5), (6, .int 0), (7, .int 0)] [] ρ S3) else CALLv g d mX2_keep [.ref 32, .ref 21, .int x2, .int x5] ρ ρ S (fun S4 => Q S4)) : CALLv g (d + 1) mX2_lay [.ref 32, .ref 21, .int x2, .int x3, .int x4, .int x5] ρ ρ S Q := by
  refine CALL.of mdX2_lay.2.2.2.2 (Nat.le_of_ble_eq_true rfl) (Nat.le_refl _) (Nat.le_refl _) ?_
  show AW g ρ (QV Q) (d + 1) mX2_lay 0 [(0, .ref 32), (1, .ref 21), (2, .int x2), (3, .int x3), (4, .int x4), (5, .int x5)] [] ρ S
  refine AW_iload_n 3 (n := 3) rfl dX2_lay_0 rfl ?_
  refine AW_if_lt dX2_lay_1 rfl (iteM h (fun h => ?_) (fun h => ?_))
  · refine AW_aload_n 0 (n := 0) rfl dX2_lay_17 rfl ?_
    refine AW_aload_n 1 (n := 1) rfl dX2_lay_18 rfl ?_
    refine AW_iload_n 2 (n := 2) rfl dX2_lay_19 rfl ?_
    refine AW_iload 5 dX2_lay_20 rfl ?_
    refine AW_callVv (M := mX2_lay) (pc := 22) (As := [.ref 21, .int x2, .int x5]) (ρ1 := ρ) (st := []) dX2_lay_22 mdX2_keep rfl mlX2_77 imX2_keep seX2_keep (rcv_of (q := (RX2, TX2, 8)) (Nat.le_of_ble_eq_true rfl) (okn hρ (Nat.le_of_ble_eq_true rfl)) rfl rfl) ⟨rfl, npX2_keep⟩ (Nat.le_of_ble_eq_true rfl) (Nat.le_refl _) (Nat.le_refl _) rfl (CALLv.mono h (fun S1 _ h => ?_))
    exact AW_retv dX2_lay_25 rfl h
  · refine AW_iload_n 3 (n := 3) rfl dX2_lay_4 rfl ?_
    refine AW_aload_n 1 (n := 1) rfl dX2_lay_5 rfl ?_
    refine AW_get dX2_lay_6 flX2_61 (Nat.le_of_ble_eq_true rfl) (okn hρ (Nat.le_of_ble_eq_true rfl)) rfl (v := .int (S.1 21 1)) (fun _ => rfl) ?_
    refine AW_icmp_ge dX2_lay_9 rfl (iteM h (fun h => ?_) (fun h => ?_))
    · refine AW_aload_n 0 (n := 0) rfl dX2_lay_17 rfl ?_
      refine AW_aload_n 1 (n := 1) rfl dX2_lay_18 rfl ?_
      refine AW_iload_n 2 (n := 2) rfl dX2_lay_19 rfl ?_
      refine AW_iload 5 dX2_lay_20 rfl ?_
      refine AW_callVv (M := mX2_lay) (pc := 22) (As := [.ref 21, .int x2, .int x5]) (ρ1 := ρ) (st := []) dX2_lay_22 mdX2_keep rfl mlX2_77 imX2_keep seX2_keep (rcv_of (q := (RX2, TX2, 8)) (Nat.le_of_ble_eq_true rfl) (okn hρ (Nat.le_of_ble_eq_true rfl)) rfl rfl) ⟨rfl, npX2_keep⟩ (Nat.le_of_ble_eq_true rfl) (Nat.le_refl _) (Nat.le_refl _) rfl (CALLv.mono h (fun S2 _ h => ?_))
      exact AW_retv dX2_lay_25 rfl h
    · refine AW_iload_n 3 (n := 3) rfl dX2_lay_12 rfl ?_
      refine AW_iconst (v := 4) dX2_lay_13 rfl ?_
      refine AW_icmp_lt dX2_lay_14 rfl (iteM h (fun h => ?_) (fun h => ?_))
      · refine AW_aload_n 1 (n := 1) rfl dX2_lay_26 rfl ?_
        refine AW_iload_n 2 (n := 2) rfl dX2_lay_27 rfl ?_
        refine AW_iload_n 3 (n := 3) rfl dX2_lay_28 rfl ?_
        refine AW_callVi (M := mX2_lay) (pc := 29) (As := [.int x2, .int x3]) (ρ1 := ρ) (st := []) dX2_lay_29 mdX9_isHole rfl mlX2_81 imX9_isHole seX9_isHole (rcv_of (q := (RX9, TX9, 10)) (Nat.le_of_ble_eq_true rfl) (okn hρ (Nat.le_of_ble_eq_true rfl)) rfl rfl) ⟨rfl, npX9_isHole⟩ (Nat.le_of_ble_eq_true rfl) (Nat.le_refl _) (Nat.le_refl _) rfl (CALLi.mono h (fun v3 S3 _ h => ?_))
        refine AW_if_eq dX2_lay_32 rfl (iteM h (fun h => ?_) (fun h => ?_))
        · refine AW_iload 4 dX2_lay_39 rfl ?_
          refine AW_aload_n 1 (n := 1) rfl dX2_lay_41 rfl ?_
          refine AW_get dX2_lay_42 flX2_64 (Nat.le_of_ble_eq_true rfl) (okn hρ (Nat.le_of_ble_eq_true rfl)) rfl (v := .ref 23) (fvR (okR hρ 11 rfl)) ?_
          refine AW_iload_n 3 (n := 3) rfl dX2_lay_45 rfl ?_
          refine AW_iaload dX2_lay_46 (Nat.le_of_ble_eq_true rfl) (okn hρ (Nat.le_of_ble_eq_true rfl)) rfl h.1 (v := S3.1 23 x3.toNatClampNeg) rfl ?_
          replace h := h.2
          refine AW_mminI (M := mX2_lay) (pc := 47) dX2_lay_47 mlX2_85 wmminIS wMath wmminIC (Nat.le_of_ble_eq_true rfl) ?_ (Nat.le_refl _) (Nat.le_refl _)
          refine AW_istore dX2_lay_50 (Nat.le_of_ble_eq_true rfl) rfl ?_
          refine AW_iload_n 4 (n := 3) rfl dX2_lay_52 rfl ?_
          refine AW_aload_n 2 (n := 1) rfl dX2_lay_53 rfl ?_
          refine AW_get dX2_lay_54 flX2_61 (Nat.le_of_ble_eq_true rfl) (okn hρ (Nat.le_of_ble_eq_true rfl)) rfl (v := .int (S3.1 21 1)) (fun _ => rfl) ?_
          refine AW_iconst (v := 1) dX2_lay_57 rfl ?_
          refine AW_isub dX2_lay_58 ?_
          refine AW_icmp_ne dX2_lay_59 rfl (iteM h (fun h => ?_) (fun h => ?_))
          · refine AW_iload 5 dX2_lay_62 rfl ?_
            refine AW_goto (tgt := 68) dX2_lay_64 rfl ?_
            refine AW_istore dX2_lay_68 (Nat.le_of_ble_eq_true rfl) rfl ?_
            exact AW.sub [2, 3, 4, 5, 6, 7, 1, 0] rfl h
          · refine AW_iconst (v := 0) dX2_lay_67 rfl ?_
            refine AW_istore dX2_lay_68 (Nat.le_of_ble_eq_true rfl) rfl ?_
            exact AW.sub [2, 3, 4, 5, 6, 7, 1, 0] rfl h
        · refine AW_iconst (v := 0) dX2_lay_35 rfl ?_
          refine AW_goto (tgt := 50) dX2_lay_36 rfl ?_
          refine AW_istore dX2_lay_50 (Nat.le_of_ble_eq_true rfl) rfl ?_
          refine AW_iload_n 4 (n := 3) rfl dX2_lay_52 rfl ?_
          refine AW_aload_n 2 (n := 1) rfl dX2_lay_53 rfl ?_
          refine AW_get dX2_lay_54 flX2_61 (Nat.le_of_ble_eq_true rfl) (okn hρ (Nat.le_of_ble_eq_true rfl)) rfl (v := .int (S3.1 21 1)) (fun _ => rfl) ?_
          refine AW_iconst (v := 1) dX2_lay_57 rfl ?_
          refine AW_isub dX2_lay_58 ?_
          refine AW_icmp_ne dX2_lay_59 rfl (iteM h (fun h => ?_) (fun h => ?_))
          · refine AW_iload 5 dX2_lay_62 rfl ?_
            refine AW_goto (tgt := 68) dX2_lay_64 rfl ?_
            refine AW_istore dX2_lay_68 (Nat.le_of_ble_eq_true rfl) rfl ?_
            exact AW.sub [2, 3, 4, 5, 6, 7, 1, 0] rfl h
          · refine AW_iconst (v := 0) dX2_lay_67 rfl ?_
            refine AW_istore dX2_lay_68 (Nat.le_of_ble_eq_true rfl) rfl ?_
            exact AW.sub [2, 3, 4, 5, 6, 7, 1, 0] rfl h
      · refine AW_aload_n 0 (n := 0) rfl dX2_lay_17 rfl ?_
        refine AW_aload_n 1 (n := 1) rfl dX2_lay_18 rfl ?_
        refine AW_iload_n 2 (n := 2) rfl dX2_lay_19 rfl ?_
        refine AW_iload 5 dX2_lay_20 rfl ?_
        refine AW_callVv (M := mX2_lay) (pc := 22) (As := [.ref 21, .int x2, .int x5]) (ρ1 := ρ) (st := []) dX2_lay_22 mdX2_keep rfl mlX2_77 imX2_keep seX2_keep (rcv_of (q := (RX2, TX2, 8)) (Nat.le_of_ble_eq_true rfl) (okn hρ (Nat.le_of_ble_eq_true rfl)) rfl rfl) ⟨rfl, npX2_keep⟩ (Nat.le_of_ble_eq_true rfl) (Nat.le_refl _) (Nat.le_refl _) rfl (CALLv.mono h (fun S4 _ h => ?_))
        exact AW_retv dX2_lay_25 rfl h
set_option maxRecDepth 20000 in
theorem eX2_keep_111 {g : GX} {Q : St → Prop} {d : Nat} {ρ : Rs} {S : St} (hρ : Ok ρ) {x2 : Int32} {x3 : Int32} {x4 : Int32} {x5 : Int32} (hF : ∀ k ∈ ([32, 35, 36, 38, 39, 40, 41] : List Nat), gF g k) (h : if (4 : Int32) ≤ x5 then Q (setI S 32 7 ((S.1 32 7) + 1)) else CALLi g d mX3_inLine [.int x3, .int x5] ρ ρ S (fun v1 S1 => vp_in (S1.1 32 7) 320 ∧ (vp_in (S1.1 32 7) 320 ∧ (vp_in (S1.1 32 7) 320 ∧ (vp_in x5 4 ∧ (vp_in (S1.1 32 7) 320 ∧ (vp_in x5 4 ∧ (vp_in (S1.1 32 7) 320 ∧ (CALLl g d mX2_factorial [.int v1] ρ ρ (setI (setI S1 35 ((S1.1 32 7).toNatClampNeg) ((S1.1 35 ((S1.1 32 7).toNatClampNeg)) ||| (v1 <<< ((6 * x5) &&& 31)))) 36 ((S1.1 32 7).toNatClampNeg) ((S1.1 36 ((S1.1 32 7).toNatClampNeg)) + (v1 * (S1.1 42 x5.toNatClampNeg)))) (fun v2 S2 => CALLl g d mX7_quotient [.long (S1.2 38 ((S1.1 32 7).toNatClampNeg)), .long v2] ρ ρ S2 (fun v3 S3 => vp_in (S1.1 32 7) 320 ∧ (vp_in (S3.1 32 7) 320 ∧ (CALLl g d mX7_quotient [.long (S3.2 32 6), .long (x4.toInt64 * ((S1.1 23 x5.toNatClampNeg).toInt64))] ρ ρ (setL S3 38 ((S1.1 32 7).toNatClampNeg) v3) (fun v4 S4 => vp_in (S3.1 32 7) 320 ∧ (vp_in (S4.1 32 7) 320 ∧ (vp_in (S4.1 32 7) 320 ∧ (vp_in (S4.1 32 7) 320 ∧ (vp_in (S4.1 32 7) 320 ∧ (AW g ρ (QV Q) (d + 1) mX2_keep 111 [(0, .ref 32), (1, .ref 21), (2, .int x2), (3, .int x3), (4, .int x4), (5, .int (x5 + 1))] [] ρ (setL (setL (setL S4 39 ((S3.1 32 7).toNatClampNeg) ((S3.2 39 ((S3.1 32 7).toNatClampNeg)) + (((v1 * v1).toInt64) * v4))) 40 ((S4.1 32 7).toNatClampNeg) ((S4.2 40 ((S4.1 32 7).toNatClampNeg)) + (((v1 * (x2 + 1)) * (x5 + 1)).toInt64))) 41 ((S4.1 32 7).toNatClampNeg) (if v1.toInt64 < (S4.2 41 ((S4.1 32 7).toNatClampNeg)) then (S4.2 41 ((S4.1 32 7).toNatClampNeg)) else v1.toInt64))))))))))))))))))))) : AW g ρ (QV Q) (d + 1) mX2_keep 111 [(0, .ref 32), (1, .ref 21), (2, .int x2), (3, .int x3), (4, .int x4), (5, .int x5)] [] ρ S := by
  refine AW_iload 5 dX2_keep_111 rfl ?_
  refine AW_iconst (v := 4) dX2_keep_113 rfl ?_
  refine AW_icmp_ge dX2_keep_114 rfl (iteM h (fun h => ?_) (fun h => ?_))
  · refine AW_aload_n 0 (n := 0) rfl dX2_keep_301 rfl ?_
    refine AW_dup dX2_keep_302 rfl ?_
    refine AW_get dX2_keep_303 flX2_39 (Nat.le_of_ble_eq_true rfl) (okn hρ (Nat.le_of_ble_eq_true rfl)) rfl (v := .int (S.1 32 7)) (fun _ => rfl) ?_
    refine AW_iconst (v := 1) dX2_keep_306 rfl ?_
    refine AW_iadd dX2_keep_307 ?_
    refine AW_put dX2_keep_308 flX2_39 fp_2_7 (Nat.le_of_ble_eq_true rfl) (okn hρ (Nat.le_of_ble_eq_true rfl)) rfl (fun _ => rfl) (fun _ => rfl) rfl rfl rfl rfl (Fr.setI _ _ _ rfl) (fun _ _ => rfl) (ρ2 := ρ) (S2 := setI S 32 7 ((S.1 32 7) + 1)) (fun _ => rfl) (fun _ _ _ q1 _ => fvI_o q1) (hF _ (List.mem_of_getElem? (i := 0) rfl)) ?_
    exact AW_retv dX2_keep_311 rfl h
  · refine AW_iload_n 3 (n := 3) rfl dX2_keep_117 rfl ?_
    refine AW_iload 5 dX2_keep_118 rfl ?_
    refine AW_callSi (M := mX2_keep) (pc := 120) (As := [.int x3, .int x5]) (ρ1 := ρ) (st := []) dX2_keep_120 mdX3_inLine mlX2_98 smX3_inLine ⟨rfl, npX3_inLine⟩ (Nat.le_of_ble_eq_true rfl) (Nat.le_refl _) (Nat.le_refl _) rfl (CALLi.mono h (fun v1 S1 _ h => ?_))
    refine AW_istore dX2_keep_123 (Nat.le_of_ble_eq_true rfl) rfl ?_
    refine AW_aload_n 1 (n := 0) rfl dX2_keep_125 rfl ?_
    refine AW_get dX2_keep_126 flX2_18 (Nat.le_of_ble_eq_true rfl) (okn hρ (Nat.le_of_ble_eq_true rfl)) rfl (v := .ref 35) (fvR (okR hρ 31 rfl)) ?_
    refine AW_aload_n 1 (n := 0) rfl dX2_keep_129 rfl ?_
    refine AW_get dX2_keep_130 flX2_39 (Nat.le_of_ble_eq_true rfl) (okn hρ (Nat.le_of_ble_eq_true rfl)) rfl (v := .int (S1.1 32 7)) (fun _ => rfl) ?_
    refine AW_dup2_11 dX2_keep_133 rfl rfl ?_
    refine AW_iaload dX2_keep_134 (Nat.le_of_ble_eq_true rfl) (okn hρ (Nat.le_of_ble_eq_true rfl)) rfl h.1 (v := S1.1 35 ((S1.1 32 7).toNatClampNeg)) rfl ?_
    replace h := h.2
    refine AW_iload 0 dX2_keep_135 rfl ?_
    refine AW_bipush (v := 6) dX2_keep_137 rfl ?_
    refine AW_iload 6 dX2_keep_139 rfl ?_
    refine AW_imul dX2_keep_141 ?_
    refine AW_ishl dX2_keep_142 ?_
    refine AW_ior dX2_keep_143 ?_
    refine AW_iastore dX2_keep_144 (Nat.le_of_ble_eq_true rfl) (okn hρ (Nat.le_of_ble_eq_true rfl)) rfl h.1 (hF _ (List.mem_of_getElem? (i := 1) rfl)) (jx := (S1.1 32 7).toNatClampNeg) rfl ?_
    replace h := h.2
    refine AW_aload_n 1 (n := 0) rfl dX2_keep_145 rfl ?_
    refine AW_get dX2_keep_146 flX2_21 (Nat.le_of_ble_eq_true rfl) (okn hρ (Nat.le_of_ble_eq_true rfl)) rfl (v := .ref 36) (fvR (okR hρ 32 rfl)) ?_
    refine AW_aload_n 1 (n := 0) rfl dX2_keep_149 rfl ?_
    refine AW_get dX2_keep_150 flX2_39 (Nat.le_of_ble_eq_true rfl) (okn hρ (Nat.le_of_ble_eq_true rfl)) rfl (v := .int (S1.1 32 7)) (fun _ => rfl) ?_
    refine AW_dup2_11 dX2_keep_153 rfl rfl ?_
    refine AW_iaload dX2_keep_154 (Nat.le_of_ble_eq_true rfl) (okn hρ (Nat.le_of_ble_eq_true rfl)) rfl h.1 (v := S1.1 36 ((S1.1 32 7).toNatClampNeg)) rfl ?_
    replace h := h.2
    refine AW_iload 0 dX2_keep_155 rfl ?_
    refine AW_aload_n 1 (n := 0) rfl dX2_keep_157 rfl ?_
    refine AW_get dX2_keep_158 flX2_29 (Nat.le_of_ble_eq_true rfl) (okn hρ (Nat.le_of_ble_eq_true rfl)) rfl (v := .ref 42) (fvR (okR hρ 34 rfl)) ?_
    refine AW_iload 6 dX2_keep_161 rfl ?_
    refine AW_iaload dX2_keep_163 (Nat.le_of_ble_eq_true rfl) (okn hρ (Nat.le_of_ble_eq_true rfl)) rfl h.1 (v := S1.1 42 x5.toNatClampNeg) rfl ?_
    replace h := h.2
    refine AW_imul dX2_keep_164 ?_
    refine AW_iadd dX2_keep_165 ?_
    refine AW_iastore dX2_keep_166 (Nat.le_of_ble_eq_true rfl) (okn hρ (Nat.le_of_ble_eq_true rfl)) rfl h.1 (hF _ (List.mem_of_getElem? (i := 2) rfl)) (jx := (S1.1 32 7).toNatClampNeg) rfl ?_
    replace h := h.2
    refine AW_iload 5 dX2_keep_167 rfl ?_
    refine AW_i2l dX2_keep_169 ?_
    refine AW_aload_n 2 (n := 1) rfl dX2_keep_170 rfl ?_
    refine AW_get dX2_keep_171 flX2_64 (Nat.le_of_ble_eq_true rfl) (okn hρ (Nat.le_of_ble_eq_true rfl)) rfl (v := .ref 23) (fvR (okR hρ 11 rfl)) ?_
    refine AW_iload 6 dX2_keep_174 rfl ?_
    refine AW_iaload dX2_keep_176 (Nat.le_of_ble_eq_true rfl) (okn hρ (Nat.le_of_ble_eq_true rfl)) rfl h.1 (v := S1.1 23 x5.toNatClampNeg) rfl ?_
    replace h := h.2
    refine AW_i2l dX2_keep_177 ?_
    refine AW_lmul dX2_keep_178 ?_
    refine AW_lstore dX2_keep_179 (Nat.le_of_ble_eq_true rfl) rfl ?_
    refine AW_aload_n 2 (n := 0) rfl dX2_keep_181 rfl ?_
    refine AW_get dX2_keep_182 flX2_26 (Nat.le_of_ble_eq_true rfl) (okn hρ (Nat.le_of_ble_eq_true rfl)) rfl (v := .ref 37) (fvR (okR hρ 33 rfl)) ?_
    refine AW_iconst (v := 0) dX2_keep_185 rfl ?_
    refine AW_aaload dX2_keep_186 (Nat.le_of_ble_eq_true rfl) (okn hρ (Nat.le_of_ble_eq_true rfl)) rfl (show ¬ (_ ∨ _) by decide) (okR hρ 35 rfl) ?_
    refine AW_aload_n 2 (n := 0) rfl dX2_keep_187 rfl ?_
    refine AW_get dX2_keep_188 flX2_39 (Nat.le_of_ble_eq_true rfl) (okn hρ (Nat.le_of_ble_eq_true rfl)) rfl (v := .int (S1.1 32 7)) (fun _ => rfl) ?_
    refine AW_aload_n 2 (n := 0) rfl dX2_keep_191 rfl ?_
    refine AW_get dX2_keep_192 flX2_26 (Nat.le_of_ble_eq_true rfl) (okn hρ (Nat.le_of_ble_eq_true rfl)) rfl (v := .ref 37) (fvR (okR hρ 33 rfl)) ?_
    refine AW_iconst (v := 0) dX2_keep_195 rfl ?_
    refine AW_aaload dX2_keep_196 (Nat.le_of_ble_eq_true rfl) (okn hρ (Nat.le_of_ble_eq_true rfl)) rfl (show ¬ (_ ∨ _) by decide) (okR hρ 35 rfl) ?_
    refine AW_aload_n 2 (n := 0) rfl dX2_keep_197 rfl ?_
    refine AW_get dX2_keep_198 flX2_39 (Nat.le_of_ble_eq_true rfl) (okn hρ (Nat.le_of_ble_eq_true rfl)) rfl (v := .int (S1.1 32 7)) (fun _ => rfl) ?_
    refine AW_laload dX2_keep_201 (Nat.le_of_ble_eq_true rfl) (okn hρ (Nat.le_of_ble_eq_true rfl)) rfl h.1 (v := S1.2 38 ((S1.1 32 7).toNatClampNeg)) rfl ?_
    replace h := h.2
    refine AW_iload 1 dX2_keep_202 rfl ?_
    refine AW_callSl (M := mX2_keep) (pc := 204) (As := [.int v1]) (ρ1 := ρ) (st := [.long (S1.2 38 ((S1.1 32 7).toNatClampNeg)), .int (S1.1 32 7), .ref 38]) dX2_keep_204 mdX2_factorial mlX2_94 smX2_factorial ⟨rfl, npX2_factorial⟩ (Nat.le_of_ble_eq_true rfl) (Nat.le_refl _) (Nat.le_refl _) rfl (CALLl.mono h (fun v2 S2 _ h => ?_))
    refine AW_callSl (M := mX2_keep) (pc := 207) (As := [.long (S1.2 38 ((S1.1 32 7).toNatClampNeg)), .long v2]) (ρ1 := ρ) (st := [.int (S1.1 32 7), .ref 38]) dX2_keep_207 mdX7_quotient mlX2_101 smX7_quotient ⟨rfl, npX7_quotient⟩ (Nat.le_of_ble_eq_true rfl) (Nat.le_refl _) (Nat.le_refl _) rfl (CALLl.mono h (fun v3 S3 _ h => ?_))
    refine AW_lastore dX2_keep_210 (Nat.le_of_ble_eq_true rfl) (okn hρ (Nat.le_of_ble_eq_true rfl)) rfl h.1 (hF _ (List.mem_of_getElem? (i := 3) rfl)) (jx := (S1.1 32 7).toNatClampNeg) rfl ?_
    replace h := h.2
    refine AW_aload_n 2 (n := 0) rfl dX2_keep_211 rfl ?_
    refine AW_get dX2_keep_212 flX2_26 (Nat.le_of_ble_eq_true rfl) (okn hρ (Nat.le_of_ble_eq_true rfl)) rfl (v := .ref 37) (fvR (okR hρ 33 rfl)) ?_
    refine AW_iconst (v := 1) dX2_keep_215 rfl ?_
    refine AW_aaload dX2_keep_216 (Nat.le_of_ble_eq_true rfl) (okn hρ (Nat.le_of_ble_eq_true rfl)) rfl (show ¬ (_ ∨ _) by decide) (okR hρ 36 rfl) ?_
    refine AW_aload_n 2 (n := 0) rfl dX2_keep_217 rfl ?_
    refine AW_get dX2_keep_218 flX2_39 (Nat.le_of_ble_eq_true rfl) (okn hρ (Nat.le_of_ble_eq_true rfl)) rfl (v := .int (S3.1 32 7)) (fun _ => rfl) ?_
    refine AW_dup2_11 dX2_keep_221 rfl rfl ?_
    refine AW_laload dX2_keep_222 (Nat.le_of_ble_eq_true rfl) (okn hρ (Nat.le_of_ble_eq_true rfl)) rfl h.1 (v := S3.2 39 ((S3.1 32 7).toNatClampNeg)) rfl ?_
    replace h := h.2
    refine AW_iload 1 dX2_keep_223 rfl ?_
    refine AW_iload 1 dX2_keep_225 rfl ?_
    refine AW_imul dX2_keep_227 ?_
    refine AW_i2l dX2_keep_228 ?_
    refine AW_aload_n 2 (n := 0) rfl dX2_keep_229 rfl ?_
    refine AW_get dX2_keep_230 flX2_67 (Nat.le_of_ble_eq_true rfl) (okn hρ (Nat.le_of_ble_eq_true rfl)) rfl (v := .long (S3.2 32 6)) (fun _ => rfl) ?_
    refine AW_lload 0 dX2_keep_233 rfl ?_
    refine AW_callSl (M := mX2_keep) (pc := 235) (As := [.long (S3.2 32 6), .long (x4.toInt64 * ((S1.1 23 x5.toNatClampNeg).toInt64))]) (ρ1 := ρ) (st := [.long ((v1 * v1).toInt64), .long (S3.2 39 ((S3.1 32 7).toNatClampNeg)), .int (S3.1 32 7), .ref 39]) dX2_keep_235 mdX7_quotient mlX2_101 smX7_quotient ⟨rfl, npX7_quotient⟩ (Nat.le_of_ble_eq_true rfl) (Nat.le_refl _) (Nat.le_refl _) rfl (CALLl.mono h (fun v4 S4 _ h => ?_))
    refine AW_lmul dX2_keep_238 ?_
    refine AW_ladd dX2_keep_239 ?_
    refine AW_lastore dX2_keep_240 (Nat.le_of_ble_eq_true rfl) (okn hρ (Nat.le_of_ble_eq_true rfl)) rfl h.1 (hF _ (List.mem_of_getElem? (i := 4) rfl)) (jx := (S3.1 32 7).toNatClampNeg) rfl ?_
    replace h := h.2
    refine AW_aload_n 2 (n := 0) rfl dX2_keep_241 rfl ?_
    refine AW_get dX2_keep_242 flX2_26 (Nat.le_of_ble_eq_true rfl) (okn hρ (Nat.le_of_ble_eq_true rfl)) rfl (v := .ref 37) (fvR (okR hρ 33 rfl)) ?_
    refine AW_iconst (v := 2) dX2_keep_245 rfl ?_
    refine AW_aaload dX2_keep_246 (Nat.le_of_ble_eq_true rfl) (okn hρ (Nat.le_of_ble_eq_true rfl)) rfl (show ¬ (_ ∨ _) by decide) (okR hρ 37 rfl) ?_
    refine AW_aload_n 2 (n := 0) rfl dX2_keep_247 rfl ?_
    refine AW_get dX2_keep_248 flX2_39 (Nat.le_of_ble_eq_true rfl) (okn hρ (Nat.le_of_ble_eq_true rfl)) rfl (v := .int (S4.1 32 7)) (fun _ => rfl) ?_
    refine AW_dup2_11 dX2_keep_251 rfl rfl ?_
    refine AW_laload dX2_keep_252 (Nat.le_of_ble_eq_true rfl) (okn hρ (Nat.le_of_ble_eq_true rfl)) rfl h.1 (v := S4.2 40 ((S4.1 32 7).toNatClampNeg)) rfl ?_
    replace h := h.2
    refine AW_iload 1 dX2_keep_253 rfl ?_
    refine AW_iload_n 4 (n := 2) rfl dX2_keep_255 rfl ?_
    refine AW_iconst (v := 1) dX2_keep_256 rfl ?_
    refine AW_iadd dX2_keep_257 ?_
    refine AW_imul dX2_keep_258 ?_
    refine AW_iload 7 dX2_keep_259 rfl ?_
    refine AW_iconst (v := 1) dX2_keep_261 rfl ?_
    refine AW_iadd dX2_keep_262 ?_
    refine AW_imul dX2_keep_263 ?_
    refine AW_i2l dX2_keep_264 ?_
    refine AW_ladd dX2_keep_265 ?_
    refine AW_lastore dX2_keep_266 (Nat.le_of_ble_eq_true rfl) (okn hρ (Nat.le_of_ble_eq_true rfl)) rfl h.1 (hF _ (List.mem_of_getElem? (i := 5) rfl)) (jx := (S4.1 32 7).toNatClampNeg) rfl ?_
    replace h := h.2
    refine AW_aload_n 2 (n := 0) rfl dX2_keep_267 rfl ?_
    refine AW_get dX2_keep_268 flX2_26 (Nat.le_of_ble_eq_true rfl) (okn hρ (Nat.le_of_ble_eq_true rfl)) rfl (v := .ref 37) (fvR (okR hρ 33 rfl)) ?_
    refine AW_iconst (v := 3) dX2_keep_271 rfl ?_
    refine AW_aaload dX2_keep_272 (Nat.le_of_ble_eq_true rfl) (okn hρ (Nat.le_of_ble_eq_true rfl)) rfl (show ¬ (_ ∨ _) by decide) (okR hρ 38 rfl) ?_
    refine AW_aload_n 2 (n := 0) rfl dX2_keep_273 rfl ?_
    refine AW_get dX2_keep_274 flX2_39 (Nat.le_of_ble_eq_true rfl) (okn hρ (Nat.le_of_ble_eq_true rfl)) rfl (v := .int (S4.1 32 7)) (fun _ => rfl) ?_
    refine AW_aload_n 2 (n := 0) rfl dX2_keep_277 rfl ?_
    refine AW_get dX2_keep_278 flX2_26 (Nat.le_of_ble_eq_true rfl) (okn hρ (Nat.le_of_ble_eq_true rfl)) rfl (v := .ref 37) (fvR (okR hρ 33 rfl)) ?_
    refine AW_iconst (v := 3) dX2_keep_281 rfl ?_
    refine AW_aaload dX2_keep_282 (Nat.le_of_ble_eq_true rfl) (okn hρ (Nat.le_of_ble_eq_true rfl)) rfl (show ¬ (_ ∨ _) by decide) (okR hρ 38 rfl) ?_
    refine AW_aload_n 2 (n := 0) rfl dX2_keep_283 rfl ?_
    refine AW_get dX2_keep_284 flX2_39 (Nat.le_of_ble_eq_true rfl) (okn hρ (Nat.le_of_ble_eq_true rfl)) rfl (v := .int (S4.1 32 7)) (fun _ => rfl) ?_
    refine AW_laload dX2_keep_287 (Nat.le_of_ble_eq_true rfl) (okn hρ (Nat.le_of_ble_eq_true rfl)) rfl h.1 (v := S4.2 41 ((S4.1 32 7).toNatClampNeg)) rfl ?_
    replace h := h.2
    refine AW_iload 1 dX2_keep_288 rfl ?_
    refine AW_i2l dX2_keep_290 ?_
    refine AW_mmaxL (M := mX2_keep) (pc := 291) dX2_keep_291 mlX2_107 wmmaxLS wMath wmmaxLC (Nat.le_of_ble_eq_true rfl) ?_ (Nat.le_refl _) (Nat.le_refl _)
    refine AW_lastore dX2_keep_294 (Nat.le_of_ble_eq_true rfl) (okn hρ (Nat.le_of_ble_eq_true rfl)) rfl h.1 (hF _ (List.mem_of_getElem? (i := 6) rfl)) (jx := (S4.1 32 7).toNatClampNeg) rfl ?_
    replace h := h.2
    refine AW_iinc 7 (v := x5 + 1) dX2_keep_295 rfl rfl (Nat.le_of_ble_eq_true rfl) rfl ?_
    refine AW_goto (tgt := 111) dX2_keep_298 rfl ?_
    exact AW.sub [3, 4, 5, 6, 7, 0] rfl h
set_option maxRecDepth 20000 in
theorem eX2_keep {g : GX} {Q : St → Prop} {d : Nat} {ρ : Rs} {S : St} (hρ : Ok ρ) {x2 : Int32} {x3 : Int32} (hF : ∀ k ∈ ([34, 35, 36, 38, 39, 40, 41] : List Nat), gF g k) (h : if (S.1 32 7) < 0 then Q S else if (S.1 32 7) < 320 then vp_in (S.1 32 7) 320 ∧ (vp_in (S.1 32 7) 320 ∧ (vp_in (S.1 32 7) 320 ∧ (vp_in x2 4 ∧ (CALLl g d mX2_factorial [.int (S.1 22 x2.toNatClampNeg)] ρ ρ (setI (setI (setI S 34 ((S.1 32 7).toNatClampNeg) x3) 35 ((S.1 32 7).toNatClampNeg) 0) 36 ((S.1 32 7).toNatClampNeg) 0) (fun v1 S1 => vp_in (S.1 32 7) 320 ∧ (vp_in (S1.1 32 7) 320 ∧ (vp_in (S1.1 32 7) 320 ∧ (vp_in (S1.1 32 7) 320 ∧ (AW g ρ (QV Q) (d + 1) mX2_keep 111 [(0, .ref 32), (1, .ref 21), (2, .int x2), (3, .int x3), (4, .int (S.1 22 x2.toNatClampNeg)), (5, .int 0)] [] ρ (setL (setL (setL (setL S1 38 ((S.1 32 7).toNatClampNeg) v1) 39 ((S1.1 32 7).toNatClampNeg) 0) 40 ((S1.1 32 7).toNatClampNeg) 0) 41 ((S1.1 32 7).toNatClampNeg) 0)))))))))) else Q S) : CALLv g (d + 1) mX2_keep [.ref 32, .ref 21, .int x2, .int x3] ρ ρ S Q := by
  refine CALL.of mdX2_keep.2.2.2.2 (Nat.le_of_ble_eq_true rfl) (Nat.le_refl _) (Nat.le_refl _) ?_
  show AW g ρ (QV Q) (d + 1) mX2_keep 0 [(0, .ref 32), (1, .ref 21), (2, .int x2), (3, .int x3)] [] ρ S
  refine AW_aload_n 0 (n := 0) rfl dX2_keep_0 rfl ?_
  refine AW_get dX2_keep_1 flX2_39 (Nat.le_of_ble_eq_true rfl) (okn hρ (Nat.le_of_ble_eq_true rfl)) rfl (v := .int (S.1 32 7)) (fun _ => rfl) ?_
  refine AW_if_lt dX2_keep_4 rfl (iteM h (fun h => ?_) (fun h => ?_))
  · exact AW_retv dX2_keep_17 rfl h
  · refine AW_aload_n 0 (n := 0) rfl dX2_keep_7 rfl ?_
    refine AW_get dX2_keep_8 flX2_39 (Nat.le_of_ble_eq_true rfl) (okn hρ (Nat.le_of_ble_eq_true rfl)) rfl (v := .int (S.1 32 7)) (fun _ => rfl) ?_
    refine AW_sipush (v := 320) dX2_keep_11 rfl ?_
    refine AW_icmp_lt dX2_keep_14 rfl (iteM h (fun h => ?_) (fun h => ?_))
    · refine AW_aload_n 0 (n := 0) rfl dX2_keep_18 rfl ?_
      refine AW_get dX2_keep_19 flX2_15 (Nat.le_of_ble_eq_true rfl) (okn hρ (Nat.le_of_ble_eq_true rfl)) rfl (v := .ref 34) (fvR (okR hρ 30 rfl)) ?_
      refine AW_aload_n 0 (n := 0) rfl dX2_keep_22 rfl ?_
      refine AW_get dX2_keep_23 flX2_39 (Nat.le_of_ble_eq_true rfl) (okn hρ (Nat.le_of_ble_eq_true rfl)) rfl (v := .int (S.1 32 7)) (fun _ => rfl) ?_
      refine AW_iload_n 3 (n := 3) rfl dX2_keep_26 rfl ?_
      refine AW_iastore dX2_keep_27 (Nat.le_of_ble_eq_true rfl) (okn hρ (Nat.le_of_ble_eq_true rfl)) rfl h.1 (hF _ (List.mem_of_getElem? (i := 0) rfl)) (jx := (S.1 32 7).toNatClampNeg) rfl ?_
      replace h := h.2
      refine AW_aload_n 0 (n := 0) rfl dX2_keep_28 rfl ?_
      refine AW_get dX2_keep_29 flX2_18 (Nat.le_of_ble_eq_true rfl) (okn hρ (Nat.le_of_ble_eq_true rfl)) rfl (v := .ref 35) (fvR (okR hρ 31 rfl)) ?_
      refine AW_aload_n 0 (n := 0) rfl dX2_keep_32 rfl ?_
      refine AW_get dX2_keep_33 flX2_39 (Nat.le_of_ble_eq_true rfl) (okn hρ (Nat.le_of_ble_eq_true rfl)) rfl (v := .int (S.1 32 7)) (fun _ => rfl) ?_
      refine AW_iconst (v := 0) dX2_keep_36 rfl ?_
      refine AW_iastore dX2_keep_37 (Nat.le_of_ble_eq_true rfl) (okn hρ (Nat.le_of_ble_eq_true rfl)) rfl h.1 (hF _ (List.mem_of_getElem? (i := 1) rfl)) (jx := (S.1 32 7).toNatClampNeg) rfl ?_
      replace h := h.2
      refine AW_aload_n 0 (n := 0) rfl dX2_keep_38 rfl ?_
      refine AW_get dX2_keep_39 flX2_21 (Nat.le_of_ble_eq_true rfl) (okn hρ (Nat.le_of_ble_eq_true rfl)) rfl (v := .ref 36) (fvR (okR hρ 32 rfl)) ?_
      refine AW_aload_n 0 (n := 0) rfl dX2_keep_42 rfl ?_
      refine AW_get dX2_keep_43 flX2_39 (Nat.le_of_ble_eq_true rfl) (okn hρ (Nat.le_of_ble_eq_true rfl)) rfl (v := .int (S.1 32 7)) (fun _ => rfl) ?_
      refine AW_iconst (v := 0) dX2_keep_46 rfl ?_
      refine AW_iastore dX2_keep_47 (Nat.le_of_ble_eq_true rfl) (okn hρ (Nat.le_of_ble_eq_true rfl)) rfl h.1 (hF _ (List.mem_of_getElem? (i := 2) rfl)) (jx := (S.1 32 7).toNatClampNeg) rfl ?_
      replace h := h.2
      refine AW_aload_n 1 (n := 1) rfl dX2_keep_48 rfl ?_
      refine AW_get dX2_keep_49 flX2_48 (Nat.le_of_ble_eq_true rfl) (okn hρ (Nat.le_of_ble_eq_true rfl)) rfl (v := .ref 22) (fvR (okR hρ 10 rfl)) ?_
      refine AW_iload_n 2 (n := 2) rfl dX2_keep_52 rfl ?_
      refine AW_iaload dX2_keep_53 (Nat.le_of_ble_eq_true rfl) (okn hρ (Nat.le_of_ble_eq_true rfl)) rfl h.1 (v := S.1 22 x2.toNatClampNeg) rfl ?_
      replace h := h.2
      refine AW_istore dX2_keep_54 (Nat.le_of_ble_eq_true rfl) rfl ?_
      refine AW_aload_n 1 (n := 0) rfl dX2_keep_56 rfl ?_
      refine AW_get dX2_keep_57 flX2_26 (Nat.le_of_ble_eq_true rfl) (okn hρ (Nat.le_of_ble_eq_true rfl)) rfl (v := .ref 37) (fvR (okR hρ 33 rfl)) ?_
      refine AW_iconst (v := 0) dX2_keep_60 rfl ?_
      refine AW_aaload dX2_keep_61 (Nat.le_of_ble_eq_true rfl) (okn hρ (Nat.le_of_ble_eq_true rfl)) rfl (show ¬ (_ ∨ _) by decide) (okR hρ 35 rfl) ?_
      refine AW_aload_n 1 (n := 0) rfl dX2_keep_62 rfl ?_
      refine AW_get dX2_keep_63 flX2_39 (Nat.le_of_ble_eq_true rfl) (okn hρ (Nat.le_of_ble_eq_true rfl)) rfl (v := .int (S.1 32 7)) (fun _ => rfl) ?_
      refine AW_iload 0 dX2_keep_66 rfl ?_
      refine AW_callSl (M := mX2_keep) (pc := 68) (As := [.int (S.1 22 x2.toNatClampNeg)]) (ρ1 := ρ) (st := [.int (S.1 32 7), .ref 38]) dX2_keep_68 mdX2_factorial mlX2_94 smX2_factorial ⟨rfl, npX2_factorial⟩ (Nat.le_of_ble_eq_true rfl) (Nat.le_refl _) (Nat.le_refl _) rfl (CALLl.mono h (fun v1 S1 _ h => ?_))
      refine AW_lastore dX2_keep_71 (Nat.le_of_ble_eq_true rfl) (okn hρ (Nat.le_of_ble_eq_true rfl)) rfl h.1 (hF _ (List.mem_of_getElem? (i := 3) rfl)) (jx := (S.1 32 7).toNatClampNeg) rfl ?_
      replace h := h.2
      refine AW_aload_n 1 (n := 0) rfl dX2_keep_72 rfl ?_
      refine AW_get dX2_keep_73 flX2_26 (Nat.le_of_ble_eq_true rfl) (okn hρ (Nat.le_of_ble_eq_true rfl)) rfl (v := .ref 37) (fvR (okR hρ 33 rfl)) ?_
      refine AW_iconst (v := 1) dX2_keep_76 rfl ?_
      refine AW_aaload dX2_keep_77 (Nat.le_of_ble_eq_true rfl) (okn hρ (Nat.le_of_ble_eq_true rfl)) rfl (show ¬ (_ ∨ _) by decide) (okR hρ 36 rfl) ?_
      refine AW_aload_n 1 (n := 0) rfl dX2_keep_78 rfl ?_
      refine AW_get dX2_keep_79 flX2_39 (Nat.le_of_ble_eq_true rfl) (okn hρ (Nat.le_of_ble_eq_true rfl)) rfl (v := .int (S1.1 32 7)) (fun _ => rfl) ?_
      refine AW_lconst (v := 0) dX2_keep_82 rfl ?_
      refine AW_lastore dX2_keep_83 (Nat.le_of_ble_eq_true rfl) (okn hρ (Nat.le_of_ble_eq_true rfl)) rfl h.1 (hF _ (List.mem_of_getElem? (i := 4) rfl)) (jx := (S1.1 32 7).toNatClampNeg) rfl ?_
      replace h := h.2
      refine AW_aload_n 1 (n := 0) rfl dX2_keep_84 rfl ?_
      refine AW_get dX2_keep_85 flX2_26 (Nat.le_of_ble_eq_true rfl) (okn hρ (Nat.le_of_ble_eq_true rfl)) rfl (v := .ref 37) (fvR (okR hρ 33 rfl)) ?_
      refine AW_iconst (v := 2) dX2_keep_88 rfl ?_
      refine AW_aaload dX2_keep_89 (Nat.le_of_ble_eq_true rfl) (okn hρ (Nat.le_of_ble_eq_true rfl)) rfl (show ¬ (_ ∨ _) by decide) (okR hρ 37 rfl) ?_
      refine AW_aload_n 1 (n := 0) rfl dX2_keep_90 rfl ?_
      refine AW_get dX2_keep_91 flX2_39 (Nat.le_of_ble_eq_true rfl) (okn hρ (Nat.le_of_ble_eq_true rfl)) rfl (v := .int (S1.1 32 7)) (fun _ => rfl) ?_
      refine AW_lconst (v := 0) dX2_keep_94 rfl ?_
      refine AW_lastore dX2_keep_95 (Nat.le_of_ble_eq_true rfl) (okn hρ (Nat.le_of_ble_eq_true rfl)) rfl h.1 (hF _ (List.mem_of_getElem? (i := 5) rfl)) (jx := (S1.1 32 7).toNatClampNeg) rfl ?_
      replace h := h.2
      refine AW_aload_n 1 (n := 0) rfl dX2_keep_96 rfl ?_
      refine AW_get dX2_keep_97 flX2_26 (Nat.le_of_ble_eq_true rfl) (okn hρ (Nat.le_of_ble_eq_true rfl)) rfl (v := .ref 37) (fvR (okR hρ 33 rfl)) ?_
      refine AW_iconst (v := 3) dX2_keep_100 rfl ?_
      refine AW_aaload dX2_keep_101 (Nat.le_of_ble_eq_true rfl) (okn hρ (Nat.le_of_ble_eq_true rfl)) rfl (show ¬ (_ ∨ _) by decide) (okR hρ 38 rfl) ?_
      refine AW_aload_n 1 (n := 0) rfl dX2_keep_102 rfl ?_
      refine AW_get dX2_keep_103 flX2_39 (Nat.le_of_ble_eq_true rfl) (okn hρ (Nat.le_of_ble_eq_true rfl)) rfl (v := .int (S1.1 32 7)) (fun _ => rfl) ?_
      refine AW_lconst (v := 0) dX2_keep_106 rfl ?_
      refine AW_lastore dX2_keep_107 (Nat.le_of_ble_eq_true rfl) (okn hρ (Nat.le_of_ble_eq_true rfl)) rfl h.1 (hF _ (List.mem_of_getElem? (i := 6) rfl)) (jx := (S1.1 32 7).toNatClampNeg) rfl ?_
      replace h := h.2
      refine AW_iconst (v := 0) dX2_keep_108 rfl ?_
      refine AW_istore dX2_keep_109 (Nat.le_of_ble_eq_true rfl) rfl ?_
      exact AW.sub [2, 3, 4, 5, 1, 0] rfl h
    · exact AW_retv dX2_keep_17 rfl h
set_option maxRecDepth 20000 in
theorem eX2_factorial {g : GX} {Q : Int64 → St → Prop} {d : Nat} {ρ : Rs} {S : St} (hρ : Ok ρ) {x0 : Int32} (h : if x0 < 0 then Q 1 S else if (21 : Int32) ≤ x0 then Q 1 S else vp_in x0 21 ∧ (Q (facL.getD x0.toNatClampNeg 0) S)) : CALLl g d mX2_factorial [.int x0] ρ ρ S Q := by
  refine CALL.of mdX2_factorial.2.2.2.2 (Nat.le_of_ble_eq_true rfl) (Nat.le_refl _) (Nat.le_refl _) ?_
  show AW g ρ (QJ Q) d mX2_factorial 0 [(0, .int x0)] [] ρ S
  refine AW_iload_n 0 (n := 0) rfl dX2_factorial_0 rfl ?_
  refine AW_if_lt dX2_factorial_1 rfl (iteM h (fun h => ?_) (fun h => ?_))
  · refine AW_lconst (v := 1) dX2_factorial_20 rfl ?_
    exact AW_retl dX2_factorial_21 rfl h
  · refine AW_iload_n 0 (n := 0) rfl dX2_factorial_4 rfl ?_
    refine AW_getF dX2_factorial_5 flX2_109 ?_
    refine AW_faclen dX2_factorial_8 ?_
    refine AW_icmp_ge dX2_factorial_9 rfl (iteM h (fun h => ?_) (fun h => ?_))
    · refine AW_lconst (v := 1) dX2_factorial_20 rfl ?_
      exact AW_retl dX2_factorial_21 rfl h
    · refine AW_getF dX2_factorial_12 flX2_109 ?_
      refine AW_iload_n 0 (n := 0) rfl dX2_factorial_15 rfl ?_
      refine AW_facld dX2_factorial_16 h.1 ?_
      replace h := h.2
      refine AW_goto (tgt := 21) dX2_factorial_17 rfl ?_
      exact AW_retl dX2_factorial_21 rfl h
