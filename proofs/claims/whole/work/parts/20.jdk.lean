set_option maxRecDepth 20000 in
theorem eJ6_bitCount_0f7a4 {g : GX} {Q : Int32 → St → Prop} {d : Nat} {ρ : Rs} {S : St} (hρ : Ok ρ) {x0 : Int32} (h : Q ((((((((x0 - (((x0.toUInt32 >>> ((1 : Int32).toUInt32 &&& Int32.toUInt32 31)).toInt32) &&& 1431655765)) &&& 858993459) + ((((x0 - (((x0.toUInt32 >>> ((1 : Int32).toUInt32 &&& Int32.toUInt32 31)).toInt32) &&& 1431655765)).toUInt32 >>> ((2 : Int32).toUInt32 &&& Int32.toUInt32 31)).toInt32) &&& 858993459)) + (((((x0 - (((x0.toUInt32 >>> ((1 : Int32).toUInt32 &&& Int32.toUInt32 31)).toInt32) &&& 1431655765)) &&& 858993459) + ((((x0 - (((x0.toUInt32 >>> ((1 : Int32).toUInt32 &&& Int32.toUInt32 31)).toInt32) &&& 1431655765)).toUInt32 >>> ((2 : Int32).toUInt32 &&& Int32.toUInt32 31)).toInt32) &&& 858993459)).toUInt32 >>> ((4 : Int32).toUInt32 &&& Int32.toUInt32 31)).toInt32)) &&& 252645135) + (((((((x0 - (((x0.toUInt32 >>> ((1 : Int32).toUInt32 &&& Int32.toUInt32 31)).toInt32) &&& 1431655765)) &&& 858993459) + ((((x0 - (((x0.toUInt32 >>> ((1 : Int32).toUInt32 &&& Int32.toUInt32 31)).toInt32) &&& 1431655765)).toUInt32 >>> ((2 : Int32).toUInt32 &&& Int32.toUInt32 31)).toInt32) &&& 858993459)) + (((((x0 - (((x0.toUInt32 >>> ((1 : Int32).toUInt32 &&& Int32.toUInt32 31)).toInt32) &&& 1431655765)) &&& 858993459) + ((((x0 - (((x0.toUInt32 >>> ((1 : Int32).toUInt32 &&& Int32.toUInt32 31)).toInt32) &&& 1431655765)).toUInt32 >>> ((2 : Int32).toUInt32 &&& Int32.toUInt32 31)).toInt32) &&& 858993459)).toUInt32 >>> ((4 : Int32).toUInt32 &&& Int32.toUInt32 31)).toInt32)) &&& 252645135).toUInt32 >>> ((8 : Int32).toUInt32 &&& Int32.toUInt32 31)).toInt32)) + ((((((((x0 - (((x0.toUInt32 >>> ((1 : Int32).toUInt32 &&& Int32.toUInt32 31)).toInt32) &&& 1431655765)) &&& 858993459) + ((((x0 - (((x0.toUInt32 >>> ((1 : Int32).toUInt32 &&& Int32.toUInt32 31)).toInt32) &&& 1431655765)).toUInt32 >>> ((2 : Int32).toUInt32 &&& Int32.toUInt32 31)).toInt32) &&& 858993459)) + (((((x0 - (((x0.toUInt32 >>> ((1 : Int32).toUInt32 &&& Int32.toUInt32 31)).toInt32) &&& 1431655765)) &&& 858993459) + ((((x0 - (((x0.toUInt32 >>> ((1 : Int32).toUInt32 &&& Int32.toUInt32 31)).toInt32) &&& 1431655765)).toUInt32 >>> ((2 : Int32).toUInt32 &&& Int32.toUInt32 31)).toInt32) &&& 858993459)).toUInt32 >>> ((4 : Int32).toUInt32 &&& Int32.toUInt32 31)).toInt32)) &&& 252645135) + (((((((x0 - (((x0.toUInt32 >>> ((1 : Int32).toUInt32 &&& Int32.toUInt32 31)).toInt32) &&& 1431655765)) &&& 858993459) + ((((x0 - (((x0.toUInt32 >>> ((1 : Int32).toUInt32 &&& Int32.toUInt32 31)).toInt32) &&& 1431655765)).toUInt32 >>> ((2 : Int32).toUInt32 &&& Int32.toUInt32 31)).toInt32) &&& 858993459)) + (((((x0 - (((x0.toUInt32 >>> ((1 : Int32).toUInt32 &&& Int32.toUInt32 31)).toInt32) &&& 1431655765)) &&& 858993459) + ((((x0 - (((x0.toUInt32 >>> ((1 : Int32).toUInt32 &&& Int32.toUInt32 31)).toInt32) &&& 1431655765)).toUInt32 >>> ((2 : Int32).toUInt32 &&& Int32.toUInt32 31)).toInt32) &&& 858993459)).toUInt32 >>> ((4 : Int32).toUInt32 &&& Int32.toUInt32 31)).toInt32)) &&& 252645135).toUInt32 >>> ((8 : Int32).toUInt32 &&& Int32.toUInt32 31)).toInt32)).toUInt32 >>> ((16 : Int32).toUInt32 &&& Int32.toUInt32 31)).toInt32)) &&& 63) S) : CALLi g d mJ6_bitCount_0f7a4 [.int x0] ρ ρ S Q := by
  refine CALL.of mdJ6_bitCount_0f7a4.2.2.2.2 (Nat.le_of_ble_eq_true rfl) (Nat.le_refl _) (Nat.le_refl _) ?_
  show AW g ρ (QI Q) d mJ6_bitCount_0f7a4 0 [(0, .int x0)] [] ρ S
  refine AW_iload_n 0 (n := 0) rfl dJ6_bitCount_0f7a4_0 rfl ?_
  refine AW_iload_n 0 (n := 0) rfl dJ6_bitCount_0f7a4_1 rfl ?_
  refine AW_iconst (v := 1) dJ6_bitCount_0f7a4_2 rfl ?_
  refine AW_iushr dJ6_bitCount_0f7a4_3 ?_
  refine AW_ldcw (v := 1431655765) dJ6_bitCount_0f7a4_4 kcJ6_265 ?_
  refine AW_iand dJ6_bitCount_0f7a4_7 ?_
  refine AW_isub dJ6_bitCount_0f7a4_8 ?_
  refine AW_istore_n (n := 0) (i := 0) rfl dJ6_bitCount_0f7a4_9 (Nat.le_of_ble_eq_true rfl) rfl ?_
  refine AW_iload_n 0 (n := 0) rfl dJ6_bitCount_0f7a4_10 rfl ?_
  refine AW_ldcw (v := 858993459) dJ6_bitCount_0f7a4_11 kcJ6_266 ?_
  refine AW_iand dJ6_bitCount_0f7a4_14 ?_
  refine AW_iload_n 0 (n := 0) rfl dJ6_bitCount_0f7a4_15 rfl ?_
  refine AW_iconst (v := 2) dJ6_bitCount_0f7a4_16 rfl ?_
  refine AW_iushr dJ6_bitCount_0f7a4_17 ?_
  refine AW_ldcw (v := 858993459) dJ6_bitCount_0f7a4_18 kcJ6_266 ?_
  refine AW_iand dJ6_bitCount_0f7a4_21 ?_
  refine AW_iadd dJ6_bitCount_0f7a4_22 ?_
  refine AW_istore_n (n := 0) (i := 0) rfl dJ6_bitCount_0f7a4_23 (Nat.le_of_ble_eq_true rfl) rfl ?_
  refine AW_iload_n 0 (n := 0) rfl dJ6_bitCount_0f7a4_24 rfl ?_
  refine AW_iload_n 0 (n := 0) rfl dJ6_bitCount_0f7a4_25 rfl ?_
  refine AW_iconst (v := 4) dJ6_bitCount_0f7a4_26 rfl ?_
  refine AW_iushr dJ6_bitCount_0f7a4_27 ?_
  refine AW_iadd dJ6_bitCount_0f7a4_28 ?_
  refine AW_ldcw (v := 252645135) dJ6_bitCount_0f7a4_29 kcJ6_267 ?_
  refine AW_iand dJ6_bitCount_0f7a4_32 ?_
  refine AW_istore_n (n := 0) (i := 0) rfl dJ6_bitCount_0f7a4_33 (Nat.le_of_ble_eq_true rfl) rfl ?_
  refine AW_iload_n 0 (n := 0) rfl dJ6_bitCount_0f7a4_34 rfl ?_
  refine AW_iload_n 0 (n := 0) rfl dJ6_bitCount_0f7a4_35 rfl ?_
  refine AW_bipush (v := 8) dJ6_bitCount_0f7a4_36 rfl ?_
  refine AW_iushr dJ6_bitCount_0f7a4_38 ?_
  refine AW_iadd dJ6_bitCount_0f7a4_39 ?_
  refine AW_istore_n (n := 0) (i := 0) rfl dJ6_bitCount_0f7a4_40 (Nat.le_of_ble_eq_true rfl) rfl ?_
  refine AW_iload_n 0 (n := 0) rfl dJ6_bitCount_0f7a4_41 rfl ?_
  refine AW_iload_n 0 (n := 0) rfl dJ6_bitCount_0f7a4_42 rfl ?_
  refine AW_bipush (v := 16) dJ6_bitCount_0f7a4_43 rfl ?_
  refine AW_iushr dJ6_bitCount_0f7a4_45 ?_
  refine AW_iadd dJ6_bitCount_0f7a4_46 ?_
  refine AW_istore_n (n := 0) (i := 0) rfl dJ6_bitCount_0f7a4_47 (Nat.le_of_ble_eq_true rfl) rfl ?_
  refine AW_iload_n 0 (n := 0) rfl dJ6_bitCount_0f7a4_48 rfl ?_
  refine AW_bipush (v := 63) dJ6_bitCount_0f7a4_49 rfl ?_
  refine AW_iand dJ6_bitCount_0f7a4_51 ?_
  exact AW_reti dJ6_bitCount_0f7a4_52 rfl h
set_option maxRecDepth 20000 in
theorem eJ7_fill_53178_5 {g : GX} {Q : St → Prop} {d : Nat} {ρ : Rs} {S : St} (hρ : Ok ρ) {k0 n0 : Nat} (h16_0 : 16 ≤ k0) (hn_0 : k0 < rn ρ) (hs_0 : shp ρ k0 = .inr (0, n0)) {x1 : Int32} {x2 : Int32} {x3 : Int32} (hF_0 : gF g k0) (h : if x3 ≤ x2 then Q S else vp_in x2 n0 ∧ (AW g ρ (QV Q) d mJ7_fill_53178 5 [(0, .ref k0), (1, .int x1), (2, .int (x2 + 1)), (3, .int x3)] [] ρ (setI S k0 x2.toNatClampNeg x1))) : AW g ρ (QV Q) d mJ7_fill_53178 5 [(0, .ref k0), (1, .int x1), (2, .int x2), (3, .int x3)] [] ρ S := by
  refine AW_iload_n 2 (n := 2) rfl dJ7_fill_53178_5 rfl ?_
  refine AW_iload_n 3 (n := 3) rfl dJ7_fill_53178_6 rfl ?_
  refine AW_icmp_ge dJ7_fill_53178_7 rfl (iteM h (fun h => ?_) (fun h => ?_))
  · exact AW_retv dJ7_fill_53178_20 rfl h
  · refine AW_aload_n 0 (n := 0) rfl dJ7_fill_53178_10 rfl ?_
    refine AW_iload_n 2 (n := 2) rfl dJ7_fill_53178_11 rfl ?_
    refine AW_iload_n 1 (n := 1) rfl dJ7_fill_53178_12 rfl ?_
    refine AW_iastore dJ7_fill_53178_13 h16_0 hn_0 hs_0 h.1 hF_0 (jx := x2.toNatClampNeg) rfl ?_
    replace h := h.2
    refine AW_iinc 2 (v := x2 + 1) dJ7_fill_53178_14 rfl rfl (Nat.le_of_ble_eq_true rfl) rfl ?_
    refine AW_goto (tgt := 5) dJ7_fill_53178_17 rfl ?_
    exact AW.sub [1, 2, 0, 3] rfl h
set_option maxRecDepth 20000 in
theorem eJ7_fill_53178 {g : GX} {Q : St → Prop} {d : Nat} {ρ : Rs} {S : St} (hρ : Ok ρ) {k0 n0 : Nat} (h16_0 : 16 ≤ k0) (hn_0 : k0 < rn ρ) (hs_0 : shp ρ k0 = .inr (0, n0)) {x1 : Int32} (h : AW g ρ (QV Q) d mJ7_fill_53178 5 [(0, .ref k0), (1, .int x1), (2, .int 0), (3, .int (Int32.ofNat n0))] [] ρ S) : CALLv g d mJ7_fill_53178 [.ref k0, .int x1] ρ ρ S Q := by
  refine CALL.of mdJ7_fill_53178.2.2.2.2 (Nat.le_of_ble_eq_true rfl) (Nat.le_refl _) (Nat.le_refl _) ?_
  show AW g ρ (QV Q) d mJ7_fill_53178 0 [(0, .ref k0), (1, .int x1)] [] ρ S
  refine AW_iconst (v := 0) dJ7_fill_53178_0 rfl ?_
  refine AW_istore_n (n := 2) (i := 2) rfl dJ7_fill_53178_1 (Nat.le_of_ble_eq_true rfl) rfl ?_
  refine AW_aload_n 1 (n := 0) rfl dJ7_fill_53178_2 rfl ?_
  refine AW_alen (v := Int32.ofNat n0) dJ7_fill_53178_3 h16_0 hn_0 (by decide) hs_0 rfl ?_
  refine AW_istore_n (n := 3) (i := 3) rfl dJ7_fill_53178_4 (Nat.le_of_ble_eq_true rfl) rfl ?_
  exact AW.sub [2, 3, 1, 0] rfl h
set_option maxRecDepth 20000 in
theorem eJ7_fill_d0a16_6 {g : GX} {Q : St → Prop} {d : Nat} {ρ : Rs} {S : St} (hρ : Ok ρ) {k0 n0 : Nat} (h16_0 : 16 ≤ k0) (hn_0 : k0 < rn ρ) (hs_0 : shp ρ k0 = .inr (1, n0)) {x1 : Int64} {x3 : Int32} {x4 : Int32} (hF_0 : gF g k0) (h : if x4 ≤ x3 then Q S else vp_in x3 n0 ∧ (AW g ρ (QV Q) d mJ7_fill_d0a16 6 [(0, .ref k0), (1, .long x1), (3, .int (x3 + 1)), (4, .int x4)] [] ρ (setL S k0 x3.toNatClampNeg x1))) : AW g ρ (QV Q) d mJ7_fill_d0a16 6 [(0, .ref k0), (1, .long x1), (3, .int x3), (4, .int x4)] [] ρ S := by
  refine AW_iload_n 2 (n := 3) rfl dJ7_fill_d0a16_6 rfl ?_
  refine AW_iload 3 dJ7_fill_d0a16_7 rfl ?_
  refine AW_icmp_ge dJ7_fill_d0a16_9 rfl (iteM h (fun h => ?_) (fun h => ?_))
  · exact AW_retv dJ7_fill_d0a16_22 rfl h
  · refine AW_aload_n 0 (n := 0) rfl dJ7_fill_d0a16_12 rfl ?_
    refine AW_iload_n 2 (n := 3) rfl dJ7_fill_d0a16_13 rfl ?_
    refine AW_lload_n 1 (n := 1) rfl dJ7_fill_d0a16_14 rfl ?_
    refine AW_lastore dJ7_fill_d0a16_15 h16_0 hn_0 hs_0 h.1 hF_0 (jx := x3.toNatClampNeg) rfl ?_
    replace h := h.2
    refine AW_iinc 2 (v := x3 + 1) dJ7_fill_d0a16_16 rfl rfl (Nat.le_of_ble_eq_true rfl) rfl ?_
    refine AW_goto (tgt := 6) dJ7_fill_d0a16_19 rfl ?_
    exact AW.sub [1, 2, 0, 3] rfl h
set_option maxRecDepth 20000 in
theorem eJ7_fill_d0a16 {g : GX} {Q : St → Prop} {d : Nat} {ρ : Rs} {S : St} (hρ : Ok ρ) {k0 n0 : Nat} (h16_0 : 16 ≤ k0) (hn_0 : k0 < rn ρ) (hs_0 : shp ρ k0 = .inr (1, n0)) {x1 : Int64} (h : AW g ρ (QV Q) d mJ7_fill_d0a16 6 [(0, .ref k0), (1, .long x1), (3, .int 0), (4, .int (Int32.ofNat n0))] [] ρ S) : CALLv g d mJ7_fill_d0a16 [.ref k0, .long x1] ρ ρ S Q := by
  refine CALL.of mdJ7_fill_d0a16.2.2.2.2 (Nat.le_of_ble_eq_true rfl) (Nat.le_refl _) (Nat.le_refl _) ?_
  show AW g ρ (QV Q) d mJ7_fill_d0a16 0 [(0, .ref k0), (1, .long x1)] [] ρ S
  refine AW_iconst (v := 0) dJ7_fill_d0a16_0 rfl ?_
  refine AW_istore_n (n := 3) (i := 3) rfl dJ7_fill_d0a16_1 (Nat.le_of_ble_eq_true rfl) rfl ?_
  refine AW_aload_n 1 (n := 0) rfl dJ7_fill_d0a16_2 rfl ?_
  refine AW_alen (v := Int32.ofNat n0) dJ7_fill_d0a16_3 h16_0 hn_0 (by decide) hs_0 rfl ?_
  refine AW_istore dJ7_fill_d0a16_4 (Nat.le_of_ble_eq_true rfl) rfl ?_
  exact AW.sub [2, 3, 1, 0] rfl h
set_option maxRecDepth 20000 in
theorem eJ3_checkIndex_8e157n {g : GX} {Q : Int32 → St → Prop} {d : Nat} {ρ : Rs} {S : St} (hρ : Ok ρ) {x0 : Int32} {x1 : Int32} (h : if x0 < 0 then False else if x0 < x1 then Q x0 S else False) : CALLi g (d + 1) mJ3_checkIndex_8e157 [.int x0, .int x1, .null] ρ ρ S Q := by
  refine CALL.of mdJ3_checkIndex_8e157.2.2.2.2 (Nat.le_of_ble_eq_true rfl) (Nat.le_refl _) (Nat.le_refl _) ?_
  show AW g ρ (QI Q) (d + 1) mJ3_checkIndex_8e157 0 [(0, .int x0), (1, .int x1), (2, .null)] [] ρ S
  refine AW_iload_n 0 (n := 0) rfl dJ3_checkIndex_8e157_0 rfl ?_
  refine AW_if_lt dJ3_checkIndex_8e157_1 rfl (iteM h (fun h => ?_) (fun h => ?_))
  · exact h.elim
  · refine AW_iload_n 0 (n := 0) rfl dJ3_checkIndex_8e157_4 rfl ?_
    refine AW_iload_n 1 (n := 1) rfl dJ3_checkIndex_8e157_5 rfl ?_
    refine AW_icmp_lt dJ3_checkIndex_8e157_6 rfl (iteM h (fun h => ?_) (fun h => ?_))
    · refine AW_iload_n 0 (n := 0) rfl dJ3_checkIndex_8e157_16 rfl ?_
      exact AW_reti dJ3_checkIndex_8e157_17 rfl h
    · exact h.elim
set_option maxRecDepth 20000 in
theorem eJ3_checkIndex_8e157 {g : GX} {Q : Int32 → St → Prop} {d : Nat} {ρ : Rs} {S : St} (hρ : Ok ρ) {x0 : Int32} {x1 : Int32} (h : if x0 < 0 then False else if x0 < x1 then Q x0 S else False) : CALLi g (d + 1) mJ3_checkIndex_8e157 [.int x0, .int x1, .ref 12] ρ ρ S Q := by
  refine CALL.of mdJ3_checkIndex_8e157.2.2.2.2 (Nat.le_of_ble_eq_true rfl) (Nat.le_refl _) (Nat.le_refl _) ?_
  show AW g ρ (QI Q) (d + 1) mJ3_checkIndex_8e157 0 [(0, .int x0), (1, .int x1), (2, .ref 12)] [] ρ S
  refine AW_iload_n 0 (n := 0) rfl dJ3_checkIndex_8e157_0 rfl ?_
  refine AW_if_lt dJ3_checkIndex_8e157_1 rfl (iteM h (fun h => ?_) (fun h => ?_))
  · exact h.elim
  · refine AW_iload_n 0 (n := 0) rfl dJ3_checkIndex_8e157_4 rfl ?_
    refine AW_iload_n 1 (n := 1) rfl dJ3_checkIndex_8e157_5 rfl ?_
    refine AW_icmp_lt dJ3_checkIndex_8e157_6 rfl (iteM h (fun h => ?_) (fun h => ?_))
    · refine AW_iload_n 0 (n := 0) rfl dJ3_checkIndex_8e157_16 rfl ?_
      exact AW_reti dJ3_checkIndex_8e157_17 rfl h
    · exact h.elim
set_option maxRecDepth 20000 in
theorem eJ0_checkIndex_df160 {g : GX} {Q : St → Prop} {d : Nat} {ρ : Rs} {S : St} (hρ : Ok ρ) {x0 : Int32} {x1 : Int32} (h : (CALLi g d mJ3_checkIndex_8e157 [.int x0, .int x1, .null] ρ ρ S (fun v1 S1 => Q S1)) ∧ (CALLi g d mJ3_checkIndex_8e157 [.int x0, .int x1, .ref 12] ρ ρ S (fun v2 S2 => Q S2))) : CALLv g (d + 1) mJ0_checkIndex_df160 [.int x0, .int x1] ρ ρ S Q := by
  refine CALL.of mdJ0_checkIndex_df160.2.2.2.2 (Nat.le_of_ble_eq_true rfl) (Nat.le_refl _) (Nat.le_refl _) ?_
  show AW g ρ (QV Q) (d + 1) mJ0_checkIndex_df160 0 [(0, .int x0), (1, .int x1)] [] ρ S
  refine AW_iload_n 0 (n := 0) rfl dJ0_checkIndex_df160_0 rfl ?_
  refine AW_iload_n 1 (n := 1) rfl dJ0_checkIndex_df160_1 rfl ?_
  refine AW_getFm dJ0_checkIndex_df160_2 flJ0_1053 ?_ ?_
  · replace h := h.1
    refine AW_callSi (M := mJ0_checkIndex_df160) (pc := 5) (As := [.int x0, .int x1, .null]) (ρ1 := ρ) (st := []) dJ0_checkIndex_df160_5 mdJ3_checkIndex_8e157 mlJ0_1059 smJ3_checkIndex_8e157 ⟨rfl, npJ3_checkIndex_8e157⟩ (Nat.le_of_ble_eq_true rfl) (Nat.le_refl _) (Nat.le_refl _) rfl (CALLi.mono h (fun v1 S1 _ h => ?_))
    refine AW_pop dJ0_checkIndex_df160_8 rfl ?_
    exact AW_retv dJ0_checkIndex_df160_9 rfl h
  · replace h := h.2
    refine AW_callSi (M := mJ0_checkIndex_df160) (pc := 5) (As := [.int x0, .int x1, .ref 12]) (ρ1 := ρ) (st := []) dJ0_checkIndex_df160_5 mdJ3_checkIndex_8e157 mlJ0_1059 smJ3_checkIndex_8e157 ⟨rfl, npJ3_checkIndex_8e157⟩ (Nat.le_of_ble_eq_true rfl) (Nat.le_refl _) (Nat.le_refl _) rfl (CALLi.mono h (fun v2 S2 _ h => ?_))
    refine AW_pop dJ0_checkIndex_df160_8 rfl ?_
    exact AW_retv dJ0_checkIndex_df160_9 rfl h
set_option maxRecDepth 20000 in
theorem eJ1_charAt_3b067 {g : GX} {Q : Int32 → St → Prop} {d : Nat} {ρ : Rs} {S : St} (hρ : Ok ρ) {w0 : Nat} (hw_0 : w0 < 5) {x1 : Int32} (h : CALLv g d mJ0_checkIndex_df160 [.int x1, .int (Int32.ofNat (lenW.getD w0 0))] ρ ρ S (fun S1 => vp_in x1 (lenW.getD w0 0) ∧ (narrow .char (.int (((((bytW.getD w0 []).getD x1.toNatClampNeg 0) &&& 255).toUInt32 % 65536).toInt32)) = .int (((((bytW.getD w0 []).getD x1.toNatClampNeg 0) &&& 255).toUInt32 % 65536).toInt32) ∧ (Q (((((bytW.getD w0 []).getD x1.toNatClampNeg 0) &&& 255).toUInt32 % 65536).toInt32) S1)))) : CALLi g (d + 1) mJ1_charAt_3b067 [.ref (5 + w0), .int x1] ρ ρ S Q := by
  refine CALL.of mdJ1_charAt_3b067.2.2.2.2 (Nat.le_of_ble_eq_true rfl) (Nat.le_refl _) (Nat.le_refl _) ?_
  show AW g ρ (QI Q) (d + 1) mJ1_charAt_3b067 0 [(0, .ref (5 + w0)), (1, .int x1)] [] ρ S
  refine AW_iload_n 1 (n := 1) rfl dJ1_charAt_3b067_0 rfl ?_
  refine AW_aload_n 0 (n := 0) rfl dJ1_charAt_3b067_1 rfl ?_
  refine AW_strL dJ1_charAt_3b067_2 hw_0 ?_
  refine AW_callSv (M := mJ1_charAt_3b067) (pc := 3) (As := [.int x1, .int (Int32.ofNat (lenW.getD w0 0))]) (ρ1 := ρ) (st := []) dJ1_charAt_3b067_3 mdJ0_checkIndex_df160 mlJ1_9 smJ0_checkIndex_df160 ⟨rfl, npJ0_checkIndex_df160⟩ (Nat.le_of_ble_eq_true rfl) (Nat.le_refl _) (Nat.le_refl _) rfl (CALLv.mono h (fun S1 _ h => ?_))
  refine AW_aload_n 0 (n := 0) rfl dJ1_charAt_3b067_6 rfl ?_
  refine AW_iload_n 1 (n := 1) rfl dJ1_charAt_3b067_7 rfl ?_
  refine AW_strB dJ1_charAt_3b067_8 hw_0 h.1 ?_
  replace h := h.2
  refine AW_sipush (v := 255) dJ1_charAt_3b067_9 rfl ?_
  refine AW_iand dJ1_charAt_3b067_12 ?_
  refine AW_i2c dJ1_charAt_3b067_13 ?_
  exact AW_retc dJ1_charAt_3b067_14 rfl h.1 h.2
set_option maxRecDepth 20000 in
theorem eJ0_coder_7d493 {g : GX} {Q : Int32 → St → Prop} {d : Nat} {ρ : Rs} {S : St} (hρ : Ok ρ) {w0 : Nat} (hw_0 : w0 < 5) (h : if (1 : Int32) = 0 then narrow .byte (.int 1) = .int 1 ∧ (Q 1 S) else narrow .byte (.int 0) = .int 0 ∧ (Q 0 S)) : CALLi g d mJ0_coder_7d493 [.ref w0] ρ ρ S Q := by
  refine CALL.of mdJ0_coder_7d493.2.2.2.2 (Nat.le_of_ble_eq_true rfl) (Nat.le_refl _) (Nat.le_refl _) ?_
  show AW g ρ (QI Q) d mJ0_coder_7d493 0 [(0, .ref w0)] [] ρ S
  refine AW_getCS dJ0_coder_7d493_0 flJ0_38 ?_
  refine AW_if_eq dJ0_coder_7d493_3 rfl (iteM h (fun h => ?_) (fun h => ?_))
  · refine AW_iconst (v := 1) dJ0_coder_7d493_13 rfl ?_
    exact AW_retb dJ0_coder_7d493_14 rfl h.1 h.2
  · refine AW_aload_n 0 (n := 0) rfl dJ0_coder_7d493_6 rfl ?_
    refine AW_strC dJ0_coder_7d493_7 hw_0 flJ0_15 ?_
    refine AW_goto (tgt := 14) dJ0_coder_7d493_10 rfl ?_
    exact AW_retb dJ0_coder_7d493_14 rfl h.1 h.2
set_option maxRecDepth 20000 in
theorem eJ0_isLatin1_aae02 {g : GX} {Q : Int32 → St → Prop} {d : Nat} {ρ : Rs} {S : St} (hρ : Ok ρ) {w0 : Nat} (hw_0 : w0 < 5) (h : if (1 : Int32) = 0 then Q 0 S else if (0 : Int32) = 0 then Q 1 S else Q 0 S) : CALLi g d mJ0_isLatin1_aae02 [.ref w0] ρ ρ S Q := by
  refine CALL.of mdJ0_isLatin1_aae02.2.2.2.2 (Nat.le_of_ble_eq_true rfl) (Nat.le_refl _) (Nat.le_refl _) ?_
  show AW g ρ (QI Q) d mJ0_isLatin1_aae02 0 [(0, .ref w0)] [] ρ S
  refine AW_getCS dJ0_isLatin1_aae02_0 flJ0_38 ?_
  refine AW_if_eq dJ0_isLatin1_aae02_3 rfl (iteM h (fun h => ?_) (fun h => ?_))
  · refine AW_iconst (v := 0) dJ0_isLatin1_aae02_17 rfl ?_
    exact AW_retz dJ0_isLatin1_aae02_18 rfl Bz0 h
  · refine AW_aload_n 0 (n := 0) rfl dJ0_isLatin1_aae02_6 rfl ?_
    refine AW_strC dJ0_isLatin1_aae02_7 hw_0 flJ0_15 ?_
    refine AW_if_ne dJ0_isLatin1_aae02_10 rfl (iteM h (fun h => ?_) (fun h => ?_))
    · refine AW_iconst (v := 1) dJ0_isLatin1_aae02_13 rfl ?_
      refine AW_goto (tgt := 18) dJ0_isLatin1_aae02_14 rfl ?_
      exact AW_retz dJ0_isLatin1_aae02_18 rfl Bz1 h
    · refine AW_iconst (v := 0) dJ0_isLatin1_aae02_17 rfl ?_
      exact AW_retz dJ0_isLatin1_aae02_18 rfl Bz0 h
set_option maxRecDepth 20000 in
theorem eJ0_length_8abf5 {g : GX} {Q : Int32 → St → Prop} {d : Nat} {ρ : Rs} {S : St} (hρ : Ok ρ) {w0 : Nat} (hw_0 : w0 < 5) (h : CALLi g d mJ0_coder_7d493 [.ref w0] ρ ρ S (fun v1 S1 => Q ((Int32.ofNat (lenW.getD w0 0)) >>> (v1 &&& 31)) S1)) : CALLi g (d + 1) mJ0_length_8abf5 [.ref w0] ρ ρ S Q := by
  refine CALL.of mdJ0_length_8abf5.2.2.2.2 (Nat.le_of_ble_eq_true rfl) (Nat.le_refl _) (Nat.le_refl _) ?_
  show AW g ρ (QI Q) (d + 1) mJ0_length_8abf5 0 [(0, .ref w0)] [] ρ S
  refine AW_aload_n 0 (n := 0) rfl dJ0_length_8abf5_0 rfl ?_
  refine AW_strV dJ0_length_8abf5_1 hw_0 flJ0_9 ?_
  refine AW_strL dJ0_length_8abf5_4 hw_0 ?_
  refine AW_aload_n 0 (n := 0) rfl dJ0_length_8abf5_5 rfl ?_
  refine AW_callVi (M := mJ0_length_8abf5) (pc := 6) (As := []) (ρ1 := ρ) (st := [.int (Int32.ofNat (lenW.getD w0 0))]) dJ0_length_8abf5_6 mdJ0_coder_7d493 rfl mlJ0_335 imJ0_coder_7d493 seJ0_coder_7d493 (rcv_S hw_0) ⟨rfl, npJ0_coder_7d493⟩ (Nat.le_of_ble_eq_true rfl) (Nat.le_refl _) (Nat.le_refl _) rfl (CALLi.mono h (fun v1 S1 _ h => ?_))
  refine AW_ishr dJ0_length_8abf5_9 ?_
  exact AW_reti dJ0_length_8abf5_10 rfl h
set_option maxRecDepth 20000 in
theorem eJ0_charAt_5068e {g : GX} {Q : Int32 → St → Prop} {d : Nat} {ρ : Rs} {S : St} (hρ : Ok ρ) {w0 : Nat} (hw_0 : w0 < 5) {x1 : Int32} (h : CALLi g d mJ0_isLatin1_aae02 [.ref w0] ρ ρ S (fun v1 S1 => if v1 = 0 then False else CALLi g d mJ1_charAt_3b067 [.ref (5 + w0), .int x1] ρ ρ S1 (fun v2 S2 => narrow .char (.int v2) = .int v2 ∧ (Q v2 S2)))) : CALLi g (d + 1) mJ0_charAt_5068e [.ref w0, .int x1] ρ ρ S Q := by
  refine CALL.of mdJ0_charAt_5068e.2.2.2.2 (Nat.le_of_ble_eq_true rfl) (Nat.le_refl _) (Nat.le_refl _) ?_
  show AW g ρ (QI Q) (d + 1) mJ0_charAt_5068e 0 [(0, .ref w0), (1, .int x1)] [] ρ S
  refine AW_aload_n 0 (n := 0) rfl dJ0_charAt_5068e_0 rfl ?_
  refine AW_callVi (M := mJ0_charAt_5068e) (pc := 1) (As := []) (ρ1 := ρ) (st := []) dJ0_charAt_5068e_1 mdJ0_isLatin1_aae02 rfl mlJ0_492 imJ0_isLatin1_aae02 seJ0_isLatin1_aae02 (rcv_S hw_0) ⟨rfl, npJ0_isLatin1_aae02⟩ (Nat.le_of_ble_eq_true rfl) (Nat.le_refl _) (Nat.le_refl _) rfl (CALLi.mono h (fun v1 S1 _ h => ?_))
  refine AW_if_eq dJ0_charAt_5068e_4 rfl (iteM h (fun h => ?_) (fun h => ?_))
  · exact h.elim
  · refine AW_aload_n 0 (n := 0) rfl dJ0_charAt_5068e_7 rfl ?_
    refine AW_strV dJ0_charAt_5068e_8 hw_0 flJ0_9 ?_
    refine AW_iload_n 1 (n := 1) rfl dJ0_charAt_5068e_11 rfl ?_
    refine AW_callSi (M := mJ0_charAt_5068e) (pc := 12) (As := [.ref (5 + w0), .int x1]) (ρ1 := ρ) (st := []) dJ0_charAt_5068e_12 mdJ1_charAt_3b067 mlJ0_495 smJ1_charAt_3b067 ⟨rfl, npJ1_charAt_3b067⟩ (Nat.le_of_ble_eq_true rfl) (Nat.le_refl _) (Nat.le_refl _) rfl (CALLi.mono h (fun v2 S2 _ h => ?_))
    exact AW_retc dJ0_charAt_5068e_15 rfl h.1 h.2
set_option maxRecDepth 20000 in
theorem eJxe99ae_isNaN_b9ae7 {g : GX} {Q : Int32 → St → Prop} {d : Nat} {ρ : Rs} {S : St} (hρ : Ok ρ) {x0 : UInt64} (h : if (Op.cmpValue (FP.dcmp x0 x0) .l) = 0 then Q 0 S else Q 1 S) : CALLi g d mJxe99ae_isNaN_b9ae7 [.double x0] ρ ρ S Q := by
  refine CALL.of mdJxe99ae_isNaN_b9ae7.2.2.2.2 (Nat.le_of_ble_eq_true rfl) (Nat.le_refl _) (Nat.le_refl _) ?_
  show AW g ρ (QI Q) d mJxe99ae_isNaN_b9ae7 0 [(0, .double x0)] [] ρ S
  refine AW_dload_n 0 (n := 0) rfl dJxe99ae_isNaN_b9ae7_0 rfl ?_
  refine AW_dload_n 0 (n := 0) rfl dJxe99ae_isNaN_b9ae7_1 rfl ?_
  refine AW_dcmp dJxe99ae_isNaN_b9ae7_2 ?_
  refine AW_if_eq dJxe99ae_isNaN_b9ae7_3 rfl (iteM h (fun h => ?_) (fun h => ?_))
  · refine AW_iconst (v := 0) dJxe99ae_isNaN_b9ae7_10 rfl ?_
    exact AW_retz dJxe99ae_isNaN_b9ae7_11 rfl Bz0 h
  · refine AW_iconst (v := 1) dJxe99ae_isNaN_b9ae7_6 rfl ?_
    refine AW_goto (tgt := 11) dJxe99ae_isNaN_b9ae7_7 rfl ?_
    exact AW_retz dJxe99ae_isNaN_b9ae7_11 rfl Bz1 h
set_option maxRecDepth 20000 in
theorem eJxe99ae_doubleToLongBits_ccdee {g : GX} {Q : Int64 → St → Prop} {d : Nat} {ρ : Rs} {S : St} (hρ : Ok ρ) {x0 : UInt64} (h : CALLi g d mJxe99ae_isNaN_b9ae7 [.double x0] ρ ρ S (fun v1 S1 => if v1 = 0 then Q x0.toInt64 S1 else Q 9221120237041090560 S1)) : CALLl g (d + 1) mJxe99ae_doubleToLongBits_ccdee [.double x0] ρ ρ S Q := by
  refine CALL.of mdJxe99ae_doubleToLongBits_ccdee.2.2.2.2 (Nat.le_of_ble_eq_true rfl) (Nat.le_refl _) (Nat.le_refl _) ?_
  show AW g ρ (QJ Q) (d + 1) mJxe99ae_doubleToLongBits_ccdee 0 [(0, .double x0)] [] ρ S
  refine AW_dload_n 0 (n := 0) rfl dJxe99ae_doubleToLongBits_ccdee_0 rfl ?_
  refine AW_callSi (M := mJxe99ae_doubleToLongBits_ccdee) (pc := 1) (As := [.double x0]) (ρ1 := ρ) (st := []) dJxe99ae_doubleToLongBits_ccdee_1 mdJxe99ae_isNaN_b9ae7 mlJxe99ae_122 smJxe99ae_isNaN_b9ae7 ⟨rfl, npJxe99ae_isNaN_b9ae7⟩ (Nat.le_of_ble_eq_true rfl) (Nat.le_refl _) (Nat.le_refl _) rfl (CALLi.mono h (fun v1 S1 _ h => ?_))
  refine AW_if_ne dJxe99ae_doubleToLongBits_ccdee_4 rfl (iteM h (fun h => ?_) (fun h => ?_))
  · refine AW_dload_n 0 (n := 0) rfl dJxe99ae_doubleToLongBits_ccdee_7 rfl ?_
    refine AW_rawD (M := mJxe99ae_doubleToLongBits_ccdee) (pc := 8) dJxe99ae_doubleToLongBits_ccdee_8 mlJxe99ae_134 wRawDn wRawDs wRawDi (Nat.le_of_ble_eq_true rfl) ?_
    exact AW_retl dJxe99ae_doubleToLongBits_ccdee_11 rfl h
  · refine AW_ldc2 (v := 9221120237041090560) dJxe99ae_doubleToLongBits_ccdee_12 kcJxe99ae_137 ?_
    exact AW_retl dJxe99ae_doubleToLongBits_ccdee_15 rfl h
set_option maxRecDepth 20000 in
theorem eJxf58ca_isNaN_12338 {g : GX} {Q : Int32 → St → Prop} {d : Nat} {ρ : Rs} {S : St} (hρ : Ok ρ) {x0 : UInt32} (h : if (Op.cmpValue (FP.fcmp x0 x0) .l) = 0 then Q 0 S else Q 1 S) : CALLi g d mJxf58ca_isNaN_12338 [.float x0] ρ ρ S Q := by
  refine CALL.of mdJxf58ca_isNaN_12338.2.2.2.2 (Nat.le_of_ble_eq_true rfl) (Nat.le_refl _) (Nat.le_refl _) ?_
  show AW g ρ (QI Q) d mJxf58ca_isNaN_12338 0 [(0, .float x0)] [] ρ S
  refine AW_fload_n 0 (n := 0) rfl dJxf58ca_isNaN_12338_0 rfl ?_
  refine AW_fload_n 0 (n := 0) rfl dJxf58ca_isNaN_12338_1 rfl ?_
  refine AW_fcmp dJxf58ca_isNaN_12338_2 ?_
  refine AW_if_eq dJxf58ca_isNaN_12338_3 rfl (iteM h (fun h => ?_) (fun h => ?_))
  · refine AW_iconst (v := 0) dJxf58ca_isNaN_12338_10 rfl ?_
    exact AW_retz dJxf58ca_isNaN_12338_11 rfl Bz0 h
  · refine AW_iconst (v := 1) dJxf58ca_isNaN_12338_6 rfl ?_
    refine AW_goto (tgt := 11) dJxf58ca_isNaN_12338_7 rfl ?_
    exact AW_retz dJxf58ca_isNaN_12338_11 rfl Bz1 h
set_option maxRecDepth 20000 in
theorem eJxf58ca_floatToIntBits_5c35a {g : GX} {Q : Int32 → St → Prop} {d : Nat} {ρ : Rs} {S : St} (hρ : Ok ρ) {x0 : UInt32} (h : CALLi g d mJxf58ca_isNaN_12338 [.float x0] ρ ρ S (fun v1 S1 => if v1 = 0 then Q x0.toInt32 S1 else Q 2143289344 S1)) : CALLi g (d + 1) mJxf58ca_floatToIntBits_5c35a [.float x0] ρ ρ S Q := by
  refine CALL.of mdJxf58ca_floatToIntBits_5c35a.2.2.2.2 (Nat.le_of_ble_eq_true rfl) (Nat.le_refl _) (Nat.le_refl _) ?_
  show AW g ρ (QI Q) (d + 1) mJxf58ca_floatToIntBits_5c35a 0 [(0, .float x0)] [] ρ S
  refine AW_fload_n 0 (n := 0) rfl dJxf58ca_floatToIntBits_5c35a_0 rfl ?_
  refine AW_callSi (M := mJxf58ca_floatToIntBits_5c35a) (pc := 1) (As := [.float x0]) (ρ1 := ρ) (st := []) dJxf58ca_floatToIntBits_5c35a_1 mdJxf58ca_isNaN_12338 mlJxf58ca_59 smJxf58ca_isNaN_12338 ⟨rfl, npJxf58ca_isNaN_12338⟩ (Nat.le_of_ble_eq_true rfl) (Nat.le_refl _) (Nat.le_refl _) rfl (CALLi.mono h (fun v1 S1 _ h => ?_))
  refine AW_if_ne dJxf58ca_floatToIntBits_5c35a_4 rfl (iteM h (fun h => ?_) (fun h => ?_))
  · refine AW_fload_n 0 (n := 0) rfl dJxf58ca_floatToIntBits_5c35a_7 rfl ?_
    refine AW_rawF (M := mJxf58ca_floatToIntBits_5c35a) (pc := 8) dJxf58ca_floatToIntBits_5c35a_8 mlJxf58ca_74 wRawFn wRawFs wRawFi (Nat.le_of_ble_eq_true rfl) ?_
    exact AW_reti dJxf58ca_floatToIntBits_5c35a_11 rfl h
  · refine AW_ldc (v := 2143289344) dJxf58ca_floatToIntBits_5c35a_12 kcJxf58ca_77 ?_
    exact AW_reti dJxf58ca_floatToIntBits_5c35a_14 rfl h
set_option maxRecDepth 20000 in
theorem eJ7_copyOf_59c91 {g : GX} {Q : Nat → St → Prop} {d : Nat} {ρ ρ' : Rs} {S : St} (hρ : Ok ρ) {k0 n0 : Nat} (h16_0 : 16 ≤ k0) (hn_0 : k0 < rn ρ) (hs_0 : shp ρ k0 = .inr (0, n0)) {x1 : Int32} (hcle : rc ρ ≤ rc ρ') (hule : ru ρ ≤ ru ρ') (hFn : gF g (rn ρ)) (h : if x1 = (Int32.ofNat n0) then False else ¬ x1 < 0 ∧ (x1.toNatClampNeg ≤ 60000000 ∧ (rc ρ + 1 ≤ rc ρ' ∧ (ru ρ + x1.toNatClampNeg ≤ ru ρ' ∧ (¬ (if x1 < (Int32.ofNat n0) then x1 else (Int32.ofNat n0)) < 0 ∧ ((if x1 < (Int32.ofNat n0) then x1 else (Int32.ofNat n0)).toNatClampNeg ≤ n0 ∧ ((if x1 < (Int32.ofNat n0) then x1 else (Int32.ofNat n0)).toNatClampNeg ≤ x1.toNatClampNeg ∧ (newR ρ x1.toNatClampNeg x1.toNatClampNeg = ρ' ∧ (Q (rn ρ) (cpyS (newS S (rn ρ)) k0 (rn ρ) (if x1 < (Int32.ofNat n0) then x1 else (Int32.ofNat n0)).toNatClampNeg)))))))))) : CALLa g (d + 1) mJ7_copyOf_59c91 [.ref k0, .int x1] ρ ρ' S Q := by
  refine CALL.of mdJ7_copyOf_59c91.2.2.2.2 (Nat.le_of_ble_eq_true rfl) hcle hule ?_
  show AW g ρ' (QA Q) (d + 1) mJ7_copyOf_59c91 0 [(0, .ref k0), (1, .int x1)] [] ρ S
  refine AW_iload_n 1 (n := 1) rfl dJ7_copyOf_59c91_0 rfl ?_
  refine AW_aload_n 0 (n := 0) rfl dJ7_copyOf_59c91_1 rfl ?_
  refine AW_alen (v := Int32.ofNat n0) dJ7_copyOf_59c91_2 h16_0 hn_0 (by decide) hs_0 rfl ?_
  refine AW_icmp_ne dJ7_copyOf_59c91_3 rfl (iteM h (fun h => ?_) (fun h => ?_))
  · exact h.elim
  · refine AW_iload_n 1 (n := 1) rfl dJ7_copyOf_59c91_14 rfl ?_
    have hbd1 := h.2.2
    refine AW_newarr (atype := .int) (t := 0) dJ7_copyOf_59c91_15 (Or.inl ⟨rfl, rfl⟩) wArr_int h.1 rfl h.2.1 (newR_new hρ _ _) hbd1.1 hbd1.2.1 hFn (Nat.le_trans (Nat.le_of_ble_eq_true rfl) (hρ).1) ?_
    replace h := hbd1.2.2
    refine AW_astore_n (n := 2) (i := 2) rfl dJ7_copyOf_59c91_17 (Nat.le_of_ble_eq_true rfl) rfl ?_
    refine AW_aload_n 1 (n := 0) rfl dJ7_copyOf_59c91_18 rfl ?_
    refine AW_iconst (v := 0) dJ7_copyOf_59c91_19 rfl ?_
    refine AW_aload_n 0 (n := 2) rfl dJ7_copyOf_59c91_20 rfl ?_
    refine AW_iconst (v := 0) dJ7_copyOf_59c91_21 rfl ?_
    refine AW_aload_n 1 (n := 0) rfl dJ7_copyOf_59c91_22 rfl ?_
    refine AW_alen (v := Int32.ofNat n0) dJ7_copyOf_59c91_23 h16_0 (Nat.lt_succ_of_lt hn_0) (by decide) ((newR_shp hn_0).trans hs_0) rfl ?_
    refine AW_iload_n 2 (n := 1) rfl dJ7_copyOf_59c91_24 rfl ?_
    refine AW_mminI (M := mJ7_copyOf_59c91) (pc := 25) dJ7_copyOf_59c91_25 mlJ7_304 wmminIS wMath wmminIC (Nat.le_of_ble_eq_true rfl) ?_ hbd1.1 hbd1.2.1
    refine AW_acopy (M := mJ7_copyOf_59c91) (pc := 28) dJ7_copyOf_59c91_28 wCpyL wCpyN wCpyS wSysI h16_0 (Nat.lt_succ_of_lt hn_0) ((newR_shp hn_0).trans hs_0) (Nat.le_trans (Nat.le_of_ble_eq_true rfl) (hρ).1) (Nat.lt_succ_self _) (newR_new hρ _ _) h.1 h.2.1 h.2.2.1 (Nat.le_of_ble_eq_true rfl) hFn ?_
    replace h := h.2.2.2
    refine AW_aload_n 0 (n := 2) rfl dJ7_copyOf_59c91_31 rfl ?_
    refine AW.rhoE h.1 ?_
    replace h := h.2
    exact AW_reta dJ7_copyOf_59c91_32 rfl (Or.inr ⟨_, rfl⟩) h
