set_option maxRecDepth 20000 in
theorem eX12_in {g : GX} {Q : Int32 → St → Prop} {d : Nat} {ρ : Rs} {S : St} (hρ : Ok ρ) {x0 : Int64} {x2 : Int64} {x4 : Int64} (h : if x0 < x2 then Q 0 S else if x4 < x0 then Q 0 S else Q 1 S) : CALLi g d mX12_in [.long x0, .long x2, .long x4] ρ ρ S Q := by
  refine CALL.of mdX12_in.2.2.2.2 (Nat.le_of_ble_eq_true rfl) (Nat.le_refl _) (Nat.le_refl _) ?_
  show AW g ρ (QI Q) d mX12_in 0 [(0, .long x0), (2, .long x2), (4, .long x4)] [] ρ S
  refine AW_lload_n 0 (n := 0) rfl dX12_in_0 rfl ?_
  refine AW_lload_n 1 (n := 2) rfl dX12_in_1 rfl ?_
  refine AW_lc_lt dX12_in_2 dX12_in_3 rfl (iteM h (fun h => ?_) (fun h => ?_))
  · refine AW_iconst (v := 0) dX12_in_17 rfl ?_
    exact AW_retz dX12_in_18 rfl Bz0 h
  · refine AW_lload_n 0 (n := 0) rfl dX12_in_6 rfl ?_
    refine AW_lload 2 dX12_in_7 rfl ?_
    refine AW_lc_gt dX12_in_9 dX12_in_10 rfl (iteM h (fun h => ?_) (fun h => ?_))
    · refine AW_iconst (v := 0) dX12_in_17 rfl ?_
      exact AW_retz dX12_in_18 rfl Bz0 h
    · refine AW_iconst (v := 1) dX12_in_13 rfl ?_
      refine AW_goto (tgt := 18) dX12_in_14 rfl ?_
      exact AW_retz dX12_in_18 rfl Bz1 h
set_option maxRecDepth 20000 in
theorem eX12_has {g : GX} {Q : Int32 → St → Prop} {d : Nat} {ρ : Rs} {S : St} (hρ : Ok ρ) {x0 : Int32} {x1 : Int32} (h : if ((x0 >>> (x1 &&& 31)) &&& 1) = 1 then Q 1 S else Q 0 S) : CALLi g d mX12_has [.int x0, .int x1] ρ ρ S Q := by
  refine CALL.of mdX12_has.2.2.2.2 (Nat.le_of_ble_eq_true rfl) (Nat.le_refl _) (Nat.le_refl _) ?_
  show AW g ρ (QI Q) d mX12_has 0 [(0, .int x0), (1, .int x1)] [] ρ S
  refine AW_iload_n 0 (n := 0) rfl dX12_has_0 rfl ?_
  refine AW_iload_n 1 (n := 1) rfl dX12_has_1 rfl ?_
  refine AW_ishr dX12_has_2 ?_
  refine AW_iconst (v := 1) dX12_has_3 rfl ?_
  refine AW_iand dX12_has_4 ?_
  refine AW_iconst (v := 1) dX12_has_5 rfl ?_
  refine AW_icmp_ne dX12_has_6 rfl (iteM h (fun h => ?_) (fun h => ?_))
  · refine AW_iconst (v := 1) dX12_has_9 rfl ?_
    refine AW_goto (tgt := 14) dX12_has_10 rfl ?_
    exact AW_retz dX12_has_14 rfl Bz1 h
  · refine AW_iconst (v := 0) dX12_has_13 rfl ?_
    exact AW_retz dX12_has_14 rfl Bz0 h
set_option maxRecDepth 20000 in
theorem eX12_bitsOf_4 {g : GX} {Q : Int32 → St → Prop} {d : Nat} {ρ : Rs} {S : St} (hρ : Ok ρ) {x0 : Int32} {x1 : Int32} {x2 : Int32} (h : if (16 : Int32) ≤ x2 then Q x1 S else AW g ρ (QI Q) d mX12_bitsOf 4 [(0, .int x0), (1, .int (x1 + ((x0 >>> (x2 &&& 31)) &&& 1))), (2, .int (x2 + 1))] [] ρ S) : AW g ρ (QI Q) d mX12_bitsOf 4 [(0, .int x0), (1, .int x1), (2, .int x2)] [] ρ S := by
  refine AW_iload_n 2 (n := 2) rfl dX12_bitsOf_4 rfl ?_
  refine AW_bipush (v := 16) dX12_bitsOf_5 rfl ?_
  refine AW_icmp_ge dX12_bitsOf_7 rfl (iteM h (fun h => ?_) (fun h => ?_))
  · refine AW_iload_n 1 (n := 1) rfl dX12_bitsOf_24 rfl ?_
    exact AW_reti dX12_bitsOf_25 rfl h
  · refine AW_iload_n 1 (n := 1) rfl dX12_bitsOf_10 rfl ?_
    refine AW_iload_n 0 (n := 0) rfl dX12_bitsOf_11 rfl ?_
    refine AW_iload_n 2 (n := 2) rfl dX12_bitsOf_12 rfl ?_
    refine AW_ishr dX12_bitsOf_13 ?_
    refine AW_iconst (v := 1) dX12_bitsOf_14 rfl ?_
    refine AW_iand dX12_bitsOf_15 ?_
    refine AW_iadd dX12_bitsOf_16 ?_
    refine AW_istore_n (n := 1) (i := 1) rfl dX12_bitsOf_17 (Nat.le_of_ble_eq_true rfl) rfl ?_
    refine AW_iinc 2 (v := x2 + 1) dX12_bitsOf_18 rfl rfl (Nat.le_of_ble_eq_true rfl) rfl ?_
    refine AW_goto (tgt := 4) dX12_bitsOf_21 rfl ?_
    exact AW.sub [2, 1, 0] rfl h
set_option maxRecDepth 20000 in
theorem eX12_bitsOf {g : GX} {Q : Int32 → St → Prop} {d : Nat} {ρ : Rs} {S : St} (hρ : Ok ρ) {x0 : Int32} (h : AW g ρ (QI Q) d mX12_bitsOf 4 [(0, .int x0), (1, .int 0), (2, .int 0)] [] ρ S) : CALLi g d mX12_bitsOf [.int x0] ρ ρ S Q := by
  refine CALL.of mdX12_bitsOf.2.2.2.2 (Nat.le_of_ble_eq_true rfl) (Nat.le_refl _) (Nat.le_refl _) ?_
  show AW g ρ (QI Q) d mX12_bitsOf 0 [(0, .int x0)] [] ρ S
  refine AW_iconst (v := 0) dX12_bitsOf_0 rfl ?_
  refine AW_istore_n (n := 1) (i := 1) rfl dX12_bitsOf_1 (Nat.le_of_ble_eq_true rfl) rfl ?_
  refine AW_iconst (v := 0) dX12_bitsOf_2 rfl ?_
  refine AW_istore_n (n := 2) (i := 2) rfl dX12_bitsOf_3 (Nat.le_of_ble_eq_true rfl) rfl ?_
  exact AW.sub [2, 1, 0] rfl h
set_option maxRecDepth 20000 in
theorem eX12_common_6 {g : GX} {Q : Int64 → St → Prop} {d : Nat} {ρ : Rs} {S : St} (hρ : Ok ρ) {x4 : Int64} {x6 : Int64} (h : if x6 ≤ 0 then Q x4 S else ¬ x6 = (0 : Int64) ∧ (AW g ρ (QJ Q) d mX12_common 6 [(4, .long x6), (6, .long (x4 - x4 / x6 * x6))] [] ρ S)) : AW g ρ (QJ Q) d mX12_common 6 [(4, .long x4), (6, .long x6)] [] ρ S := by
  refine AW_lload 1 dX12_common_6 rfl ?_
  refine AW_lconst (v := 0) dX12_common_8 rfl ?_
  refine AW_lc_le dX12_common_9 dX12_common_10 rfl (iteM h (fun h => ?_) (fun h => ?_))
  · refine AW_lload 0 dX12_common_31 rfl ?_
    exact AW_retl dX12_common_33 rfl h
  · refine AW_lload 0 dX12_common_13 rfl ?_
    refine AW_lload 1 dX12_common_15 rfl ?_
    refine AW_lrem dX12_common_17 h.1 ?_
    replace h := h.2
    refine AW_lstore dX12_common_18 (Nat.le_of_ble_eq_true rfl) rfl ?_
    refine AW_lload 2 dX12_common_20 rfl ?_
    refine AW_lstore dX12_common_22 (Nat.le_of_ble_eq_true rfl) rfl ?_
    refine AW_lload 1 dX12_common_24 rfl ?_
    refine AW_lstore dX12_common_26 (Nat.le_of_ble_eq_true rfl) rfl ?_
    refine AW_goto (tgt := 6) dX12_common_28 rfl ?_
    exact AW.sub [1, 0] rfl h
set_option maxRecDepth 20000 in
theorem eX12_common {g : GX} {Q : Int64 → St → Prop} {d : Nat} {ρ : Rs} {S : St} (hρ : Ok ρ) {x0 : Int64} {x2 : Int64} (h : AW g ρ (QJ Q) d mX12_common 6 [(4, .long x0), (6, .long x2)] [] ρ S) : CALLl g d mX12_common [.long x0, .long x2] ρ ρ S Q := by
  refine CALL.of mdX12_common.2.2.2.2 (Nat.le_of_ble_eq_true rfl) (Nat.le_refl _) (Nat.le_refl _) ?_
  show AW g ρ (QJ Q) d mX12_common 0 [(0, .long x0), (2, .long x2)] [] ρ S
  refine AW_lload_n 0 (n := 0) rfl dX12_common_0 rfl ?_
  refine AW_lstore dX12_common_1 (Nat.le_of_ble_eq_true rfl) rfl ?_
  refine AW_lload_n 2 (n := 2) rfl dX12_common_3 rfl ?_
  refine AW_lstore dX12_common_4 (Nat.le_of_ble_eq_true rfl) rfl ?_
  exact AW.sub [1, 0] rfl h
set_option maxRecDepth 20000 in
theorem eX12_feed_42 {g : GX} {Q : Int32 → St → Prop} {d : Nat} {ρ ρ' : Rs} {S : St} (hρ : Ok ρ) (hcle : rc ρ ≤ rc ρ') (hule : ru ρ ≤ ru ρ') {k6 : Nat} (h16_6 : 16 ≤ k6) (hn_6 : k6 < rn ρ) (hs_6 : shp ρ k6 = .inr (0, 5)) {x7 : Int32} (hF : ∀ k ∈ ([80, 84] : List Nat), gF g k) (h : if (20 : Int32) ≤ x7 then ρ = ρ' ∧ (Q ((S.1 80 4) + 20) (setI S 80 4 ((S.1 80 4) + 20))) else vp_in (x7 / 4) 5 ∧ (vp_in ((S.1 80 4) + x7) 300 ∧ (AW g ρ' (QI Q) d mX12_feed 42 [(0, .ref 80), (6, .ref k6), (7, .int (x7 + 1))] [] ρ (setI S 84 (((S.1 80 4) + x7).toNatClampNeg) ((((S.1 k6 ((x7 / 4).toNatClampNeg)).toUInt32 >>> ((24 - (8 * (x7 - x7 / 4 * 4))).toUInt32 &&& Int32.toUInt32 31)).toInt32) &&& 255))))) : AW g ρ' (QI Q) d mX12_feed 42 [(0, .ref 80), (6, .ref k6), (7, .int x7)] [] ρ S := by
  refine AW_iload 2 dX12_feed_42 rfl ?_
  refine AW_bipush (v := 20) dX12_feed_44 rfl ?_
  refine AW_icmp_ge dX12_feed_46 rfl (iteM h (fun h => ?_) (fun h => ?_))
  · refine AW_aload_n 0 (n := 0) rfl dX12_feed_89 rfl ?_
    refine AW_dup dX12_feed_90 rfl ?_
    refine AW_get dX12_feed_91 flX12_57 (Nat.le_of_ble_eq_true rfl) (okn hρ (Nat.le_of_ble_eq_true rfl)) rfl (v := .int (S.1 80 4)) (fun _ => rfl) ?_
    refine AW_bipush (v := 20) dX12_feed_94 rfl ?_
    refine AW_iadd dX12_feed_96 ?_
    refine AW_put dX12_feed_97 flX12_57 fp_10_4 (Nat.le_of_ble_eq_true rfl) (okn hρ (Nat.le_of_ble_eq_true rfl)) rfl (fun _ => rfl) (fun _ => rfl) rfl rfl rfl rfl (Fr.setI _ _ _ rfl) (fun _ _ => rfl) (ρ2 := ρ) (S2 := setI S 80 4 ((S.1 80 4) + 20)) (fun _ => rfl) (fun _ _ _ q1 _ => fvI_o q1) (hF _ (List.mem_of_getElem? (i := 0) rfl)) ?_
    refine AW_aload_n 0 (n := 0) rfl dX12_feed_100 rfl ?_
    refine AW_get dX12_feed_101 flX12_57 (Nat.le_of_ble_eq_true rfl) (okn hρ (Nat.le_of_ble_eq_true rfl)) rfl (v := .int ((S.1 80 4) + 20)) (fun _ => rfl) ?_
    refine AW.rhoE h.1 ?_
    replace h := h.2
    exact AW_reti dX12_feed_104 rfl h
  · refine AW_aload_n 0 (n := 0) rfl dX12_feed_49 rfl ?_
    refine AW_get dX12_feed_50 flX12_19 (Nat.le_of_ble_eq_true rfl) (okn hρ (Nat.le_of_ble_eq_true rfl)) rfl (v := .ref 84) (fvR (okR hρ 54 rfl)) ?_
    refine AW_aload_n 0 (n := 0) rfl dX12_feed_53 rfl ?_
    refine AW_get dX12_feed_54 flX12_57 (Nat.le_of_ble_eq_true rfl) (okn hρ (Nat.le_of_ble_eq_true rfl)) rfl (v := .int (S.1 80 4)) (fun _ => rfl) ?_
    refine AW_iload 2 dX12_feed_57 rfl ?_
    refine AW_iadd dX12_feed_59 ?_
    refine AW_aload 1 dX12_feed_60 rfl ?_
    refine AW_iload 2 dX12_feed_62 rfl ?_
    refine AW_iconst (v := 4) dX12_feed_64 rfl ?_
    refine AW_idiv dX12_feed_65 (by decide) ?_
    refine AW_iaload dX12_feed_66 h16_6 hn_6 hs_6 h.1 (v := S.1 k6 ((x7 / 4).toNatClampNeg)) rfl ?_
    replace h := h.2
    refine AW_bipush (v := 24) dX12_feed_67 rfl ?_
    refine AW_bipush (v := 8) dX12_feed_69 rfl ?_
    refine AW_iload 2 dX12_feed_71 rfl ?_
    refine AW_iconst (v := 4) dX12_feed_73 rfl ?_
    refine AW_irem dX12_feed_74 (by decide) ?_
    refine AW_imul dX12_feed_75 ?_
    refine AW_isub dX12_feed_76 ?_
    refine AW_iushr dX12_feed_77 ?_
    refine AW_sipush (v := 255) dX12_feed_78 rfl ?_
    refine AW_iand dX12_feed_81 ?_
    refine AW_iastore dX12_feed_82 (Nat.le_of_ble_eq_true rfl) (okn hρ (Nat.le_of_ble_eq_true rfl)) rfl h.1 (hF _ (List.mem_of_getElem? (i := 1) rfl)) (jx := ((S.1 80 4) + x7).toNatClampNeg) rfl ?_
    replace h := h.2
    refine AW_iinc 2 (v := x7 + 1) dX12_feed_83 rfl rfl (Nat.le_of_ble_eq_true rfl) rfl ?_
    refine AW_goto (tgt := 42) dX12_feed_86 rfl ?_
    exact AW.sub [1, 2, 0] rfl h
set_option maxRecDepth 20000 in
theorem eX12_feed {g : GX} {Q : Int32 → St → Prop} {d : Nat} {ρ ρ' : Rs} {S : St} (hρ : Ok ρ) {x1 : Int32} {x2 : Int32} {x3 : Int32} {x4 : Int32} {x5 : Int32} (hcle : rc ρ ≤ rc ρ') (hule : ru ρ ≤ ru ρ') (hFn : gF g (rn ρ)) (h : if (S.1 80 4) ≤ 280 then rc ρ + 1 ≤ rc ρ' ∧ (ru ρ + 5 ≤ ru ρ' ∧ (AW g ρ' (QI Q) d mX12_feed 42 [(0, .ref 80), (6, .ref (rn ρ)), (7, .int 0)] [] (newR ρ 5 5) (setI (setI (setI (setI (setI (newS S (rn ρ)) (rn ρ) 0 x1) (rn ρ) 1 x2) (rn ρ) 2 x3) (rn ρ) 3 x4) (rn ρ) 4 x5))) else ρ = ρ' ∧ (Q (-1) S)) : CALLi g d mX12_feed [.ref 80, .int x1, .int x2, .int x3, .int x4, .int x5] ρ ρ' S Q := by
  refine CALL.of mdX12_feed.2.2.2.2 (Nat.le_of_ble_eq_true rfl) hcle hule ?_
  show AW g ρ' (QI Q) d mX12_feed 0 [(0, .ref 80), (1, .int x1), (2, .int x2), (3, .int x3), (4, .int x4), (5, .int x5)] [] ρ S
  refine AW_aload_n 0 (n := 0) rfl dX12_feed_0 rfl ?_
  refine AW_get dX12_feed_1 flX12_57 (Nat.le_of_ble_eq_true rfl) (okn hρ (Nat.le_of_ble_eq_true rfl)) rfl (v := .int (S.1 80 4)) (fun _ => rfl) ?_
  refine AW_sipush (v := 280) dX12_feed_4 rfl ?_
  refine AW_icmp_le dX12_feed_7 rfl (iteM h (fun h => ?_) (fun h => ?_))
  · refine AW_iconst (v := 5) dX12_feed_12 rfl ?_
    have hbd1 := h
    refine AW_newarr (atype := .int) (t := 0) dX12_feed_13 (Or.inl ⟨rfl, rfl⟩) wArr_int (by decide) rfl (by decide) (newR_new hρ _ _) hbd1.1 hbd1.2.1 hFn (Nat.le_trans (Nat.le_of_ble_eq_true rfl) (hρ).1) ?_
    replace h := hbd1.2.2
    refine AW_dup dX12_feed_15 rfl ?_
    refine AW_iconst (v := 0) dX12_feed_16 rfl ?_
    refine AW_iload_n 1 (n := 1) rfl dX12_feed_17 rfl ?_
    refine AW_iastore dX12_feed_18 (Nat.le_trans (Nat.le_of_ble_eq_true rfl) (hρ).1) (Nat.lt_succ_self _) (newR_new hρ _ _) (show ¬ (_ ∨ _) by decide) hFn (jx := 0) rfl ?_
    refine AW_dup dX12_feed_19 rfl ?_
    refine AW_iconst (v := 1) dX12_feed_20 rfl ?_
    refine AW_iload_n 2 (n := 2) rfl dX12_feed_21 rfl ?_
    refine AW_iastore dX12_feed_22 (Nat.le_trans (Nat.le_of_ble_eq_true rfl) (hρ).1) (Nat.lt_succ_self _) (newR_new hρ _ _) (show ¬ (_ ∨ _) by decide) hFn (jx := 1) rfl ?_
    refine AW_dup dX12_feed_23 rfl ?_
    refine AW_iconst (v := 2) dX12_feed_24 rfl ?_
    refine AW_iload_n 3 (n := 3) rfl dX12_feed_25 rfl ?_
    refine AW_iastore dX12_feed_26 (Nat.le_trans (Nat.le_of_ble_eq_true rfl) (hρ).1) (Nat.lt_succ_self _) (newR_new hρ _ _) (show ¬ (_ ∨ _) by decide) hFn (jx := 2) rfl ?_
    refine AW_dup dX12_feed_27 rfl ?_
    refine AW_iconst (v := 3) dX12_feed_28 rfl ?_
    refine AW_iload 4 dX12_feed_29 rfl ?_
    refine AW_iastore dX12_feed_31 (Nat.le_trans (Nat.le_of_ble_eq_true rfl) (hρ).1) (Nat.lt_succ_self _) (newR_new hρ _ _) (show ¬ (_ ∨ _) by decide) hFn (jx := 3) rfl ?_
    refine AW_dup dX12_feed_32 rfl ?_
    refine AW_iconst (v := 4) dX12_feed_33 rfl ?_
    refine AW_iload 5 dX12_feed_34 rfl ?_
    refine AW_iastore dX12_feed_36 (Nat.le_trans (Nat.le_of_ble_eq_true rfl) (hρ).1) (Nat.lt_succ_self _) (newR_new hρ _ _) (show ¬ (_ ∨ _) by decide) hFn (jx := 4) rfl ?_
    refine AW_astore dX12_feed_37 (Nat.le_of_ble_eq_true rfl) rfl ?_
    refine AW_iconst (v := 0) dX12_feed_39 rfl ?_
    refine AW_istore dX12_feed_40 (Nat.le_of_ble_eq_true rfl) rfl ?_
    exact AW.sub [2, 1, 0] rfl h
  · refine AW_iconst (v := (-1)) dX12_feed_10 rfl ?_
    refine AW.rhoE h.1 ?_
    replace h := h.2
    exact AW_reti dX12_feed_11 rfl h
set_option maxRecDepth 20000 in
theorem eX12_end {g : GX} {Q : Int32 → St → Prop} {d : Nat} {ρ : Rs} {S : St} (hρ : Ok ρ) {x1 : Int32} (hF : ∀ k ∈ ([80] : List Nat), gF g k) (h : CALLi g d mX12_in [.long x1.toInt64, .long 0, .long ((S.1 80 4).toInt64)] ρ ρ S (fun v1 S1 => if v1 = 0 then Q (-1) S1 else Q x1 (setI S1 80 4 x1))) : CALLi g (d + 1) mX12_end [.ref 80, .int x1] ρ ρ S Q := by
  refine CALL.of mdX12_end.2.2.2.2 (Nat.le_of_ble_eq_true rfl) (Nat.le_refl _) (Nat.le_refl _) ?_
  show AW g ρ (QI Q) (d + 1) mX12_end 0 [(0, .ref 80), (1, .int x1)] [] ρ S
  refine AW_iload_n 1 (n := 1) rfl dX12_end_0 rfl ?_
  refine AW_i2l dX12_end_1 ?_
  refine AW_lconst (v := 0) dX12_end_2 rfl ?_
  refine AW_aload_n 0 (n := 0) rfl dX12_end_3 rfl ?_
  refine AW_get dX12_end_4 flX12_57 (Nat.le_of_ble_eq_true rfl) (okn hρ (Nat.le_of_ble_eq_true rfl)) rfl (v := .int (S.1 80 4)) (fun _ => rfl) ?_
  refine AW_i2l dX12_end_7 ?_
  refine AW_callSi (M := mX12_end) (pc := 8) (As := [.long x1.toInt64, .long 0, .long ((S.1 80 4).toInt64)]) (ρ1 := ρ) (st := []) dX12_end_8 mdX12_in mlX12_60 smX12_in ⟨rfl, npX12_in⟩ (Nat.le_of_ble_eq_true rfl) (Nat.le_refl _) (Nat.le_refl _) rfl (CALLi.mono h (fun v1 S1 _ h => ?_))
  refine AW_if_ne dX12_end_11 rfl (iteM h (fun h => ?_) (fun h => ?_))
  · refine AW_iconst (v := (-1)) dX12_end_14 rfl ?_
    exact AW_reti dX12_end_15 rfl h
  · refine AW_aload_n 0 (n := 0) rfl dX12_end_16 rfl ?_
    refine AW_iload_n 1 (n := 1) rfl dX12_end_17 rfl ?_
    refine AW_put dX12_end_18 flX12_57 fp_10_4 (Nat.le_of_ble_eq_true rfl) (okn hρ (Nat.le_of_ble_eq_true rfl)) rfl (fun _ => rfl) (fun _ => rfl) rfl rfl rfl rfl (Fr.setI _ _ _ rfl) (fun _ _ => rfl) (ρ2 := ρ) (S2 := setI S1 80 4 x1) (fun _ => rfl) (fun _ _ _ q1 _ => fvI_o q1) (hF _ (List.mem_of_getElem? (i := 0) rfl)) ?_
    refine AW_iload_n 1 (n := 1) rfl dX12_end_21 rfl ?_
    exact AW_reti dX12_end_22 rfl h
set_option maxRecDepth 20000 in
theorem eX12_isAt {g : GX} {Q : Int32 → St → Prop} {d : Nat} {ρ : Rs} {S : St} (hρ : Ok ρ) {x1 : Int32} {x2 : Int32} (h : if (S.1 80 4) ≤ (S.1 80 7) then Q 0 S else vp_in (S.1 80 7) 300 ∧ (CALLi g d mX12_in [.long ((S.1 84 ((S.1 80 7).toNatClampNeg)).toInt64), .long x1.toInt64, .long x2.toInt64] ρ ρ S (fun v1 S1 => if v1 = 0 then Q 0 S1 else Q 1 S1))) : CALLi g (d + 1) mX12_isAt [.ref 80, .int x1, .int x2] ρ ρ S Q := by
  refine CALL.of mdX12_isAt.2.2.2.2 (Nat.le_of_ble_eq_true rfl) (Nat.le_refl _) (Nat.le_refl _) ?_
  show AW g ρ (QI Q) (d + 1) mX12_isAt 0 [(0, .ref 80), (1, .int x1), (2, .int x2)] [] ρ S
  refine AW_aload_n 0 (n := 0) rfl dX12_isAt_0 rfl ?_
  refine AW_get dX12_isAt_1 flX12_64 (Nat.le_of_ble_eq_true rfl) (okn hρ (Nat.le_of_ble_eq_true rfl)) rfl (v := .int (S.1 80 7)) (fun _ => rfl) ?_
  refine AW_aload_n 0 (n := 0) rfl dX12_isAt_4 rfl ?_
  refine AW_get dX12_isAt_5 flX12_57 (Nat.le_of_ble_eq_true rfl) (okn hρ (Nat.le_of_ble_eq_true rfl)) rfl (v := .int (S.1 80 4)) (fun _ => rfl) ?_
  refine AW_icmp_ge dX12_isAt_8 rfl (iteM h (fun h => ?_) (fun h => ?_))
  · refine AW_iconst (v := 0) dX12_isAt_35 rfl ?_
    exact AW_retz dX12_isAt_36 rfl Bz0 h
  · refine AW_aload_n 0 (n := 0) rfl dX12_isAt_11 rfl ?_
    refine AW_get dX12_isAt_12 flX12_19 (Nat.le_of_ble_eq_true rfl) (okn hρ (Nat.le_of_ble_eq_true rfl)) rfl (v := .ref 84) (fvR (okR hρ 54 rfl)) ?_
    refine AW_aload_n 0 (n := 0) rfl dX12_isAt_15 rfl ?_
    refine AW_get dX12_isAt_16 flX12_64 (Nat.le_of_ble_eq_true rfl) (okn hρ (Nat.le_of_ble_eq_true rfl)) rfl (v := .int (S.1 80 7)) (fun _ => rfl) ?_
    refine AW_iaload dX12_isAt_19 (Nat.le_of_ble_eq_true rfl) (okn hρ (Nat.le_of_ble_eq_true rfl)) rfl h.1 (v := S.1 84 ((S.1 80 7).toNatClampNeg)) rfl ?_
    replace h := h.2
    refine AW_i2l dX12_isAt_20 ?_
    refine AW_iload_n 1 (n := 1) rfl dX12_isAt_21 rfl ?_
    refine AW_i2l dX12_isAt_22 ?_
    refine AW_iload_n 2 (n := 2) rfl dX12_isAt_23 rfl ?_
    refine AW_i2l dX12_isAt_24 ?_
    refine AW_callSi (M := mX12_isAt) (pc := 25) (As := [.long ((S.1 84 ((S.1 80 7).toNatClampNeg)).toInt64), .long x1.toInt64, .long x2.toInt64]) (ρ1 := ρ) (st := []) dX12_isAt_25 mdX12_in mlX12_60 smX12_in ⟨rfl, npX12_in⟩ (Nat.le_of_ble_eq_true rfl) (Nat.le_refl _) (Nat.le_refl _) rfl (CALLi.mono h (fun v1 S1 _ h => ?_))
    refine AW_if_eq dX12_isAt_28 rfl (iteM h (fun h => ?_) (fun h => ?_))
    · refine AW_iconst (v := 0) dX12_isAt_35 rfl ?_
      exact AW_retz dX12_isAt_36 rfl Bz0 h
    · refine AW_iconst (v := 1) dX12_isAt_31 rfl ?_
      refine AW_goto (tgt := 36) dX12_isAt_32 rfl ?_
      exact AW_retz dX12_isAt_36 rfl Bz1 h
set_option maxRecDepth 20000 in
theorem eX12_next_123 {g : GX} {Q : St → Prop} {d : Nat} {ρ : Rs} {S : St} (hρ : Ok ρ) (hF : ∀ k ∈ ([80] : List Nat), gF g k) (h : CALLi g d mX12_isAt [.ref 80, .int 48, .int 57] ρ ρ S (fun v1 S1 => if v1 = 0 then Q S1 else vp_in (S1.1 80 7) 300 ∧ (AW g ρ (QV Q) (d + 1) mX12_next 123 [(0, .ref 80)] [] ρ (setI (setI S1 80 10 (if (((10 * (S1.1 80 10)) + (S1.1 84 ((S1.1 80 7).toNatClampNeg))) - 48) < 99999 then (((10 * (S1.1 80 10)) + (S1.1 84 ((S1.1 80 7).toNatClampNeg))) - 48) else 99999)) 80 7 ((S1.1 80 7) + 1))))) : AW g ρ (QV Q) (d + 1) mX12_next 123 [(0, .ref 80)] [] ρ S := by
  refine AW_aload_n 0 (n := 0) rfl dX12_next_123 rfl ?_
  refine AW_bipush (v := 48) dX12_next_124 rfl ?_
  refine AW_bipush (v := 57) dX12_next_126 rfl ?_
  refine AW_callVi (M := mX12_next) (pc := 128) (As := [.int 48, .int 57]) (ρ1 := ρ) (st := []) dX12_next_128 mdX12_isAt rfl mlX12_67 imX12_isAt seX12_isAt (rcv_of (q := (RX12, TX12, 40)) (Nat.le_of_ble_eq_true rfl) (okn hρ (Nat.le_of_ble_eq_true rfl)) rfl rfl) ⟨rfl, npX12_isAt⟩ (Nat.le_of_ble_eq_true rfl) (Nat.le_refl _) (Nat.le_refl _) rfl (CALLi.mono h (fun v1 S1 _ h => ?_))
  refine AW_if_eq dX12_next_131 rfl (iteM h (fun h => ?_) (fun h => ?_))
  · exact AW_retv dX12_next_206 rfl h
  · refine AW_aload_n 0 (n := 0) rfl dX12_next_134 rfl ?_
    refine AW_ldc (v := 99999) dX12_next_135 kcX12_80 ?_
    refine AW_bipush (v := 10) dX12_next_137 rfl ?_
    refine AW_aload_n 0 (n := 0) rfl dX12_next_139 rfl ?_
    refine AW_get dX12_next_140 flX12_74 (Nat.le_of_ble_eq_true rfl) (okn hρ (Nat.le_of_ble_eq_true rfl)) rfl (v := .int (S1.1 80 10)) (fun _ => rfl) ?_
    refine AW_imul dX12_next_143 ?_
    refine AW_aload_n 0 (n := 0) rfl dX12_next_144 rfl ?_
    refine AW_get dX12_next_145 flX12_19 (Nat.le_of_ble_eq_true rfl) (okn hρ (Nat.le_of_ble_eq_true rfl)) rfl (v := .ref 84) (fvR (okR hρ 54 rfl)) ?_
    refine AW_aload_n 0 (n := 0) rfl dX12_next_148 rfl ?_
    refine AW_get dX12_next_149 flX12_64 (Nat.le_of_ble_eq_true rfl) (okn hρ (Nat.le_of_ble_eq_true rfl)) rfl (v := .int (S1.1 80 7)) (fun _ => rfl) ?_
    refine AW_iaload dX12_next_152 (Nat.le_of_ble_eq_true rfl) (okn hρ (Nat.le_of_ble_eq_true rfl)) rfl h.1 (v := S1.1 84 ((S1.1 80 7).toNatClampNeg)) rfl ?_
    replace h := h.2
    refine AW_iadd dX12_next_153 ?_
    refine AW_bipush (v := 48) dX12_next_154 rfl ?_
    refine AW_isub dX12_next_156 ?_
    refine AW_mminI (M := mX12_next) (pc := 157) dX12_next_157 mlX12_81 wmminIS wMath wmminIC (Nat.le_of_ble_eq_true rfl) ?_ (Nat.le_refl _) (Nat.le_refl _)
    refine AW_put dX12_next_160 flX12_74 fp_10_10 (Nat.le_of_ble_eq_true rfl) (okn hρ (Nat.le_of_ble_eq_true rfl)) rfl (fun _ => rfl) (fun _ => rfl) rfl rfl rfl rfl (Fr.setI _ _ _ rfl) (fun _ _ => rfl) (ρ2 := ρ) (S2 := setI S1 80 10 (if (((10 * (S1.1 80 10)) + (S1.1 84 ((S1.1 80 7).toNatClampNeg))) - 48) < 99999 then (((10 * (S1.1 80 10)) + (S1.1 84 ((S1.1 80 7).toNatClampNeg))) - 48) else 99999)) (fun _ => rfl) (fun _ _ _ q1 _ => fvI_o q1) (hF _ (List.mem_of_getElem? (i := 0) rfl)) ?_
    refine AW_aload_n 0 (n := 0) rfl dX12_next_163 rfl ?_
    refine AW_dup dX12_next_164 rfl ?_
    refine AW_get dX12_next_165 flX12_64 (Nat.le_of_ble_eq_true rfl) (okn hρ (Nat.le_of_ble_eq_true rfl)) rfl (v := .int (S1.1 80 7)) (fun _ => rfl) ?_
    refine AW_iconst (v := 1) dX12_next_168 rfl ?_
    refine AW_iadd dX12_next_169 ?_
    refine AW_put dX12_next_170 flX12_64 fp_10_7 (Nat.le_of_ble_eq_true rfl) (okn hρ (Nat.le_of_ble_eq_true rfl)) rfl (fun _ => rfl) (fun _ => rfl) rfl rfl rfl rfl (Fr.setI _ _ _ rfl) (fun _ _ => rfl) (ρ2 := ρ) (S2 := setI (setI S1 80 10 (if (((10 * (S1.1 80 10)) + (S1.1 84 ((S1.1 80 7).toNatClampNeg))) - 48) < 99999 then (((10 * (S1.1 80 10)) + (S1.1 84 ((S1.1 80 7).toNatClampNeg))) - 48) else 99999)) 80 7 ((S1.1 80 7) + 1)) (fun _ => rfl) (fun _ _ _ q1 _ => fvI_o q1) (hF _ (List.mem_of_getElem? (i := 0) rfl)) ?_
    refine AW_goto (tgt := 123) dX12_next_173 rfl ?_
    exact AW.sub [0] rfl h
set_option maxRecDepth 20000 in
theorem eX12_next_83 {g : GX} {Q : St → Prop} {d : Nat} {ρ : Rs} {S : St} (hρ : Ok ρ) (hF : ∀ k ∈ ([80] : List Nat), gF g k) (h : CALLi g d mX12_isAt [.ref 80, .int 97, .int 122] ρ ρ S (fun v1 S1 => if v1 = 0 then Q S1 else AW g ρ (QV Q) (d + 1) mX12_next 83 [(0, .ref 80)] [] ρ (setI S1 80 7 ((S1.1 80 7) + 1)))) : AW g ρ (QV Q) (d + 1) mX12_next 83 [(0, .ref 80)] [] ρ S := by
  refine AW_aload_n 0 (n := 0) rfl dX12_next_83 rfl ?_
  refine AW_bipush (v := 97) dX12_next_84 rfl ?_
  refine AW_bipush (v := 122) dX12_next_86 rfl ?_
  refine AW_callVi (M := mX12_next) (pc := 88) (As := [.int 97, .int 122]) (ρ1 := ρ) (st := []) dX12_next_88 mdX12_isAt rfl mlX12_67 imX12_isAt seX12_isAt (rcv_of (q := (RX12, TX12, 40)) (Nat.le_of_ble_eq_true rfl) (okn hρ (Nat.le_of_ble_eq_true rfl)) rfl rfl) ⟨rfl, npX12_isAt⟩ (Nat.le_of_ble_eq_true rfl) (Nat.le_refl _) (Nat.le_refl _) rfl (CALLi.mono h (fun v1 S1 _ h => ?_))
  refine AW_if_eq dX12_next_91 rfl (iteM h (fun h => ?_) (fun h => ?_))
  · exact AW_retv dX12_next_206 rfl h
  · refine AW_aload_n 0 (n := 0) rfl dX12_next_94 rfl ?_
    refine AW_dup dX12_next_95 rfl ?_
    refine AW_get dX12_next_96 flX12_64 (Nat.le_of_ble_eq_true rfl) (okn hρ (Nat.le_of_ble_eq_true rfl)) rfl (v := .int (S1.1 80 7)) (fun _ => rfl) ?_
    refine AW_iconst (v := 1) dX12_next_99 rfl ?_
    refine AW_iadd dX12_next_100 ?_
    refine AW_put dX12_next_101 flX12_64 fp_10_7 (Nat.le_of_ble_eq_true rfl) (okn hρ (Nat.le_of_ble_eq_true rfl)) rfl (fun _ => rfl) (fun _ => rfl) rfl rfl rfl rfl (Fr.setI _ _ _ rfl) (fun _ _ => rfl) (ρ2 := ρ) (S2 := setI S1 80 7 ((S1.1 80 7) + 1)) (fun _ => rfl) (fun _ _ _ q1 _ => fvI_o q1) (hF _ (List.mem_of_getElem? (i := 0) rfl)) ?_
    refine AW_goto (tgt := 83) dX12_next_104 rfl ?_
    exact AW.sub [0] rfl h
set_option maxRecDepth 20000 in
theorem eX12_next_0 {g : GX} {Q : St → Prop} {d : Nat} {ρ : Rs} {S : St} (hρ : Ok ρ) (hF : ∀ k ∈ ([80] : List Nat), gF g k) (h : CALLi g d mX12_isAt [.ref 80, .int 32, .int 32] ρ ρ S (fun v1 S1 => if v1 = 0 then CALLi g d mX12_isAt [.ref 80, .int 10, .int 10] ρ ρ S1 (fun v2 S2 => if v2 = 0 then if (S2.1 80 7) = (S2.1 80 4) then Q (setI (setI (setI S2 80 8 (S2.1 80 7)) 80 10 0) 80 9 0) else CALLi g d mX12_isAt [.ref 80, .int 97, .int 122] ρ ρ (setI (setI S2 80 8 (S2.1 80 7)) 80 10 0) (fun v3 S3 => if v3 = 0 then CALLi g d mX12_isAt [.ref 80, .int 48, .int 57] ρ ρ S3 (fun v4 S4 => if v4 = 0 then CALLi g d mX12_isAt [.ref 80, .int 59, .int 59] ρ ρ S4 (fun v5 S5 => if v5 = 0 then Q (setI (setI S5 80 9 4) 80 7 ((S5.1 80 7) + 1)) else Q (setI (setI S5 80 9 3) 80 7 ((S5.1 80 7) + 1))) else AW g ρ (QV Q) (d + 1) mX12_next 123 [(0, .ref 80)] [] ρ (setI S4 80 9 2)) else AW g ρ (QV Q) (d + 1) mX12_next 83 [(0, .ref 80)] [] ρ (setI S3 80 9 1)) else AW g ρ (QV Q) (d + 1) mX12_next 0 [(0, .ref 80)] [] ρ (setI S2 80 7 ((S2.1 80 7) + 1))) else AW g ρ (QV Q) (d + 1) mX12_next 0 [(0, .ref 80)] [] ρ (setI S1 80 7 ((S1.1 80 7) + 1)))) : AW g ρ (QV Q) (d + 1) mX12_next 0 [(0, .ref 80)] [] ρ S := by
  refine AW_aload_n 0 (n := 0) rfl dX12_next_0 rfl ?_
  refine AW_bipush (v := 32) dX12_next_1 rfl ?_
  refine AW_bipush (v := 32) dX12_next_3 rfl ?_
  refine AW_callVi (M := mX12_next) (pc := 5) (As := [.int 32, .int 32]) (ρ1 := ρ) (st := []) dX12_next_5 mdX12_isAt rfl mlX12_67 imX12_isAt seX12_isAt (rcv_of (q := (RX12, TX12, 40)) (Nat.le_of_ble_eq_true rfl) (okn hρ (Nat.le_of_ble_eq_true rfl)) rfl rfl) ⟨rfl, npX12_isAt⟩ (Nat.le_of_ble_eq_true rfl) (Nat.le_refl _) (Nat.le_refl _) rfl (CALLi.mono h (fun v1 S1 _ h => ?_))
  refine AW_if_ne dX12_next_8 rfl (iteM h (fun h => ?_) (fun h => ?_))
  · refine AW_aload_n 0 (n := 0) rfl dX12_next_11 rfl ?_
    refine AW_bipush (v := 10) dX12_next_12 rfl ?_
    refine AW_bipush (v := 10) dX12_next_14 rfl ?_
    refine AW_callVi (M := mX12_next) (pc := 16) (As := [.int 10, .int 10]) (ρ1 := ρ) (st := []) dX12_next_16 mdX12_isAt rfl mlX12_67 imX12_isAt seX12_isAt (rcv_of (q := (RX12, TX12, 40)) (Nat.le_of_ble_eq_true rfl) (okn hρ (Nat.le_of_ble_eq_true rfl)) rfl rfl) ⟨rfl, npX12_isAt⟩ (Nat.le_of_ble_eq_true rfl) (Nat.le_refl _) (Nat.le_refl _) rfl (CALLi.mono h (fun v2 S2 _ h => ?_))
    refine AW_if_eq dX12_next_19 rfl (iteM h (fun h => ?_) (fun h => ?_))
    · refine AW_aload_n 0 (n := 0) rfl dX12_next_35 rfl ?_
      refine AW_aload_n 0 (n := 0) rfl dX12_next_36 rfl ?_
      refine AW_get dX12_next_37 flX12_64 (Nat.le_of_ble_eq_true rfl) (okn hρ (Nat.le_of_ble_eq_true rfl)) rfl (v := .int (S2.1 80 7)) (fun _ => rfl) ?_
      refine AW_put dX12_next_40 flX12_71 fp_10_8 (Nat.le_of_ble_eq_true rfl) (okn hρ (Nat.le_of_ble_eq_true rfl)) rfl (fun _ => rfl) (fun _ => rfl) rfl rfl rfl rfl (Fr.setI _ _ _ rfl) (fun _ _ => rfl) (ρ2 := ρ) (S2 := setI S2 80 8 (S2.1 80 7)) (fun _ => rfl) (fun _ _ _ q1 _ => fvI_o q1) (hF _ (List.mem_of_getElem? (i := 0) rfl)) ?_
      refine AW_aload_n 0 (n := 0) rfl dX12_next_43 rfl ?_
      refine AW_iconst (v := 0) dX12_next_44 rfl ?_
      refine AW_put dX12_next_45 flX12_74 fp_10_10 (Nat.le_of_ble_eq_true rfl) (okn hρ (Nat.le_of_ble_eq_true rfl)) rfl (fun _ => rfl) (fun _ => rfl) rfl rfl rfl rfl (Fr.setI _ _ _ rfl) (fun _ _ => rfl) (ρ2 := ρ) (S2 := setI (setI S2 80 8 (S2.1 80 7)) 80 10 0) (fun _ => rfl) (fun _ _ _ q1 _ => fvI_o q1) (hF _ (List.mem_of_getElem? (i := 0) rfl)) ?_
      refine AW_aload_n 0 (n := 0) rfl dX12_next_48 rfl ?_
      refine AW_get dX12_next_49 flX12_64 (Nat.le_of_ble_eq_true rfl) (okn hρ (Nat.le_of_ble_eq_true rfl)) rfl (v := .int (S2.1 80 7)) (fun _ => rfl) ?_
      refine AW_aload_n 0 (n := 0) rfl dX12_next_52 rfl ?_
      refine AW_get dX12_next_53 flX12_57 (Nat.le_of_ble_eq_true rfl) (okn hρ (Nat.le_of_ble_eq_true rfl)) rfl (v := .int (S2.1 80 4)) (fun _ => rfl) ?_
      refine AW_icmp_ne dX12_next_56 rfl (iteM h (fun h => ?_) (fun h => ?_))
      · refine AW_aload_n 0 (n := 0) rfl dX12_next_59 rfl ?_
        refine AW_iconst (v := 0) dX12_next_60 rfl ?_
        refine AW_put dX12_next_61 flX12_77 fp_10_9 (Nat.le_of_ble_eq_true rfl) (okn hρ (Nat.le_of_ble_eq_true rfl)) rfl (fun _ => rfl) (fun _ => rfl) rfl rfl rfl rfl (Fr.setI _ _ _ rfl) (fun _ _ => rfl) (ρ2 := ρ) (S2 := setI (setI (setI S2 80 8 (S2.1 80 7)) 80 10 0) 80 9 0) (fun _ => rfl) (fun _ _ _ q1 _ => fvI_o q1) (hF _ (List.mem_of_getElem? (i := 0) rfl)) ?_
        refine AW_goto (tgt := 206) dX12_next_64 rfl ?_
        exact AW_retv dX12_next_206 rfl h
      · refine AW_aload_n 0 (n := 0) rfl dX12_next_67 rfl ?_
        refine AW_bipush (v := 97) dX12_next_68 rfl ?_
        refine AW_bipush (v := 122) dX12_next_70 rfl ?_
        refine AW_callVi (M := mX12_next) (pc := 72) (As := [.int 97, .int 122]) (ρ1 := ρ) (st := []) dX12_next_72 mdX12_isAt rfl mlX12_67 imX12_isAt seX12_isAt (rcv_of (q := (RX12, TX12, 40)) (Nat.le_of_ble_eq_true rfl) (okn hρ (Nat.le_of_ble_eq_true rfl)) rfl rfl) ⟨rfl, npX12_isAt⟩ (Nat.le_of_ble_eq_true rfl) (Nat.le_refl _) (Nat.le_refl _) rfl (CALLi.mono h (fun v3 S3 _ h => ?_))
        refine AW_if_eq dX12_next_75 rfl (iteM h (fun h => ?_) (fun h => ?_))
        · refine AW_aload_n 0 (n := 0) rfl dX12_next_107 rfl ?_
          refine AW_bipush (v := 48) dX12_next_108 rfl ?_
          refine AW_bipush (v := 57) dX12_next_110 rfl ?_
          refine AW_callVi (M := mX12_next) (pc := 112) (As := [.int 48, .int 57]) (ρ1 := ρ) (st := []) dX12_next_112 mdX12_isAt rfl mlX12_67 imX12_isAt seX12_isAt (rcv_of (q := (RX12, TX12, 40)) (Nat.le_of_ble_eq_true rfl) (okn hρ (Nat.le_of_ble_eq_true rfl)) rfl rfl) ⟨rfl, npX12_isAt⟩ (Nat.le_of_ble_eq_true rfl) (Nat.le_refl _) (Nat.le_refl _) rfl (CALLi.mono h (fun v4 S4 _ h => ?_))
          refine AW_if_eq dX12_next_115 rfl (iteM h (fun h => ?_) (fun h => ?_))
          · refine AW_aload_n 0 (n := 0) rfl dX12_next_176 rfl ?_
            refine AW_aload_n 0 (n := 0) rfl dX12_next_177 rfl ?_
            refine AW_bipush (v := 59) dX12_next_178 rfl ?_
            refine AW_bipush (v := 59) dX12_next_180 rfl ?_
            refine AW_callVi (M := mX12_next) (pc := 182) (As := [.int 59, .int 59]) (ρ1 := ρ) (st := [.ref 80]) dX12_next_182 mdX12_isAt rfl mlX12_67 imX12_isAt seX12_isAt (rcv_of (q := (RX12, TX12, 40)) (Nat.le_of_ble_eq_true rfl) (okn hρ (Nat.le_of_ble_eq_true rfl)) rfl rfl) ⟨rfl, npX12_isAt⟩ (Nat.le_of_ble_eq_true rfl) (Nat.le_refl _) (Nat.le_refl _) rfl (CALLi.mono h (fun v5 S5 _ h => ?_))
            refine AW_if_eq dX12_next_185 rfl (iteM h (fun h => ?_) (fun h => ?_))
            · refine AW_iconst (v := 4) dX12_next_192 rfl ?_
              refine AW_put dX12_next_193 flX12_77 fp_10_9 (Nat.le_of_ble_eq_true rfl) (okn hρ (Nat.le_of_ble_eq_true rfl)) rfl (fun _ => rfl) (fun _ => rfl) rfl rfl rfl rfl (Fr.setI _ _ _ rfl) (fun _ _ => rfl) (ρ2 := ρ) (S2 := setI S5 80 9 4) (fun _ => rfl) (fun _ _ _ q1 _ => fvI_o q1) (hF _ (List.mem_of_getElem? (i := 0) rfl)) ?_
              refine AW_aload_n 0 (n := 0) rfl dX12_next_196 rfl ?_
              refine AW_dup dX12_next_197 rfl ?_
              refine AW_get dX12_next_198 flX12_64 (Nat.le_of_ble_eq_true rfl) (okn hρ (Nat.le_of_ble_eq_true rfl)) rfl (v := .int (S5.1 80 7)) (fun _ => rfl) ?_
              refine AW_iconst (v := 1) dX12_next_201 rfl ?_
              refine AW_iadd dX12_next_202 ?_
              refine AW_put dX12_next_203 flX12_64 fp_10_7 (Nat.le_of_ble_eq_true rfl) (okn hρ (Nat.le_of_ble_eq_true rfl)) rfl (fun _ => rfl) (fun _ => rfl) rfl rfl rfl rfl (Fr.setI _ _ _ rfl) (fun _ _ => rfl) (ρ2 := ρ) (S2 := setI (setI S5 80 9 4) 80 7 ((S5.1 80 7) + 1)) (fun _ => rfl) (fun _ _ _ q1 _ => fvI_o q1) (hF _ (List.mem_of_getElem? (i := 0) rfl)) ?_
              exact AW_retv dX12_next_206 rfl h
            · refine AW_iconst (v := 3) dX12_next_188 rfl ?_
              refine AW_goto (tgt := 193) dX12_next_189 rfl ?_
              refine AW_put dX12_next_193 flX12_77 fp_10_9 (Nat.le_of_ble_eq_true rfl) (okn hρ (Nat.le_of_ble_eq_true rfl)) rfl (fun _ => rfl) (fun _ => rfl) rfl rfl rfl rfl (Fr.setI _ _ _ rfl) (fun _ _ => rfl) (ρ2 := ρ) (S2 := setI S5 80 9 3) (fun _ => rfl) (fun _ _ _ q1 _ => fvI_o q1) (hF _ (List.mem_of_getElem? (i := 0) rfl)) ?_
              refine AW_aload_n 0 (n := 0) rfl dX12_next_196 rfl ?_
              refine AW_dup dX12_next_197 rfl ?_
              refine AW_get dX12_next_198 flX12_64 (Nat.le_of_ble_eq_true rfl) (okn hρ (Nat.le_of_ble_eq_true rfl)) rfl (v := .int (S5.1 80 7)) (fun _ => rfl) ?_
              refine AW_iconst (v := 1) dX12_next_201 rfl ?_
              refine AW_iadd dX12_next_202 ?_
              refine AW_put dX12_next_203 flX12_64 fp_10_7 (Nat.le_of_ble_eq_true rfl) (okn hρ (Nat.le_of_ble_eq_true rfl)) rfl (fun _ => rfl) (fun _ => rfl) rfl rfl rfl rfl (Fr.setI _ _ _ rfl) (fun _ _ => rfl) (ρ2 := ρ) (S2 := setI (setI S5 80 9 3) 80 7 ((S5.1 80 7) + 1)) (fun _ => rfl) (fun _ _ _ q1 _ => fvI_o q1) (hF _ (List.mem_of_getElem? (i := 0) rfl)) ?_
              exact AW_retv dX12_next_206 rfl h
          · refine AW_aload_n 0 (n := 0) rfl dX12_next_118 rfl ?_
            refine AW_iconst (v := 2) dX12_next_119 rfl ?_
            refine AW_put dX12_next_120 flX12_77 fp_10_9 (Nat.le_of_ble_eq_true rfl) (okn hρ (Nat.le_of_ble_eq_true rfl)) rfl (fun _ => rfl) (fun _ => rfl) rfl rfl rfl rfl (Fr.setI _ _ _ rfl) (fun _ _ => rfl) (ρ2 := ρ) (S2 := setI S4 80 9 2) (fun _ => rfl) (fun _ _ _ q1 _ => fvI_o q1) (hF _ (List.mem_of_getElem? (i := 0) rfl)) ?_
            exact AW.sub [0] rfl h
        · refine AW_aload_n 0 (n := 0) rfl dX12_next_78 rfl ?_
          refine AW_iconst (v := 1) dX12_next_79 rfl ?_
          refine AW_put dX12_next_80 flX12_77 fp_10_9 (Nat.le_of_ble_eq_true rfl) (okn hρ (Nat.le_of_ble_eq_true rfl)) rfl (fun _ => rfl) (fun _ => rfl) rfl rfl rfl rfl (Fr.setI _ _ _ rfl) (fun _ _ => rfl) (ρ2 := ρ) (S2 := setI S3 80 9 1) (fun _ => rfl) (fun _ _ _ q1 _ => fvI_o q1) (hF _ (List.mem_of_getElem? (i := 0) rfl)) ?_
          exact AW.sub [0] rfl h
    · refine AW_aload_n 0 (n := 0) rfl dX12_next_22 rfl ?_
      refine AW_dup dX12_next_23 rfl ?_
      refine AW_get dX12_next_24 flX12_64 (Nat.le_of_ble_eq_true rfl) (okn hρ (Nat.le_of_ble_eq_true rfl)) rfl (v := .int (S2.1 80 7)) (fun _ => rfl) ?_
      refine AW_iconst (v := 1) dX12_next_27 rfl ?_
      refine AW_iadd dX12_next_28 ?_
      refine AW_put dX12_next_29 flX12_64 fp_10_7 (Nat.le_of_ble_eq_true rfl) (okn hρ (Nat.le_of_ble_eq_true rfl)) rfl (fun _ => rfl) (fun _ => rfl) rfl rfl rfl rfl (Fr.setI _ _ _ rfl) (fun _ _ => rfl) (ρ2 := ρ) (S2 := setI S2 80 7 ((S2.1 80 7) + 1)) (fun _ => rfl) (fun _ _ _ q1 _ => fvI_o q1) (hF _ (List.mem_of_getElem? (i := 0) rfl)) ?_
      refine AW_goto (tgt := 0) dX12_next_32 rfl ?_
      exact AW.sub [0] rfl h
  · refine AW_aload_n 0 (n := 0) rfl dX12_next_22 rfl ?_
    refine AW_dup dX12_next_23 rfl ?_
    refine AW_get dX12_next_24 flX12_64 (Nat.le_of_ble_eq_true rfl) (okn hρ (Nat.le_of_ble_eq_true rfl)) rfl (v := .int (S1.1 80 7)) (fun _ => rfl) ?_
    refine AW_iconst (v := 1) dX12_next_27 rfl ?_
    refine AW_iadd dX12_next_28 ?_
    refine AW_put dX12_next_29 flX12_64 fp_10_7 (Nat.le_of_ble_eq_true rfl) (okn hρ (Nat.le_of_ble_eq_true rfl)) rfl (fun _ => rfl) (fun _ => rfl) rfl rfl rfl rfl (Fr.setI _ _ _ rfl) (fun _ _ => rfl) (ρ2 := ρ) (S2 := setI S1 80 7 ((S1.1 80 7) + 1)) (fun _ => rfl) (fun _ _ _ q1 _ => fvI_o q1) (hF _ (List.mem_of_getElem? (i := 0) rfl)) ?_
    refine AW_goto (tgt := 0) dX12_next_32 rfl ?_
    exact AW.sub [0] rfl h
theorem eX12_next {g : GX} {Q : St → Prop} {d : Nat} {ρ : Rs} {S : St} (hρ : Ok ρ)  (h : AW g ρ (QV Q) (d + 1) mX12_next 0 [(0, .ref 80)] [] ρ S) : CALLv g (d + 1) mX12_next [.ref 80] ρ ρ S Q := by
  refine CALL.of mdX12_next.2.2.2.2 (Nat.le_of_ble_eq_true rfl) (Nat.le_refl _) (Nat.le_refl _) ?_
  exact AW.sub [0] rfl h
set_option maxRecDepth 20000 in
theorem eX12_faults {g : GX} {Q : St → Prop} {d : Nat} {ρ : Rs} {S : St} (hρ : Ok ρ) {x1 : Int32} (hF : ∀ k ∈ ([80] : List Nat), gF g k) (h : if (S.1 80 12) = 0 then Q (setI (setI (setI S 80 12 1) 80 5 x1) 80 6 (S.1 80 8)) else Q S) : CALLv g d mX12_faults [.ref 80, .int x1] ρ ρ S Q := by
  refine CALL.of mdX12_faults.2.2.2.2 (Nat.le_of_ble_eq_true rfl) (Nat.le_refl _) (Nat.le_refl _) ?_
  show AW g ρ (QV Q) d mX12_faults 0 [(0, .ref 80), (1, .int x1)] [] ρ S
  refine AW_aload_n 0 (n := 0) rfl dX12_faults_0 rfl ?_
  refine AW_get dX12_faults_1 flX12_87 (Nat.le_of_ble_eq_true rfl) (okn hρ (Nat.le_of_ble_eq_true rfl)) rfl (v := .int (S.1 80 12)) (fun _ => rfl) ?_
  refine AW_if_ne dX12_faults_4 rfl (iteM h (fun h => ?_) (fun h => ?_))
  · refine AW_aload_n 0 (n := 0) rfl dX12_faults_7 rfl ?_
    refine AW_iconst (v := 1) dX12_faults_8 rfl ?_
    refine AW_put dX12_faults_9 flX12_87 fp_10_12 (Nat.le_of_ble_eq_true rfl) (okn hρ (Nat.le_of_ble_eq_true rfl)) rfl (fun _ => Bz.nar Bz1) (fun _ => Bz.fits Bz1) rfl rfl rfl rfl (Fr.setI _ _ _ rfl) (fun _ _ => rfl) (ρ2 := ρ) (S2 := setI S 80 12 1) (fun _ => rfl) (fun _ _ _ q1 _ => fvI_o q1) (hF _ (List.mem_of_getElem? (i := 0) rfl)) ?_
    refine AW_aload_n 0 (n := 0) rfl dX12_faults_12 rfl ?_
    refine AW_iload_n 1 (n := 1) rfl dX12_faults_13 rfl ?_
    refine AW_put dX12_faults_14 flX12_91 fp_10_5 (Nat.le_of_ble_eq_true rfl) (okn hρ (Nat.le_of_ble_eq_true rfl)) rfl (fun _ => rfl) (fun _ => rfl) rfl rfl rfl rfl (Fr.setI _ _ _ rfl) (fun _ _ => rfl) (ρ2 := ρ) (S2 := setI (setI S 80 12 1) 80 5 x1) (fun _ => rfl) (fun _ _ _ q1 _ => fvI_o q1) (hF _ (List.mem_of_getElem? (i := 0) rfl)) ?_
    refine AW_aload_n 0 (n := 0) rfl dX12_faults_17 rfl ?_
    refine AW_aload_n 0 (n := 0) rfl dX12_faults_18 rfl ?_
    refine AW_get dX12_faults_19 flX12_71 (Nat.le_of_ble_eq_true rfl) (okn hρ (Nat.le_of_ble_eq_true rfl)) rfl (v := .int (S.1 80 8)) (fun _ => rfl) ?_
    refine AW_put dX12_faults_22 flX12_22 fp_10_6 (Nat.le_of_ble_eq_true rfl) (okn hρ (Nat.le_of_ble_eq_true rfl)) rfl (fun _ => rfl) (fun _ => rfl) rfl rfl rfl rfl (Fr.setI _ _ _ rfl) (fun _ _ => rfl) (ρ2 := ρ) (S2 := setI (setI (setI S 80 12 1) 80 5 x1) 80 6 (S.1 80 8)) (fun _ => rfl) (fun _ _ _ q1 _ => fvI_o q1) (hF _ (List.mem_of_getElem? (i := 0) rfl)) ?_
    exact AW_retv dX12_faults_25 rfl h
  · exact AW_retv dX12_faults_25 rfl h
set_option maxRecDepth 20000 in
theorem eX12_isWord_28 {g : GX} {Q : Int32 → St → Prop} {d : Nat} {ρ : Rs} {S : St} (hρ : Ok ρ) {w1 : Nat} (hw_1 : w1 < 5) {x2 : Int32} (h : CALLi g d mJ0_length_8abf5 [.ref w1] ρ ρ S (fun v1 S1 => if v1 ≤ x2 then Q 1 S1 else vp_in ((S1.1 80 8) + x2) 300 ∧ (CALLi g d mJ0_charAt_5068e [.ref w1, .int x2] ρ ρ S1 (fun v2 S2 => if (S1.1 84 (((S1.1 80 8) + x2).toNatClampNeg)) = v2 then AW g ρ (QI Q) (d + 1) mX12_isWord 28 [(0, .ref 80), (1, .ref w1), (2, .int (x2 + 1))] [] ρ S2 else Q 0 S2)))) : AW g ρ (QI Q) (d + 1) mX12_isWord 28 [(0, .ref 80), (1, .ref w1), (2, .int x2)] [] ρ S := by
  refine AW_iload_n 2 (n := 2) rfl dX12_isWord_28 rfl ?_
  refine AW_aload_n 1 (n := 1) rfl dX12_isWord_29 rfl ?_
  refine AW_callVi (M := mX12_isWord) (pc := 30) (As := []) (ρ1 := ρ) (st := [.int x2]) dX12_isWord_30 mdJ0_length_8abf5 rfl mlX12_94 imJ0_length_8abf5 seJ0_length_8abf5 (rcv_S hw_1) ⟨rfl, npJ0_length_8abf5⟩ (Nat.le_of_ble_eq_true rfl) (Nat.le_refl _) (Nat.le_refl _) rfl (CALLi.mono h (fun v1 S1 _ h => ?_))
  refine AW_icmp_ge dX12_isWord_33 rfl (iteM h (fun h => ?_) (fun h => ?_))
  · refine AW_iconst (v := 1) dX12_isWord_63 rfl ?_
    exact AW_retz dX12_isWord_64 rfl Bz1 h
  · refine AW_aload_n 0 (n := 0) rfl dX12_isWord_36 rfl ?_
    refine AW_get dX12_isWord_37 flX12_19 (Nat.le_of_ble_eq_true rfl) (okn hρ (Nat.le_of_ble_eq_true rfl)) rfl (v := .ref 84) (fvR (okR hρ 54 rfl)) ?_
    refine AW_aload_n 0 (n := 0) rfl dX12_isWord_40 rfl ?_
    refine AW_get dX12_isWord_41 flX12_71 (Nat.le_of_ble_eq_true rfl) (okn hρ (Nat.le_of_ble_eq_true rfl)) rfl (v := .int (S1.1 80 8)) (fun _ => rfl) ?_
    refine AW_iload_n 2 (n := 2) rfl dX12_isWord_44 rfl ?_
    refine AW_iadd dX12_isWord_45 ?_
    refine AW_iaload dX12_isWord_46 (Nat.le_of_ble_eq_true rfl) (okn hρ (Nat.le_of_ble_eq_true rfl)) rfl h.1 (v := S1.1 84 (((S1.1 80 8) + x2).toNatClampNeg)) rfl ?_
    replace h := h.2
    refine AW_aload_n 1 (n := 1) rfl dX12_isWord_47 rfl ?_
    refine AW_iload_n 2 (n := 2) rfl dX12_isWord_48 rfl ?_
    refine AW_callVi (M := mX12_isWord) (pc := 49) (As := [.int x2]) (ρ1 := ρ) (st := [.int (S1.1 84 (((S1.1 80 8) + x2).toNatClampNeg))]) dX12_isWord_49 mdJ0_charAt_5068e rfl mlX12_100 imJ0_charAt_5068e seJ0_charAt_5068e (rcv_S hw_1) ⟨rfl, npJ0_charAt_5068e⟩ (Nat.le_of_ble_eq_true rfl) (Nat.le_refl _) (Nat.le_refl _) rfl (CALLi.mono h (fun v2 S2 _ h => ?_))
    refine AW_icmp_eq dX12_isWord_52 rfl (iteM h (fun h => ?_) (fun h => ?_))
    · refine AW_iinc 2 (v := x2 + 1) dX12_isWord_57 rfl rfl (Nat.le_of_ble_eq_true rfl) rfl ?_
      refine AW_goto (tgt := 28) dX12_isWord_60 rfl ?_
      exact AW.sub [1, 2, 0] rfl h
    · refine AW_iconst (v := 0) dX12_isWord_55 rfl ?_
      exact AW_retz dX12_isWord_56 rfl Bz0 h
set_option maxRecDepth 20000 in
theorem eX12_isWord {g : GX} {Q : Int32 → St → Prop} {d : Nat} {ρ : Rs} {S : St} (hρ : Ok ρ) {w1 : Nat} (hw_1 : w1 < 5) (h : if (S.1 80 9) = 1 then CALLi g d mJ0_length_8abf5 [.ref w1] ρ ρ S (fun v1 S1 => if ((S.1 80 7) - (S.1 80 8)) = v1 then AW g ρ (QI Q) (d + 1) mX12_isWord 28 [(0, .ref 80), (1, .ref w1), (2, .int 0)] [] ρ S1 else Q 0 S1) else Q 0 S) : CALLi g (d + 1) mX12_isWord [.ref 80, .ref w1] ρ ρ S Q := by
  refine CALL.of mdX12_isWord.2.2.2.2 (Nat.le_of_ble_eq_true rfl) (Nat.le_refl _) (Nat.le_refl _) ?_
  show AW g ρ (QI Q) (d + 1) mX12_isWord 0 [(0, .ref 80), (1, .ref w1)] [] ρ S
  refine AW_aload_n 0 (n := 0) rfl dX12_isWord_0 rfl ?_
  refine AW_get dX12_isWord_1 flX12_77 (Nat.le_of_ble_eq_true rfl) (okn hρ (Nat.le_of_ble_eq_true rfl)) rfl (v := .int (S.1 80 9)) (fun _ => rfl) ?_
  refine AW_iconst (v := 1) dX12_isWord_4 rfl ?_
  refine AW_icmp_ne dX12_isWord_5 rfl (iteM h (fun h => ?_) (fun h => ?_))
  · refine AW_aload_n 0 (n := 0) rfl dX12_isWord_8 rfl ?_
    refine AW_get dX12_isWord_9 flX12_64 (Nat.le_of_ble_eq_true rfl) (okn hρ (Nat.le_of_ble_eq_true rfl)) rfl (v := .int (S.1 80 7)) (fun _ => rfl) ?_
    refine AW_aload_n 0 (n := 0) rfl dX12_isWord_12 rfl ?_
    refine AW_get dX12_isWord_13 flX12_71 (Nat.le_of_ble_eq_true rfl) (okn hρ (Nat.le_of_ble_eq_true rfl)) rfl (v := .int (S.1 80 8)) (fun _ => rfl) ?_
    refine AW_isub dX12_isWord_16 ?_
    refine AW_aload_n 1 (n := 1) rfl dX12_isWord_17 rfl ?_
    refine AW_callVi (M := mX12_isWord) (pc := 18) (As := []) (ρ1 := ρ) (st := [.int ((S.1 80 7) - (S.1 80 8))]) dX12_isWord_18 mdJ0_length_8abf5 rfl mlX12_94 imJ0_length_8abf5 seJ0_length_8abf5 (rcv_S hw_1) ⟨rfl, npJ0_length_8abf5⟩ (Nat.le_of_ble_eq_true rfl) (Nat.le_refl _) (Nat.le_refl _) rfl (CALLi.mono h (fun v1 S1 _ h => ?_))
    refine AW_icmp_eq dX12_isWord_21 rfl (iteM h (fun h => ?_) (fun h => ?_))
    · refine AW_iconst (v := 0) dX12_isWord_26 rfl ?_
      refine AW_istore_n (n := 2) (i := 2) rfl dX12_isWord_27 (Nat.le_of_ble_eq_true rfl) rfl ?_
      exact AW.sub [1, 2, 0] rfl h
    · refine AW_iconst (v := 0) dX12_isWord_24 rfl ?_
      exact AW_retz dX12_isWord_25 rfl Bz0 h
  · refine AW_iconst (v := 0) dX12_isWord_24 rfl ?_
    exact AW_retz dX12_isWord_25 rfl Bz0 h
set_option maxRecDepth 20000 in
theorem eX12_passes {g : GX} {Q : St → Prop} {d : Nat} {ρ : Rs} {S : St} (hρ : Ok ρ) {x1 : Int32} (h : if x1 = 0 then CALLv g d mX12_faults [.ref 80, .int 1] ρ ρ S (fun S1 => if (S1.1 80 12) = 0 then CALLv g d mX12_next [.ref 80] ρ ρ S1 (fun S2 => Q S2) else Q S1) else if (S.1 80 12) = 0 then CALLv g d mX12_next [.ref 80] ρ ρ S (fun S3 => Q S3) else Q S) : CALLv g (d + 1) mX12_passes [.ref 80, .int x1] ρ ρ S Q := by
  refine CALL.of mdX12_passes.2.2.2.2 (Nat.le_of_ble_eq_true rfl) (Nat.le_refl _) (Nat.le_refl _) ?_
  show AW g ρ (QV Q) (d + 1) mX12_passes 0 [(0, .ref 80), (1, .int x1)] [] ρ S
  refine AW_iload_n 1 (n := 1) rfl dX12_passes_0 rfl ?_
  refine AW_if_ne dX12_passes_1 rfl (iteM h (fun h => ?_) (fun h => ?_))
  · refine AW_aload_n 0 (n := 0) rfl dX12_passes_4 rfl ?_
    refine AW_iconst (v := 1) dX12_passes_5 rfl ?_
    refine AW_callVv (M := mX12_passes) (pc := 6) (As := [.int 1]) (ρ1 := ρ) (st := []) dX12_passes_6 mdX12_faults rfl mlX12_104 imX12_faults seX12_faults (rcv_of (q := (RX12, TX12, 40)) (Nat.le_of_ble_eq_true rfl) (okn hρ (Nat.le_of_ble_eq_true rfl)) rfl rfl) ⟨rfl, npX12_faults⟩ (Nat.le_of_ble_eq_true rfl) (Nat.le_refl _) (Nat.le_refl _) rfl (CALLv.mono h (fun S1 _ h => ?_))
    refine AW_aload_n 0 (n := 0) rfl dX12_passes_9 rfl ?_
    refine AW_get dX12_passes_10 flX12_87 (Nat.le_of_ble_eq_true rfl) (okn hρ (Nat.le_of_ble_eq_true rfl)) rfl (v := .int (S1.1 80 12)) (fun _ => rfl) ?_
    refine AW_if_ne dX12_passes_13 rfl (iteM h (fun h => ?_) (fun h => ?_))
    · refine AW_aload_n 0 (n := 0) rfl dX12_passes_16 rfl ?_
      refine AW_callVv (M := mX12_passes) (pc := 17) (As := []) (ρ1 := ρ) (st := []) dX12_passes_17 mdX12_next rfl mlX12_108 imX12_next seX12_next (rcv_of (q := (RX12, TX12, 40)) (Nat.le_of_ble_eq_true rfl) (okn hρ (Nat.le_of_ble_eq_true rfl)) rfl rfl) ⟨rfl, npX12_next⟩ (Nat.le_of_ble_eq_true rfl) (Nat.le_refl _) (Nat.le_refl _) rfl (CALLv.mono h (fun S2 _ h => ?_))
      exact AW_retv dX12_passes_20 rfl h
    · exact AW_retv dX12_passes_20 rfl h
  · refine AW_aload_n 0 (n := 0) rfl dX12_passes_9 rfl ?_
    refine AW_get dX12_passes_10 flX12_87 (Nat.le_of_ble_eq_true rfl) (okn hρ (Nat.le_of_ble_eq_true rfl)) rfl (v := .int (S.1 80 12)) (fun _ => rfl) ?_
    refine AW_if_ne dX12_passes_13 rfl (iteM h (fun h => ?_) (fun h => ?_))
    · refine AW_aload_n 0 (n := 0) rfl dX12_passes_16 rfl ?_
      refine AW_callVv (M := mX12_passes) (pc := 17) (As := []) (ρ1 := ρ) (st := []) dX12_passes_17 mdX12_next rfl mlX12_108 imX12_next seX12_next (rcv_of (q := (RX12, TX12, 40)) (Nat.le_of_ble_eq_true rfl) (okn hρ (Nat.le_of_ble_eq_true rfl)) rfl rfl) ⟨rfl, npX12_next⟩ (Nat.le_of_ble_eq_true rfl) (Nat.le_refl _) (Nat.le_refl _) rfl (CALLv.mono h (fun S3 _ h => ?_))
      exact AW_retv dX12_passes_20 rfl h
    · exact AW_retv dX12_passes_20 rfl h
set_option maxRecDepth 20000 in
theorem eX12_reads {g : GX} {Q : Int32 → St → Prop} {d : Nat} {ρ : Rs} {S : St} (hρ : Ok ρ) {x1 : Int32} {x2 : Int32} (h : if (S.1 80 9) = 2 then CALLi g d mX12_in [.long ((S.1 80 10).toInt64), .long x1.toInt64, .long x2.toInt64] ρ ρ S (fun v1 S1 => if v1 = 0 then CALLv g d mX12_faults [.ref 80, .int 2] ρ ρ S1 (fun S2 => CALLv g d mX12_passes [.ref 80, .int 1] ρ ρ S2 (fun S3 => Q (S.1 80 10) S3)) else CALLv g d mX12_passes [.ref 80, .int 1] ρ ρ S1 (fun S4 => Q (S.1 80 10) S4)) else CALLv g d mX12_faults [.ref 80, .int 1] ρ ρ S (fun S5 => CALLv g d mX12_passes [.ref 80, .int 1] ρ ρ S5 (fun S6 => Q (S.1 80 10) S6))) : CALLi g (d + 1) mX12_reads [.ref 80, .int x1, .int x2] ρ ρ S Q := by
  refine CALL.of mdX12_reads.2.2.2.2 (Nat.le_of_ble_eq_true rfl) (Nat.le_refl _) (Nat.le_refl _) ?_
  show AW g ρ (QI Q) (d + 1) mX12_reads 0 [(0, .ref 80), (1, .int x1), (2, .int x2)] [] ρ S
  refine AW_aload_n 0 (n := 0) rfl dX12_reads_0 rfl ?_
  refine AW_get dX12_reads_1 flX12_74 (Nat.le_of_ble_eq_true rfl) (okn hρ (Nat.le_of_ble_eq_true rfl)) rfl (v := .int (S.1 80 10)) (fun _ => rfl) ?_
  refine AW_istore_n (n := 3) (i := 3) rfl dX12_reads_4 (Nat.le_of_ble_eq_true rfl) rfl ?_
  refine AW_aload_n 1 (n := 0) rfl dX12_reads_5 rfl ?_
  refine AW_get dX12_reads_6 flX12_77 (Nat.le_of_ble_eq_true rfl) (okn hρ (Nat.le_of_ble_eq_true rfl)) rfl (v := .int (S.1 80 9)) (fun _ => rfl) ?_
  refine AW_iconst (v := 2) dX12_reads_9 rfl ?_
  refine AW_icmp_eq dX12_reads_10 rfl (iteM h (fun h => ?_) (fun h => ?_))
  · refine AW_iload_n 0 (n := 3) rfl dX12_reads_21 rfl ?_
    refine AW_i2l dX12_reads_22 ?_
    refine AW_iload_n 2 (n := 1) rfl dX12_reads_23 rfl ?_
    refine AW_i2l dX12_reads_24 ?_
    refine AW_iload_n 3 (n := 2) rfl dX12_reads_25 rfl ?_
    refine AW_i2l dX12_reads_26 ?_
    refine AW_callSi (M := mX12_reads) (pc := 27) (As := [.long ((S.1 80 10).toInt64), .long x1.toInt64, .long x2.toInt64]) (ρ1 := ρ) (st := []) dX12_reads_27 mdX12_in mlX12_60 smX12_in ⟨rfl, npX12_in⟩ (Nat.le_of_ble_eq_true rfl) (Nat.le_refl _) (Nat.le_refl _) rfl (CALLi.mono h (fun v1 S1 _ h => ?_))
    refine AW_if_ne dX12_reads_30 rfl (iteM h (fun h => ?_) (fun h => ?_))
    · refine AW_aload_n 1 (n := 0) rfl dX12_reads_33 rfl ?_
      refine AW_iconst (v := 2) dX12_reads_34 rfl ?_
      refine AW_callVv (M := mX12_reads) (pc := 35) (As := [.int 2]) (ρ1 := ρ) (st := []) dX12_reads_35 mdX12_faults rfl mlX12_104 imX12_faults seX12_faults (rcv_of (q := (RX12, TX12, 40)) (Nat.le_of_ble_eq_true rfl) (okn hρ (Nat.le_of_ble_eq_true rfl)) rfl rfl) ⟨rfl, npX12_faults⟩ (Nat.le_of_ble_eq_true rfl) (Nat.le_refl _) (Nat.le_refl _) rfl (CALLv.mono h (fun S2 _ h => ?_))
      refine AW_aload_n 1 (n := 0) rfl dX12_reads_38 rfl ?_
      refine AW_iconst (v := 1) dX12_reads_39 rfl ?_
      refine AW_callVv (M := mX12_reads) (pc := 40) (As := [.int 1]) (ρ1 := ρ) (st := []) dX12_reads_40 mdX12_passes rfl mlX12_111 imX12_passes seX12_passes (rcv_of (q := (RX12, TX12, 40)) (Nat.le_of_ble_eq_true rfl) (okn hρ (Nat.le_of_ble_eq_true rfl)) rfl rfl) ⟨rfl, npX12_passes⟩ (Nat.le_of_ble_eq_true rfl) (Nat.le_refl _) (Nat.le_refl _) rfl (CALLv.mono h (fun S3 _ h => ?_))
      refine AW_iload_n 0 (n := 3) rfl dX12_reads_43 rfl ?_
      exact AW_reti dX12_reads_44 rfl h
    · refine AW_aload_n 1 (n := 0) rfl dX12_reads_38 rfl ?_
      refine AW_iconst (v := 1) dX12_reads_39 rfl ?_
      refine AW_callVv (M := mX12_reads) (pc := 40) (As := [.int 1]) (ρ1 := ρ) (st := []) dX12_reads_40 mdX12_passes rfl mlX12_111 imX12_passes seX12_passes (rcv_of (q := (RX12, TX12, 40)) (Nat.le_of_ble_eq_true rfl) (okn hρ (Nat.le_of_ble_eq_true rfl)) rfl rfl) ⟨rfl, npX12_passes⟩ (Nat.le_of_ble_eq_true rfl) (Nat.le_refl _) (Nat.le_refl _) rfl (CALLv.mono h (fun S4 _ h => ?_))
      refine AW_iload_n 0 (n := 3) rfl dX12_reads_43 rfl ?_
      exact AW_reti dX12_reads_44 rfl h
  · refine AW_aload_n 1 (n := 0) rfl dX12_reads_13 rfl ?_
    refine AW_iconst (v := 1) dX12_reads_14 rfl ?_
    refine AW_callVv (M := mX12_reads) (pc := 15) (As := [.int 1]) (ρ1 := ρ) (st := []) dX12_reads_15 mdX12_faults rfl mlX12_104 imX12_faults seX12_faults (rcv_of (q := (RX12, TX12, 40)) (Nat.le_of_ble_eq_true rfl) (okn hρ (Nat.le_of_ble_eq_true rfl)) rfl rfl) ⟨rfl, npX12_faults⟩ (Nat.le_of_ble_eq_true rfl) (Nat.le_refl _) (Nat.le_refl _) rfl (CALLv.mono h (fun S5 _ h => ?_))
    refine AW_goto (tgt := 38) dX12_reads_18 rfl ?_
    refine AW_aload_n 1 (n := 0) rfl dX12_reads_38 rfl ?_
    refine AW_iconst (v := 1) dX12_reads_39 rfl ?_
    refine AW_callVv (M := mX12_reads) (pc := 40) (As := [.int 1]) (ρ1 := ρ) (st := []) dX12_reads_40 mdX12_passes rfl mlX12_111 imX12_passes seX12_passes (rcv_of (q := (RX12, TX12, 40)) (Nat.le_of_ble_eq_true rfl) (okn hρ (Nat.le_of_ble_eq_true rfl)) rfl rfl) ⟨rfl, npX12_passes⟩ (Nat.le_of_ble_eq_true rfl) (Nat.le_refl _) (Nat.le_refl _) rfl (CALLv.mono h (fun S6 _ h => ?_))
    refine AW_iload_n 0 (n := 3) rfl dX12_reads_43 rfl ?_
    exact AW_reti dX12_reads_44 rfl h
set_option maxRecDepth 20000 in
theorem eX12_place {g : GX} {Q : Int32 → St → Prop} {d : Nat} {ρ : Rs} {S : St} (hρ : Ok ρ) {x1 : Int32} {x2 : Int32} (h : Q ((x1 * (S.1 81 1)) + x2) S) : CALLi g d mX12_place [.ref 80, .int x1, .int x2] ρ ρ S Q := by
  refine CALL.of mdX12_place.2.2.2.2 (Nat.le_of_ble_eq_true rfl) (Nat.le_refl _) (Nat.le_refl _) ?_
  show AW g ρ (QI Q) d mX12_place 0 [(0, .ref 80), (1, .int x1), (2, .int x2)] [] ρ S
  refine AW_iload_n 1 (n := 1) rfl dX12_place_0 rfl ?_
  refine AW_aload_n 0 (n := 0) rfl dX12_place_1 rfl ?_
  refine AW_get dX12_place_2 flX12_9 (Nat.le_of_ble_eq_true rfl) (okn hρ (Nat.le_of_ble_eq_true rfl)) rfl (v := .ref 81) (fvR (okR hρ 51 rfl)) ?_
  refine AW_iconst (v := 1) dX12_place_5 rfl ?_
  refine AW_iaload dX12_place_6 (Nat.le_of_ble_eq_true rfl) (okn hρ (Nat.le_of_ble_eq_true rfl)) rfl (show ¬ (_ ∨ _) by decide) (v := S.1 81 1) rfl ?_
  refine AW_imul dX12_place_7 ?_
  refine AW_iload_n 2 (n := 2) rfl dX12_place_8 rfl ?_
  refine AW_iadd dX12_place_9 ?_
  exact AW_reti dX12_place_10 rfl h
set_option maxRecDepth 20000 in
theorem eX12_readsTable_69 {g : GX} {Q : St → Prop} {d : Nat} {ρ : Rs} {S : St} (hρ : Ok ρ) {s0 : Int32} (hF : ∀ k ∈ ([81] : List Nat), gF g k) (h : CALLv g d mX12_passes [.ref 80, .int s0] ρ ρ S (fun S1 => CALLi g d mX12_reads [.ref 80, .int 2, .int 4] ρ ρ S1 (fun v2 S2 => Q (setI S2 81 1 v2)))) : AW g ρ (QV Q) (d + 1) mX12_readsTable 69 [(0, .ref 80)] [.int s0, .ref 80] ρ S := by
  refine AW_callVv (M := mX12_readsTable) (pc := 69) (As := [.int s0]) (ρ1 := ρ) (st := []) dX12_readsTable_69 mdX12_passes rfl mlX12_111 imX12_passes seX12_passes (rcv_of (q := (RX12, TX12, 40)) (Nat.le_of_ble_eq_true rfl) (okn hρ (Nat.le_of_ble_eq_true rfl)) rfl rfl) ⟨rfl, npX12_passes⟩ (Nat.le_of_ble_eq_true rfl) (Nat.le_refl _) (Nat.le_refl _) rfl (CALLv.mono h (fun S1 _ h => ?_))
  refine AW_aload_n 0 (n := 0) rfl dX12_readsTable_72 rfl ?_
  refine AW_get dX12_readsTable_73 flX12_9 (Nat.le_of_ble_eq_true rfl) (okn hρ (Nat.le_of_ble_eq_true rfl)) rfl (v := .ref 81) (fvR (okR hρ 51 rfl)) ?_
  refine AW_iconst (v := 1) dX12_readsTable_76 rfl ?_
  refine AW_aload_n 0 (n := 0) rfl dX12_readsTable_77 rfl ?_
  refine AW_iconst (v := 2) dX12_readsTable_78 rfl ?_
  refine AW_iconst (v := 4) dX12_readsTable_79 rfl ?_
  refine AW_callVi (M := mX12_readsTable) (pc := 80) (As := [.int 2, .int 4]) (ρ1 := ρ) (st := [.int 1, .ref 81]) dX12_readsTable_80 mdX12_reads rfl mlX12_123 imX12_reads seX12_reads (rcv_of (q := (RX12, TX12, 40)) (Nat.le_of_ble_eq_true rfl) (okn hρ (Nat.le_of_ble_eq_true rfl)) rfl rfl) ⟨rfl, npX12_reads⟩ (Nat.le_of_ble_eq_true rfl) (Nat.le_refl _) (Nat.le_refl _) rfl (CALLi.mono h (fun v2 S2 _ h => ?_))
  refine AW_iastore dX12_readsTable_83 (Nat.le_of_ble_eq_true rfl) (okn hρ (Nat.le_of_ble_eq_true rfl)) rfl (show ¬ (_ ∨ _) by decide) (hF _ (List.mem_of_getElem? (i := 0) rfl)) (jx := 1) rfl ?_
  exact AW_retv dX12_readsTable_84 rfl h
set_option maxRecDepth 20000 in
theorem eX12_readsTable_32 {g : GX} {Q : St → Prop} {d : Nat} {ρ : Rs} {S : St} (hρ : Ok ρ) {s0 : Int32} (hF : ∀ k ∈ ([81] : List Nat), gF g k) (h : CALLv g d mX12_passes [.ref 80, .int s0] ρ ρ S (fun S1 => CALLi g d mX12_reads [.ref 80, .int 2, .int 4] ρ ρ S1 (fun v2 S2 => if (S2.1 80 12) = 0 then CALLi g d mX12_isWord [.ref 80, .ref 2] ρ ρ (setI S2 81 0 v2) (fun v3 S3 => if v3 = 0 then AW g ρ (QV Q) (d + 1) mX12_readsTable 69 [(0, .ref 80)] [.int 0, .ref 80] ρ S3 else AW g ρ (QV Q) (d + 1) mX12_readsTable 69 [(0, .ref 80)] [.int 1, .ref 80] ρ S3) else AW g ρ (QV Q) (d + 1) mX12_readsTable 69 [(0, .ref 80)] [.int 1, .ref 80] ρ (setI S2 81 0 v2)))) : AW g ρ (QV Q) (d + 1) mX12_readsTable 32 [(0, .ref 80)] [.int s0, .ref 80] ρ S := by
  refine AW_callVv (M := mX12_readsTable) (pc := 32) (As := [.int s0]) (ρ1 := ρ) (st := []) dX12_readsTable_32 mdX12_passes rfl mlX12_111 imX12_passes seX12_passes (rcv_of (q := (RX12, TX12, 40)) (Nat.le_of_ble_eq_true rfl) (okn hρ (Nat.le_of_ble_eq_true rfl)) rfl rfl) ⟨rfl, npX12_passes⟩ (Nat.le_of_ble_eq_true rfl) (Nat.le_refl _) (Nat.le_refl _) rfl (CALLv.mono h (fun S1 _ h => ?_))
  refine AW_aload_n 0 (n := 0) rfl dX12_readsTable_35 rfl ?_
  refine AW_get dX12_readsTable_36 flX12_9 (Nat.le_of_ble_eq_true rfl) (okn hρ (Nat.le_of_ble_eq_true rfl)) rfl (v := .ref 81) (fvR (okR hρ 51 rfl)) ?_
  refine AW_iconst (v := 0) dX12_readsTable_39 rfl ?_
  refine AW_aload_n 0 (n := 0) rfl dX12_readsTable_40 rfl ?_
  refine AW_iconst (v := 2) dX12_readsTable_41 rfl ?_
  refine AW_iconst (v := 4) dX12_readsTable_42 rfl ?_
  refine AW_callVi (M := mX12_readsTable) (pc := 43) (As := [.int 2, .int 4]) (ρ1 := ρ) (st := [.int 0, .ref 81]) dX12_readsTable_43 mdX12_reads rfl mlX12_123 imX12_reads seX12_reads (rcv_of (q := (RX12, TX12, 40)) (Nat.le_of_ble_eq_true rfl) (okn hρ (Nat.le_of_ble_eq_true rfl)) rfl rfl) ⟨rfl, npX12_reads⟩ (Nat.le_of_ble_eq_true rfl) (Nat.le_refl _) (Nat.le_refl _) rfl (CALLi.mono h (fun v2 S2 _ h => ?_))
  refine AW_iastore dX12_readsTable_46 (Nat.le_of_ble_eq_true rfl) (okn hρ (Nat.le_of_ble_eq_true rfl)) rfl (show ¬ (_ ∨ _) by decide) (hF _ (List.mem_of_getElem? (i := 0) rfl)) (jx := 0) rfl ?_
  refine AW_aload_n 0 (n := 0) rfl dX12_readsTable_47 rfl ?_
  refine AW_aload_n 0 (n := 0) rfl dX12_readsTable_48 rfl ?_
  refine AW_get dX12_readsTable_49 flX12_87 (Nat.le_of_ble_eq_true rfl) (okn hρ (Nat.le_of_ble_eq_true rfl)) rfl (v := .int (S2.1 80 12)) (fun _ => rfl) ?_
  refine AW_if_ne dX12_readsTable_52 rfl (iteM h (fun h => ?_) (fun h => ?_))
  · refine AW_aload_n 0 (n := 0) rfl dX12_readsTable_55 rfl ?_
    refine AW_ldcS (i := 2) dX12_readsTable_56 (by decide) (Or.inr ⟨rfl, rfl⟩) ?_
    refine AW_callVi (M := mX12_readsTable) (pc := 58) (As := [.ref 2]) (ρ1 := ρ) (st := [.ref 80]) dX12_readsTable_58 mdX12_isWord rfl mlX12_117 imX12_isWord seX12_isWord (rcv_of (q := (RX12, TX12, 40)) (Nat.le_of_ble_eq_true rfl) (okn hρ (Nat.le_of_ble_eq_true rfl)) rfl rfl) ⟨rfl, npX12_isWord⟩ (Nat.le_of_ble_eq_true rfl) (Nat.le_refl _) (Nat.le_refl _) rfl (CALLi.mono h (fun v3 S3 _ h => ?_))
    refine AW_if_eq dX12_readsTable_61 rfl (iteM h (fun h => ?_) (fun h => ?_))
    · refine AW_iconst (v := 0) dX12_readsTable_68 rfl ?_
      exact AW.sub [0] rfl h
    · refine AW_iconst (v := 1) dX12_readsTable_64 rfl ?_
      refine AW_goto (tgt := 69) dX12_readsTable_65 rfl ?_
      exact AW.sub [0] rfl h
  · refine AW_iconst (v := 1) dX12_readsTable_64 rfl ?_
    refine AW_goto (tgt := 69) dX12_readsTable_65 rfl ?_
    exact AW.sub [0] rfl h
set_option maxRecDepth 20000 in
theorem eX12_readsTable {g : GX} {Q : St → Prop} {d : Nat} {ρ : Rs} {S : St} (hρ : Ok ρ) (h : CALLi g d mX12_isWord [.ref 80, .ref 0] ρ ρ S (fun v1 S1 => CALLv g d mX12_passes [.ref 80, .int v1] ρ ρ S1 (fun S2 => if (S2.1 80 12) = 0 then CALLi g d mX12_isWord [.ref 80, .ref 1] ρ ρ S2 (fun v3 S3 => if v3 = 0 then AW g ρ (QV Q) (d + 1) mX12_readsTable 32 [(0, .ref 80)] [.int 0, .ref 80] ρ S3 else AW g ρ (QV Q) (d + 1) mX12_readsTable 32 [(0, .ref 80)] [.int 1, .ref 80] ρ S3) else AW g ρ (QV Q) (d + 1) mX12_readsTable 32 [(0, .ref 80)] [.int 1, .ref 80] ρ S2))) : CALLv g (d + 1) mX12_readsTable [.ref 80] ρ ρ S Q := by
  refine CALL.of mdX12_readsTable.2.2.2.2 (Nat.le_of_ble_eq_true rfl) (Nat.le_refl _) (Nat.le_refl _) ?_
  show AW g ρ (QV Q) (d + 1) mX12_readsTable 0 [(0, .ref 80)] [] ρ S
  refine AW_aload_n 0 (n := 0) rfl dX12_readsTable_0 rfl ?_
  refine AW_aload_n 0 (n := 0) rfl dX12_readsTable_1 rfl ?_
  refine AW_ldcS (i := 0) dX12_readsTable_2 (by decide) (Or.inr ⟨rfl, rfl⟩) ?_
  refine AW_callVi (M := mX12_readsTable) (pc := 4) (As := [.ref 0]) (ρ1 := ρ) (st := [.ref 80]) dX12_readsTable_4 mdX12_isWord rfl mlX12_117 imX12_isWord seX12_isWord (rcv_of (q := (RX12, TX12, 40)) (Nat.le_of_ble_eq_true rfl) (okn hρ (Nat.le_of_ble_eq_true rfl)) rfl rfl) ⟨rfl, npX12_isWord⟩ (Nat.le_of_ble_eq_true rfl) (Nat.le_refl _) (Nat.le_refl _) rfl (CALLi.mono h (fun v1 S1 _ h => ?_))
  refine AW_callVv (M := mX12_readsTable) (pc := 7) (As := [.int v1]) (ρ1 := ρ) (st := []) dX12_readsTable_7 mdX12_passes rfl mlX12_111 imX12_passes seX12_passes (rcv_of (q := (RX12, TX12, 40)) (Nat.le_of_ble_eq_true rfl) (okn hρ (Nat.le_of_ble_eq_true rfl)) rfl rfl) ⟨rfl, npX12_passes⟩ (Nat.le_of_ble_eq_true rfl) (Nat.le_refl _) (Nat.le_refl _) rfl (CALLv.mono h (fun S2 _ h => ?_))
  refine AW_aload_n 0 (n := 0) rfl dX12_readsTable_10 rfl ?_
  refine AW_aload_n 0 (n := 0) rfl dX12_readsTable_11 rfl ?_
  refine AW_get dX12_readsTable_12 flX12_87 (Nat.le_of_ble_eq_true rfl) (okn hρ (Nat.le_of_ble_eq_true rfl)) rfl (v := .int (S2.1 80 12)) (fun _ => rfl) ?_
  refine AW_if_ne dX12_readsTable_15 rfl (iteM h (fun h => ?_) (fun h => ?_))
  · refine AW_aload_n 0 (n := 0) rfl dX12_readsTable_18 rfl ?_
    refine AW_ldcS (i := 1) dX12_readsTable_19 (by decide) (Or.inr ⟨rfl, rfl⟩) ?_
    refine AW_callVi (M := mX12_readsTable) (pc := 21) (As := [.ref 1]) (ρ1 := ρ) (st := [.ref 80]) dX12_readsTable_21 mdX12_isWord rfl mlX12_117 imX12_isWord seX12_isWord (rcv_of (q := (RX12, TX12, 40)) (Nat.le_of_ble_eq_true rfl) (okn hρ (Nat.le_of_ble_eq_true rfl)) rfl rfl) ⟨rfl, npX12_isWord⟩ (Nat.le_of_ble_eq_true rfl) (Nat.le_refl _) (Nat.le_refl _) rfl (CALLi.mono h (fun v3 S3 _ h => ?_))
    refine AW_if_eq dX12_readsTable_24 rfl (iteM h (fun h => ?_) (fun h => ?_))
    · refine AW_iconst (v := 0) dX12_readsTable_31 rfl ?_
      exact AW.sub [0] rfl h
    · refine AW_iconst (v := 1) dX12_readsTable_27 rfl ?_
      refine AW_goto (tgt := 32) dX12_readsTable_28 rfl ?_
      exact AW.sub [0] rfl h
  · refine AW_iconst (v := 1) dX12_readsTable_27 rfl ?_
    refine AW_goto (tgt := 32) dX12_readsTable_28 rfl ?_
    exact AW.sub [0] rfl h
set_option maxRecDepth 20000 in
theorem eX12_readsRow_12 {g : GX} {Q : St → Prop} {d : Nat} {ρ : Rs} {S : St} (hρ : Ok ρ) {x1 : Int32} {x2 : Int32} (hF : ∀ k ∈ ([81, 80] : List Nat), gF g k) (h : if (S.1 81 1) ≤ x2 then Q S else if (S.1 80 12) = 0 then CALLi g d mX12_reads [.ref 80, .int 0, .int (if (20 - (S.1 80 11)) < 9 then (20 - (S.1 80 11)) else 9)] ρ ρ S (fun v1 S1 => CALLi g d mX12_place [.ref 80, .int x1, .int x2] ρ ρ S1 (fun v2 S2 => vp_in (5 + v2) 21 ∧ (AW g ρ (QV Q) (d + 1) mX12_readsRow 12 [(0, .ref 80), (1, .int x1), (2, .int (x2 + 1))] [] ρ (setI (setI S2 81 ((5 + v2).toNatClampNeg) v1) 80 11 ((S2.1 80 11) + v1))))) else Q S) : AW g ρ (QV Q) (d + 1) mX12_readsRow 12 [(0, .ref 80), (1, .int x1), (2, .int x2)] [] ρ S := by
  refine AW_iload_n 2 (n := 2) rfl dX12_readsRow_12 rfl ?_
  refine AW_aload_n 0 (n := 0) rfl dX12_readsRow_13 rfl ?_
  refine AW_get dX12_readsRow_14 flX12_9 (Nat.le_of_ble_eq_true rfl) (okn hρ (Nat.le_of_ble_eq_true rfl)) rfl (v := .ref 81) (fvR (okR hρ 51 rfl)) ?_
  refine AW_iconst (v := 1) dX12_readsRow_17 rfl ?_
  refine AW_iaload dX12_readsRow_18 (Nat.le_of_ble_eq_true rfl) (okn hρ (Nat.le_of_ble_eq_true rfl)) rfl (show ¬ (_ ∨ _) by decide) (v := S.1 81 1) rfl ?_
  refine AW_icmp_ge dX12_readsRow_19 rfl (iteM h (fun h => ?_) (fun h => ?_))
  · exact AW_retv dX12_readsRow_77 rfl h
  · refine AW_aload_n 0 (n := 0) rfl dX12_readsRow_22 rfl ?_
    refine AW_get dX12_readsRow_23 flX12_87 (Nat.le_of_ble_eq_true rfl) (okn hρ (Nat.le_of_ble_eq_true rfl)) rfl (v := .int (S.1 80 12)) (fun _ => rfl) ?_
    refine AW_if_ne dX12_readsRow_26 rfl (iteM h (fun h => ?_) (fun h => ?_))
    · refine AW_aload_n 0 (n := 0) rfl dX12_readsRow_29 rfl ?_
      refine AW_iconst (v := 0) dX12_readsRow_30 rfl ?_
      refine AW_bipush (v := 9) dX12_readsRow_31 rfl ?_
      refine AW_bipush (v := 20) dX12_readsRow_33 rfl ?_
      refine AW_aload_n 0 (n := 0) rfl dX12_readsRow_35 rfl ?_
      refine AW_get dX12_readsRow_36 flX12_130 (Nat.le_of_ble_eq_true rfl) (okn hρ (Nat.le_of_ble_eq_true rfl)) rfl (v := .int (S.1 80 11)) (fun _ => rfl) ?_
      refine AW_isub dX12_readsRow_39 ?_
      refine AW_mminI (M := mX12_readsRow) (pc := 40) dX12_readsRow_40 mlX12_81 wmminIS wMath wmminIC (Nat.le_of_ble_eq_true rfl) ?_ (Nat.le_refl _) (Nat.le_refl _)
      refine AW_callVi (M := mX12_readsRow) (pc := 43) (As := [.int 0, .int (if (20 - (S.1 80 11)) < 9 then (20 - (S.1 80 11)) else 9)]) (ρ1 := ρ) (st := []) dX12_readsRow_43 mdX12_reads rfl mlX12_123 imX12_reads seX12_reads (rcv_of (q := (RX12, TX12, 40)) (Nat.le_of_ble_eq_true rfl) (okn hρ (Nat.le_of_ble_eq_true rfl)) rfl rfl) ⟨rfl, npX12_reads⟩ (Nat.le_of_ble_eq_true rfl) (Nat.le_refl _) (Nat.le_refl _) rfl (CALLi.mono h (fun v1 S1 _ h => ?_))
      refine AW_istore_n (n := 3) (i := 3) rfl dX12_readsRow_46 (Nat.le_of_ble_eq_true rfl) rfl ?_
      refine AW_aload_n 1 (n := 0) rfl dX12_readsRow_47 rfl ?_
      refine AW_get dX12_readsRow_48 flX12_9 (Nat.le_of_ble_eq_true rfl) (okn hρ (Nat.le_of_ble_eq_true rfl)) rfl (v := .ref 81) (fvR (okR hρ 51 rfl)) ?_
      refine AW_iconst (v := 5) dX12_readsRow_51 rfl ?_
      refine AW_aload_n 1 (n := 0) rfl dX12_readsRow_52 rfl ?_
      refine AW_iload_n 2 (n := 1) rfl dX12_readsRow_53 rfl ?_
      refine AW_iload_n 3 (n := 2) rfl dX12_readsRow_54 rfl ?_
      refine AW_callVi (M := mX12_readsRow) (pc := 55) (As := [.int x1, .int x2]) (ρ1 := ρ) (st := [.int 5, .ref 81]) dX12_readsRow_55 mdX12_place rfl mlX12_133 imX12_place seX12_place (rcv_of (q := (RX12, TX12, 40)) (Nat.le_of_ble_eq_true rfl) (okn hρ (Nat.le_of_ble_eq_true rfl)) rfl rfl) ⟨rfl, npX12_place⟩ (Nat.le_of_ble_eq_true rfl) (Nat.le_refl _) (Nat.le_refl _) rfl (CALLi.mono h (fun v2 S2 _ h => ?_))
      refine AW_iadd dX12_readsRow_58 ?_
      refine AW_iload_n 0 (n := 3) rfl dX12_readsRow_59 rfl ?_
      refine AW_iastore dX12_readsRow_60 (Nat.le_of_ble_eq_true rfl) (okn hρ (Nat.le_of_ble_eq_true rfl)) rfl h.1 (hF _ (List.mem_of_getElem? (i := 0) rfl)) (jx := (5 + v2).toNatClampNeg) rfl ?_
      replace h := h.2
      refine AW_aload_n 1 (n := 0) rfl dX12_readsRow_61 rfl ?_
      refine AW_dup dX12_readsRow_62 rfl ?_
      refine AW_get dX12_readsRow_63 flX12_130 (Nat.le_of_ble_eq_true rfl) (okn hρ (Nat.le_of_ble_eq_true rfl)) rfl (v := .int (S2.1 80 11)) (fun _ => rfl) ?_
      refine AW_iload_n 0 (n := 3) rfl dX12_readsRow_66 rfl ?_
      refine AW_iadd dX12_readsRow_67 ?_
      refine AW_put dX12_readsRow_68 flX12_130 fp_10_11 (Nat.le_of_ble_eq_true rfl) (okn hρ (Nat.le_of_ble_eq_true rfl)) rfl (fun _ => rfl) (fun _ => rfl) rfl rfl rfl rfl (Fr.setI _ _ _ rfl) (fun _ _ => rfl) (ρ2 := ρ) (S2 := setI (setI S2 81 ((5 + v2).toNatClampNeg) v1) 80 11 ((S2.1 80 11) + v1)) (fun _ => rfl) (fun _ _ _ q1 _ => fvI_o q1) (hF _ (List.mem_of_getElem? (i := 1) rfl)) ?_
      refine AW_iinc 3 (v := x2 + 1) dX12_readsRow_71 rfl rfl (Nat.le_of_ble_eq_true rfl) rfl ?_
      refine AW_goto (tgt := 12) dX12_readsRow_74 rfl ?_
      exact AW.sub [2, 3, 0] rfl h
    · exact AW_retv dX12_readsRow_77 rfl h
set_option maxRecDepth 20000 in
theorem eX12_readsRow {g : GX} {Q : St → Prop} {d : Nat} {ρ : Rs} {S : St} (hρ : Ok ρ) {x1 : Int32} (h : CALLi g d mX12_isWord [.ref 80, .ref 3] ρ ρ S (fun v1 S1 => CALLv g d mX12_passes [.ref 80, .int v1] ρ ρ S1 (fun S2 => AW g ρ (QV Q) (d + 1) mX12_readsRow 12 [(0, .ref 80), (1, .int x1), (2, .int 0)] [] ρ S2))) : CALLv g (d + 1) mX12_readsRow [.ref 80, .int x1] ρ ρ S Q := by
  refine CALL.of mdX12_readsRow.2.2.2.2 (Nat.le_of_ble_eq_true rfl) (Nat.le_refl _) (Nat.le_refl _) ?_
  show AW g ρ (QV Q) (d + 1) mX12_readsRow 0 [(0, .ref 80), (1, .int x1)] [] ρ S
  refine AW_aload_n 0 (n := 0) rfl dX12_readsRow_0 rfl ?_
  refine AW_aload_n 0 (n := 0) rfl dX12_readsRow_1 rfl ?_
  refine AW_ldcS (i := 3) dX12_readsRow_2 (by decide) (Or.inr ⟨rfl, rfl⟩) ?_
  refine AW_callVi (M := mX12_readsRow) (pc := 4) (As := [.ref 3]) (ρ1 := ρ) (st := [.ref 80]) dX12_readsRow_4 mdX12_isWord rfl mlX12_117 imX12_isWord seX12_isWord (rcv_of (q := (RX12, TX12, 40)) (Nat.le_of_ble_eq_true rfl) (okn hρ (Nat.le_of_ble_eq_true rfl)) rfl rfl) ⟨rfl, npX12_isWord⟩ (Nat.le_of_ble_eq_true rfl) (Nat.le_refl _) (Nat.le_refl _) rfl (CALLi.mono h (fun v1 S1 _ h => ?_))
  refine AW_callVv (M := mX12_readsRow) (pc := 7) (As := [.int v1]) (ρ1 := ρ) (st := []) dX12_readsRow_7 mdX12_passes rfl mlX12_111 imX12_passes seX12_passes (rcv_of (q := (RX12, TX12, 40)) (Nat.le_of_ble_eq_true rfl) (okn hρ (Nat.le_of_ble_eq_true rfl)) rfl rfl) ⟨rfl, npX12_passes⟩ (Nat.le_of_ble_eq_true rfl) (Nat.le_refl _) (Nat.le_refl _) rfl (CALLv.mono h (fun S2 _ h => ?_))
  refine AW_iconst (v := 0) dX12_readsRow_10 rfl ?_
  refine AW_istore_n (n := 2) (i := 2) rfl dX12_readsRow_11 (Nat.le_of_ble_eq_true rfl) rfl ?_
  exact AW.sub [1, 2, 0] rfl h
set_option maxRecDepth 20000 in
theorem eX12_readsHole_109 {g : GX} {Q : St → Prop} {d : Nat} {ρ : Rs} {S : St} (hρ : Ok ρ) {x1 : Int32} (hF : ∀ k ∈ ([81] : List Nat), gF g k) (h : CALLi g d mX12_reads [.ref 80, .int 0, .int ((S.1 81 1) - 1)] ρ ρ S (fun v1 S1 => if (S1.1 80 12) = 0 then CALLi g d mX12_place [.ref 80, .int x1, .int v1] ρ ρ S1 (fun v2 S2 => Q (setI S2 81 2 ((S1.1 81 2) ||| (1 <<< (v2 &&& 31))))) else Q (setI S1 81 2 ((S1.1 81 2) ||| 0)))) : AW g ρ (QV Q) (d + 1) mX12_readsHole 109 [(0, .ref 80), (1, .int x1)] [] ρ S := by
  refine AW_aload_n 0 (n := 0) rfl dX12_readsHole_109 rfl ?_
  refine AW_iconst (v := 0) dX12_readsHole_110 rfl ?_
  refine AW_aload_n 0 (n := 0) rfl dX12_readsHole_111 rfl ?_
  refine AW_get dX12_readsHole_112 flX12_9 (Nat.le_of_ble_eq_true rfl) (okn hρ (Nat.le_of_ble_eq_true rfl)) rfl (v := .ref 81) (fvR (okR hρ 51 rfl)) ?_
  refine AW_iconst (v := 1) dX12_readsHole_115 rfl ?_
  refine AW_iaload dX12_readsHole_116 (Nat.le_of_ble_eq_true rfl) (okn hρ (Nat.le_of_ble_eq_true rfl)) rfl (show ¬ (_ ∨ _) by decide) (v := S.1 81 1) rfl ?_
  refine AW_iconst (v := 1) dX12_readsHole_117 rfl ?_
  refine AW_isub dX12_readsHole_118 ?_
  refine AW_callVi (M := mX12_readsHole) (pc := 119) (As := [.int 0, .int ((S.1 81 1) - 1)]) (ρ1 := ρ) (st := []) dX12_readsHole_119 mdX12_reads rfl mlX12_123 imX12_reads seX12_reads (rcv_of (q := (RX12, TX12, 40)) (Nat.le_of_ble_eq_true rfl) (okn hρ (Nat.le_of_ble_eq_true rfl)) rfl rfl) ⟨rfl, npX12_reads⟩ (Nat.le_of_ble_eq_true rfl) (Nat.le_refl _) (Nat.le_refl _) rfl (CALLi.mono h (fun v1 S1 _ h => ?_))
  refine AW_istore_n (n := 2) (i := 2) rfl dX12_readsHole_122 (Nat.le_of_ble_eq_true rfl) rfl ?_
  refine AW_aload_n 1 (n := 0) rfl dX12_readsHole_123 rfl ?_
  refine AW_get dX12_readsHole_124 flX12_9 (Nat.le_of_ble_eq_true rfl) (okn hρ (Nat.le_of_ble_eq_true rfl)) rfl (v := .ref 81) (fvR (okR hρ 51 rfl)) ?_
  refine AW_iconst (v := 2) dX12_readsHole_127 rfl ?_
  refine AW_dup2_11 dX12_readsHole_128 rfl rfl ?_
  refine AW_iaload dX12_readsHole_129 (Nat.le_of_ble_eq_true rfl) (okn hρ (Nat.le_of_ble_eq_true rfl)) rfl (show ¬ (_ ∨ _) by decide) (v := S1.1 81 2) rfl ?_
  refine AW_aload_n 1 (n := 0) rfl dX12_readsHole_130 rfl ?_
  refine AW_get dX12_readsHole_131 flX12_87 (Nat.le_of_ble_eq_true rfl) (okn hρ (Nat.le_of_ble_eq_true rfl)) rfl (v := .int (S1.1 80 12)) (fun _ => rfl) ?_
  refine AW_if_eq dX12_readsHole_134 rfl (iteM h (fun h => ?_) (fun h => ?_))
  · refine AW_iconst (v := 1) dX12_readsHole_141 rfl ?_
    refine AW_aload_n 1 (n := 0) rfl dX12_readsHole_142 rfl ?_
    refine AW_iload_n 2 (n := 1) rfl dX12_readsHole_143 rfl ?_
    refine AW_iload_n 0 (n := 2) rfl dX12_readsHole_144 rfl ?_
    refine AW_callVi (M := mX12_readsHole) (pc := 145) (As := [.int x1, .int v1]) (ρ1 := ρ) (st := [.int 1, .int (S1.1 81 2), .int 2, .ref 81]) dX12_readsHole_145 mdX12_place rfl mlX12_133 imX12_place seX12_place (rcv_of (q := (RX12, TX12, 40)) (Nat.le_of_ble_eq_true rfl) (okn hρ (Nat.le_of_ble_eq_true rfl)) rfl rfl) ⟨rfl, npX12_place⟩ (Nat.le_of_ble_eq_true rfl) (Nat.le_refl _) (Nat.le_refl _) rfl (CALLi.mono h (fun v2 S2 _ h => ?_))
    refine AW_ishl dX12_readsHole_148 ?_
    refine AW_ior dX12_readsHole_149 ?_
    refine AW_iastore dX12_readsHole_150 (Nat.le_of_ble_eq_true rfl) (okn hρ (Nat.le_of_ble_eq_true rfl)) rfl (show ¬ (_ ∨ _) by decide) (hF _ (List.mem_of_getElem? (i := 0) rfl)) (jx := 2) rfl ?_
    exact AW_retv dX12_readsHole_151 rfl h
  · refine AW_iconst (v := 0) dX12_readsHole_137 rfl ?_
    refine AW_goto (tgt := 149) dX12_readsHole_138 rfl ?_
    refine AW_ior dX12_readsHole_149 ?_
    refine AW_iastore dX12_readsHole_150 (Nat.le_of_ble_eq_true rfl) (okn hρ (Nat.le_of_ble_eq_true rfl)) rfl (show ¬ (_ ∨ _) by decide) (hF _ (List.mem_of_getElem? (i := 0) rfl)) (jx := 2) rfl ?_
    exact AW_retv dX12_readsHole_151 rfl h
set_option maxRecDepth 20000 in
theorem eX12_readsHole_34 {g : GX} {Q : St → Prop} {d : Nat} {ρ : Rs} {S : St} (hρ : Ok ρ) {s0 : Int32} (h : if (S.1 80 12) = 0 then if (S.1 80 9) = 2 then if (S.1 81 1) ≤ (S.1 80 10) then AW g ρ (QV Q) (d + 1) mX12_readsHole 109 [(0, .ref 80), (1, .int s0)] [] ρ S else CALLi g d mX12_place [.ref 80, .int s0, .int (S.1 80 10)] ρ ρ S (fun v1 S1 => CALLi g d mX12_has [.int (S.1 81 2), .int v1] ρ ρ S1 (fun v2 S2 => if v2 = 0 then CALLi g d mX12_place [.ref 80, .int s0, .int (S2.1 80 10)] ρ ρ S2 (fun v3 S3 => vp_in (5 + v3) 21 ∧ (if (S3.1 81 ((5 + v3).toNatClampNeg)) ≤ 0 then AW g ρ (QV Q) (d + 1) mX12_readsHole 109 [(0, .ref 80), (1, .int s0)] [] ρ S3 else CALLv g d mX12_faults [.ref 80, .int 2] ρ ρ S3 (fun S4 => AW g ρ (QV Q) (d + 1) mX12_readsHole 109 [(0, .ref 80), (1, .int s0)] [] ρ S4))) else CALLv g d mX12_faults [.ref 80, .int 2] ρ ρ S2 (fun S5 => AW g ρ (QV Q) (d + 1) mX12_readsHole 109 [(0, .ref 80), (1, .int s0)] [] ρ S5))) else AW g ρ (QV Q) (d + 1) mX12_readsHole 109 [(0, .ref 80), (1, .int s0)] [] ρ S else Q S) : AW g ρ (QV Q) (d + 1) mX12_readsHole 34 [(0, .ref 80)] [.int s0] ρ S := by
  refine AW_istore_n (n := 1) (i := 1) rfl dX12_readsHole_34 (Nat.le_of_ble_eq_true rfl) rfl ?_
  refine AW_aload_n 1 (n := 0) rfl dX12_readsHole_35 rfl ?_
  refine AW_get dX12_readsHole_36 flX12_87 (Nat.le_of_ble_eq_true rfl) (okn hρ (Nat.le_of_ble_eq_true rfl)) rfl (v := .int (S.1 80 12)) (fun _ => rfl) ?_
  refine AW_if_eq dX12_readsHole_39 rfl (iteM h (fun h => ?_) (fun h => ?_))
  · refine AW_aload_n 1 (n := 0) rfl dX12_readsHole_43 rfl ?_
    refine AW_get dX12_readsHole_44 flX12_77 (Nat.le_of_ble_eq_true rfl) (okn hρ (Nat.le_of_ble_eq_true rfl)) rfl (v := .int (S.1 80 9)) (fun _ => rfl) ?_
    refine AW_iconst (v := 2) dX12_readsHole_47 rfl ?_
    refine AW_icmp_ne dX12_readsHole_48 rfl (iteM h (fun h => ?_) (fun h => ?_))
    · refine AW_aload_n 1 (n := 0) rfl dX12_readsHole_51 rfl ?_
      refine AW_get dX12_readsHole_52 flX12_74 (Nat.le_of_ble_eq_true rfl) (okn hρ (Nat.le_of_ble_eq_true rfl)) rfl (v := .int (S.1 80 10)) (fun _ => rfl) ?_
      refine AW_aload_n 1 (n := 0) rfl dX12_readsHole_55 rfl ?_
      refine AW_get dX12_readsHole_56 flX12_9 (Nat.le_of_ble_eq_true rfl) (okn hρ (Nat.le_of_ble_eq_true rfl)) rfl (v := .ref 81) (fvR (okR hρ 51 rfl)) ?_
      refine AW_iconst (v := 1) dX12_readsHole_59 rfl ?_
      refine AW_iaload dX12_readsHole_60 (Nat.le_of_ble_eq_true rfl) (okn hρ (Nat.le_of_ble_eq_true rfl)) rfl (show ¬ (_ ∨ _) by decide) (v := S.1 81 1) rfl ?_
      refine AW_icmp_ge dX12_readsHole_61 rfl (iteM h (fun h => ?_) (fun h => ?_))
      · exact AW.sub [1, 0] rfl h
      · refine AW_aload_n 1 (n := 0) rfl dX12_readsHole_64 rfl ?_
        refine AW_get dX12_readsHole_65 flX12_9 (Nat.le_of_ble_eq_true rfl) (okn hρ (Nat.le_of_ble_eq_true rfl)) rfl (v := .ref 81) (fvR (okR hρ 51 rfl)) ?_
        refine AW_iconst (v := 2) dX12_readsHole_68 rfl ?_
        refine AW_iaload dX12_readsHole_69 (Nat.le_of_ble_eq_true rfl) (okn hρ (Nat.le_of_ble_eq_true rfl)) rfl (show ¬ (_ ∨ _) by decide) (v := S.1 81 2) rfl ?_
        refine AW_aload_n 1 (n := 0) rfl dX12_readsHole_70 rfl ?_
        refine AW_iload_n 0 (n := 1) rfl dX12_readsHole_71 rfl ?_
        refine AW_aload_n 1 (n := 0) rfl dX12_readsHole_72 rfl ?_
        refine AW_get dX12_readsHole_73 flX12_74 (Nat.le_of_ble_eq_true rfl) (okn hρ (Nat.le_of_ble_eq_true rfl)) rfl (v := .int (S.1 80 10)) (fun _ => rfl) ?_
        refine AW_callVi (M := mX12_readsHole) (pc := 76) (As := [.int s0, .int (S.1 80 10)]) (ρ1 := ρ) (st := [.int (S.1 81 2)]) dX12_readsHole_76 mdX12_place rfl mlX12_133 imX12_place seX12_place (rcv_of (q := (RX12, TX12, 40)) (Nat.le_of_ble_eq_true rfl) (okn hρ (Nat.le_of_ble_eq_true rfl)) rfl rfl) ⟨rfl, npX12_place⟩ (Nat.le_of_ble_eq_true rfl) (Nat.le_refl _) (Nat.le_refl _) rfl (CALLi.mono h (fun v1 S1 _ h => ?_))
        refine AW_callSi (M := mX12_readsHole) (pc := 79) (As := [.int (S.1 81 2), .int v1]) (ρ1 := ρ) (st := []) dX12_readsHole_79 mdX12_has mlX12_138 smX12_has ⟨rfl, npX12_has⟩ (Nat.le_of_ble_eq_true rfl) (Nat.le_refl _) (Nat.le_refl _) rfl (CALLi.mono h (fun v2 S2 _ h => ?_))
        refine AW_if_ne dX12_readsHole_82 rfl (iteM h (fun h => ?_) (fun h => ?_))
        · refine AW_aload_n 1 (n := 0) rfl dX12_readsHole_85 rfl ?_
          refine AW_get dX12_readsHole_86 flX12_9 (Nat.le_of_ble_eq_true rfl) (okn hρ (Nat.le_of_ble_eq_true rfl)) rfl (v := .ref 81) (fvR (okR hρ 51 rfl)) ?_
          refine AW_iconst (v := 5) dX12_readsHole_89 rfl ?_
          refine AW_aload_n 1 (n := 0) rfl dX12_readsHole_90 rfl ?_
          refine AW_iload_n 0 (n := 1) rfl dX12_readsHole_91 rfl ?_
          refine AW_aload_n 1 (n := 0) rfl dX12_readsHole_92 rfl ?_
          refine AW_get dX12_readsHole_93 flX12_74 (Nat.le_of_ble_eq_true rfl) (okn hρ (Nat.le_of_ble_eq_true rfl)) rfl (v := .int (S2.1 80 10)) (fun _ => rfl) ?_
          refine AW_callVi (M := mX12_readsHole) (pc := 96) (As := [.int s0, .int (S2.1 80 10)]) (ρ1 := ρ) (st := [.int 5, .ref 81]) dX12_readsHole_96 mdX12_place rfl mlX12_133 imX12_place seX12_place (rcv_of (q := (RX12, TX12, 40)) (Nat.le_of_ble_eq_true rfl) (okn hρ (Nat.le_of_ble_eq_true rfl)) rfl rfl) ⟨rfl, npX12_place⟩ (Nat.le_of_ble_eq_true rfl) (Nat.le_refl _) (Nat.le_refl _) rfl (CALLi.mono h (fun v3 S3 _ h => ?_))
          refine AW_iadd dX12_readsHole_99 ?_
          refine AW_iaload dX12_readsHole_100 (Nat.le_of_ble_eq_true rfl) (okn hρ (Nat.le_of_ble_eq_true rfl)) rfl h.1 (v := S3.1 81 ((5 + v3).toNatClampNeg)) rfl ?_
          replace h := h.2
          refine AW_if_le dX12_readsHole_101 rfl (iteM h (fun h => ?_) (fun h => ?_))
          · exact AW.sub [1, 0] rfl h
          · refine AW_aload_n 1 (n := 0) rfl dX12_readsHole_104 rfl ?_
            refine AW_iconst (v := 2) dX12_readsHole_105 rfl ?_
            refine AW_callVv (M := mX12_readsHole) (pc := 106) (As := [.int 2]) (ρ1 := ρ) (st := []) dX12_readsHole_106 mdX12_faults rfl mlX12_104 imX12_faults seX12_faults (rcv_of (q := (RX12, TX12, 40)) (Nat.le_of_ble_eq_true rfl) (okn hρ (Nat.le_of_ble_eq_true rfl)) rfl rfl) ⟨rfl, npX12_faults⟩ (Nat.le_of_ble_eq_true rfl) (Nat.le_refl _) (Nat.le_refl _) rfl (CALLv.mono h (fun S4 _ h => ?_))
            exact AW.sub [1, 0] rfl h
        · refine AW_aload_n 1 (n := 0) rfl dX12_readsHole_104 rfl ?_
          refine AW_iconst (v := 2) dX12_readsHole_105 rfl ?_
          refine AW_callVv (M := mX12_readsHole) (pc := 106) (As := [.int 2]) (ρ1 := ρ) (st := []) dX12_readsHole_106 mdX12_faults rfl mlX12_104 imX12_faults seX12_faults (rcv_of (q := (RX12, TX12, 40)) (Nat.le_of_ble_eq_true rfl) (okn hρ (Nat.le_of_ble_eq_true rfl)) rfl rfl) ⟨rfl, npX12_faults⟩ (Nat.le_of_ble_eq_true rfl) (Nat.le_refl _) (Nat.le_refl _) rfl (CALLv.mono h (fun S5 _ h => ?_))
          exact AW.sub [1, 0] rfl h
    · exact AW.sub [1, 0] rfl h
  · exact AW_retv dX12_readsHole_42 rfl h
set_option maxRecDepth 20000 in
theorem eX12_readsHole {g : GX} {Q : St → Prop} {d : Nat} {ρ : Rs} {S : St} (hρ : Ok ρ) (h : CALLi g d mX12_isWord [.ref 80, .ref 4] ρ ρ S (fun v1 S1 => CALLv g d mX12_passes [.ref 80, .int v1] ρ ρ S1 (fun S2 => if (S2.1 80 12) = 0 then CALLi g d mX12_reads [.ref 80, .int 0, .int ((S2.1 81 0) - 1)] ρ ρ S2 (fun v3 S3 => AW g ρ (QV Q) (d + 1) mX12_readsHole 34 [(0, .ref 80)] [.int v3] ρ S3) else AW g ρ (QV Q) (d + 1) mX12_readsHole 34 [(0, .ref 80)] [.int 0] ρ S2))) : CALLv g (d + 1) mX12_readsHole [.ref 80] ρ ρ S Q := by
  refine CALL.of mdX12_readsHole.2.2.2.2 (Nat.le_of_ble_eq_true rfl) (Nat.le_refl _) (Nat.le_refl _) ?_
  show AW g ρ (QV Q) (d + 1) mX12_readsHole 0 [(0, .ref 80)] [] ρ S
  refine AW_aload_n 0 (n := 0) rfl dX12_readsHole_0 rfl ?_
  refine AW_aload_n 0 (n := 0) rfl dX12_readsHole_1 rfl ?_
  refine AW_ldcS (i := 4) dX12_readsHole_2 (by decide) (Or.inr ⟨rfl, rfl⟩) ?_
  refine AW_callVi (M := mX12_readsHole) (pc := 4) (As := [.ref 4]) (ρ1 := ρ) (st := [.ref 80]) dX12_readsHole_4 mdX12_isWord rfl mlX12_117 imX12_isWord seX12_isWord (rcv_of (q := (RX12, TX12, 40)) (Nat.le_of_ble_eq_true rfl) (okn hρ (Nat.le_of_ble_eq_true rfl)) rfl rfl) ⟨rfl, npX12_isWord⟩ (Nat.le_of_ble_eq_true rfl) (Nat.le_refl _) (Nat.le_refl _) rfl (CALLi.mono h (fun v1 S1 _ h => ?_))
  refine AW_callVv (M := mX12_readsHole) (pc := 7) (As := [.int v1]) (ρ1 := ρ) (st := []) dX12_readsHole_7 mdX12_passes rfl mlX12_111 imX12_passes seX12_passes (rcv_of (q := (RX12, TX12, 40)) (Nat.le_of_ble_eq_true rfl) (okn hρ (Nat.le_of_ble_eq_true rfl)) rfl rfl) ⟨rfl, npX12_passes⟩ (Nat.le_of_ble_eq_true rfl) (Nat.le_refl _) (Nat.le_refl _) rfl (CALLv.mono h (fun S2 _ h => ?_))
  refine AW_aload_n 0 (n := 0) rfl dX12_readsHole_10 rfl ?_
  refine AW_get dX12_readsHole_11 flX12_87 (Nat.le_of_ble_eq_true rfl) (okn hρ (Nat.le_of_ble_eq_true rfl)) rfl (v := .int (S2.1 80 12)) (fun _ => rfl) ?_
  refine AW_if_eq dX12_readsHole_14 rfl (iteM h (fun h => ?_) (fun h => ?_))
  · refine AW_aload_n 0 (n := 0) rfl dX12_readsHole_21 rfl ?_
    refine AW_iconst (v := 0) dX12_readsHole_22 rfl ?_
    refine AW_aload_n 0 (n := 0) rfl dX12_readsHole_23 rfl ?_
    refine AW_get dX12_readsHole_24 flX12_9 (Nat.le_of_ble_eq_true rfl) (okn hρ (Nat.le_of_ble_eq_true rfl)) rfl (v := .ref 81) (fvR (okR hρ 51 rfl)) ?_
    refine AW_iconst (v := 0) dX12_readsHole_27 rfl ?_
    refine AW_iaload dX12_readsHole_28 (Nat.le_of_ble_eq_true rfl) (okn hρ (Nat.le_of_ble_eq_true rfl)) rfl (show ¬ (_ ∨ _) by decide) (v := S2.1 81 0) rfl ?_
    refine AW_iconst (v := 1) dX12_readsHole_29 rfl ?_
    refine AW_isub dX12_readsHole_30 ?_
    refine AW_callVi (M := mX12_readsHole) (pc := 31) (As := [.int 0, .int ((S2.1 81 0) - 1)]) (ρ1 := ρ) (st := []) dX12_readsHole_31 mdX12_reads rfl mlX12_123 imX12_reads seX12_reads (rcv_of (q := (RX12, TX12, 40)) (Nat.le_of_ble_eq_true rfl) (okn hρ (Nat.le_of_ble_eq_true rfl)) rfl rfl) ⟨rfl, npX12_reads⟩ (Nat.le_of_ble_eq_true rfl) (Nat.le_refl _) (Nat.le_refl _) rfl (CALLi.mono h (fun v3 S3 _ h => ?_))
    exact AW.sub [0] rfl h
  · refine AW_iconst (v := 0) dX12_readsHole_17 rfl ?_
    refine AW_goto (tgt := 34) dX12_readsHole_18 rfl ?_
    exact AW.sub [0] rfl h
set_option maxRecDepth 20000 in
theorem eX12_table_205 {g : GX} {Q : Int32 → St → Prop} {d : Nat} {ρ : Rs} {S : St} (hρ : Ok ρ) {x2 : Int32} (hF : ∀ k ∈ ([81] : List Nat), gF g k) (h : if (21 : Int32) ≤ x2 then Q (-4) S else vp_in x2 21 ∧ (vp_in x2 21 ∧ (AW g ρ (QI Q) (d + 1) mX12_table 205 [(0, .ref 80), (2, .int (x2 + 1))] [] ρ (setI S 81 x2.toNatClampNeg (S.1 82 x2.toNatClampNeg))))) : AW g ρ (QI Q) (d + 1) mX12_table 205 [(0, .ref 80), (2, .int x2)] [] ρ S := by
  refine AW_iload_n 1 (n := 2) rfl dX12_table_205 rfl ?_
  refine AW_bipush (v := 21) dX12_table_206 rfl ?_
  refine AW_icmp_ge dX12_table_208 rfl (iteM h (fun h => ?_) (fun h => ?_))
  · refine AW_bipush (v := (-4)) dX12_table_229 rfl ?_
    exact AW_reti dX12_table_231 rfl h
  · refine AW_aload_n 0 (n := 0) rfl dX12_table_211 rfl ?_
    refine AW_get dX12_table_212 flX12_9 (Nat.le_of_ble_eq_true rfl) (okn hρ (Nat.le_of_ble_eq_true rfl)) rfl (v := .ref 81) (fvR (okR hρ 51 rfl)) ?_
    refine AW_iload_n 1 (n := 2) rfl dX12_table_215 rfl ?_
    refine AW_aload_n 0 (n := 0) rfl dX12_table_216 rfl ?_
    refine AW_get dX12_table_217 flX12_13 (Nat.le_of_ble_eq_true rfl) (okn hρ (Nat.le_of_ble_eq_true rfl)) rfl (v := .ref 82) (fvR (okR hρ 52 rfl)) ?_
    refine AW_iload_n 1 (n := 2) rfl dX12_table_220 rfl ?_
    refine AW_iaload dX12_table_221 (Nat.le_of_ble_eq_true rfl) (okn hρ (Nat.le_of_ble_eq_true rfl)) rfl h.1 (v := S.1 82 x2.toNatClampNeg) rfl ?_
    replace h := h.2
    refine AW_iastore dX12_table_222 (Nat.le_of_ble_eq_true rfl) (okn hρ (Nat.le_of_ble_eq_true rfl)) rfl h.1 (hF _ (List.mem_of_getElem? (i := 0) rfl)) (jx := x2.toNatClampNeg) rfl ?_
    replace h := h.2
    refine AW_iinc 1 (v := x2 + 1) dX12_table_223 rfl rfl (Nat.le_of_ble_eq_true rfl) rfl ?_
    refine AW_goto (tgt := 205) dX12_table_226 rfl ?_
    exact AW.sub [1, 0] rfl h
set_option maxRecDepth 20000 in
theorem eX12_table_140 {g : GX} {Q : Int32 → St → Prop} {d : Nat} {ρ : Rs} {S : St} (hρ : Ok ρ) {s0 : Int32} (hF : ∀ k ∈ ([81] : List Nat), gF g k) (h : CALLv g d mX12_passes [.ref 80, .int s0] ρ ρ S (fun S1 => if (S1.1 80 12) = 0 then if (S1.1 80 9) = 0 then if (S1.1 81 0) < ((S1.1 81 3) + 1) then AW g ρ (QI Q) (d + 1) mX12_table 65 [(0, .ref 80), (1, .int 0)] [] ρ (setI S1 81 3 ((S1.1 81 3) + 1)) else AW g ρ (QI Q) (d + 1) mX12_table 65 [(0, .ref 80), (1, .int 1)] [] ρ (setI S1 81 3 ((S1.1 81 3) + 1)) else AW g ρ (QI Q) (d + 1) mX12_table 65 [(0, .ref 80), (1, .int 1)] [] ρ (setI S1 81 3 ((S1.1 81 3) + 1)) else AW g ρ (QI Q) (d + 1) mX12_table 65 [(0, .ref 80), (1, .int 0)] [] ρ (setI S1 81 3 ((S1.1 81 3) + 1)))) : AW g ρ (QI Q) (d + 1) mX12_table 140 [(0, .ref 80)] [.int s0, .ref 80] ρ S := by
  refine AW_callVv (M := mX12_table) (pc := 140) (As := [.int s0]) (ρ1 := ρ) (st := []) dX12_table_140 mdX12_passes rfl mlX12_111 imX12_passes seX12_passes (rcv_of (q := (RX12, TX12, 40)) (Nat.le_of_ble_eq_true rfl) (okn hρ (Nat.le_of_ble_eq_true rfl)) rfl rfl) ⟨rfl, npX12_passes⟩ (Nat.le_of_ble_eq_true rfl) (Nat.le_refl _) (Nat.le_refl _) rfl (CALLv.mono h (fun S1 _ h => ?_))
  refine AW_aload_n 0 (n := 0) rfl dX12_table_143 rfl ?_
  refine AW_get dX12_table_144 flX12_9 (Nat.le_of_ble_eq_true rfl) (okn hρ (Nat.le_of_ble_eq_true rfl)) rfl (v := .ref 81) (fvR (okR hρ 51 rfl)) ?_
  refine AW_iconst (v := 3) dX12_table_147 rfl ?_
  refine AW_dup2_11 dX12_table_148 rfl rfl ?_
  refine AW_iaload dX12_table_149 (Nat.le_of_ble_eq_true rfl) (okn hρ (Nat.le_of_ble_eq_true rfl)) rfl (show ¬ (_ ∨ _) by decide) (v := S1.1 81 3) rfl ?_
  refine AW_iconst (v := 1) dX12_table_150 rfl ?_
  refine AW_iadd dX12_table_151 ?_
  refine AW_iastore dX12_table_152 (Nat.le_of_ble_eq_true rfl) (okn hρ (Nat.le_of_ble_eq_true rfl)) rfl (show ¬ (_ ∨ _) by decide) (hF _ (List.mem_of_getElem? (i := 0) rfl)) (jx := 3) rfl ?_
  refine AW_aload_n 0 (n := 0) rfl dX12_table_153 rfl ?_
  refine AW_get dX12_table_154 flX12_87 (Nat.le_of_ble_eq_true rfl) (okn hρ (Nat.le_of_ble_eq_true rfl)) rfl (v := .int (S1.1 80 12)) (fun _ => rfl) ?_
  refine AW_if_ne dX12_table_157 rfl (iteM h (fun h => ?_) (fun h => ?_))
  · refine AW_aload_n 0 (n := 0) rfl dX12_table_160 rfl ?_
    refine AW_get dX12_table_161 flX12_77 (Nat.le_of_ble_eq_true rfl) (okn hρ (Nat.le_of_ble_eq_true rfl)) rfl (v := .int (S1.1 80 9)) (fun _ => rfl) ?_
    refine AW_if_ne dX12_table_164 rfl (iteM h (fun h => ?_) (fun h => ?_))
    · refine AW_aload_n 0 (n := 0) rfl dX12_table_167 rfl ?_
      refine AW_get dX12_table_168 flX12_9 (Nat.le_of_ble_eq_true rfl) (okn hρ (Nat.le_of_ble_eq_true rfl)) rfl (v := .ref 81) (fvR (okR hρ 51 rfl)) ?_
      refine AW_iconst (v := 3) dX12_table_171 rfl ?_
      refine AW_iaload dX12_table_172 (Nat.le_of_ble_eq_true rfl) (okn hρ (Nat.le_of_ble_eq_true rfl)) rfl (show ¬ (_ ∨ _) by decide) (v := (S1.1 81 3) + 1) rfl ?_
      refine AW_aload_n 0 (n := 0) rfl dX12_table_173 rfl ?_
      refine AW_get dX12_table_174 flX12_9 (Nat.le_of_ble_eq_true rfl) (okn hρ (Nat.le_of_ble_eq_true rfl)) rfl (v := .ref 81) (fvR (okR hρ 51 rfl)) ?_
      refine AW_iconst (v := 0) dX12_table_177 rfl ?_
      refine AW_iaload dX12_table_178 (Nat.le_of_ble_eq_true rfl) (okn hρ (Nat.le_of_ble_eq_true rfl)) rfl (show ¬ (_ ∨ _) by decide) (v := S1.1 81 0) rfl ?_
      refine AW_icmp_gt dX12_table_179 rfl (iteM h (fun h => ?_) (fun h => ?_))
      · refine AW_iconst (v := 0) dX12_table_186 rfl ?_
        refine AW_istore_n (n := 1) (i := 1) rfl dX12_table_187 (Nat.le_of_ble_eq_true rfl) rfl ?_
        refine AW_goto (tgt := 65) dX12_table_188 rfl ?_
        exact AW.sub [1, 0] rfl h
      · refine AW_iconst (v := 1) dX12_table_182 rfl ?_
        refine AW_goto (tgt := 187) dX12_table_183 rfl ?_
        refine AW_istore_n (n := 1) (i := 1) rfl dX12_table_187 (Nat.le_of_ble_eq_true rfl) rfl ?_
        refine AW_goto (tgt := 65) dX12_table_188 rfl ?_
        exact AW.sub [1, 0] rfl h
    · refine AW_iconst (v := 1) dX12_table_182 rfl ?_
      refine AW_goto (tgt := 187) dX12_table_183 rfl ?_
      refine AW_istore_n (n := 1) (i := 1) rfl dX12_table_187 (Nat.le_of_ble_eq_true rfl) rfl ?_
      refine AW_goto (tgt := 65) dX12_table_188 rfl ?_
      exact AW.sub [1, 0] rfl h
  · refine AW_iconst (v := 0) dX12_table_186 rfl ?_
    refine AW_istore_n (n := 1) (i := 1) rfl dX12_table_187 (Nat.le_of_ble_eq_true rfl) rfl ?_
    refine AW_goto (tgt := 65) dX12_table_188 rfl ?_
    exact AW.sub [1, 0] rfl h
set_option maxRecDepth 20000 in
theorem eX12_table_65 {g : GX} {Q : Int32 → St → Prop} {d : Nat} {ρ : Rs} {S : St} (hρ : Ok ρ) {x1 : Int32} (hF : ∀ k ∈ ([80] : List Nat), gF g k) (h : if x1 = 0 then if (S.1 80 12) = 0 then Q (S.1 81 3) (setI (setI (setI S 80 4 0) 80 5 0) 80 6 (-1)) else AW g ρ (QI Q) (d + 1) mX12_table 205 [(0, .ref 80), (2, .int 0)] [] ρ (setI S 80 4 0) else if (S.1 81 3) = 0 then CALLv g d mX12_readsTable [.ref 80] ρ ρ S (fun S1 => if (S1.1 80 12) = 0 then if (S1.1 80 9) = 3 then AW g ρ (QI Q) (d + 1) mX12_table 140 [(0, .ref 80)] [.int 1, .ref 80] ρ S1 else AW g ρ (QI Q) (d + 1) mX12_table 140 [(0, .ref 80)] [.int 0, .ref 80] ρ S1 else AW g ρ (QI Q) (d + 1) mX12_table 140 [(0, .ref 80)] [.int 1, .ref 80] ρ S1) else if (S.1 81 0) < (S.1 81 3) then CALLv g d mX12_readsHole [.ref 80] ρ ρ S (fun S2 => if (S2.1 80 12) = 0 then if (S2.1 80 9) = 3 then AW g ρ (QI Q) (d + 1) mX12_table 140 [(0, .ref 80)] [.int 1, .ref 80] ρ S2 else AW g ρ (QI Q) (d + 1) mX12_table 140 [(0, .ref 80)] [.int 0, .ref 80] ρ S2 else AW g ρ (QI Q) (d + 1) mX12_table 140 [(0, .ref 80)] [.int 1, .ref 80] ρ S2) else CALLv g d mX12_readsRow [.ref 80, .int ((S.1 81 3) - 1)] ρ ρ S (fun S3 => if (S3.1 80 12) = 0 then if (S3.1 80 9) = 3 then AW g ρ (QI Q) (d + 1) mX12_table 140 [(0, .ref 80)] [.int 1, .ref 80] ρ S3 else AW g ρ (QI Q) (d + 1) mX12_table 140 [(0, .ref 80)] [.int 0, .ref 80] ρ S3 else AW g ρ (QI Q) (d + 1) mX12_table 140 [(0, .ref 80)] [.int 1, .ref 80] ρ S3)) : AW g ρ (QI Q) (d + 1) mX12_table 65 [(0, .ref 80), (1, .int x1)] [] ρ S := by
  refine AW_iload_n 1 (n := 1) rfl dX12_table_65 rfl ?_
  refine AW_if_eq dX12_table_66 rfl (iteM h (fun h => ?_) (fun h => ?_))
  · refine AW_aload_n 0 (n := 0) rfl dX12_table_191 rfl ?_
    refine AW_iconst (v := 0) dX12_table_192 rfl ?_
    refine AW_put dX12_table_193 flX12_57 fp_10_4 (Nat.le_of_ble_eq_true rfl) (okn hρ (Nat.le_of_ble_eq_true rfl)) rfl (fun _ => rfl) (fun _ => rfl) rfl rfl rfl rfl (Fr.setI _ _ _ rfl) (fun _ _ => rfl) (ρ2 := ρ) (S2 := setI S 80 4 0) (fun _ => rfl) (fun _ _ _ q1 _ => fvI_o q1) (hF _ (List.mem_of_getElem? (i := 0) rfl)) ?_
    refine AW_aload_n 0 (n := 0) rfl dX12_table_196 rfl ?_
    refine AW_get dX12_table_197 flX12_87 (Nat.le_of_ble_eq_true rfl) (okn hρ (Nat.le_of_ble_eq_true rfl)) rfl (v := .int (S.1 80 12)) (fun _ => rfl) ?_
    refine AW_if_eq dX12_table_200 rfl (iteM h (fun h => ?_) (fun h => ?_))
    · refine AW_aload_n 0 (n := 0) rfl dX12_table_232 rfl ?_
      refine AW_iconst (v := 0) dX12_table_233 rfl ?_
      refine AW_put dX12_table_234 flX12_91 fp_10_5 (Nat.le_of_ble_eq_true rfl) (okn hρ (Nat.le_of_ble_eq_true rfl)) rfl (fun _ => rfl) (fun _ => rfl) rfl rfl rfl rfl (Fr.setI _ _ _ rfl) (fun _ _ => rfl) (ρ2 := ρ) (S2 := setI (setI S 80 4 0) 80 5 0) (fun _ => rfl) (fun _ _ _ q1 _ => fvI_o q1) (hF _ (List.mem_of_getElem? (i := 0) rfl)) ?_
      refine AW_aload_n 0 (n := 0) rfl dX12_table_237 rfl ?_
      refine AW_iconst (v := (-1)) dX12_table_238 rfl ?_
      refine AW_put dX12_table_239 flX12_22 fp_10_6 (Nat.le_of_ble_eq_true rfl) (okn hρ (Nat.le_of_ble_eq_true rfl)) rfl (fun _ => rfl) (fun _ => rfl) rfl rfl rfl rfl (Fr.setI _ _ _ rfl) (fun _ _ => rfl) (ρ2 := ρ) (S2 := setI (setI (setI S 80 4 0) 80 5 0) 80 6 (-1)) (fun _ => rfl) (fun _ _ _ q1 _ => fvI_o q1) (hF _ (List.mem_of_getElem? (i := 0) rfl)) ?_
      refine AW_aload_n 0 (n := 0) rfl dX12_table_242 rfl ?_
      refine AW_get dX12_table_243 flX12_9 (Nat.le_of_ble_eq_true rfl) (okn hρ (Nat.le_of_ble_eq_true rfl)) rfl (v := .ref 81) (fvR (okR hρ 51 rfl)) ?_
      refine AW_iconst (v := 3) dX12_table_246 rfl ?_
      refine AW_iaload dX12_table_247 (Nat.le_of_ble_eq_true rfl) (okn hρ (Nat.le_of_ble_eq_true rfl)) rfl (show ¬ (_ ∨ _) by decide) (v := S.1 81 3) rfl ?_
      exact AW_reti dX12_table_248 rfl h
    · refine AW_iconst (v := 0) dX12_table_203 rfl ?_
      refine AW_istore_n (n := 2) (i := 2) rfl dX12_table_204 (Nat.le_of_ble_eq_true rfl) rfl ?_
      exact AW.sub [1, 0] rfl h
  · refine AW_aload_n 0 (n := 0) rfl dX12_table_69 rfl ?_
    refine AW_get dX12_table_70 flX12_9 (Nat.le_of_ble_eq_true rfl) (okn hρ (Nat.le_of_ble_eq_true rfl)) rfl (v := .ref 81) (fvR (okR hρ 51 rfl)) ?_
    refine AW_iconst (v := 3) dX12_table_73 rfl ?_
    refine AW_iaload dX12_table_74 (Nat.le_of_ble_eq_true rfl) (okn hρ (Nat.le_of_ble_eq_true rfl)) rfl (show ¬ (_ ∨ _) by decide) (v := S.1 81 3) rfl ?_
    refine AW_if_ne dX12_table_75 rfl (iteM h (fun h => ?_) (fun h => ?_))
    · refine AW_aload_n 0 (n := 0) rfl dX12_table_78 rfl ?_
      refine AW_callVv (M := mX12_table) (pc := 79) (As := []) (ρ1 := ρ) (st := []) dX12_table_79 mdX12_readsTable rfl mlX12_141 imX12_readsTable seX12_readsTable (rcv_of (q := (RX12, TX12, 40)) (Nat.le_of_ble_eq_true rfl) (okn hρ (Nat.le_of_ble_eq_true rfl)) rfl rfl) ⟨rfl, npX12_readsTable⟩ (Nat.le_of_ble_eq_true rfl) (Nat.le_refl _) (Nat.le_refl _) rfl (CALLv.mono h (fun S1 _ h => ?_))
      refine AW_goto (tgt := 119) dX12_table_82 rfl ?_
      refine AW_aload_n 0 (n := 0) rfl dX12_table_119 rfl ?_
      refine AW_aload_n 0 (n := 0) rfl dX12_table_120 rfl ?_
      refine AW_get dX12_table_121 flX12_87 (Nat.le_of_ble_eq_true rfl) (okn hρ (Nat.le_of_ble_eq_true rfl)) rfl (v := .int (S1.1 80 12)) (fun _ => rfl) ?_
      refine AW_if_ne dX12_table_124 rfl (iteM h (fun h => ?_) (fun h => ?_))
      · refine AW_aload_n 0 (n := 0) rfl dX12_table_127 rfl ?_
        refine AW_get dX12_table_128 flX12_77 (Nat.le_of_ble_eq_true rfl) (okn hρ (Nat.le_of_ble_eq_true rfl)) rfl (v := .int (S1.1 80 9)) (fun _ => rfl) ?_
        refine AW_iconst (v := 3) dX12_table_131 rfl ?_
        refine AW_icmp_ne dX12_table_132 rfl (iteM h (fun h => ?_) (fun h => ?_))
        · refine AW_iconst (v := 1) dX12_table_135 rfl ?_
          refine AW_goto (tgt := 140) dX12_table_136 rfl ?_
          exact AW.sub [0] rfl h
        · refine AW_iconst (v := 0) dX12_table_139 rfl ?_
          exact AW.sub [0] rfl h
      · refine AW_iconst (v := 1) dX12_table_135 rfl ?_
        refine AW_goto (tgt := 140) dX12_table_136 rfl ?_
        exact AW.sub [0] rfl h
    · refine AW_aload_n 0 (n := 0) rfl dX12_table_85 rfl ?_
      refine AW_get dX12_table_86 flX12_9 (Nat.le_of_ble_eq_true rfl) (okn hρ (Nat.le_of_ble_eq_true rfl)) rfl (v := .ref 81) (fvR (okR hρ 51 rfl)) ?_
      refine AW_iconst (v := 3) dX12_table_89 rfl ?_
      refine AW_iaload dX12_table_90 (Nat.le_of_ble_eq_true rfl) (okn hρ (Nat.le_of_ble_eq_true rfl)) rfl (show ¬ (_ ∨ _) by decide) (v := S.1 81 3) rfl ?_
      refine AW_aload_n 0 (n := 0) rfl dX12_table_91 rfl ?_
      refine AW_get dX12_table_92 flX12_9 (Nat.le_of_ble_eq_true rfl) (okn hρ (Nat.le_of_ble_eq_true rfl)) rfl (v := .ref 81) (fvR (okR hρ 51 rfl)) ?_
      refine AW_iconst (v := 0) dX12_table_95 rfl ?_
      refine AW_iaload dX12_table_96 (Nat.le_of_ble_eq_true rfl) (okn hρ (Nat.le_of_ble_eq_true rfl)) rfl (show ¬ (_ ∨ _) by decide) (v := S.1 81 0) rfl ?_
      refine AW_icmp_gt dX12_table_97 rfl (iteM h (fun h => ?_) (fun h => ?_))
      · refine AW_aload_n 0 (n := 0) rfl dX12_table_115 rfl ?_
        refine AW_callVv (M := mX12_table) (pc := 116) (As := []) (ρ1 := ρ) (st := []) dX12_table_116 mdX12_readsHole rfl mlX12_147 imX12_readsHole seX12_readsHole (rcv_of (q := (RX12, TX12, 40)) (Nat.le_of_ble_eq_true rfl) (okn hρ (Nat.le_of_ble_eq_true rfl)) rfl rfl) ⟨rfl, npX12_readsHole⟩ (Nat.le_of_ble_eq_true rfl) (Nat.le_refl _) (Nat.le_refl _) rfl (CALLv.mono h (fun S2 _ h => ?_))
        refine AW_aload_n 0 (n := 0) rfl dX12_table_119 rfl ?_
        refine AW_aload_n 0 (n := 0) rfl dX12_table_120 rfl ?_
        refine AW_get dX12_table_121 flX12_87 (Nat.le_of_ble_eq_true rfl) (okn hρ (Nat.le_of_ble_eq_true rfl)) rfl (v := .int (S2.1 80 12)) (fun _ => rfl) ?_
        refine AW_if_ne dX12_table_124 rfl (iteM h (fun h => ?_) (fun h => ?_))
        · refine AW_aload_n 0 (n := 0) rfl dX12_table_127 rfl ?_
          refine AW_get dX12_table_128 flX12_77 (Nat.le_of_ble_eq_true rfl) (okn hρ (Nat.le_of_ble_eq_true rfl)) rfl (v := .int (S2.1 80 9)) (fun _ => rfl) ?_
          refine AW_iconst (v := 3) dX12_table_131 rfl ?_
          refine AW_icmp_ne dX12_table_132 rfl (iteM h (fun h => ?_) (fun h => ?_))
          · refine AW_iconst (v := 1) dX12_table_135 rfl ?_
            refine AW_goto (tgt := 140) dX12_table_136 rfl ?_
            exact AW.sub [0] rfl h
          · refine AW_iconst (v := 0) dX12_table_139 rfl ?_
            exact AW.sub [0] rfl h
        · refine AW_iconst (v := 1) dX12_table_135 rfl ?_
          refine AW_goto (tgt := 140) dX12_table_136 rfl ?_
          exact AW.sub [0] rfl h
      · refine AW_aload_n 0 (n := 0) rfl dX12_table_100 rfl ?_
        refine AW_aload_n 0 (n := 0) rfl dX12_table_101 rfl ?_
        refine AW_get dX12_table_102 flX12_9 (Nat.le_of_ble_eq_true rfl) (okn hρ (Nat.le_of_ble_eq_true rfl)) rfl (v := .ref 81) (fvR (okR hρ 51 rfl)) ?_
        refine AW_iconst (v := 3) dX12_table_105 rfl ?_
        refine AW_iaload dX12_table_106 (Nat.le_of_ble_eq_true rfl) (okn hρ (Nat.le_of_ble_eq_true rfl)) rfl (show ¬ (_ ∨ _) by decide) (v := S.1 81 3) rfl ?_
        refine AW_iconst (v := 1) dX12_table_107 rfl ?_
        refine AW_isub dX12_table_108 ?_
        refine AW_callVv (M := mX12_table) (pc := 109) (As := [.int ((S.1 81 3) - 1)]) (ρ1 := ρ) (st := []) dX12_table_109 mdX12_readsRow rfl mlX12_144 imX12_readsRow seX12_readsRow (rcv_of (q := (RX12, TX12, 40)) (Nat.le_of_ble_eq_true rfl) (okn hρ (Nat.le_of_ble_eq_true rfl)) rfl rfl) ⟨rfl, npX12_readsRow⟩ (Nat.le_of_ble_eq_true rfl) (Nat.le_refl _) (Nat.le_refl _) rfl (CALLv.mono h (fun S3 _ h => ?_))
        refine AW_goto (tgt := 119) dX12_table_112 rfl ?_
        refine AW_aload_n 0 (n := 0) rfl dX12_table_119 rfl ?_
        refine AW_aload_n 0 (n := 0) rfl dX12_table_120 rfl ?_
        refine AW_get dX12_table_121 flX12_87 (Nat.le_of_ble_eq_true rfl) (okn hρ (Nat.le_of_ble_eq_true rfl)) rfl (v := .int (S3.1 80 12)) (fun _ => rfl) ?_
        refine AW_if_ne dX12_table_124 rfl (iteM h (fun h => ?_) (fun h => ?_))
        · refine AW_aload_n 0 (n := 0) rfl dX12_table_127 rfl ?_
          refine AW_get dX12_table_128 flX12_77 (Nat.le_of_ble_eq_true rfl) (okn hρ (Nat.le_of_ble_eq_true rfl)) rfl (v := .int (S3.1 80 9)) (fun _ => rfl) ?_
          refine AW_iconst (v := 3) dX12_table_131 rfl ?_
          refine AW_icmp_ne dX12_table_132 rfl (iteM h (fun h => ?_) (fun h => ?_))
          · refine AW_iconst (v := 1) dX12_table_135 rfl ?_
            refine AW_goto (tgt := 140) dX12_table_136 rfl ?_
            exact AW.sub [0] rfl h
          · refine AW_iconst (v := 0) dX12_table_139 rfl ?_
            exact AW.sub [0] rfl h
        · refine AW_iconst (v := 1) dX12_table_135 rfl ?_
          refine AW_goto (tgt := 140) dX12_table_136 rfl ?_
          exact AW.sub [0] rfl h
set_option maxRecDepth 20000 in
theorem eX12_table_2 {g : GX} {Q : Int32 → St → Prop} {d : Nat} {ρ : Rs} {S : St} (hρ : Ok ρ) {x1 : Int32} (hF : ∀ k ∈ ([80, 82, 81] : List Nat), gF g k) (h : if (21 : Int32) ≤ x1 then CALLv g d mX12_next [.ref 80] ρ ρ (setI (setI (setI S 80 7 0) 80 12 0) 80 11 0) (fun S1 => if (S1.1 80 9) = 0 then AW g ρ (QI Q) (d + 1) mX12_table 65 [(0, .ref 80), (1, .int 0)] [] ρ S1 else AW g ρ (QI Q) (d + 1) mX12_table 65 [(0, .ref 80), (1, .int 1)] [] ρ S1) else vp_in x1 21 ∧ (vp_in x1 21 ∧ (vp_in x1 21 ∧ (AW g ρ (QI Q) (d + 1) mX12_table 2 [(0, .ref 80), (1, .int (x1 + 1))] [] ρ (setI (setI S 82 x1.toNatClampNeg (S.1 81 x1.toNatClampNeg)) 81 x1.toNatClampNeg 0))))) : AW g ρ (QI Q) (d + 1) mX12_table 2 [(0, .ref 80), (1, .int x1)] [] ρ S := by
  refine AW_iload_n 1 (n := 1) rfl dX12_table_2 rfl ?_
  refine AW_bipush (v := 21) dX12_table_3 rfl ?_
  refine AW_icmp_ge dX12_table_5 rfl (iteM h (fun h => ?_) (fun h => ?_))
  · refine AW_aload_n 0 (n := 0) rfl dX12_table_33 rfl ?_
    refine AW_iconst (v := 0) dX12_table_34 rfl ?_
    refine AW_put dX12_table_35 flX12_64 fp_10_7 (Nat.le_of_ble_eq_true rfl) (okn hρ (Nat.le_of_ble_eq_true rfl)) rfl (fun _ => rfl) (fun _ => rfl) rfl rfl rfl rfl (Fr.setI _ _ _ rfl) (fun _ _ => rfl) (ρ2 := ρ) (S2 := setI S 80 7 0) (fun _ => rfl) (fun _ _ _ q1 _ => fvI_o q1) (hF _ (List.mem_of_getElem? (i := 0) rfl)) ?_
    refine AW_aload_n 0 (n := 0) rfl dX12_table_38 rfl ?_
    refine AW_iconst (v := 0) dX12_table_39 rfl ?_
    refine AW_put dX12_table_40 flX12_87 fp_10_12 (Nat.le_of_ble_eq_true rfl) (okn hρ (Nat.le_of_ble_eq_true rfl)) rfl (fun _ => Bz.nar Bz0) (fun _ => Bz.fits Bz0) rfl rfl rfl rfl (Fr.setI _ _ _ rfl) (fun _ _ => rfl) (ρ2 := ρ) (S2 := setI (setI S 80 7 0) 80 12 0) (fun _ => rfl) (fun _ _ _ q1 _ => fvI_o q1) (hF _ (List.mem_of_getElem? (i := 0) rfl)) ?_
    refine AW_aload_n 0 (n := 0) rfl dX12_table_43 rfl ?_
    refine AW_iconst (v := 0) dX12_table_44 rfl ?_
    refine AW_put dX12_table_45 flX12_130 fp_10_11 (Nat.le_of_ble_eq_true rfl) (okn hρ (Nat.le_of_ble_eq_true rfl)) rfl (fun _ => rfl) (fun _ => rfl) rfl rfl rfl rfl (Fr.setI _ _ _ rfl) (fun _ _ => rfl) (ρ2 := ρ) (S2 := setI (setI (setI S 80 7 0) 80 12 0) 80 11 0) (fun _ => rfl) (fun _ _ _ q1 _ => fvI_o q1) (hF _ (List.mem_of_getElem? (i := 0) rfl)) ?_
    refine AW_aload_n 0 (n := 0) rfl dX12_table_48 rfl ?_
    refine AW_callVv (M := mX12_table) (pc := 49) (As := []) (ρ1 := ρ) (st := []) dX12_table_49 mdX12_next rfl mlX12_108 imX12_next seX12_next (rcv_of (q := (RX12, TX12, 40)) (Nat.le_of_ble_eq_true rfl) (okn hρ (Nat.le_of_ble_eq_true rfl)) rfl rfl) ⟨rfl, npX12_next⟩ (Nat.le_of_ble_eq_true rfl) (Nat.le_refl _) (Nat.le_refl _) rfl (CALLv.mono h (fun S1 _ h => ?_))
    refine AW_aload_n 0 (n := 0) rfl dX12_table_52 rfl ?_
    refine AW_get dX12_table_53 flX12_77 (Nat.le_of_ble_eq_true rfl) (okn hρ (Nat.le_of_ble_eq_true rfl)) rfl (v := .int (S1.1 80 9)) (fun _ => rfl) ?_
    refine AW_if_eq dX12_table_56 rfl (iteM h (fun h => ?_) (fun h => ?_))
    · refine AW_iconst (v := 0) dX12_table_63 rfl ?_
      refine AW_istore_n (n := 1) (i := 1) rfl dX12_table_64 (Nat.le_of_ble_eq_true rfl) rfl ?_
      exact AW.sub [1, 0] rfl h
    · refine AW_iconst (v := 1) dX12_table_59 rfl ?_
      refine AW_goto (tgt := 64) dX12_table_60 rfl ?_
      refine AW_istore_n (n := 1) (i := 1) rfl dX12_table_64 (Nat.le_of_ble_eq_true rfl) rfl ?_
      exact AW.sub [1, 0] rfl h
  · refine AW_aload_n 0 (n := 0) rfl dX12_table_8 rfl ?_
    refine AW_get dX12_table_9 flX12_13 (Nat.le_of_ble_eq_true rfl) (okn hρ (Nat.le_of_ble_eq_true rfl)) rfl (v := .ref 82) (fvR (okR hρ 52 rfl)) ?_
    refine AW_iload_n 1 (n := 1) rfl dX12_table_12 rfl ?_
    refine AW_aload_n 0 (n := 0) rfl dX12_table_13 rfl ?_
    refine AW_get dX12_table_14 flX12_9 (Nat.le_of_ble_eq_true rfl) (okn hρ (Nat.le_of_ble_eq_true rfl)) rfl (v := .ref 81) (fvR (okR hρ 51 rfl)) ?_
    refine AW_iload_n 1 (n := 1) rfl dX12_table_17 rfl ?_
    refine AW_iaload dX12_table_18 (Nat.le_of_ble_eq_true rfl) (okn hρ (Nat.le_of_ble_eq_true rfl)) rfl h.1 (v := S.1 81 x1.toNatClampNeg) rfl ?_
    replace h := h.2
    refine AW_iastore dX12_table_19 (Nat.le_of_ble_eq_true rfl) (okn hρ (Nat.le_of_ble_eq_true rfl)) rfl h.1 (hF _ (List.mem_of_getElem? (i := 1) rfl)) (jx := x1.toNatClampNeg) rfl ?_
    replace h := h.2
    refine AW_aload_n 0 (n := 0) rfl dX12_table_20 rfl ?_
    refine AW_get dX12_table_21 flX12_9 (Nat.le_of_ble_eq_true rfl) (okn hρ (Nat.le_of_ble_eq_true rfl)) rfl (v := .ref 81) (fvR (okR hρ 51 rfl)) ?_
    refine AW_iload_n 1 (n := 1) rfl dX12_table_24 rfl ?_
    refine AW_iconst (v := 0) dX12_table_25 rfl ?_
    refine AW_iastore dX12_table_26 (Nat.le_of_ble_eq_true rfl) (okn hρ (Nat.le_of_ble_eq_true rfl)) rfl h.1 (hF _ (List.mem_of_getElem? (i := 2) rfl)) (jx := x1.toNatClampNeg) rfl ?_
    replace h := h.2
    refine AW_iinc 1 (v := x1 + 1) dX12_table_27 rfl rfl (Nat.le_of_ble_eq_true rfl) rfl ?_
    refine AW_goto (tgt := 2) dX12_table_30 rfl ?_
    exact AW.sub [1, 0] rfl h
set_option maxRecDepth 20000 in
theorem eX12_table {g : GX} {Q : Int32 → St → Prop} {d : Nat} {ρ : Rs} {S : St} (hρ : Ok ρ) (h : AW g ρ (QI Q) (d + 1) mX12_table 2 [(0, .ref 80), (1, .int 0)] [] ρ S) : CALLi g (d + 1) mX12_table [.ref 80] ρ ρ S Q := by
  refine CALL.of mdX12_table.2.2.2.2 (Nat.le_of_ble_eq_true rfl) (Nat.le_refl _) (Nat.le_refl _) ?_
  show AW g ρ (QI Q) (d + 1) mX12_table 0 [(0, .ref 80)] [] ρ S
  refine AW_iconst (v := 0) dX12_table_0 rfl ?_
  refine AW_istore_n (n := 1) (i := 1) rfl dX12_table_1 (Nat.le_of_ble_eq_true rfl) rfl ?_
  exact AW.sub [1, 0] rfl h
set_option maxRecDepth 20000 in
theorem eX12_fault {g : GX} {Q : Int32 → St → Prop} {d : Nat} {ρ : Rs} {S : St} (hρ : Ok ρ) {x1 : Int32} (h : if x1 = 0 then Q (S.1 80 5) S else if x1 = 1 then Q (S.1 80 6) S else Q (-1) S) : CALLi g d mX12_fault [.ref 80, .int x1] ρ ρ S Q := by
  refine CALL.of mdX12_fault.2.2.2.2 (Nat.le_of_ble_eq_true rfl) (Nat.le_refl _) (Nat.le_refl _) ?_
  show AW g ρ (QI Q) d mX12_fault 0 [(0, .ref 80), (1, .int x1)] [] ρ S
  refine AW_iload_n 1 (n := 1) rfl dX12_fault_0 rfl ?_
  refine AW_if_ne dX12_fault_1 rfl (iteM h (fun h => ?_) (fun h => ?_))
  · refine AW_aload_n 0 (n := 0) rfl dX12_fault_4 rfl ?_
    refine AW_get dX12_fault_5 flX12_91 (Nat.le_of_ble_eq_true rfl) (okn hρ (Nat.le_of_ble_eq_true rfl)) rfl (v := .int (S.1 80 5)) (fun _ => rfl) ?_
    refine AW_goto (tgt := 24) dX12_fault_8 rfl ?_
    exact AW_reti dX12_fault_24 rfl h
  · refine AW_iload_n 1 (n := 1) rfl dX12_fault_11 rfl ?_
    refine AW_iconst (v := 1) dX12_fault_12 rfl ?_
    refine AW_icmp_ne dX12_fault_13 rfl (iteM h (fun h => ?_) (fun h => ?_))
    · refine AW_aload_n 0 (n := 0) rfl dX12_fault_16 rfl ?_
      refine AW_get dX12_fault_17 flX12_22 (Nat.le_of_ble_eq_true rfl) (okn hρ (Nat.le_of_ble_eq_true rfl)) rfl (v := .int (S.1 80 6)) (fun _ => rfl) ?_
      refine AW_goto (tgt := 24) dX12_fault_20 rfl ?_
      exact AW_reti dX12_fault_24 rfl h
    · refine AW_iconst (v := (-1)) dX12_fault_23 rfl ?_
      exact AW_reti dX12_fault_24 rfl h
set_option maxRecDepth 20000 in
theorem eX12_many {g : GX} {Q : Int32 → St → Prop} {d : Nat} {ρ : Rs} {S : St} (hρ : Ok ρ) (h : Q ((S.1 81 0) * (S.1 81 1)) S) : CALLi g d mX12_many [.ref 80] ρ ρ S Q := by
  refine CALL.of mdX12_many.2.2.2.2 (Nat.le_of_ble_eq_true rfl) (Nat.le_refl _) (Nat.le_refl _) ?_
  show AW g ρ (QI Q) d mX12_many 0 [(0, .ref 80)] [] ρ S
  refine AW_aload_n 0 (n := 0) rfl dX12_many_0 rfl ?_
  refine AW_get dX12_many_1 flX12_9 (Nat.le_of_ble_eq_true rfl) (okn hρ (Nat.le_of_ble_eq_true rfl)) rfl (v := .ref 81) (fvR (okR hρ 51 rfl)) ?_
  refine AW_iconst (v := 0) dX12_many_4 rfl ?_
  refine AW_iaload dX12_many_5 (Nat.le_of_ble_eq_true rfl) (okn hρ (Nat.le_of_ble_eq_true rfl)) rfl (show ¬ (_ ∨ _) by decide) (v := S.1 81 0) rfl ?_
  refine AW_aload_n 0 (n := 0) rfl dX12_many_6 rfl ?_
  refine AW_get dX12_many_7 flX12_9 (Nat.le_of_ble_eq_true rfl) (okn hρ (Nat.le_of_ble_eq_true rfl)) rfl (v := .ref 81) (fvR (okR hρ 51 rfl)) ?_
  refine AW_iconst (v := 1) dX12_many_10 rfl ?_
  refine AW_iaload dX12_many_11 (Nat.le_of_ble_eq_true rfl) (okn hρ (Nat.le_of_ble_eq_true rfl)) rfl (show ¬ (_ ∨ _) by decide) (v := S.1 81 1) rfl ?_
  refine AW_imul dX12_many_12 ?_
  exact AW_reti dX12_many_13 rfl h
set_option maxRecDepth 20000 in
theorem eX12_totalNow_4 {g : GX} {Q : Int32 → St → Prop} {d : Nat} {ρ : Rs} {S : St} (hρ : Ok ρ) {x1 : Int32} {x2 : Int32} (h : CALLi g d mX12_many [.ref 80] ρ ρ S (fun v1 S1 => if v1 ≤ x2 then Q x1 S1 else vp_in (5 + x2) 21 ∧ (AW g ρ (QI Q) (d + 1) mX12_totalNow 4 [(0, .ref 80), (1, .int (x1 + (S1.1 81 ((5 + x2).toNatClampNeg)))), (2, .int (x2 + 1))] [] ρ S1))) : AW g ρ (QI Q) (d + 1) mX12_totalNow 4 [(0, .ref 80), (1, .int x1), (2, .int x2)] [] ρ S := by
  refine AW_iload_n 2 (n := 2) rfl dX12_totalNow_4 rfl ?_
  refine AW_aload_n 0 (n := 0) rfl dX12_totalNow_5 rfl ?_
  refine AW_callVi (M := mX12_totalNow) (pc := 6) (As := []) (ρ1 := ρ) (st := [.int x2]) dX12_totalNow_6 mdX12_many rfl mlX12_150 imX12_many seX12_many (rcv_of (q := (RX12, TX12, 40)) (Nat.le_of_ble_eq_true rfl) (okn hρ (Nat.le_of_ble_eq_true rfl)) rfl rfl) ⟨rfl, npX12_many⟩ (Nat.le_of_ble_eq_true rfl) (Nat.le_refl _) (Nat.le_refl _) rfl (CALLi.mono h (fun v1 S1 _ h => ?_))
  refine AW_icmp_ge dX12_totalNow_9 rfl (iteM h (fun h => ?_) (fun h => ?_))
  · refine AW_iload_n 1 (n := 1) rfl dX12_totalNow_29 rfl ?_
    exact AW_reti dX12_totalNow_30 rfl h
  · refine AW_iload_n 1 (n := 1) rfl dX12_totalNow_12 rfl ?_
    refine AW_aload_n 0 (n := 0) rfl dX12_totalNow_13 rfl ?_
    refine AW_get dX12_totalNow_14 flX12_9 (Nat.le_of_ble_eq_true rfl) (okn hρ (Nat.le_of_ble_eq_true rfl)) rfl (v := .ref 81) (fvR (okR hρ 51 rfl)) ?_
    refine AW_iconst (v := 5) dX12_totalNow_17 rfl ?_
    refine AW_iload_n 2 (n := 2) rfl dX12_totalNow_18 rfl ?_
    refine AW_iadd dX12_totalNow_19 ?_
    refine AW_iaload dX12_totalNow_20 (Nat.le_of_ble_eq_true rfl) (okn hρ (Nat.le_of_ble_eq_true rfl)) rfl h.1 (v := S1.1 81 ((5 + x2).toNatClampNeg)) rfl ?_
    replace h := h.2
    refine AW_iadd dX12_totalNow_21 ?_
    refine AW_istore_n (n := 1) (i := 1) rfl dX12_totalNow_22 (Nat.le_of_ble_eq_true rfl) rfl ?_
    refine AW_iinc 2 (v := x2 + 1) dX12_totalNow_23 rfl rfl (Nat.le_of_ble_eq_true rfl) rfl ?_
    refine AW_goto (tgt := 4) dX12_totalNow_26 rfl ?_
    exact AW.sub [2, 1, 0] rfl h
set_option maxRecDepth 20000 in
theorem eX12_totalNow {g : GX} {Q : Int32 → St → Prop} {d : Nat} {ρ : Rs} {S : St} (hρ : Ok ρ) (h : AW g ρ (QI Q) (d + 1) mX12_totalNow 4 [(0, .ref 80), (1, .int 0), (2, .int 0)] [] ρ S) : CALLi g (d + 1) mX12_totalNow [.ref 80] ρ ρ S Q := by
  refine CALL.of mdX12_totalNow.2.2.2.2 (Nat.le_of_ble_eq_true rfl) (Nat.le_refl _) (Nat.le_refl _) ?_
  show AW g ρ (QI Q) (d + 1) mX12_totalNow 0 [(0, .ref 80)] [] ρ S
  refine AW_iconst (v := 0) dX12_totalNow_0 rfl ?_
  refine AW_istore_n (n := 1) (i := 1) rfl dX12_totalNow_1 (Nat.le_of_ble_eq_true rfl) rfl ?_
  refine AW_iconst (v := 0) dX12_totalNow_2 rfl ?_
  refine AW_istore_n (n := 2) (i := 2) rfl dX12_totalNow_3 (Nat.le_of_ble_eq_true rfl) rfl ?_
  exact AW.sub [2, 1, 0] rfl h
set_option maxRecDepth 20000 in
theorem eX12_count {g : GX} {Q : Int32 → St → Prop} {d : Nat} {ρ : Rs} {S : St} (hρ : Ok ρ) {x1 : Int32} (h : if x1 = 0 then Q (S.1 81 0) S else (if x1 = 1 then Q (S.1 81 1) S else (if x1 = 2 then CALLi g d mX12_totalNow [.ref 80] ρ ρ S (fun v1 S1 => Q v1 S1) else (if x1 = 3 then CALLi g d mX12_bitsOf [.int (S.1 81 2)] ρ ρ S (fun v2 S2 => Q v2 S2) else (if x1 = 4 then Q (S.1 81 4) S else (if x1 = 5 then Q (S.1 81 3) S else (if x1 = 6 then Q (S.1 80 4) S else (Q (-1) S)))))))) : CALLi g (d + 1) mX12_count [.ref 80, .int x1] ρ ρ S Q := by
  refine CALL.of mdX12_count.2.2.2.2 (Nat.le_of_ble_eq_true rfl) (Nat.le_refl _) (Nat.le_refl _) ?_
  show AW g ρ (QI Q) (d + 1) mX12_count 0 [(0, .ref 80), (1, .int x1)] [] ρ S
  refine AW_iload_n 1 (n := 1) rfl dX12_count_0 rfl ?_
  by_cases hc : x1 = 0
  · rw [if_pos hc] at h
    refine AW_tswIn (tgt := 44) dX12_count_1 (by rw [hc]; decide) (by rw [hc]; decide) (by rw [hc]; rfl) rfl ?_
    refine AW_aload_n 0 (n := 0) rfl dX12_count_44 rfl ?_
    refine AW_get dX12_count_45 flX12_9 (Nat.le_of_ble_eq_true rfl) (okn hρ (Nat.le_of_ble_eq_true rfl)) rfl (v := .ref 81) (fvR (okR hρ 51 rfl)) ?_
    refine AW_iconst (v := 0) dX12_count_48 rfl ?_
    refine AW_iaload dX12_count_49 (Nat.le_of_ble_eq_true rfl) (okn hρ (Nat.le_of_ble_eq_true rfl)) rfl (show ¬ (_ ∨ _) by decide) (v := S.1 81 0) rfl ?_
    exact AW_reti dX12_count_50 rfl h
  rw [if_neg hc] at h
  have hc0 := hc
  clear hc
  by_cases hc : x1 = 1
  · rw [if_pos hc] at h
    refine AW_tswIn (tgt := 51) dX12_count_1 (by rw [hc]; decide) (by rw [hc]; decide) (by rw [hc]; rfl) rfl ?_
    refine AW_aload_n 0 (n := 0) rfl dX12_count_51 rfl ?_
    refine AW_get dX12_count_52 flX12_9 (Nat.le_of_ble_eq_true rfl) (okn hρ (Nat.le_of_ble_eq_true rfl)) rfl (v := .ref 81) (fvR (okR hρ 51 rfl)) ?_
    refine AW_iconst (v := 1) dX12_count_55 rfl ?_
    refine AW_iaload dX12_count_56 (Nat.le_of_ble_eq_true rfl) (okn hρ (Nat.le_of_ble_eq_true rfl)) rfl (show ¬ (_ ∨ _) by decide) (v := S.1 81 1) rfl ?_
    exact AW_reti dX12_count_57 rfl h
  rw [if_neg hc] at h
  have hc1 := hc
  clear hc
  by_cases hc : x1 = 2
  · rw [if_pos hc] at h
    refine AW_tswIn (tgt := 58) dX12_count_1 (by rw [hc]; decide) (by rw [hc]; decide) (by rw [hc]; rfl) rfl ?_
    refine AW_aload_n 0 (n := 0) rfl dX12_count_58 rfl ?_
    refine AW_callVi (M := mX12_count) (pc := 59) (As := []) (ρ1 := ρ) (st := []) dX12_count_59 mdX12_totalNow rfl mlX12_153 imX12_totalNow seX12_totalNow (rcv_of (q := (RX12, TX12, 40)) (Nat.le_of_ble_eq_true rfl) (okn hρ (Nat.le_of_ble_eq_true rfl)) rfl rfl) ⟨rfl, npX12_totalNow⟩ (Nat.le_of_ble_eq_true rfl) (Nat.le_refl _) (Nat.le_refl _) rfl (CALLi.mono h (fun v1 S1 _ h => ?_))
    exact AW_reti dX12_count_62 rfl h
  rw [if_neg hc] at h
  have hc2 := hc
  clear hc
  by_cases hc : x1 = 3
  · rw [if_pos hc] at h
    refine AW_tswIn (tgt := 63) dX12_count_1 (by rw [hc]; decide) (by rw [hc]; decide) (by rw [hc]; rfl) rfl ?_
    refine AW_aload_n 0 (n := 0) rfl dX12_count_63 rfl ?_
    refine AW_get dX12_count_64 flX12_9 (Nat.le_of_ble_eq_true rfl) (okn hρ (Nat.le_of_ble_eq_true rfl)) rfl (v := .ref 81) (fvR (okR hρ 51 rfl)) ?_
    refine AW_iconst (v := 2) dX12_count_67 rfl ?_
    refine AW_iaload dX12_count_68 (Nat.le_of_ble_eq_true rfl) (okn hρ (Nat.le_of_ble_eq_true rfl)) rfl (show ¬ (_ ∨ _) by decide) (v := S.1 81 2) rfl ?_
    refine AW_callSi (M := mX12_count) (pc := 69) (As := [.int (S.1 81 2)]) (ρ1 := ρ) (st := []) dX12_count_69 mdX12_bitsOf mlX12_156 smX12_bitsOf ⟨rfl, npX12_bitsOf⟩ (Nat.le_of_ble_eq_true rfl) (Nat.le_refl _) (Nat.le_refl _) rfl (CALLi.mono h (fun v2 S2 _ h => ?_))
    exact AW_reti dX12_count_72 rfl h
  rw [if_neg hc] at h
  have hc3 := hc
  clear hc
  by_cases hc : x1 = 4
  · rw [if_pos hc] at h
    refine AW_tswIn (tgt := 73) dX12_count_1 (by rw [hc]; decide) (by rw [hc]; decide) (by rw [hc]; rfl) rfl ?_
    refine AW_aload_n 0 (n := 0) rfl dX12_count_73 rfl ?_
    refine AW_get dX12_count_74 flX12_9 (Nat.le_of_ble_eq_true rfl) (okn hρ (Nat.le_of_ble_eq_true rfl)) rfl (v := .ref 81) (fvR (okR hρ 51 rfl)) ?_
    refine AW_iconst (v := 4) dX12_count_77 rfl ?_
    refine AW_iaload dX12_count_78 (Nat.le_of_ble_eq_true rfl) (okn hρ (Nat.le_of_ble_eq_true rfl)) rfl (show ¬ (_ ∨ _) by decide) (v := S.1 81 4) rfl ?_
    exact AW_reti dX12_count_79 rfl h
  rw [if_neg hc] at h
  have hc4 := hc
  clear hc
  by_cases hc : x1 = 5
  · rw [if_pos hc] at h
    refine AW_tswIn (tgt := 80) dX12_count_1 (by rw [hc]; decide) (by rw [hc]; decide) (by rw [hc]; rfl) rfl ?_
    refine AW_aload_n 0 (n := 0) rfl dX12_count_80 rfl ?_
    refine AW_get dX12_count_81 flX12_9 (Nat.le_of_ble_eq_true rfl) (okn hρ (Nat.le_of_ble_eq_true rfl)) rfl (v := .ref 81) (fvR (okR hρ 51 rfl)) ?_
    refine AW_iconst (v := 3) dX12_count_84 rfl ?_
    refine AW_iaload dX12_count_85 (Nat.le_of_ble_eq_true rfl) (okn hρ (Nat.le_of_ble_eq_true rfl)) rfl (show ¬ (_ ∨ _) by decide) (v := S.1 81 3) rfl ?_
    exact AW_reti dX12_count_86 rfl h
  rw [if_neg hc] at h
  have hc5 := hc
  clear hc
  by_cases hc : x1 = 6
  · rw [if_pos hc] at h
    refine AW_tswIn (tgt := 87) dX12_count_1 (by rw [hc]; decide) (by rw [hc]; decide) (by rw [hc]; rfl) rfl ?_
    refine AW_aload_n 0 (n := 0) rfl dX12_count_87 rfl ?_
    refine AW_get dX12_count_88 flX12_57 (Nat.le_of_ble_eq_true rfl) (okn hρ (Nat.le_of_ble_eq_true rfl)) rfl (v := .int (S.1 80 4)) (fun _ => rfl) ?_
    exact AW_reti dX12_count_91 rfl h
  rw [if_neg hc] at h
  have hc6 := hc
  clear hc
  refine AW_tswOut (tgt := 92) dX12_count_1 (by have q0 := i32n hc0 (k := 0) rfl; have q1 := i32n hc1 (k := 1) rfl; have q2 := i32n hc2 (k := 2) rfl; have q3 := i32n hc3 (k := 3) rfl; have q4 := i32n hc4 (k := 4) rfl; have q5 := i32n hc5 (k := 5) rfl; have q6 := i32n hc6 (k := 6) rfl; omega) rfl ?_
  refine AW_iconst (v := (-1)) dX12_count_92 rfl ?_
  exact AW_reti dX12_count_93 rfl h
set_option maxRecDepth 20000 in
theorem eX12_isCell {g : GX} {Q : Int32 → St → Prop} {d : Nat} {ρ : Rs} {S : St} (hρ : Ok ρ) {x1 : Int32} {x2 : Int32} (h : CALLi g d mX12_in [.long x1.toInt64, .long 0, .long (((S.1 81 0) - 1).toInt64)] ρ ρ S (fun v1 S1 => if v1 = 0 then Q 0 S1 else CALLi g d mX12_in [.long x2.toInt64, .long 0, .long (((S1.1 81 1) - 1).toInt64)] ρ ρ S1 (fun v2 S2 => if v2 = 0 then Q 0 S2 else Q 1 S2))) : CALLi g (d + 1) mX12_isCell [.ref 80, .int x1, .int x2] ρ ρ S Q := by
  refine CALL.of mdX12_isCell.2.2.2.2 (Nat.le_of_ble_eq_true rfl) (Nat.le_refl _) (Nat.le_refl _) ?_
  show AW g ρ (QI Q) (d + 1) mX12_isCell 0 [(0, .ref 80), (1, .int x1), (2, .int x2)] [] ρ S
  refine AW_iload_n 1 (n := 1) rfl dX12_isCell_0 rfl ?_
  refine AW_i2l dX12_isCell_1 ?_
  refine AW_lconst (v := 0) dX12_isCell_2 rfl ?_
  refine AW_aload_n 0 (n := 0) rfl dX12_isCell_3 rfl ?_
  refine AW_get dX12_isCell_4 flX12_9 (Nat.le_of_ble_eq_true rfl) (okn hρ (Nat.le_of_ble_eq_true rfl)) rfl (v := .ref 81) (fvR (okR hρ 51 rfl)) ?_
  refine AW_iconst (v := 0) dX12_isCell_7 rfl ?_
  refine AW_iaload dX12_isCell_8 (Nat.le_of_ble_eq_true rfl) (okn hρ (Nat.le_of_ble_eq_true rfl)) rfl (show ¬ (_ ∨ _) by decide) (v := S.1 81 0) rfl ?_
  refine AW_iconst (v := 1) dX12_isCell_9 rfl ?_
  refine AW_isub dX12_isCell_10 ?_
  refine AW_i2l dX12_isCell_11 ?_
  refine AW_callSi (M := mX12_isCell) (pc := 12) (As := [.long x1.toInt64, .long 0, .long (((S.1 81 0) - 1).toInt64)]) (ρ1 := ρ) (st := []) dX12_isCell_12 mdX12_in mlX12_60 smX12_in ⟨rfl, npX12_in⟩ (Nat.le_of_ble_eq_true rfl) (Nat.le_refl _) (Nat.le_refl _) rfl (CALLi.mono h (fun v1 S1 _ h => ?_))
  refine AW_if_eq dX12_isCell_15 rfl (iteM h (fun h => ?_) (fun h => ?_))
  · refine AW_iconst (v := 0) dX12_isCell_40 rfl ?_
    exact AW_retz dX12_isCell_41 rfl Bz0 h
  · refine AW_iload_n 2 (n := 2) rfl dX12_isCell_18 rfl ?_
    refine AW_i2l dX12_isCell_19 ?_
    refine AW_lconst (v := 0) dX12_isCell_20 rfl ?_
    refine AW_aload_n 0 (n := 0) rfl dX12_isCell_21 rfl ?_
    refine AW_get dX12_isCell_22 flX12_9 (Nat.le_of_ble_eq_true rfl) (okn hρ (Nat.le_of_ble_eq_true rfl)) rfl (v := .ref 81) (fvR (okR hρ 51 rfl)) ?_
    refine AW_iconst (v := 1) dX12_isCell_25 rfl ?_
    refine AW_iaload dX12_isCell_26 (Nat.le_of_ble_eq_true rfl) (okn hρ (Nat.le_of_ble_eq_true rfl)) rfl (show ¬ (_ ∨ _) by decide) (v := S1.1 81 1) rfl ?_
    refine AW_iconst (v := 1) dX12_isCell_27 rfl ?_
    refine AW_isub dX12_isCell_28 ?_
    refine AW_i2l dX12_isCell_29 ?_
    refine AW_callSi (M := mX12_isCell) (pc := 30) (As := [.long x2.toInt64, .long 0, .long (((S1.1 81 1) - 1).toInt64)]) (ρ1 := ρ) (st := []) dX12_isCell_30 mdX12_in mlX12_60 smX12_in ⟨rfl, npX12_in⟩ (Nat.le_of_ble_eq_true rfl) (Nat.le_refl _) (Nat.le_refl _) rfl (CALLi.mono h (fun v2 S2 _ h => ?_))
    refine AW_if_eq dX12_isCell_33 rfl (iteM h (fun h => ?_) (fun h => ?_))
    · refine AW_iconst (v := 0) dX12_isCell_40 rfl ?_
      exact AW_retz dX12_isCell_41 rfl Bz0 h
    · refine AW_iconst (v := 1) dX12_isCell_36 rfl ?_
      refine AW_goto (tgt := 41) dX12_isCell_37 rfl ?_
      exact AW_retz dX12_isCell_41 rfl Bz1 h
set_option maxRecDepth 20000 in
theorem eX12_sumOfRow_4 {g : GX} {Q : Int32 → St → Prop} {d : Nat} {ρ : Rs} {S : St} (hρ : Ok ρ) {x1 : Int32} {x2 : Int32} {x3 : Int32} (h : if (S.1 81 1) ≤ x3 then Q x2 S else CALLi g d mX12_place [.ref 80, .int x1, .int x3] ρ ρ S (fun v1 S1 => vp_in (5 + v1) 21 ∧ (AW g ρ (QI Q) (d + 1) mX12_sumOfRow 4 [(0, .ref 80), (1, .int x1), (2, .int (x2 + (S1.1 81 ((5 + v1).toNatClampNeg)))), (3, .int (x3 + 1))] [] ρ S1))) : AW g ρ (QI Q) (d + 1) mX12_sumOfRow 4 [(0, .ref 80), (1, .int x1), (2, .int x2), (3, .int x3)] [] ρ S := by
  refine AW_iload_n 3 (n := 3) rfl dX12_sumOfRow_4 rfl ?_
  refine AW_aload_n 0 (n := 0) rfl dX12_sumOfRow_5 rfl ?_
  refine AW_get dX12_sumOfRow_6 flX12_9 (Nat.le_of_ble_eq_true rfl) (okn hρ (Nat.le_of_ble_eq_true rfl)) rfl (v := .ref 81) (fvR (okR hρ 51 rfl)) ?_
  refine AW_iconst (v := 1) dX12_sumOfRow_9 rfl ?_
  refine AW_iaload dX12_sumOfRow_10 (Nat.le_of_ble_eq_true rfl) (okn hρ (Nat.le_of_ble_eq_true rfl)) rfl (show ¬ (_ ∨ _) by decide) (v := S.1 81 1) rfl ?_
  refine AW_icmp_ge dX12_sumOfRow_11 rfl (iteM h (fun h => ?_) (fun h => ?_))
  · refine AW_iload_n 2 (n := 2) rfl dX12_sumOfRow_36 rfl ?_
    exact AW_reti dX12_sumOfRow_37 rfl h
  · refine AW_iload_n 2 (n := 2) rfl dX12_sumOfRow_14 rfl ?_
    refine AW_aload_n 0 (n := 0) rfl dX12_sumOfRow_15 rfl ?_
    refine AW_get dX12_sumOfRow_16 flX12_9 (Nat.le_of_ble_eq_true rfl) (okn hρ (Nat.le_of_ble_eq_true rfl)) rfl (v := .ref 81) (fvR (okR hρ 51 rfl)) ?_
    refine AW_iconst (v := 5) dX12_sumOfRow_19 rfl ?_
    refine AW_aload_n 0 (n := 0) rfl dX12_sumOfRow_20 rfl ?_
    refine AW_iload_n 1 (n := 1) rfl dX12_sumOfRow_21 rfl ?_
    refine AW_iload_n 3 (n := 3) rfl dX12_sumOfRow_22 rfl ?_
    refine AW_callVi (M := mX12_sumOfRow) (pc := 23) (As := [.int x1, .int x3]) (ρ1 := ρ) (st := [.int 5, .ref 81, .int x2]) dX12_sumOfRow_23 mdX12_place rfl mlX12_133 imX12_place seX12_place (rcv_of (q := (RX12, TX12, 40)) (Nat.le_of_ble_eq_true rfl) (okn hρ (Nat.le_of_ble_eq_true rfl)) rfl rfl) ⟨rfl, npX12_place⟩ (Nat.le_of_ble_eq_true rfl) (Nat.le_refl _) (Nat.le_refl _) rfl (CALLi.mono h (fun v1 S1 _ h => ?_))
    refine AW_iadd dX12_sumOfRow_26 ?_
    refine AW_iaload dX12_sumOfRow_27 (Nat.le_of_ble_eq_true rfl) (okn hρ (Nat.le_of_ble_eq_true rfl)) rfl h.1 (v := S1.1 81 ((5 + v1).toNatClampNeg)) rfl ?_
    replace h := h.2
    refine AW_iadd dX12_sumOfRow_28 ?_
    refine AW_istore_n (n := 2) (i := 2) rfl dX12_sumOfRow_29 (Nat.le_of_ble_eq_true rfl) rfl ?_
    refine AW_iinc 3 (v := x3 + 1) dX12_sumOfRow_30 rfl rfl (Nat.le_of_ble_eq_true rfl) rfl ?_
    refine AW_goto (tgt := 4) dX12_sumOfRow_33 rfl ?_
    exact AW.sub [2, 3, 1, 0] rfl h
set_option maxRecDepth 20000 in
theorem eX12_sumOfRow {g : GX} {Q : Int32 → St → Prop} {d : Nat} {ρ : Rs} {S : St} (hρ : Ok ρ) {x1 : Int32} (h : AW g ρ (QI Q) (d + 1) mX12_sumOfRow 4 [(0, .ref 80), (1, .int x1), (2, .int 0), (3, .int 0)] [] ρ S) : CALLi g (d + 1) mX12_sumOfRow [.ref 80, .int x1] ρ ρ S Q := by
  refine CALL.of mdX12_sumOfRow.2.2.2.2 (Nat.le_of_ble_eq_true rfl) (Nat.le_refl _) (Nat.le_refl _) ?_
  show AW g ρ (QI Q) (d + 1) mX12_sumOfRow 0 [(0, .ref 80), (1, .int x1)] [] ρ S
  refine AW_iconst (v := 0) dX12_sumOfRow_0 rfl ?_
  refine AW_istore_n (n := 2) (i := 2) rfl dX12_sumOfRow_1 (Nat.le_of_ble_eq_true rfl) rfl ?_
  refine AW_iconst (v := 0) dX12_sumOfRow_2 rfl ?_
  refine AW_istore_n (n := 3) (i := 3) rfl dX12_sumOfRow_3 (Nat.le_of_ble_eq_true rfl) rfl ?_
  exact AW.sub [2, 3, 1, 0] rfl h
set_option maxRecDepth 20000 in
theorem eX12_sumOfColumn_4 {g : GX} {Q : Int32 → St → Prop} {d : Nat} {ρ : Rs} {S : St} (hρ : Ok ρ) {x1 : Int32} {x2 : Int32} {x3 : Int32} (h : if (S.1 81 0) ≤ x3 then Q x2 S else CALLi g d mX12_place [.ref 80, .int x3, .int x1] ρ ρ S (fun v1 S1 => vp_in (5 + v1) 21 ∧ (AW g ρ (QI Q) (d + 1) mX12_sumOfColumn 4 [(0, .ref 80), (1, .int x1), (2, .int (x2 + (S1.1 81 ((5 + v1).toNatClampNeg)))), (3, .int (x3 + 1))] [] ρ S1))) : AW g ρ (QI Q) (d + 1) mX12_sumOfColumn 4 [(0, .ref 80), (1, .int x1), (2, .int x2), (3, .int x3)] [] ρ S := by
  refine AW_iload_n 3 (n := 3) rfl dX12_sumOfColumn_4 rfl ?_
  refine AW_aload_n 0 (n := 0) rfl dX12_sumOfColumn_5 rfl ?_
  refine AW_get dX12_sumOfColumn_6 flX12_9 (Nat.le_of_ble_eq_true rfl) (okn hρ (Nat.le_of_ble_eq_true rfl)) rfl (v := .ref 81) (fvR (okR hρ 51 rfl)) ?_
  refine AW_iconst (v := 0) dX12_sumOfColumn_9 rfl ?_
  refine AW_iaload dX12_sumOfColumn_10 (Nat.le_of_ble_eq_true rfl) (okn hρ (Nat.le_of_ble_eq_true rfl)) rfl (show ¬ (_ ∨ _) by decide) (v := S.1 81 0) rfl ?_
  refine AW_icmp_ge dX12_sumOfColumn_11 rfl (iteM h (fun h => ?_) (fun h => ?_))
  · refine AW_iload_n 2 (n := 2) rfl dX12_sumOfColumn_36 rfl ?_
    exact AW_reti dX12_sumOfColumn_37 rfl h
  · refine AW_iload_n 2 (n := 2) rfl dX12_sumOfColumn_14 rfl ?_
    refine AW_aload_n 0 (n := 0) rfl dX12_sumOfColumn_15 rfl ?_
    refine AW_get dX12_sumOfColumn_16 flX12_9 (Nat.le_of_ble_eq_true rfl) (okn hρ (Nat.le_of_ble_eq_true rfl)) rfl (v := .ref 81) (fvR (okR hρ 51 rfl)) ?_
    refine AW_iconst (v := 5) dX12_sumOfColumn_19 rfl ?_
    refine AW_aload_n 0 (n := 0) rfl dX12_sumOfColumn_20 rfl ?_
    refine AW_iload_n 3 (n := 3) rfl dX12_sumOfColumn_21 rfl ?_
    refine AW_iload_n 1 (n := 1) rfl dX12_sumOfColumn_22 rfl ?_
    refine AW_callVi (M := mX12_sumOfColumn) (pc := 23) (As := [.int x3, .int x1]) (ρ1 := ρ) (st := [.int 5, .ref 81, .int x2]) dX12_sumOfColumn_23 mdX12_place rfl mlX12_133 imX12_place seX12_place (rcv_of (q := (RX12, TX12, 40)) (Nat.le_of_ble_eq_true rfl) (okn hρ (Nat.le_of_ble_eq_true rfl)) rfl rfl) ⟨rfl, npX12_place⟩ (Nat.le_of_ble_eq_true rfl) (Nat.le_refl _) (Nat.le_refl _) rfl (CALLi.mono h (fun v1 S1 _ h => ?_))
    refine AW_iadd dX12_sumOfColumn_26 ?_
    refine AW_iaload dX12_sumOfColumn_27 (Nat.le_of_ble_eq_true rfl) (okn hρ (Nat.le_of_ble_eq_true rfl)) rfl h.1 (v := S1.1 81 ((5 + v1).toNatClampNeg)) rfl ?_
    replace h := h.2
    refine AW_iadd dX12_sumOfColumn_28 ?_
    refine AW_istore_n (n := 2) (i := 2) rfl dX12_sumOfColumn_29 (Nat.le_of_ble_eq_true rfl) rfl ?_
    refine AW_iinc 3 (v := x3 + 1) dX12_sumOfColumn_30 rfl rfl (Nat.le_of_ble_eq_true rfl) rfl ?_
    refine AW_goto (tgt := 4) dX12_sumOfColumn_33 rfl ?_
    exact AW.sub [2, 3, 1, 0] rfl h
set_option maxRecDepth 20000 in
theorem eX12_sumOfColumn {g : GX} {Q : Int32 → St → Prop} {d : Nat} {ρ : Rs} {S : St} (hρ : Ok ρ) {x1 : Int32} (h : AW g ρ (QI Q) (d + 1) mX12_sumOfColumn 4 [(0, .ref 80), (1, .int x1), (2, .int 0), (3, .int 0)] [] ρ S) : CALLi g (d + 1) mX12_sumOfColumn [.ref 80, .int x1] ρ ρ S Q := by
  refine CALL.of mdX12_sumOfColumn.2.2.2.2 (Nat.le_of_ble_eq_true rfl) (Nat.le_refl _) (Nat.le_refl _) ?_
  show AW g ρ (QI Q) (d + 1) mX12_sumOfColumn 0 [(0, .ref 80), (1, .int x1)] [] ρ S
  refine AW_iconst (v := 0) dX12_sumOfColumn_0 rfl ?_
  refine AW_istore_n (n := 2) (i := 2) rfl dX12_sumOfColumn_1 (Nat.le_of_ble_eq_true rfl) rfl ?_
  refine AW_iconst (v := 0) dX12_sumOfColumn_2 rfl ?_
  refine AW_istore_n (n := 3) (i := 3) rfl dX12_sumOfColumn_3 (Nat.le_of_ble_eq_true rfl) rfl ?_
  exact AW.sub [2, 3, 1, 0] rfl h
set_option maxRecDepth 20000 in
theorem eX12_cell {g : GX} {Q : Int32 → St → Prop} {d : Nat} {ρ : Rs} {S : St} (hρ : Ok ρ) {x1 : Int32} {x2 : Int32} (h : CALLi g d mX12_isCell [.ref 80, .int x1, .int x2] ρ ρ S (fun v1 S1 => if v1 = 0 then Q (-2) S1 else CALLi g d mX12_place [.ref 80, .int x1, .int x2] ρ ρ S1 (fun v2 S2 => vp_in (5 + v2) 21 ∧ (Q (S2.1 81 ((5 + v2).toNatClampNeg)) S2)))) : CALLi g (d + 1) mX12_cell [.ref 80, .int x1, .int x2] ρ ρ S Q := by
  refine CALL.of mdX12_cell.2.2.2.2 (Nat.le_of_ble_eq_true rfl) (Nat.le_refl _) (Nat.le_refl _) ?_
  show AW g ρ (QI Q) (d + 1) mX12_cell 0 [(0, .ref 80), (1, .int x1), (2, .int x2)] [] ρ S
  refine AW_aload_n 0 (n := 0) rfl dX12_cell_0 rfl ?_
  refine AW_iload_n 1 (n := 1) rfl dX12_cell_1 rfl ?_
  refine AW_iload_n 2 (n := 2) rfl dX12_cell_2 rfl ?_
  refine AW_callVi (M := mX12_cell) (pc := 3) (As := [.int x1, .int x2]) (ρ1 := ρ) (st := []) dX12_cell_3 mdX12_isCell rfl mlX12_160 imX12_isCell seX12_isCell (rcv_of (q := (RX12, TX12, 40)) (Nat.le_of_ble_eq_true rfl) (okn hρ (Nat.le_of_ble_eq_true rfl)) rfl rfl) ⟨rfl, npX12_isCell⟩ (Nat.le_of_ble_eq_true rfl) (Nat.le_refl _) (Nat.le_refl _) rfl (CALLi.mono h (fun v1 S1 _ h => ?_))
  refine AW_if_eq dX12_cell_6 rfl (iteM h (fun h => ?_) (fun h => ?_))
  · refine AW_bipush (v := (-2)) dX12_cell_25 rfl ?_
    exact AW_reti dX12_cell_27 rfl h
  · refine AW_aload_n 0 (n := 0) rfl dX12_cell_9 rfl ?_
    refine AW_get dX12_cell_10 flX12_9 (Nat.le_of_ble_eq_true rfl) (okn hρ (Nat.le_of_ble_eq_true rfl)) rfl (v := .ref 81) (fvR (okR hρ 51 rfl)) ?_
    refine AW_iconst (v := 5) dX12_cell_13 rfl ?_
    refine AW_aload_n 0 (n := 0) rfl dX12_cell_14 rfl ?_
    refine AW_iload_n 1 (n := 1) rfl dX12_cell_15 rfl ?_
    refine AW_iload_n 2 (n := 2) rfl dX12_cell_16 rfl ?_
    refine AW_callVi (M := mX12_cell) (pc := 17) (As := [.int x1, .int x2]) (ρ1 := ρ) (st := [.int 5, .ref 81]) dX12_cell_17 mdX12_place rfl mlX12_133 imX12_place seX12_place (rcv_of (q := (RX12, TX12, 40)) (Nat.le_of_ble_eq_true rfl) (okn hρ (Nat.le_of_ble_eq_true rfl)) rfl rfl) ⟨rfl, npX12_place⟩ (Nat.le_of_ble_eq_true rfl) (Nat.le_refl _) (Nat.le_refl _) rfl (CALLi.mono h (fun v2 S2 _ h => ?_))
    refine AW_iadd dX12_cell_20 ?_
    refine AW_iaload dX12_cell_21 (Nat.le_of_ble_eq_true rfl) (okn hρ (Nat.le_of_ble_eq_true rfl)) rfl h.1 (v := S2.1 81 ((5 + v2).toNatClampNeg)) rfl ?_
    replace h := h.2
    refine AW_goto (tgt := 27) dX12_cell_22 rfl ?_
    exact AW_reti dX12_cell_27 rfl h
set_option maxRecDepth 20000 in
theorem eX12_hole {g : GX} {Q : Int32 → St → Prop} {d : Nat} {ρ : Rs} {S : St} (hρ : Ok ρ) {x1 : Int32} {x2 : Int32} (h : CALLi g d mX12_isCell [.ref 80, .int x1, .int x2] ρ ρ S (fun v1 S1 => if v1 = 0 then Q (-2) S1 else CALLi g d mX12_place [.ref 80, .int x1, .int x2] ρ ρ S1 (fun v2 S2 => CALLi g d mX12_has [.int (S1.1 81 2), .int v2] ρ ρ S2 (fun v3 S3 => if v3 = 0 then Q 0 S3 else Q 1 S3)))) : CALLi g (d + 1) mX12_hole [.ref 80, .int x1, .int x2] ρ ρ S Q := by
  refine CALL.of mdX12_hole.2.2.2.2 (Nat.le_of_ble_eq_true rfl) (Nat.le_refl _) (Nat.le_refl _) ?_
  show AW g ρ (QI Q) (d + 1) mX12_hole 0 [(0, .ref 80), (1, .int x1), (2, .int x2)] [] ρ S
  refine AW_aload_n 0 (n := 0) rfl dX12_hole_0 rfl ?_
  refine AW_iload_n 1 (n := 1) rfl dX12_hole_1 rfl ?_
  refine AW_iload_n 2 (n := 2) rfl dX12_hole_2 rfl ?_
  refine AW_callVi (M := mX12_hole) (pc := 3) (As := [.int x1, .int x2]) (ρ1 := ρ) (st := []) dX12_hole_3 mdX12_isCell rfl mlX12_160 imX12_isCell seX12_isCell (rcv_of (q := (RX12, TX12, 40)) (Nat.le_of_ble_eq_true rfl) (okn hρ (Nat.le_of_ble_eq_true rfl)) rfl rfl) ⟨rfl, npX12_isCell⟩ (Nat.le_of_ble_eq_true rfl) (Nat.le_refl _) (Nat.le_refl _) rfl (CALLi.mono h (fun v1 S1 _ h => ?_))
  refine AW_if_ne dX12_hole_6 rfl (iteM h (fun h => ?_) (fun h => ?_))
  · refine AW_bipush (v := (-2)) dX12_hole_9 rfl ?_
    exact AW_reti dX12_hole_11 rfl h
  · refine AW_aload_n 0 (n := 0) rfl dX12_hole_12 rfl ?_
    refine AW_get dX12_hole_13 flX12_9 (Nat.le_of_ble_eq_true rfl) (okn hρ (Nat.le_of_ble_eq_true rfl)) rfl (v := .ref 81) (fvR (okR hρ 51 rfl)) ?_
    refine AW_iconst (v := 2) dX12_hole_16 rfl ?_
    refine AW_iaload dX12_hole_17 (Nat.le_of_ble_eq_true rfl) (okn hρ (Nat.le_of_ble_eq_true rfl)) rfl (show ¬ (_ ∨ _) by decide) (v := S1.1 81 2) rfl ?_
    refine AW_aload_n 0 (n := 0) rfl dX12_hole_18 rfl ?_
    refine AW_iload_n 1 (n := 1) rfl dX12_hole_19 rfl ?_
    refine AW_iload_n 2 (n := 2) rfl dX12_hole_20 rfl ?_
    refine AW_callVi (M := mX12_hole) (pc := 21) (As := [.int x1, .int x2]) (ρ1 := ρ) (st := [.int (S1.1 81 2)]) dX12_hole_21 mdX12_place rfl mlX12_133 imX12_place seX12_place (rcv_of (q := (RX12, TX12, 40)) (Nat.le_of_ble_eq_true rfl) (okn hρ (Nat.le_of_ble_eq_true rfl)) rfl rfl) ⟨rfl, npX12_place⟩ (Nat.le_of_ble_eq_true rfl) (Nat.le_refl _) (Nat.le_refl _) rfl (CALLi.mono h (fun v2 S2 _ h => ?_))
    refine AW_callSi (M := mX12_hole) (pc := 24) (As := [.int (S1.1 81 2), .int v2]) (ρ1 := ρ) (st := []) dX12_hole_24 mdX12_has mlX12_138 smX12_has ⟨rfl, npX12_has⟩ (Nat.le_of_ble_eq_true rfl) (Nat.le_refl _) (Nat.le_refl _) rfl (CALLi.mono h (fun v3 S3 _ h => ?_))
    refine AW_if_eq dX12_hole_27 rfl (iteM h (fun h => ?_) (fun h => ?_))
    · refine AW_iconst (v := 0) dX12_hole_34 rfl ?_
      exact AW_reti dX12_hole_35 rfl h
    · refine AW_iconst (v := 1) dX12_hole_30 rfl ?_
      refine AW_goto (tgt := 35) dX12_hole_31 rfl ?_
      exact AW_reti dX12_hole_35 rfl h
set_option maxRecDepth 20000 in
theorem eX12_row {g : GX} {Q : Int32 → St → Prop} {d : Nat} {ρ : Rs} {S : St} (hρ : Ok ρ) {x1 : Int32} (h : CALLi g d mX12_in [.long x1.toInt64, .long 0, .long (((S.1 81 0) - 1).toInt64)] ρ ρ S (fun v1 S1 => if v1 = 0 then Q (-2) S1 else CALLi g d mX12_sumOfRow [.ref 80, .int x1] ρ ρ S1 (fun v2 S2 => Q v2 S2))) : CALLi g (d + 1) mX12_row [.ref 80, .int x1] ρ ρ S Q := by
  refine CALL.of mdX12_row.2.2.2.2 (Nat.le_of_ble_eq_true rfl) (Nat.le_refl _) (Nat.le_refl _) ?_
  show AW g ρ (QI Q) (d + 1) mX12_row 0 [(0, .ref 80), (1, .int x1)] [] ρ S
  refine AW_iload_n 1 (n := 1) rfl dX12_row_0 rfl ?_
  refine AW_i2l dX12_row_1 ?_
  refine AW_lconst (v := 0) dX12_row_2 rfl ?_
  refine AW_aload_n 0 (n := 0) rfl dX12_row_3 rfl ?_
  refine AW_get dX12_row_4 flX12_9 (Nat.le_of_ble_eq_true rfl) (okn hρ (Nat.le_of_ble_eq_true rfl)) rfl (v := .ref 81) (fvR (okR hρ 51 rfl)) ?_
  refine AW_iconst (v := 0) dX12_row_7 rfl ?_
  refine AW_iaload dX12_row_8 (Nat.le_of_ble_eq_true rfl) (okn hρ (Nat.le_of_ble_eq_true rfl)) rfl (show ¬ (_ ∨ _) by decide) (v := S.1 81 0) rfl ?_
  refine AW_iconst (v := 1) dX12_row_9 rfl ?_
  refine AW_isub dX12_row_10 ?_
  refine AW_i2l dX12_row_11 ?_
  refine AW_callSi (M := mX12_row) (pc := 12) (As := [.long x1.toInt64, .long 0, .long (((S.1 81 0) - 1).toInt64)]) (ρ1 := ρ) (st := []) dX12_row_12 mdX12_in mlX12_60 smX12_in ⟨rfl, npX12_in⟩ (Nat.le_of_ble_eq_true rfl) (Nat.le_refl _) (Nat.le_refl _) rfl (CALLi.mono h (fun v1 S1 _ h => ?_))
  refine AW_if_eq dX12_row_15 rfl (iteM h (fun h => ?_) (fun h => ?_))
  · refine AW_bipush (v := (-2)) dX12_row_26 rfl ?_
    exact AW_reti dX12_row_28 rfl h
  · refine AW_aload_n 0 (n := 0) rfl dX12_row_18 rfl ?_
    refine AW_iload_n 1 (n := 1) rfl dX12_row_19 rfl ?_
    refine AW_callVi (M := mX12_row) (pc := 20) (As := [.int x1]) (ρ1 := ρ) (st := []) dX12_row_20 mdX12_sumOfRow rfl mlX12_163 imX12_sumOfRow seX12_sumOfRow (rcv_of (q := (RX12, TX12, 40)) (Nat.le_of_ble_eq_true rfl) (okn hρ (Nat.le_of_ble_eq_true rfl)) rfl rfl) ⟨rfl, npX12_sumOfRow⟩ (Nat.le_of_ble_eq_true rfl) (Nat.le_refl _) (Nat.le_refl _) rfl (CALLi.mono h (fun v2 S2 _ h => ?_))
    refine AW_goto (tgt := 28) dX12_row_23 rfl ?_
    exact AW_reti dX12_row_28 rfl h
set_option maxRecDepth 20000 in
theorem eX12_column {g : GX} {Q : Int32 → St → Prop} {d : Nat} {ρ : Rs} {S : St} (hρ : Ok ρ) {x1 : Int32} (h : CALLi g d mX12_in [.long x1.toInt64, .long 0, .long (((S.1 81 1) - 1).toInt64)] ρ ρ S (fun v1 S1 => if v1 = 0 then Q (-2) S1 else CALLi g d mX12_sumOfColumn [.ref 80, .int x1] ρ ρ S1 (fun v2 S2 => Q v2 S2))) : CALLi g (d + 1) mX12_column [.ref 80, .int x1] ρ ρ S Q := by
  refine CALL.of mdX12_column.2.2.2.2 (Nat.le_of_ble_eq_true rfl) (Nat.le_refl _) (Nat.le_refl _) ?_
  show AW g ρ (QI Q) (d + 1) mX12_column 0 [(0, .ref 80), (1, .int x1)] [] ρ S
  refine AW_iload_n 1 (n := 1) rfl dX12_column_0 rfl ?_
  refine AW_i2l dX12_column_1 ?_
  refine AW_lconst (v := 0) dX12_column_2 rfl ?_
  refine AW_aload_n 0 (n := 0) rfl dX12_column_3 rfl ?_
  refine AW_get dX12_column_4 flX12_9 (Nat.le_of_ble_eq_true rfl) (okn hρ (Nat.le_of_ble_eq_true rfl)) rfl (v := .ref 81) (fvR (okR hρ 51 rfl)) ?_
  refine AW_iconst (v := 1) dX12_column_7 rfl ?_
  refine AW_iaload dX12_column_8 (Nat.le_of_ble_eq_true rfl) (okn hρ (Nat.le_of_ble_eq_true rfl)) rfl (show ¬ (_ ∨ _) by decide) (v := S.1 81 1) rfl ?_
  refine AW_iconst (v := 1) dX12_column_9 rfl ?_
  refine AW_isub dX12_column_10 ?_
  refine AW_i2l dX12_column_11 ?_
  refine AW_callSi (M := mX12_column) (pc := 12) (As := [.long x1.toInt64, .long 0, .long (((S.1 81 1) - 1).toInt64)]) (ρ1 := ρ) (st := []) dX12_column_12 mdX12_in mlX12_60 smX12_in ⟨rfl, npX12_in⟩ (Nat.le_of_ble_eq_true rfl) (Nat.le_refl _) (Nat.le_refl _) rfl (CALLi.mono h (fun v1 S1 _ h => ?_))
  refine AW_if_eq dX12_column_15 rfl (iteM h (fun h => ?_) (fun h => ?_))
  · refine AW_bipush (v := (-2)) dX12_column_26 rfl ?_
    exact AW_reti dX12_column_28 rfl h
  · refine AW_aload_n 0 (n := 0) rfl dX12_column_18 rfl ?_
    refine AW_iload_n 1 (n := 1) rfl dX12_column_19 rfl ?_
    refine AW_callVi (M := mX12_column) (pc := 20) (As := [.int x1]) (ρ1 := ρ) (st := []) dX12_column_20 mdX12_sumOfColumn rfl mlX12_166 imX12_sumOfColumn seX12_sumOfColumn (rcv_of (q := (RX12, TX12, 40)) (Nat.le_of_ble_eq_true rfl) (okn hρ (Nat.le_of_ble_eq_true rfl)) rfl rfl) ⟨rfl, npX12_sumOfColumn⟩ (Nat.le_of_ble_eq_true rfl) (Nat.le_refl _) (Nat.le_refl _) rfl (CALLi.mono h (fun v2 S2 _ h => ?_))
    refine AW_goto (tgt := 28) dX12_column_23 rfl ?_
    exact AW_reti dX12_column_28 rfl h
set_option maxRecDepth 20000 in
theorem eX12_goesAll_53 {g : GX} {Q : St → Prop} {d : Nat} {ρ : Rs} {S : St} (hρ : Ok ρ) {x2 : Int32} (hF : ∀ k ∈ ([87] : List Nat), gF g k) (h : if (S.1 81 1) ≤ x2 then CALLv g d mX12_goes [.ref 80, .int 0] ρ ρ S (fun S1 => Q S1) else CALLi g d mX12_sumOfColumn [.ref 80, .int x2] ρ ρ S (fun v2 S2 => vp_in x2 4 ∧ (AW g ρ (QV Q) (d + 1) mX12_goesAll 53 [(0, .ref 80), (2, .int (x2 + 1))] [] ρ (setI S2 87 x2.toNatClampNeg v2)))) : AW g ρ (QV Q) (d + 1) mX12_goesAll 53 [(0, .ref 80), (2, .int x2)] [] ρ S := by
  refine AW_iload_n 1 (n := 2) rfl dX12_goesAll_53 rfl ?_
  refine AW_aload_n 0 (n := 0) rfl dX12_goesAll_54 rfl ?_
  refine AW_get dX12_goesAll_55 flX12_9 (Nat.le_of_ble_eq_true rfl) (okn hρ (Nat.le_of_ble_eq_true rfl)) rfl (v := .ref 81) (fvR (okR hρ 51 rfl)) ?_
  refine AW_iconst (v := 1) dX12_goesAll_58 rfl ?_
  refine AW_iaload dX12_goesAll_59 (Nat.le_of_ble_eq_true rfl) (okn hρ (Nat.le_of_ble_eq_true rfl)) rfl (show ¬ (_ ∨ _) by decide) (v := S.1 81 1) rfl ?_
  refine AW_icmp_ge dX12_goesAll_60 rfl (iteM h (fun h => ?_) (fun h => ?_))
  · refine AW_aload_n 0 (n := 0) rfl dX12_goesAll_80 rfl ?_
    refine AW_iconst (v := 0) dX12_goesAll_81 rfl ?_
    refine AW_callVv (M := mX12_goesAll) (pc := 82) (As := [.int 0]) (ρ1 := ρ) (st := []) dX12_goesAll_82 mdX12_goes rfl mlX12_184 imX12_goes seX12_goes (rcv_of (q := (RX12, TX12, 40)) (Nat.le_of_ble_eq_true rfl) (okn hρ (Nat.le_of_ble_eq_true rfl)) rfl rfl) ⟨rfl, npX12_goes⟩ (Nat.le_of_ble_eq_true rfl) (Nat.le_refl _) (Nat.le_refl _) rfl (CALLv.mono h (fun S1 _ h => ?_))
    exact AW_retv dX12_goesAll_85 rfl h
  · refine AW_aload_n 0 (n := 0) rfl dX12_goesAll_63 rfl ?_
    refine AW_get dX12_goesAll_64 flX12_32 (Nat.le_of_ble_eq_true rfl) (okn hρ (Nat.le_of_ble_eq_true rfl)) rfl (v := .ref 87) (fvR (okR hρ 57 rfl)) ?_
    refine AW_iload_n 1 (n := 2) rfl dX12_goesAll_67 rfl ?_
    refine AW_aload_n 0 (n := 0) rfl dX12_goesAll_68 rfl ?_
    refine AW_iload_n 1 (n := 2) rfl dX12_goesAll_69 rfl ?_
    refine AW_callVi (M := mX12_goesAll) (pc := 70) (As := [.int x2]) (ρ1 := ρ) (st := [.int x2, .ref 87]) dX12_goesAll_70 mdX12_sumOfColumn rfl mlX12_166 imX12_sumOfColumn seX12_sumOfColumn (rcv_of (q := (RX12, TX12, 40)) (Nat.le_of_ble_eq_true rfl) (okn hρ (Nat.le_of_ble_eq_true rfl)) rfl rfl) ⟨rfl, npX12_sumOfColumn⟩ (Nat.le_of_ble_eq_true rfl) (Nat.le_refl _) (Nat.le_refl _) rfl (CALLi.mono h (fun v2 S2 _ h => ?_))
    refine AW_iastore dX12_goesAll_73 (Nat.le_of_ble_eq_true rfl) (okn hρ (Nat.le_of_ble_eq_true rfl)) rfl h.1 (hF _ (List.mem_of_getElem? (i := 0) rfl)) (jx := x2.toNatClampNeg) rfl ?_
    replace h := h.2
    refine AW_iinc 1 (v := x2 + 1) dX12_goesAll_74 rfl rfl (Nat.le_of_ble_eq_true rfl) rfl ?_
    refine AW_goto (tgt := 53) dX12_goesAll_77 rfl ?_
    exact AW.sub [1, 0] rfl h
set_option maxRecDepth 20000 in
theorem eX12_goesAll_24 {g : GX} {Q : St → Prop} {d : Nat} {ρ : Rs} {S : St} (hρ : Ok ρ) {x2 : Int32} (hF : ∀ k ∈ ([86] : List Nat), gF g k) (h : if (S.1 81 0) ≤ x2 then AW g ρ (QV Q) (d + 1) mX12_goesAll 53 [(0, .ref 80), (2, .int 0)] [] ρ S else CALLi g d mX12_sumOfRow [.ref 80, .int x2] ρ ρ S (fun v1 S1 => vp_in x2 4 ∧ (AW g ρ (QV Q) (d + 1) mX12_goesAll 24 [(0, .ref 80), (2, .int (x2 + 1))] [] ρ (setI S1 86 x2.toNatClampNeg v1)))) : AW g ρ (QV Q) (d + 1) mX12_goesAll 24 [(0, .ref 80), (2, .int x2)] [] ρ S := by
  refine AW_iload_n 1 (n := 2) rfl dX12_goesAll_24 rfl ?_
  refine AW_aload_n 0 (n := 0) rfl dX12_goesAll_25 rfl ?_
  refine AW_get dX12_goesAll_26 flX12_9 (Nat.le_of_ble_eq_true rfl) (okn hρ (Nat.le_of_ble_eq_true rfl)) rfl (v := .ref 81) (fvR (okR hρ 51 rfl)) ?_
  refine AW_iconst (v := 0) dX12_goesAll_29 rfl ?_
  refine AW_iaload dX12_goesAll_30 (Nat.le_of_ble_eq_true rfl) (okn hρ (Nat.le_of_ble_eq_true rfl)) rfl (show ¬ (_ ∨ _) by decide) (v := S.1 81 0) rfl ?_
  refine AW_icmp_ge dX12_goesAll_31 rfl (iteM h (fun h => ?_) (fun h => ?_))
  · refine AW_iconst (v := 0) dX12_goesAll_51 rfl ?_
    refine AW_istore_n (n := 2) (i := 2) rfl dX12_goesAll_52 (Nat.le_of_ble_eq_true rfl) rfl ?_
    exact AW.sub [1, 0] rfl h
  · refine AW_aload_n 0 (n := 0) rfl dX12_goesAll_34 rfl ?_
    refine AW_get dX12_goesAll_35 flX12_29 (Nat.le_of_ble_eq_true rfl) (okn hρ (Nat.le_of_ble_eq_true rfl)) rfl (v := .ref 86) (fvR (okR hρ 56 rfl)) ?_
    refine AW_iload_n 1 (n := 2) rfl dX12_goesAll_38 rfl ?_
    refine AW_aload_n 0 (n := 0) rfl dX12_goesAll_39 rfl ?_
    refine AW_iload_n 1 (n := 2) rfl dX12_goesAll_40 rfl ?_
    refine AW_callVi (M := mX12_goesAll) (pc := 41) (As := [.int x2]) (ρ1 := ρ) (st := [.int x2, .ref 86]) dX12_goesAll_41 mdX12_sumOfRow rfl mlX12_163 imX12_sumOfRow seX12_sumOfRow (rcv_of (q := (RX12, TX12, 40)) (Nat.le_of_ble_eq_true rfl) (okn hρ (Nat.le_of_ble_eq_true rfl)) rfl rfl) ⟨rfl, npX12_sumOfRow⟩ (Nat.le_of_ble_eq_true rfl) (Nat.le_refl _) (Nat.le_refl _) rfl (CALLi.mono h (fun v1 S1 _ h => ?_))
    refine AW_iastore dX12_goesAll_44 (Nat.le_of_ble_eq_true rfl) (okn hρ (Nat.le_of_ble_eq_true rfl)) rfl h.1 (hF _ (List.mem_of_getElem? (i := 0) rfl)) (jx := x2.toNatClampNeg) rfl ?_
    replace h := h.2
    refine AW_iinc 1 (v := x2 + 1) dX12_goesAll_45 rfl rfl (Nat.le_of_ble_eq_true rfl) rfl ?_
    refine AW_goto (tgt := 24) dX12_goesAll_48 rfl ?_
    exact AW.sub [1, 0] rfl h
set_option maxRecDepth 20000 in
theorem eX12_goesAll {g : GX} {Q : St → Prop} {d : Nat} {ρ : Rs} {S : St} (hρ : Ok ρ) {x1 : Int32} (hF : ∀ k ∈ ([80] : List Nat), gF g k) (h : AW g ρ (QV Q) (d + 1) mX12_goesAll 24 [(0, .ref 80), (2, .int 0)] [] ρ (setL (setL (setI (setI S 80 13 x1) 80 14 0) 80 15 0) 80 17 (-1))) : CALLv g (d + 1) mX12_goesAll [.ref 80, .int x1] ρ ρ S Q := by
  refine CALL.of mdX12_goesAll.2.2.2.2 (Nat.le_of_ble_eq_true rfl) (Nat.le_refl _) (Nat.le_refl _) ?_
  show AW g ρ (QV Q) (d + 1) mX12_goesAll 0 [(0, .ref 80), (1, .int x1)] [] ρ S
  refine AW_aload_n 0 (n := 0) rfl dX12_goesAll_0 rfl ?_
  refine AW_iload_n 1 (n := 1) rfl dX12_goesAll_1 rfl ?_
  refine AW_put dX12_goesAll_2 flX12_169 fp_10_13 (Nat.le_of_ble_eq_true rfl) (okn hρ (Nat.le_of_ble_eq_true rfl)) rfl (fun _ => rfl) (fun _ => rfl) rfl rfl rfl rfl (Fr.setI _ _ _ rfl) (fun _ _ => rfl) (ρ2 := ρ) (S2 := setI S 80 13 x1) (fun _ => rfl) (fun _ _ _ q1 _ => fvI_o q1) (hF _ (List.mem_of_getElem? (i := 0) rfl)) ?_
  refine AW_aload_n 0 (n := 0) rfl dX12_goesAll_5 rfl ?_
  refine AW_iconst (v := 0) dX12_goesAll_6 rfl ?_
  refine AW_put dX12_goesAll_7 flX12_172 fp_10_14 (Nat.le_of_ble_eq_true rfl) (okn hρ (Nat.le_of_ble_eq_true rfl)) rfl (fun _ => Bz.nar Bz0) (fun _ => Bz.fits Bz0) rfl rfl rfl rfl (Fr.setI _ _ _ rfl) (fun _ _ => rfl) (ρ2 := ρ) (S2 := setI (setI S 80 13 x1) 80 14 0) (fun _ => rfl) (fun _ _ _ q1 _ => fvI_o q1) (hF _ (List.mem_of_getElem? (i := 0) rfl)) ?_
  refine AW_aload_n 0 (n := 0) rfl dX12_goesAll_10 rfl ?_
  refine AW_lconst (v := 0) dX12_goesAll_11 rfl ?_
  refine AW_put dX12_goesAll_12 flX12_175 fp_10_15 (Nat.le_of_ble_eq_true rfl) (okn hρ (Nat.le_of_ble_eq_true rfl)) rfl (fun _ => rfl) (fun _ => rfl) rfl rfl rfl rfl (Fr.setL _ _ _ rfl) (fun _ _ => rfl) (ρ2 := ρ) (S2 := setL (setI (setI S 80 13 x1) 80 14 0) 80 15 0) (fun _ => rfl) (fun _ _ _ q1 _ => fvL_o q1) (hF _ (List.mem_of_getElem? (i := 0) rfl)) ?_
  refine AW_aload_n 0 (n := 0) rfl dX12_goesAll_15 rfl ?_
  refine AW_ldc2 (v := (-1)) dX12_goesAll_16 kcX12_179 ?_
  refine AW_put dX12_goesAll_19 flX12_181 fp_10_17 (Nat.le_of_ble_eq_true rfl) (okn hρ (Nat.le_of_ble_eq_true rfl)) rfl (fun _ => rfl) (fun _ => rfl) rfl rfl rfl rfl (Fr.setL _ _ _ rfl) (fun _ _ => rfl) (ρ2 := ρ) (S2 := setL (setL (setI (setI S 80 13 x1) 80 14 0) 80 15 0) 80 17 (-1)) (fun _ => rfl) (fun _ _ _ q1 _ => fvL_o q1) (hF _ (List.mem_of_getElem? (i := 0) rfl)) ?_
  refine AW_iconst (v := 0) dX12_goesAll_22 rfl ?_
  refine AW_istore_n (n := 2) (i := 2) rfl dX12_goesAll_23 (Nat.le_of_ble_eq_true rfl) rfl ?_
  exact AW.sub [1, 0] rfl h
set_option maxRecDepth 20000 in
theorem eX12_hasPlace_8 {g : GX} {Q : Int32 → St → Prop} {d : Nat} {ρ : Rs} {S : St} (hρ : Ok ρ) {x1 : Int32} {x3 : Int32} {x4 : Int32} {x5 : Int32} (h : if (S.1 81 1) ≤ x5 then if x4 < x3 then Q 0 S else Q 1 S else CALLi g d mX12_place [.ref 80, .int x1, .int x5] ρ ρ S (fun v1 S1 => CALLi g d mX12_has [.int (S.1 81 2), .int v1] ρ ρ S1 (fun v2 S2 => if v2 = 0 then vp_in x5 4 ∧ (AW g ρ (QI Q) (d + 1) mX12_hasPlace 8 [(0, .ref 80), (1, .int x1), (3, .int x3), (4, .int (x4 + (S2.1 87 x5.toNatClampNeg))), (5, .int (x5 + 1))] [] ρ S2) else AW g ρ (QI Q) (d + 1) mX12_hasPlace 8 [(0, .ref 80), (1, .int x1), (3, .int x3), (4, .int (x4 + 0)), (5, .int (x5 + 1))] [] ρ S2))) : AW g ρ (QI Q) (d + 1) mX12_hasPlace 8 [(0, .ref 80), (1, .int x1), (3, .int x3), (4, .int x4), (5, .int x5)] [] ρ S := by
  refine AW_iload 4 dX12_hasPlace_8 rfl ?_
  refine AW_aload_n 0 (n := 0) rfl dX12_hasPlace_10 rfl ?_
  refine AW_get dX12_hasPlace_11 flX12_9 (Nat.le_of_ble_eq_true rfl) (okn hρ (Nat.le_of_ble_eq_true rfl)) rfl (v := .ref 81) (fvR (okR hρ 51 rfl)) ?_
  refine AW_iconst (v := 1) dX12_hasPlace_14 rfl ?_
  refine AW_iaload dX12_hasPlace_15 (Nat.le_of_ble_eq_true rfl) (okn hρ (Nat.le_of_ble_eq_true rfl)) rfl (show ¬ (_ ∨ _) by decide) (v := S.1 81 1) rfl ?_
  refine AW_icmp_ge dX12_hasPlace_16 rfl (iteM h (fun h => ?_) (fun h => ?_))
  · refine AW_iload 3 dX12_hasPlace_60 rfl ?_
    refine AW_iload_n 2 (n := 3) rfl dX12_hasPlace_62 rfl ?_
    refine AW_icmp_lt dX12_hasPlace_63 rfl (iteM h (fun h => ?_) (fun h => ?_))
    · refine AW_iconst (v := 0) dX12_hasPlace_70 rfl ?_
      exact AW_retz dX12_hasPlace_71 rfl Bz0 h
    · refine AW_iconst (v := 1) dX12_hasPlace_66 rfl ?_
      refine AW_goto (tgt := 71) dX12_hasPlace_67 rfl ?_
      exact AW_retz dX12_hasPlace_71 rfl Bz1 h
  · refine AW_iload 3 dX12_hasPlace_19 rfl ?_
    refine AW_aload_n 0 (n := 0) rfl dX12_hasPlace_21 rfl ?_
    refine AW_get dX12_hasPlace_22 flX12_9 (Nat.le_of_ble_eq_true rfl) (okn hρ (Nat.le_of_ble_eq_true rfl)) rfl (v := .ref 81) (fvR (okR hρ 51 rfl)) ?_
    refine AW_iconst (v := 2) dX12_hasPlace_25 rfl ?_
    refine AW_iaload dX12_hasPlace_26 (Nat.le_of_ble_eq_true rfl) (okn hρ (Nat.le_of_ble_eq_true rfl)) rfl (show ¬ (_ ∨ _) by decide) (v := S.1 81 2) rfl ?_
    refine AW_aload_n 0 (n := 0) rfl dX12_hasPlace_27 rfl ?_
    refine AW_iload_n 1 (n := 1) rfl dX12_hasPlace_28 rfl ?_
    refine AW_iload 4 dX12_hasPlace_29 rfl ?_
    refine AW_callVi (M := mX12_hasPlace) (pc := 31) (As := [.int x1, .int x5]) (ρ1 := ρ) (st := [.int (S.1 81 2), .int x4]) dX12_hasPlace_31 mdX12_place rfl mlX12_133 imX12_place seX12_place (rcv_of (q := (RX12, TX12, 40)) (Nat.le_of_ble_eq_true rfl) (okn hρ (Nat.le_of_ble_eq_true rfl)) rfl rfl) ⟨rfl, npX12_place⟩ (Nat.le_of_ble_eq_true rfl) (Nat.le_refl _) (Nat.le_refl _) rfl (CALLi.mono h (fun v1 S1 _ h => ?_))
    refine AW_callSi (M := mX12_hasPlace) (pc := 34) (As := [.int (S.1 81 2), .int v1]) (ρ1 := ρ) (st := [.int x4]) dX12_hasPlace_34 mdX12_has mlX12_138 smX12_has ⟨rfl, npX12_has⟩ (Nat.le_of_ble_eq_true rfl) (Nat.le_refl _) (Nat.le_refl _) rfl (CALLi.mono h (fun v2 S2 _ h => ?_))
    refine AW_if_eq dX12_hasPlace_37 rfl (iteM h (fun h => ?_) (fun h => ?_))
    · refine AW_aload_n 0 (n := 0) rfl dX12_hasPlace_44 rfl ?_
      refine AW_get dX12_hasPlace_45 flX12_32 (Nat.le_of_ble_eq_true rfl) (okn hρ (Nat.le_of_ble_eq_true rfl)) rfl (v := .ref 87) (fvR (okR hρ 57 rfl)) ?_
      refine AW_iload 4 dX12_hasPlace_48 rfl ?_
      refine AW_iaload dX12_hasPlace_50 (Nat.le_of_ble_eq_true rfl) (okn hρ (Nat.le_of_ble_eq_true rfl)) rfl h.1 (v := S2.1 87 x5.toNatClampNeg) rfl ?_
      replace h := h.2
      refine AW_iadd dX12_hasPlace_51 ?_
      refine AW_istore dX12_hasPlace_52 (Nat.le_of_ble_eq_true rfl) rfl ?_
      refine AW_iinc 4 (v := x5 + 1) dX12_hasPlace_54 rfl rfl (Nat.le_of_ble_eq_true rfl) rfl ?_
      refine AW_goto (tgt := 8) dX12_hasPlace_57 rfl ?_
      exact AW.sub [2, 3, 4, 1, 0] rfl h
    · refine AW_iconst (v := 0) dX12_hasPlace_40 rfl ?_
      refine AW_goto (tgt := 51) dX12_hasPlace_41 rfl ?_
      refine AW_iadd dX12_hasPlace_51 ?_
      refine AW_istore dX12_hasPlace_52 (Nat.le_of_ble_eq_true rfl) rfl ?_
      refine AW_iinc 4 (v := x5 + 1) dX12_hasPlace_54 rfl rfl (Nat.le_of_ble_eq_true rfl) rfl ?_
      refine AW_goto (tgt := 8) dX12_hasPlace_57 rfl ?_
      exact AW.sub [2, 3, 4, 1, 0] rfl h
set_option maxRecDepth 20000 in
theorem eX12_hasPlace {g : GX} {Q : Int32 → St → Prop} {d : Nat} {ρ : Rs} {S : St} (hρ : Ok ρ) {x1 : Int32} {x2 : Int32} {x3 : Int32} (h : AW g ρ (QI Q) (d + 1) mX12_hasPlace 8 [(0, .ref 80), (1, .int x1), (3, .int x3), (4, .int 0), (5, .int (x2 + 1))] [] ρ S) : CALLi g (d + 1) mX12_hasPlace [.ref 80, .int x1, .int x2, .int x3] ρ ρ S Q := by
  refine CALL.of mdX12_hasPlace.2.2.2.2 (Nat.le_of_ble_eq_true rfl) (Nat.le_refl _) (Nat.le_refl _) ?_
  show AW g ρ (QI Q) (d + 1) mX12_hasPlace 0 [(0, .ref 80), (1, .int x1), (2, .int x2), (3, .int x3)] [] ρ S
  refine AW_iconst (v := 0) dX12_hasPlace_0 rfl ?_
  refine AW_istore dX12_hasPlace_1 (Nat.le_of_ble_eq_true rfl) rfl ?_
  refine AW_iload_n 3 (n := 2) rfl dX12_hasPlace_3 rfl ?_
  refine AW_iconst (v := 1) dX12_hasPlace_4 rfl ?_
  refine AW_iadd dX12_hasPlace_5 ?_
  refine AW_istore dX12_hasPlace_6 (Nat.le_of_ble_eq_true rfl) rfl ?_
  exact AW.sub [2, 3, 5, 1, 0] rfl h
set_option maxRecDepth 20000 in
theorem eX12_goes_166 {g : GX} {Q : St → Prop} {d : Nat} {ρ : Rs} {S : St} (hρ : Ok ρ) {x1 : Int32} {x2 : Int32} {x3 : Int32} {x4 : Int32} {x6 : Int32} {s0 : Int32} (hF : ∀ k ∈ ([85, 86, 87] : List Nat), gF g k) (h : if s0 = 0 then vp_in x2 4 ∧ (CALLi g d mX12_hasPlace [.ref 80, .int x2, .int x3, .int ((S.1 86 x2.toNatClampNeg) - x6)] ρ ρ S (fun v1 S1 => if v1 = 0 then AW g ρ (QV Q) (d + 1) mX12_goes 124 [(0, .ref 80), (1, .int x1), (2, .int x2), (3, .int x3), (4, .int x4), (6, .int (x6 + 1))] [] ρ S1 else vp_in x1 16 ∧ (vp_in x2 4 ∧ (vp_in x2 4 ∧ (vp_in x3 4 ∧ (vp_in x3 4 ∧ (CALLv g d mX12_goes [.ref 80, .int (x1 + 1)] ρ ρ (setI (setI (setI S1 85 x1.toNatClampNeg x6) 86 x2.toNatClampNeg ((S1.1 86 x2.toNatClampNeg) - x6)) 87 x3.toNatClampNeg ((S1.1 87 x3.toNatClampNeg) - x6)) (fun S2 => vp_in x2 4 ∧ (vp_in x2 4 ∧ (vp_in x3 4 ∧ (vp_in x3 4 ∧ (AW g ρ (QV Q) (d + 1) mX12_goes 124 [(0, .ref 80), (1, .int x1), (2, .int x2), (3, .int x3), (4, .int x4), (6, .int (x6 + 1))] [] ρ (setI (setI S2 86 x2.toNatClampNeg ((S2.1 86 x2.toNatClampNeg) + x6)) 87 x3.toNatClampNeg ((S2.1 87 x3.toNatClampNeg) + x6)))))))))))))) else AW g ρ (QV Q) (d + 1) mX12_goes 124 [(0, .ref 80), (1, .int x1), (2, .int x2), (3, .int x3), (4, .int x4), (6, .int (x6 + 1))] [] ρ S) : AW g ρ (QV Q) (d + 1) mX12_goes 166 [(0, .ref 80), (1, .int x1), (2, .int x2), (3, .int x3), (4, .int x4), (6, .int x6)] [.int s0] ρ S := by
  refine AW_istore dX12_goes_166 (Nat.le_of_ble_eq_true rfl) rfl ?_
  refine AW_iload 0 dX12_goes_168 rfl ?_
  refine AW_if_ne dX12_goes_170 rfl (iteM h (fun h => ?_) (fun h => ?_))
  · refine AW_aload_n 1 (n := 0) rfl dX12_goes_173 rfl ?_
    refine AW_iload_n 3 (n := 2) rfl dX12_goes_174 rfl ?_
    refine AW_iload_n 4 (n := 3) rfl dX12_goes_175 rfl ?_
    refine AW_aload_n 1 (n := 0) rfl dX12_goes_176 rfl ?_
    refine AW_get dX12_goes_177 flX12_29 (Nat.le_of_ble_eq_true rfl) (okn hρ (Nat.le_of_ble_eq_true rfl)) rfl (v := .ref 86) (fvR (okR hρ 56 rfl)) ?_
    refine AW_iload_n 3 (n := 2) rfl dX12_goes_180 rfl ?_
    refine AW_iaload dX12_goes_181 (Nat.le_of_ble_eq_true rfl) (okn hρ (Nat.le_of_ble_eq_true rfl)) rfl h.1 (v := S.1 86 x2.toNatClampNeg) rfl ?_
    replace h := h.2
    refine AW_iload 6 dX12_goes_182 rfl ?_
    refine AW_isub dX12_goes_184 ?_
    refine AW_callVi (M := mX12_goes) (pc := 185) (As := [.int x2, .int x3, .int ((S.1 86 x2.toNatClampNeg) - x6)]) (ρ1 := ρ) (st := []) dX12_goes_185 mdX12_hasPlace rfl mlX12_190 imX12_hasPlace seX12_hasPlace (rcv_of (q := (RX12, TX12, 40)) (Nat.le_of_ble_eq_true rfl) (okn hρ (Nat.le_of_ble_eq_true rfl)) rfl rfl) ⟨rfl, npX12_hasPlace⟩ (Nat.le_of_ble_eq_true rfl) (Nat.le_refl _) (Nat.le_refl _) rfl (CALLi.mono h (fun v1 S1 _ h => ?_))
    refine AW_if_eq dX12_goes_188 rfl (iteM h (fun h => ?_) (fun h => ?_))
    · refine AW_iinc 6 (v := x6 + 1) dX12_goes_250 rfl rfl (Nat.le_of_ble_eq_true rfl) rfl ?_
      refine AW_goto (tgt := 124) dX12_goes_253 rfl ?_
      exact AW.sub [2, 3, 4, 5, 6, 0] rfl h
    · refine AW_aload_n 1 (n := 0) rfl dX12_goes_191 rfl ?_
      refine AW_get dX12_goes_192 flX12_26 (Nat.le_of_ble_eq_true rfl) (okn hρ (Nat.le_of_ble_eq_true rfl)) rfl (v := .ref 85) (fvR (okR hρ 55 rfl)) ?_
      refine AW_iload_n 2 (n := 1) rfl dX12_goes_195 rfl ?_
      refine AW_iload 6 dX12_goes_196 rfl ?_
      refine AW_iastore dX12_goes_198 (Nat.le_of_ble_eq_true rfl) (okn hρ (Nat.le_of_ble_eq_true rfl)) rfl h.1 (hF _ (List.mem_of_getElem? (i := 0) rfl)) (jx := x1.toNatClampNeg) rfl ?_
      replace h := h.2
      refine AW_aload_n 1 (n := 0) rfl dX12_goes_199 rfl ?_
      refine AW_get dX12_goes_200 flX12_29 (Nat.le_of_ble_eq_true rfl) (okn hρ (Nat.le_of_ble_eq_true rfl)) rfl (v := .ref 86) (fvR (okR hρ 56 rfl)) ?_
      refine AW_iload_n 3 (n := 2) rfl dX12_goes_203 rfl ?_
      refine AW_dup2_11 dX12_goes_204 rfl rfl ?_
      refine AW_iaload dX12_goes_205 (Nat.le_of_ble_eq_true rfl) (okn hρ (Nat.le_of_ble_eq_true rfl)) rfl h.1 (v := S1.1 86 x2.toNatClampNeg) rfl ?_
      replace h := h.2
      refine AW_iload 6 dX12_goes_206 rfl ?_
      refine AW_isub dX12_goes_208 ?_
      refine AW_iastore dX12_goes_209 (Nat.le_of_ble_eq_true rfl) (okn hρ (Nat.le_of_ble_eq_true rfl)) rfl h.1 (hF _ (List.mem_of_getElem? (i := 1) rfl)) (jx := x2.toNatClampNeg) rfl ?_
      replace h := h.2
      refine AW_aload_n 1 (n := 0) rfl dX12_goes_210 rfl ?_
      refine AW_get dX12_goes_211 flX12_32 (Nat.le_of_ble_eq_true rfl) (okn hρ (Nat.le_of_ble_eq_true rfl)) rfl (v := .ref 87) (fvR (okR hρ 57 rfl)) ?_
      refine AW_iload_n 4 (n := 3) rfl dX12_goes_214 rfl ?_
      refine AW_dup2_11 dX12_goes_215 rfl rfl ?_
      refine AW_iaload dX12_goes_216 (Nat.le_of_ble_eq_true rfl) (okn hρ (Nat.le_of_ble_eq_true rfl)) rfl h.1 (v := S1.1 87 x3.toNatClampNeg) rfl ?_
      replace h := h.2
      refine AW_iload 6 dX12_goes_217 rfl ?_
      refine AW_isub dX12_goes_219 ?_
      refine AW_iastore dX12_goes_220 (Nat.le_of_ble_eq_true rfl) (okn hρ (Nat.le_of_ble_eq_true rfl)) rfl h.1 (hF _ (List.mem_of_getElem? (i := 2) rfl)) (jx := x3.toNatClampNeg) rfl ?_
      replace h := h.2
      refine AW_aload_n 1 (n := 0) rfl dX12_goes_221 rfl ?_
      refine AW_iload_n 2 (n := 1) rfl dX12_goes_222 rfl ?_
      refine AW_iconst (v := 1) dX12_goes_223 rfl ?_
      refine AW_iadd dX12_goes_224 ?_
      refine AW_callVv (M := mX12_goes) (pc := 225) (As := [.int (x1 + 1)]) (ρ1 := ρ) (st := []) dX12_goes_225 mdX12_goes rfl mlX12_184 imX12_goes seX12_goes (rcv_of (q := (RX12, TX12, 40)) (Nat.le_of_ble_eq_true rfl) (okn hρ (Nat.le_of_ble_eq_true rfl)) rfl rfl) ⟨rfl, npX12_goes⟩ (Nat.le_of_ble_eq_true rfl) (Nat.le_refl _) (Nat.le_refl _) rfl (CALLv.mono h (fun S2 _ h => ?_))
      refine AW_aload_n 1 (n := 0) rfl dX12_goes_228 rfl ?_
      refine AW_get dX12_goes_229 flX12_29 (Nat.le_of_ble_eq_true rfl) (okn hρ (Nat.le_of_ble_eq_true rfl)) rfl (v := .ref 86) (fvR (okR hρ 56 rfl)) ?_
      refine AW_iload_n 3 (n := 2) rfl dX12_goes_232 rfl ?_
      refine AW_dup2_11 dX12_goes_233 rfl rfl ?_
      refine AW_iaload dX12_goes_234 (Nat.le_of_ble_eq_true rfl) (okn hρ (Nat.le_of_ble_eq_true rfl)) rfl h.1 (v := S2.1 86 x2.toNatClampNeg) rfl ?_
      replace h := h.2
      refine AW_iload 6 dX12_goes_235 rfl ?_
      refine AW_iadd dX12_goes_237 ?_
      refine AW_iastore dX12_goes_238 (Nat.le_of_ble_eq_true rfl) (okn hρ (Nat.le_of_ble_eq_true rfl)) rfl h.1 (hF _ (List.mem_of_getElem? (i := 1) rfl)) (jx := x2.toNatClampNeg) rfl ?_
      replace h := h.2
      refine AW_aload_n 1 (n := 0) rfl dX12_goes_239 rfl ?_
      refine AW_get dX12_goes_240 flX12_32 (Nat.le_of_ble_eq_true rfl) (okn hρ (Nat.le_of_ble_eq_true rfl)) rfl (v := .ref 87) (fvR (okR hρ 57 rfl)) ?_
      refine AW_iload_n 4 (n := 3) rfl dX12_goes_243 rfl ?_
      refine AW_dup2_11 dX12_goes_244 rfl rfl ?_
      refine AW_iaload dX12_goes_245 (Nat.le_of_ble_eq_true rfl) (okn hρ (Nat.le_of_ble_eq_true rfl)) rfl h.1 (v := S2.1 87 x3.toNatClampNeg) rfl ?_
      replace h := h.2
      refine AW_iload 6 dX12_goes_246 rfl ?_
      refine AW_iadd dX12_goes_248 ?_
      refine AW_iastore dX12_goes_249 (Nat.le_of_ble_eq_true rfl) (okn hρ (Nat.le_of_ble_eq_true rfl)) rfl h.1 (hF _ (List.mem_of_getElem? (i := 2) rfl)) (jx := x3.toNatClampNeg) rfl ?_
      replace h := h.2
      refine AW_iinc 6 (v := x6 + 1) dX12_goes_250 rfl rfl (Nat.le_of_ble_eq_true rfl) rfl ?_
      refine AW_goto (tgt := 124) dX12_goes_253 rfl ?_
      exact AW.sub [2, 3, 4, 5, 6, 0] rfl h
  · refine AW_iinc 6 (v := x6 + 1) dX12_goes_250 rfl rfl (Nat.le_of_ble_eq_true rfl) rfl ?_
    refine AW_goto (tgt := 124) dX12_goes_253 rfl ?_
    exact AW.sub [2, 3, 4, 5, 6, 0] rfl h
set_option maxRecDepth 20000 in
theorem eX12_goes_124 {g : GX} {Q : St → Prop} {d : Nat} {ρ : Rs} {S : St} (hρ : Ok ρ) {x1 : Int32} {x2 : Int32} {x3 : Int32} {x4 : Int32} {x6 : Int32} (h : if x4 < x6 then Q S else if (S.1 80 14) = 0 then if x2 = ((S.1 81 0) - 1) then vp_in x3 4 ∧ (if x6 = (S.1 87 x3.toNatClampNeg) then AW g ρ (QV Q) (d + 1) mX12_goes 166 [(0, .ref 80), (1, .int x1), (2, .int x2), (3, .int x3), (4, .int x4), (6, .int x6)] [.int 0] ρ S else AW g ρ (QV Q) (d + 1) mX12_goes 166 [(0, .ref 80), (1, .int x1), (2, .int x2), (3, .int x3), (4, .int x4), (6, .int x6)] [.int 1] ρ S) else AW g ρ (QV Q) (d + 1) mX12_goes 166 [(0, .ref 80), (1, .int x1), (2, .int x2), (3, .int x3), (4, .int x4), (6, .int x6)] [.int 0] ρ S else Q S) : AW g ρ (QV Q) (d + 1) mX12_goes 124 [(0, .ref 80), (1, .int x1), (2, .int x2), (3, .int x3), (4, .int x4), (6, .int x6)] [] ρ S := by
  refine AW_iload 5 dX12_goes_124 rfl ?_
  refine AW_iload 4 dX12_goes_126 rfl ?_
  refine AW_icmp_gt dX12_goes_128 rfl (iteM h (fun h => ?_) (fun h => ?_))
  · exact AW_retv dX12_goes_256 rfl h
  · refine AW_aload_n 0 (n := 0) rfl dX12_goes_131 rfl ?_
    refine AW_get dX12_goes_132 flX12_172 (Nat.le_of_ble_eq_true rfl) (okn hρ (Nat.le_of_ble_eq_true rfl)) rfl (v := .int (S.1 80 14)) (fun _ => rfl) ?_
    refine AW_if_ne dX12_goes_135 rfl (iteM h (fun h => ?_) (fun h => ?_))
    · refine AW_iload_n 2 (n := 2) rfl dX12_goes_138 rfl ?_
      refine AW_aload_n 0 (n := 0) rfl dX12_goes_139 rfl ?_
      refine AW_get dX12_goes_140 flX12_9 (Nat.le_of_ble_eq_true rfl) (okn hρ (Nat.le_of_ble_eq_true rfl)) rfl (v := .ref 81) (fvR (okR hρ 51 rfl)) ?_
      refine AW_iconst (v := 0) dX12_goes_143 rfl ?_
      refine AW_iaload dX12_goes_144 (Nat.le_of_ble_eq_true rfl) (okn hρ (Nat.le_of_ble_eq_true rfl)) rfl (show ¬ (_ ∨ _) by decide) (v := S.1 81 0) rfl ?_
      refine AW_iconst (v := 1) dX12_goes_145 rfl ?_
      refine AW_isub dX12_goes_146 ?_
      refine AW_icmp_ne dX12_goes_147 rfl (iteM h (fun h => ?_) (fun h => ?_))
      · refine AW_iload 5 dX12_goes_150 rfl ?_
        refine AW_aload_n 0 (n := 0) rfl dX12_goes_152 rfl ?_
        refine AW_get dX12_goes_153 flX12_32 (Nat.le_of_ble_eq_true rfl) (okn hρ (Nat.le_of_ble_eq_true rfl)) rfl (v := .ref 87) (fvR (okR hρ 57 rfl)) ?_
        refine AW_iload_n 3 (n := 3) rfl dX12_goes_156 rfl ?_
        refine AW_iaload dX12_goes_157 (Nat.le_of_ble_eq_true rfl) (okn hρ (Nat.le_of_ble_eq_true rfl)) rfl h.1 (v := S.1 87 x3.toNatClampNeg) rfl ?_
        replace h := h.2
        refine AW_icmp_eq dX12_goes_158 rfl (iteM h (fun h => ?_) (fun h => ?_))
        · refine AW_iconst (v := 0) dX12_goes_165 rfl ?_
          exact AW.sub [0, 1, 2, 3, 4, 5] rfl h
        · refine AW_iconst (v := 1) dX12_goes_161 rfl ?_
          refine AW_goto (tgt := 166) dX12_goes_162 rfl ?_
          exact AW.sub [0, 1, 2, 3, 4, 5] rfl h
      · refine AW_iconst (v := 0) dX12_goes_165 rfl ?_
        exact AW.sub [0, 1, 2, 3, 4, 5] rfl h
    · exact AW_retv dX12_goes_256 rfl h
set_option maxRecDepth 20000 in
theorem eX12_goes_73 {g : GX} {Q : St → Prop} {d : Nat} {ρ : Rs} {S : St} (hρ : Ok ρ) {x1 : Int32} {x2 : Int32} {x3 : Int32} {s0 : Int32} (h : if x3 = ((S.1 81 1) - 1) then vp_in x2 4 ∧ (AW g ρ (QV Q) (d + 1) mX12_goes 124 [(0, .ref 80), (1, .int x1), (2, .int x2), (3, .int x3), (4, .int s0), (6, .int (S.1 86 x2.toNatClampNeg))] [] ρ S) else if x2 = ((S.1 81 0) - 1) then vp_in x3 4 ∧ (AW g ρ (QV Q) (d + 1) mX12_goes 124 [(0, .ref 80), (1, .int x1), (2, .int x2), (3, .int x3), (4, .int s0), (6, .int (S.1 87 x3.toNatClampNeg))] [] ρ S) else AW g ρ (QV Q) (d + 1) mX12_goes 124 [(0, .ref 80), (1, .int x1), (2, .int x2), (3, .int x3), (4, .int s0), (6, .int 0)] [] ρ S) : AW g ρ (QV Q) (d + 1) mX12_goes 73 [(0, .ref 80), (1, .int x1), (2, .int x2), (3, .int x3)] [.int s0] ρ S := by
  refine AW_istore dX12_goes_73 (Nat.le_of_ble_eq_true rfl) rfl ?_
  refine AW_iload_n 4 (n := 3) rfl dX12_goes_75 rfl ?_
  refine AW_aload_n 1 (n := 0) rfl dX12_goes_76 rfl ?_
  refine AW_get dX12_goes_77 flX12_9 (Nat.le_of_ble_eq_true rfl) (okn hρ (Nat.le_of_ble_eq_true rfl)) rfl (v := .ref 81) (fvR (okR hρ 51 rfl)) ?_
  refine AW_iconst (v := 1) dX12_goes_80 rfl ?_
  refine AW_iaload dX12_goes_81 (Nat.le_of_ble_eq_true rfl) (okn hρ (Nat.le_of_ble_eq_true rfl)) rfl (show ¬ (_ ∨ _) by decide) (v := S.1 81 1) rfl ?_
  refine AW_iconst (v := 1) dX12_goes_82 rfl ?_
  refine AW_isub dX12_goes_83 ?_
  refine AW_icmp_ne dX12_goes_84 rfl (iteM h (fun h => ?_) (fun h => ?_))
  · refine AW_aload_n 1 (n := 0) rfl dX12_goes_87 rfl ?_
    refine AW_get dX12_goes_88 flX12_29 (Nat.le_of_ble_eq_true rfl) (okn hρ (Nat.le_of_ble_eq_true rfl)) rfl (v := .ref 86) (fvR (okR hρ 56 rfl)) ?_
    refine AW_iload_n 3 (n := 2) rfl dX12_goes_91 rfl ?_
    refine AW_iaload dX12_goes_92 (Nat.le_of_ble_eq_true rfl) (okn hρ (Nat.le_of_ble_eq_true rfl)) rfl h.1 (v := S.1 86 x2.toNatClampNeg) rfl ?_
    replace h := h.2
    refine AW_goto (tgt := 118) dX12_goes_93 rfl ?_
    refine AW_istore dX12_goes_118 (Nat.le_of_ble_eq_true rfl) rfl ?_
    refine AW_iload 0 dX12_goes_120 rfl ?_
    refine AW_istore dX12_goes_122 (Nat.le_of_ble_eq_true rfl) rfl ?_
    exact AW.sub [3, 4, 5, 6, 2, 0] rfl h
  · refine AW_iload_n 3 (n := 2) rfl dX12_goes_96 rfl ?_
    refine AW_aload_n 1 (n := 0) rfl dX12_goes_97 rfl ?_
    refine AW_get dX12_goes_98 flX12_9 (Nat.le_of_ble_eq_true rfl) (okn hρ (Nat.le_of_ble_eq_true rfl)) rfl (v := .ref 81) (fvR (okR hρ 51 rfl)) ?_
    refine AW_iconst (v := 0) dX12_goes_101 rfl ?_
    refine AW_iaload dX12_goes_102 (Nat.le_of_ble_eq_true rfl) (okn hρ (Nat.le_of_ble_eq_true rfl)) rfl (show ¬ (_ ∨ _) by decide) (v := S.1 81 0) rfl ?_
    refine AW_iconst (v := 1) dX12_goes_103 rfl ?_
    refine AW_isub dX12_goes_104 ?_
    refine AW_icmp_ne dX12_goes_105 rfl (iteM h (fun h => ?_) (fun h => ?_))
    · refine AW_aload_n 1 (n := 0) rfl dX12_goes_108 rfl ?_
      refine AW_get dX12_goes_109 flX12_32 (Nat.le_of_ble_eq_true rfl) (okn hρ (Nat.le_of_ble_eq_true rfl)) rfl (v := .ref 87) (fvR (okR hρ 57 rfl)) ?_
      refine AW_iload_n 4 (n := 3) rfl dX12_goes_112 rfl ?_
      refine AW_iaload dX12_goes_113 (Nat.le_of_ble_eq_true rfl) (okn hρ (Nat.le_of_ble_eq_true rfl)) rfl h.1 (v := S.1 87 x3.toNatClampNeg) rfl ?_
      replace h := h.2
      refine AW_goto (tgt := 118) dX12_goes_114 rfl ?_
      refine AW_istore dX12_goes_118 (Nat.le_of_ble_eq_true rfl) rfl ?_
      refine AW_iload 0 dX12_goes_120 rfl ?_
      refine AW_istore dX12_goes_122 (Nat.le_of_ble_eq_true rfl) rfl ?_
      exact AW.sub [3, 4, 5, 6, 2, 0] rfl h
    · refine AW_iconst (v := 0) dX12_goes_117 rfl ?_
      refine AW_istore dX12_goes_118 (Nat.le_of_ble_eq_true rfl) rfl ?_
      refine AW_iload 0 dX12_goes_120 rfl ?_
      refine AW_istore dX12_goes_122 (Nat.le_of_ble_eq_true rfl) rfl ?_
      exact AW.sub [3, 4, 5, 6, 2, 0] rfl h
set_option maxRecDepth 20000 in
theorem eX12_goes {g : GX} {Q : St → Prop} {d : Nat} {ρ : Rs} {S : St} (hρ : Ok ρ) {x1 : Int32} (hF : ∀ k ∈ ([80] : List Nat), gF g k) (h : CALLi g d mX12_many [.ref 80] ρ ρ S (fun v1 S1 => if x1 = v1 then CALLv g d mX12_visits [.ref 80] ρ ρ S1 (fun S2 => Q (setL S2 80 15 ((S2.2 80 15) + 1))) else ¬ (S1.1 81 1) = (0 : Int32) ∧ (¬ (S1.1 81 1) = (0 : Int32) ∧ (CALLi g d mX12_has [.int (S1.1 81 2), .int x1] ρ ρ S1 (fun v3 S3 => if v3 = 0 then vp_in (x1 / (S1.1 81 1)) 4 ∧ (vp_in (x1 - x1 / (S1.1 81 1) * (S1.1 81 1)) 4 ∧ (AW g ρ (QV Q) (d + 1) mX12_goes 73 [(0, .ref 80), (1, .int x1), (2, .int (x1 / (S1.1 81 1))), (3, .int (x1 - x1 / (S1.1 81 1) * (S1.1 81 1)))] [.int (if (S3.1 87 ((x1 - x1 / (S1.1 81 1) * (S1.1 81 1)).toNatClampNeg)) < (S3.1 86 ((x1 / (S1.1 81 1)).toNatClampNeg)) then (S3.1 87 ((x1 - x1 / (S1.1 81 1) * (S1.1 81 1)).toNatClampNeg)) else (S3.1 86 ((x1 / (S1.1 81 1)).toNatClampNeg)))] ρ S3)) else AW g ρ (QV Q) (d + 1) mX12_goes 73 [(0, .ref 80), (1, .int x1), (2, .int (x1 / (S1.1 81 1))), (3, .int (x1 - x1 / (S1.1 81 1) * (S1.1 81 1)))] [.int 0] ρ S3))))) : CALLv g (d + 1) mX12_goes [.ref 80, .int x1] ρ ρ S Q := by
  refine CALL.of mdX12_goes.2.2.2.2 (Nat.le_of_ble_eq_true rfl) (Nat.le_refl _) (Nat.le_refl _) ?_
  show AW g ρ (QV Q) (d + 1) mX12_goes 0 [(0, .ref 80), (1, .int x1)] [] ρ S
  refine AW_iload_n 1 (n := 1) rfl dX12_goes_0 rfl ?_
  refine AW_aload_n 0 (n := 0) rfl dX12_goes_1 rfl ?_
  refine AW_callVi (M := mX12_goes) (pc := 2) (As := []) (ρ1 := ρ) (st := [.int x1]) dX12_goes_2 mdX12_many rfl mlX12_150 imX12_many seX12_many (rcv_of (q := (RX12, TX12, 40)) (Nat.le_of_ble_eq_true rfl) (okn hρ (Nat.le_of_ble_eq_true rfl)) rfl rfl) ⟨rfl, npX12_many⟩ (Nat.le_of_ble_eq_true rfl) (Nat.le_refl _) (Nat.le_refl _) rfl (CALLi.mono h (fun v1 S1 _ h => ?_))
  refine AW_icmp_ne dX12_goes_5 rfl (iteM h (fun h => ?_) (fun h => ?_))
  · refine AW_aload_n 0 (n := 0) rfl dX12_goes_8 rfl ?_
    refine AW_callVv (M := mX12_goes) (pc := 9) (As := []) (ρ1 := ρ) (st := []) dX12_goes_9 mdX12_visits rfl mlX12_187 imX12_visits seX12_visits (rcv_of (q := (RX12, TX12, 40)) (Nat.le_of_ble_eq_true rfl) (okn hρ (Nat.le_of_ble_eq_true rfl)) rfl rfl) ⟨rfl, npX12_visits⟩ (Nat.le_of_ble_eq_true rfl) (Nat.le_refl _) (Nat.le_refl _) rfl (CALLv.mono h (fun S2 _ h => ?_))
    refine AW_aload_n 0 (n := 0) rfl dX12_goes_12 rfl ?_
    refine AW_dup dX12_goes_13 rfl ?_
    refine AW_get dX12_goes_14 flX12_175 (Nat.le_of_ble_eq_true rfl) (okn hρ (Nat.le_of_ble_eq_true rfl)) rfl (v := .long (S2.2 80 15)) (fun _ => rfl) ?_
    refine AW_lconst (v := 1) dX12_goes_17 rfl ?_
    refine AW_ladd dX12_goes_18 ?_
    refine AW_put dX12_goes_19 flX12_175 fp_10_15 (Nat.le_of_ble_eq_true rfl) (okn hρ (Nat.le_of_ble_eq_true rfl)) rfl (fun _ => rfl) (fun _ => rfl) rfl rfl rfl rfl (Fr.setL _ _ _ rfl) (fun _ _ => rfl) (ρ2 := ρ) (S2 := setL S2 80 15 ((S2.2 80 15) + 1)) (fun _ => rfl) (fun _ _ _ q1 _ => fvL_o q1) (hF _ (List.mem_of_getElem? (i := 0) rfl)) ?_
    exact AW_retv dX12_goes_22 rfl h
  · refine AW_iload_n 1 (n := 1) rfl dX12_goes_23 rfl ?_
    refine AW_aload_n 0 (n := 0) rfl dX12_goes_24 rfl ?_
    refine AW_get dX12_goes_25 flX12_9 (Nat.le_of_ble_eq_true rfl) (okn hρ (Nat.le_of_ble_eq_true rfl)) rfl (v := .ref 81) (fvR (okR hρ 51 rfl)) ?_
    refine AW_iconst (v := 1) dX12_goes_28 rfl ?_
    refine AW_iaload dX12_goes_29 (Nat.le_of_ble_eq_true rfl) (okn hρ (Nat.le_of_ble_eq_true rfl)) rfl (show ¬ (_ ∨ _) by decide) (v := S1.1 81 1) rfl ?_
    refine AW_idiv dX12_goes_30 h.1 ?_
    replace h := h.2
    refine AW_istore_n (n := 2) (i := 2) rfl dX12_goes_31 (Nat.le_of_ble_eq_true rfl) rfl ?_
    refine AW_iload_n 2 (n := 1) rfl dX12_goes_32 rfl ?_
    refine AW_aload_n 1 (n := 0) rfl dX12_goes_33 rfl ?_
    refine AW_get dX12_goes_34 flX12_9 (Nat.le_of_ble_eq_true rfl) (okn hρ (Nat.le_of_ble_eq_true rfl)) rfl (v := .ref 81) (fvR (okR hρ 51 rfl)) ?_
    refine AW_iconst (v := 1) dX12_goes_37 rfl ?_
    refine AW_iaload dX12_goes_38 (Nat.le_of_ble_eq_true rfl) (okn hρ (Nat.le_of_ble_eq_true rfl)) rfl (show ¬ (_ ∨ _) by decide) (v := S1.1 81 1) rfl ?_
    refine AW_irem dX12_goes_39 h.1 ?_
    replace h := h.2
    refine AW_istore_n (n := 3) (i := 3) rfl dX12_goes_40 (Nat.le_of_ble_eq_true rfl) rfl ?_
    refine AW_aload_n 2 (n := 0) rfl dX12_goes_41 rfl ?_
    refine AW_get dX12_goes_42 flX12_9 (Nat.le_of_ble_eq_true rfl) (okn hρ (Nat.le_of_ble_eq_true rfl)) rfl (v := .ref 81) (fvR (okR hρ 51 rfl)) ?_
    refine AW_iconst (v := 2) dX12_goes_45 rfl ?_
    refine AW_iaload dX12_goes_46 (Nat.le_of_ble_eq_true rfl) (okn hρ (Nat.le_of_ble_eq_true rfl)) rfl (show ¬ (_ ∨ _) by decide) (v := S1.1 81 2) rfl ?_
    refine AW_iload_n 3 (n := 1) rfl dX12_goes_47 rfl ?_
    refine AW_callSi (M := mX12_goes) (pc := 48) (As := [.int (S1.1 81 2), .int x1]) (ρ1 := ρ) (st := []) dX12_goes_48 mdX12_has mlX12_138 smX12_has ⟨rfl, npX12_has⟩ (Nat.le_of_ble_eq_true rfl) (Nat.le_refl _) (Nat.le_refl _) rfl (CALLi.mono h (fun v3 S3 _ h => ?_))
    refine AW_if_eq dX12_goes_51 rfl (iteM h (fun h => ?_) (fun h => ?_))
    · refine AW_aload_n 2 (n := 0) rfl dX12_goes_58 rfl ?_
      refine AW_get dX12_goes_59 flX12_29 (Nat.le_of_ble_eq_true rfl) (okn hρ (Nat.le_of_ble_eq_true rfl)) rfl (v := .ref 86) (fvR (okR hρ 56 rfl)) ?_
      refine AW_iload_n 1 (n := 2) rfl dX12_goes_62 rfl ?_
      refine AW_iaload dX12_goes_63 (Nat.le_of_ble_eq_true rfl) (okn hρ (Nat.le_of_ble_eq_true rfl)) rfl h.1 (v := S3.1 86 ((x1 / (S1.1 81 1)).toNatClampNeg)) rfl ?_
      replace h := h.2
      refine AW_aload_n 2 (n := 0) rfl dX12_goes_64 rfl ?_
      refine AW_get dX12_goes_65 flX12_32 (Nat.le_of_ble_eq_true rfl) (okn hρ (Nat.le_of_ble_eq_true rfl)) rfl (v := .ref 87) (fvR (okR hρ 57 rfl)) ?_
      refine AW_iload_n 0 (n := 3) rfl dX12_goes_68 rfl ?_
      refine AW_iaload dX12_goes_69 (Nat.le_of_ble_eq_true rfl) (okn hρ (Nat.le_of_ble_eq_true rfl)) rfl h.1 (v := S3.1 87 ((x1 - x1 / (S1.1 81 1) * (S1.1 81 1)).toNatClampNeg)) rfl ?_
      replace h := h.2
      refine AW_mminI (M := mX12_goes) (pc := 70) dX12_goes_70 mlX12_81 wmminIS wMath wmminIC (Nat.le_of_ble_eq_true rfl) ?_ (Nat.le_refl _) (Nat.le_refl _)
      exact AW.sub [2, 3, 1, 0] rfl h
    · refine AW_iconst (v := 0) dX12_goes_54 rfl ?_
      refine AW_goto (tgt := 73) dX12_goes_55 rfl ?_
      exact AW.sub [2, 3, 1, 0] rfl h
set_option maxRecDepth 20000 in
theorem eX12_visits {g : GX} {Q : St → Prop} {d : Nat} {ρ : Rs} {S : St} (hρ : Ok ρ) (hF : ∀ k ∈ ([80] : List Nat), gF g k) (h : if (S.1 80 13) = 1 then CALLv g d mX12_finds [.ref 80] ρ ρ S (fun S1 => Q S1) else (if (S.1 80 13) = 2 then if (S.2 80 15) = (S.2 80 16) then Q (setI S 80 14 1) else Q (setI S 80 14 0) else (if (S.1 80 13) = 3 then CALLv g d mX12_tallies [.ref 80] ρ ρ S (fun S2 => Q S2) else (if (S.1 80 13) = 4 then CALLv g d mX12_weighs [.ref 80] ρ ρ S (fun S3 => Q S3) else (if (S.1 80 13) = 5 then CALLv g d mX12_measures [.ref 80] ρ ρ S (fun S4 => Q S4) else (if (S.1 80 13) = 6 then CALLv g d mX12_lists [.ref 80] ρ ρ S (fun S5 => Q S5) else (Q S))))))) : CALLv g (d + 1) mX12_visits [.ref 80] ρ ρ S Q := by
  refine CALL.of mdX12_visits.2.2.2.2 (Nat.le_of_ble_eq_true rfl) (Nat.le_refl _) (Nat.le_refl _) ?_
  show AW g ρ (QV Q) (d + 1) mX12_visits 0 [(0, .ref 80)] [] ρ S
  refine AW_aload_n 0 (n := 0) rfl dX12_visits_0 rfl ?_
  refine AW_get dX12_visits_1 flX12_169 (Nat.le_of_ble_eq_true rfl) (okn hρ (Nat.le_of_ble_eq_true rfl)) rfl (v := .int (S.1 80 13)) (fun _ => rfl) ?_
  by_cases hc : (S.1 80 13) = 1
  · rw [if_pos hc] at h
    refine AW_tswIn (tgt := 44) dX12_visits_4 (by rw [hc]; decide) (by rw [hc]; decide) (by rw [hc]; rfl) rfl ?_
    refine AW_aload_n 0 (n := 0) rfl dX12_visits_44 rfl ?_
    refine AW_callVv (M := mX12_visits) (pc := 45) (As := []) (ρ1 := ρ) (st := []) dX12_visits_45 mdX12_finds rfl mlX12_194 imX12_finds seX12_finds (rcv_of (q := (RX12, TX12, 40)) (Nat.le_of_ble_eq_true rfl) (okn hρ (Nat.le_of_ble_eq_true rfl)) rfl rfl) ⟨rfl, npX12_finds⟩ (Nat.le_of_ble_eq_true rfl) (Nat.le_refl _) (Nat.le_refl _) rfl (CALLv.mono h (fun S1 _ h => ?_))
    refine AW_goto (tgt := 103) dX12_visits_48 rfl ?_
    exact AW_retv dX12_visits_103 rfl h
  rw [if_neg hc] at h
  have hc1 := hc
  clear hc
  by_cases hc : (S.1 80 13) = 2
  · rw [if_pos hc] at h
    refine AW_tswIn (tgt := 51) dX12_visits_4 (by rw [hc]; decide) (by rw [hc]; decide) (by rw [hc]; rfl) rfl ?_
    refine AW_aload_n 0 (n := 0) rfl dX12_visits_51 rfl ?_
    refine AW_aload_n 0 (n := 0) rfl dX12_visits_52 rfl ?_
    refine AW_get dX12_visits_53 flX12_175 (Nat.le_of_ble_eq_true rfl) (okn hρ (Nat.le_of_ble_eq_true rfl)) rfl (v := .long (S.2 80 15)) (fun _ => rfl) ?_
    refine AW_aload_n 0 (n := 0) rfl dX12_visits_56 rfl ?_
    refine AW_get dX12_visits_57 flX12_197 (Nat.le_of_ble_eq_true rfl) (okn hρ (Nat.le_of_ble_eq_true rfl)) rfl (v := .long (S.2 80 16)) (fun _ => rfl) ?_
    refine AW_lc_ne dX12_visits_60 dX12_visits_61 rfl (iteM h (fun h => ?_) (fun h => ?_))
    · refine AW_iconst (v := 1) dX12_visits_64 rfl ?_
      refine AW_goto (tgt := 69) dX12_visits_65 rfl ?_
      refine AW_put dX12_visits_69 flX12_172 fp_10_14 (Nat.le_of_ble_eq_true rfl) (okn hρ (Nat.le_of_ble_eq_true rfl)) rfl (fun _ => Bz.nar Bz1) (fun _ => Bz.fits Bz1) rfl rfl rfl rfl (Fr.setI _ _ _ rfl) (fun _ _ => rfl) (ρ2 := ρ) (S2 := setI S 80 14 1) (fun _ => rfl) (fun _ _ _ q1 _ => fvI_o q1) (hF _ (List.mem_of_getElem? (i := 0) rfl)) ?_
      refine AW_goto (tgt := 103) dX12_visits_72 rfl ?_
      exact AW_retv dX12_visits_103 rfl h
    · refine AW_iconst (v := 0) dX12_visits_68 rfl ?_
      refine AW_put dX12_visits_69 flX12_172 fp_10_14 (Nat.le_of_ble_eq_true rfl) (okn hρ (Nat.le_of_ble_eq_true rfl)) rfl (fun _ => Bz.nar Bz0) (fun _ => Bz.fits Bz0) rfl rfl rfl rfl (Fr.setI _ _ _ rfl) (fun _ _ => rfl) (ρ2 := ρ) (S2 := setI S 80 14 0) (fun _ => rfl) (fun _ _ _ q1 _ => fvI_o q1) (hF _ (List.mem_of_getElem? (i := 0) rfl)) ?_
      refine AW_goto (tgt := 103) dX12_visits_72 rfl ?_
      exact AW_retv dX12_visits_103 rfl h
  rw [if_neg hc] at h
  have hc2 := hc
  clear hc
  by_cases hc : (S.1 80 13) = 3
  · rw [if_pos hc] at h
    refine AW_tswIn (tgt := 75) dX12_visits_4 (by rw [hc]; decide) (by rw [hc]; decide) (by rw [hc]; rfl) rfl ?_
    refine AW_aload_n 0 (n := 0) rfl dX12_visits_75 rfl ?_
    refine AW_callVv (M := mX12_visits) (pc := 76) (As := []) (ρ1 := ρ) (st := []) dX12_visits_76 mdX12_tallies rfl mlX12_200 imX12_tallies seX12_tallies (rcv_of (q := (RX12, TX12, 40)) (Nat.le_of_ble_eq_true rfl) (okn hρ (Nat.le_of_ble_eq_true rfl)) rfl rfl) ⟨rfl, npX12_tallies⟩ (Nat.le_of_ble_eq_true rfl) (Nat.le_refl _) (Nat.le_refl _) rfl (CALLv.mono h (fun S2 _ h => ?_))
    refine AW_goto (tgt := 103) dX12_visits_79 rfl ?_
    exact AW_retv dX12_visits_103 rfl h
  rw [if_neg hc] at h
  have hc3 := hc
  clear hc
  by_cases hc : (S.1 80 13) = 4
  · rw [if_pos hc] at h
    refine AW_tswIn (tgt := 82) dX12_visits_4 (by rw [hc]; decide) (by rw [hc]; decide) (by rw [hc]; rfl) rfl ?_
    refine AW_aload_n 0 (n := 0) rfl dX12_visits_82 rfl ?_
    refine AW_callVv (M := mX12_visits) (pc := 83) (As := []) (ρ1 := ρ) (st := []) dX12_visits_83 mdX12_weighs rfl mlX12_203 imX12_weighs seX12_weighs (rcv_of (q := (RX12, TX12, 40)) (Nat.le_of_ble_eq_true rfl) (okn hρ (Nat.le_of_ble_eq_true rfl)) rfl rfl) ⟨rfl, npX12_weighs⟩ (Nat.le_of_ble_eq_true rfl) (Nat.le_refl _) (Nat.le_refl _) rfl (CALLv.mono h (fun S3 _ h => ?_))
    refine AW_goto (tgt := 103) dX12_visits_86 rfl ?_
    exact AW_retv dX12_visits_103 rfl h
  rw [if_neg hc] at h
  have hc4 := hc
  clear hc
  by_cases hc : (S.1 80 13) = 5
  · rw [if_pos hc] at h
    refine AW_tswIn (tgt := 89) dX12_visits_4 (by rw [hc]; decide) (by rw [hc]; decide) (by rw [hc]; rfl) rfl ?_
    refine AW_aload_n 0 (n := 0) rfl dX12_visits_89 rfl ?_
    refine AW_callVv (M := mX12_visits) (pc := 90) (As := []) (ρ1 := ρ) (st := []) dX12_visits_90 mdX12_measures rfl mlX12_206 imX12_measures seX12_measures (rcv_of (q := (RX12, TX12, 40)) (Nat.le_of_ble_eq_true rfl) (okn hρ (Nat.le_of_ble_eq_true rfl)) rfl rfl) ⟨rfl, npX12_measures⟩ (Nat.le_of_ble_eq_true rfl) (Nat.le_refl _) (Nat.le_refl _) rfl (CALLv.mono h (fun S4 _ h => ?_))
    refine AW_goto (tgt := 103) dX12_visits_93 rfl ?_
    exact AW_retv dX12_visits_103 rfl h
  rw [if_neg hc] at h
  have hc5 := hc
  clear hc
  by_cases hc : (S.1 80 13) = 6
  · rw [if_pos hc] at h
    refine AW_tswIn (tgt := 96) dX12_visits_4 (by rw [hc]; decide) (by rw [hc]; decide) (by rw [hc]; rfl) rfl ?_
    refine AW_aload_n 0 (n := 0) rfl dX12_visits_96 rfl ?_
    refine AW_callVv (M := mX12_visits) (pc := 97) (As := []) (ρ1 := ρ) (st := []) dX12_visits_97 mdX12_lists rfl mlX12_209 imX12_lists seX12_lists (rcv_of (q := (RX12, TX12, 40)) (Nat.le_of_ble_eq_true rfl) (okn hρ (Nat.le_of_ble_eq_true rfl)) rfl rfl) ⟨rfl, npX12_lists⟩ (Nat.le_of_ble_eq_true rfl) (Nat.le_refl _) (Nat.le_refl _) rfl (CALLv.mono h (fun S5 _ h => ?_))
    refine AW_goto (tgt := 103) dX12_visits_100 rfl ?_
    exact AW_retv dX12_visits_103 rfl h
  rw [if_neg hc] at h
  have hc6 := hc
  clear hc
  refine AW_tswOut (tgt := 103) dX12_visits_4 (by have q1 := i32n hc1 (k := 1) rfl; have q2 := i32n hc2 (k := 2) rfl; have q3 := i32n hc3 (k := 3) rfl; have q4 := i32n hc4 (k := 4) rfl; have q5 := i32n hc5 (k := 5) rfl; have q6 := i32n hc6 (k := 6) rfl; omega) rfl ?_
  exact AW_retv dX12_visits_103 rfl h
set_option maxRecDepth 20000 in
theorem eX12_finds_4 {g : GX} {Q : St → Prop} {d : Nat} {ρ : Rs} {S : St} (hρ : Ok ρ) {x1 : Int32} {x2 : Int32} (hF : ∀ k ∈ ([80] : List Nat), gF g k) (h : CALLi g d mX12_many [.ref 80] ρ ρ S (fun v1 S1 => if v1 ≤ x2 then if x1 = 0 then Bz x1 ∧ (Q (setI (setL S1 80 17 (S1.2 80 17)) 80 14 x1)) else Bz x1 ∧ (Q (setI (setL S1 80 17 (S1.2 80 15)) 80 14 x1)) else if x1 = 0 then AW g ρ (QV Q) (d + 1) mX12_finds 4 [(0, .ref 80), (1, .int 0), (2, .int (x2 + 1))] [] ρ S1 else vp_in x2 16 ∧ (vp_in (5 + x2) 21 ∧ (if (S1.1 85 x2.toNatClampNeg) = (S1.1 81 ((5 + x2).toNatClampNeg)) then AW g ρ (QV Q) (d + 1) mX12_finds 4 [(0, .ref 80), (1, .int 1), (2, .int (x2 + 1))] [] ρ S1 else AW g ρ (QV Q) (d + 1) mX12_finds 4 [(0, .ref 80), (1, .int 0), (2, .int (x2 + 1))] [] ρ S1)))) : AW g ρ (QV Q) (d + 1) mX12_finds 4 [(0, .ref 80), (1, .int x1), (2, .int x2)] [] ρ S := by
  refine AW_iload_n 2 (n := 2) rfl dX12_finds_4 rfl ?_
  refine AW_aload_n 0 (n := 0) rfl dX12_finds_5 rfl ?_
  refine AW_callVi (M := mX12_finds) (pc := 6) (As := []) (ρ1 := ρ) (st := [.int x2]) dX12_finds_6 mdX12_many rfl mlX12_150 imX12_many seX12_many (rcv_of (q := (RX12, TX12, 40)) (Nat.le_of_ble_eq_true rfl) (okn hρ (Nat.le_of_ble_eq_true rfl)) rfl rfl) ⟨rfl, npX12_many⟩ (Nat.le_of_ble_eq_true rfl) (Nat.le_refl _) (Nat.le_refl _) rfl (CALLi.mono h (fun v1 S1 _ h => ?_))
  refine AW_icmp_ge dX12_finds_9 rfl (iteM h (fun h => ?_) (fun h => ?_))
  · refine AW_aload_n 0 (n := 0) rfl dX12_finds_45 rfl ?_
    refine AW_iload_n 1 (n := 1) rfl dX12_finds_46 rfl ?_
    refine AW_if_eq dX12_finds_47 rfl (iteM h (fun h => ?_) (fun h => ?_))
    · refine AW_aload_n 0 (n := 0) rfl dX12_finds_57 rfl ?_
      refine AW_get dX12_finds_58 flX12_181 (Nat.le_of_ble_eq_true rfl) (okn hρ (Nat.le_of_ble_eq_true rfl)) rfl (v := .long (S1.2 80 17)) (fun _ => rfl) ?_
      refine AW_put dX12_finds_61 flX12_181 fp_10_17 (Nat.le_of_ble_eq_true rfl) (okn hρ (Nat.le_of_ble_eq_true rfl)) rfl (fun _ => rfl) (fun _ => rfl) rfl rfl rfl rfl (Fr.setL _ _ _ rfl) (fun _ _ => rfl) (ρ2 := ρ) (S2 := setL S1 80 17 (S1.2 80 17)) (fun _ => rfl) (fun _ _ _ q1 _ => fvL_o q1) (hF _ (List.mem_of_getElem? (i := 0) rfl)) ?_
      refine AW_aload_n 0 (n := 0) rfl dX12_finds_64 rfl ?_
      refine AW_iload_n 1 (n := 1) rfl dX12_finds_65 rfl ?_
      refine AW_put dX12_finds_66 flX12_172 fp_10_14 (Nat.le_of_ble_eq_true rfl) (okn hρ (Nat.le_of_ble_eq_true rfl)) rfl (fun _ => Bz.nar h.1) (fun _ => Bz.fits h.1) rfl rfl rfl rfl (Fr.setI _ _ _ rfl) (fun _ _ => rfl) (ρ2 := ρ) (S2 := setI (setL S1 80 17 (S1.2 80 17)) 80 14 x1) (fun _ => rfl) (fun _ _ _ q1 _ => fvI_o q1) (hF _ (List.mem_of_getElem? (i := 0) rfl)) ?_
      replace h := h.2
      exact AW_retv dX12_finds_69 rfl h
    · refine AW_aload_n 0 (n := 0) rfl dX12_finds_50 rfl ?_
      refine AW_get dX12_finds_51 flX12_175 (Nat.le_of_ble_eq_true rfl) (okn hρ (Nat.le_of_ble_eq_true rfl)) rfl (v := .long (S1.2 80 15)) (fun _ => rfl) ?_
      refine AW_goto (tgt := 61) dX12_finds_54 rfl ?_
      refine AW_put dX12_finds_61 flX12_181 fp_10_17 (Nat.le_of_ble_eq_true rfl) (okn hρ (Nat.le_of_ble_eq_true rfl)) rfl (fun _ => rfl) (fun _ => rfl) rfl rfl rfl rfl (Fr.setL _ _ _ rfl) (fun _ _ => rfl) (ρ2 := ρ) (S2 := setL S1 80 17 (S1.2 80 15)) (fun _ => rfl) (fun _ _ _ q1 _ => fvL_o q1) (hF _ (List.mem_of_getElem? (i := 0) rfl)) ?_
      refine AW_aload_n 0 (n := 0) rfl dX12_finds_64 rfl ?_
      refine AW_iload_n 1 (n := 1) rfl dX12_finds_65 rfl ?_
      refine AW_put dX12_finds_66 flX12_172 fp_10_14 (Nat.le_of_ble_eq_true rfl) (okn hρ (Nat.le_of_ble_eq_true rfl)) rfl (fun _ => Bz.nar h.1) (fun _ => Bz.fits h.1) rfl rfl rfl rfl (Fr.setI _ _ _ rfl) (fun _ _ => rfl) (ρ2 := ρ) (S2 := setI (setL S1 80 17 (S1.2 80 15)) 80 14 x1) (fun _ => rfl) (fun _ _ _ q1 _ => fvI_o q1) (hF _ (List.mem_of_getElem? (i := 0) rfl)) ?_
      replace h := h.2
      exact AW_retv dX12_finds_69 rfl h
  · refine AW_iload_n 1 (n := 1) rfl dX12_finds_12 rfl ?_
    refine AW_if_eq dX12_finds_13 rfl (iteM h (fun h => ?_) (fun h => ?_))
    · refine AW_iconst (v := 0) dX12_finds_37 rfl ?_
      refine AW_istore_n (n := 1) (i := 1) rfl dX12_finds_38 (Nat.le_of_ble_eq_true rfl) rfl ?_
      refine AW_iinc 2 (v := x2 + 1) dX12_finds_39 rfl rfl (Nat.le_of_ble_eq_true rfl) rfl ?_
      refine AW_goto (tgt := 4) dX12_finds_42 rfl ?_
      exact AW.sub [2, 1, 0] rfl h
    · refine AW_aload_n 0 (n := 0) rfl dX12_finds_16 rfl ?_
      refine AW_get dX12_finds_17 flX12_26 (Nat.le_of_ble_eq_true rfl) (okn hρ (Nat.le_of_ble_eq_true rfl)) rfl (v := .ref 85) (fvR (okR hρ 55 rfl)) ?_
      refine AW_iload_n 2 (n := 2) rfl dX12_finds_20 rfl ?_
      refine AW_iaload dX12_finds_21 (Nat.le_of_ble_eq_true rfl) (okn hρ (Nat.le_of_ble_eq_true rfl)) rfl h.1 (v := S1.1 85 x2.toNatClampNeg) rfl ?_
      replace h := h.2
      refine AW_aload_n 0 (n := 0) rfl dX12_finds_22 rfl ?_
      refine AW_get dX12_finds_23 flX12_9 (Nat.le_of_ble_eq_true rfl) (okn hρ (Nat.le_of_ble_eq_true rfl)) rfl (v := .ref 81) (fvR (okR hρ 51 rfl)) ?_
      refine AW_iconst (v := 5) dX12_finds_26 rfl ?_
      refine AW_iload_n 2 (n := 2) rfl dX12_finds_27 rfl ?_
      refine AW_iadd dX12_finds_28 ?_
      refine AW_iaload dX12_finds_29 (Nat.le_of_ble_eq_true rfl) (okn hρ (Nat.le_of_ble_eq_true rfl)) rfl h.1 (v := S1.1 81 ((5 + x2).toNatClampNeg)) rfl ?_
      replace h := h.2
      refine AW_icmp_ne dX12_finds_30 rfl (iteM h (fun h => ?_) (fun h => ?_))
      · refine AW_iconst (v := 1) dX12_finds_33 rfl ?_
        refine AW_goto (tgt := 38) dX12_finds_34 rfl ?_
        refine AW_istore_n (n := 1) (i := 1) rfl dX12_finds_38 (Nat.le_of_ble_eq_true rfl) rfl ?_
        refine AW_iinc 2 (v := x2 + 1) dX12_finds_39 rfl rfl (Nat.le_of_ble_eq_true rfl) rfl ?_
        refine AW_goto (tgt := 4) dX12_finds_42 rfl ?_
        exact AW.sub [2, 1, 0] rfl h
      · refine AW_iconst (v := 0) dX12_finds_37 rfl ?_
        refine AW_istore_n (n := 1) (i := 1) rfl dX12_finds_38 (Nat.le_of_ble_eq_true rfl) rfl ?_
        refine AW_iinc 2 (v := x2 + 1) dX12_finds_39 rfl rfl (Nat.le_of_ble_eq_true rfl) rfl ?_
        refine AW_goto (tgt := 4) dX12_finds_42 rfl ?_
        exact AW.sub [2, 1, 0] rfl h
set_option maxRecDepth 20000 in
theorem eX12_finds {g : GX} {Q : St → Prop} {d : Nat} {ρ : Rs} {S : St} (hρ : Ok ρ) (h : AW g ρ (QV Q) (d + 1) mX12_finds 4 [(0, .ref 80), (1, .int 1), (2, .int 0)] [] ρ S) : CALLv g (d + 1) mX12_finds [.ref 80] ρ ρ S Q := by
  refine CALL.of mdX12_finds.2.2.2.2 (Nat.le_of_ble_eq_true rfl) (Nat.le_refl _) (Nat.le_refl _) ?_
  show AW g ρ (QV Q) (d + 1) mX12_finds 0 [(0, .ref 80)] [] ρ S
  refine AW_iconst (v := 1) dX12_finds_0 rfl ?_
  refine AW_istore_n (n := 1) (i := 1) rfl dX12_finds_1 (Nat.le_of_ble_eq_true rfl) rfl ?_
  refine AW_iconst (v := 0) dX12_finds_2 rfl ?_
  refine AW_istore_n (n := 2) (i := 2) rfl dX12_finds_3 (Nat.le_of_ble_eq_true rfl) rfl ?_
  exact AW.sub [2, 1, 0] rfl h
set_option maxRecDepth 20000 in
theorem eX12_tallies_2 {g : GX} {Q : St → Prop} {d : Nat} {ρ : Rs} {S : St} (hρ : Ok ρ) {x1 : Int32} (hF : ∀ k ∈ ([88] : List Nat), gF g k) (h : CALLi g d mX12_many [.ref 80] ρ ρ S (fun v1 S1 => if v1 ≤ x1 then Q S1 else vp_in x1 16 ∧ (vp_in ((21 * x1) + (S1.1 85 x1.toNatClampNeg)) 336 ∧ (vp_in ((21 * x1) + (S1.1 85 x1.toNatClampNeg)) 336 ∧ (AW g ρ (QV Q) (d + 1) mX12_tallies 2 [(0, .ref 80), (1, .int (x1 + 1))] [] ρ (setL S1 88 (((21 * x1) + (S1.1 85 x1.toNatClampNeg)).toNatClampNeg) ((S1.2 88 (((21 * x1) + (S1.1 85 x1.toNatClampNeg)).toNatClampNeg)) + 1))))))) : AW g ρ (QV Q) (d + 1) mX12_tallies 2 [(0, .ref 80), (1, .int x1)] [] ρ S := by
  refine AW_iload_n 1 (n := 1) rfl dX12_tallies_2 rfl ?_
  refine AW_aload_n 0 (n := 0) rfl dX12_tallies_3 rfl ?_
  refine AW_callVi (M := mX12_tallies) (pc := 4) (As := []) (ρ1 := ρ) (st := [.int x1]) dX12_tallies_4 mdX12_many rfl mlX12_150 imX12_many seX12_many (rcv_of (q := (RX12, TX12, 40)) (Nat.le_of_ble_eq_true rfl) (okn hρ (Nat.le_of_ble_eq_true rfl)) rfl rfl) ⟨rfl, npX12_many⟩ (Nat.le_of_ble_eq_true rfl) (Nat.le_refl _) (Nat.le_refl _) rfl (CALLi.mono h (fun v1 S1 _ h => ?_))
  refine AW_icmp_ge dX12_tallies_7 rfl (iteM h (fun h => ?_) (fun h => ?_))
  · exact AW_retv dX12_tallies_36 rfl h
  · refine AW_aload_n 0 (n := 0) rfl dX12_tallies_10 rfl ?_
    refine AW_get dX12_tallies_11 flX12_35 (Nat.le_of_ble_eq_true rfl) (okn hρ (Nat.le_of_ble_eq_true rfl)) rfl (v := .ref 88) (fvR (okR hρ 58 rfl)) ?_
    refine AW_bipush (v := 21) dX12_tallies_14 rfl ?_
    refine AW_iload_n 1 (n := 1) rfl dX12_tallies_16 rfl ?_
    refine AW_imul dX12_tallies_17 ?_
    refine AW_aload_n 0 (n := 0) rfl dX12_tallies_18 rfl ?_
    refine AW_get dX12_tallies_19 flX12_26 (Nat.le_of_ble_eq_true rfl) (okn hρ (Nat.le_of_ble_eq_true rfl)) rfl (v := .ref 85) (fvR (okR hρ 55 rfl)) ?_
    refine AW_iload_n 1 (n := 1) rfl dX12_tallies_22 rfl ?_
    refine AW_iaload dX12_tallies_23 (Nat.le_of_ble_eq_true rfl) (okn hρ (Nat.le_of_ble_eq_true rfl)) rfl h.1 (v := S1.1 85 x1.toNatClampNeg) rfl ?_
    replace h := h.2
    refine AW_iadd dX12_tallies_24 ?_
    refine AW_dup2_11 dX12_tallies_25 rfl rfl ?_
    refine AW_laload dX12_tallies_26 (Nat.le_of_ble_eq_true rfl) (okn hρ (Nat.le_of_ble_eq_true rfl)) rfl h.1 (v := S1.2 88 (((21 * x1) + (S1.1 85 x1.toNatClampNeg)).toNatClampNeg)) rfl ?_
    replace h := h.2
    refine AW_lconst (v := 1) dX12_tallies_27 rfl ?_
    refine AW_ladd dX12_tallies_28 ?_
    refine AW_lastore dX12_tallies_29 (Nat.le_of_ble_eq_true rfl) (okn hρ (Nat.le_of_ble_eq_true rfl)) rfl h.1 (hF _ (List.mem_of_getElem? (i := 0) rfl)) (jx := ((21 * x1) + (S1.1 85 x1.toNatClampNeg)).toNatClampNeg) rfl ?_
    replace h := h.2
    refine AW_iinc 1 (v := x1 + 1) dX12_tallies_30 rfl rfl (Nat.le_of_ble_eq_true rfl) rfl ?_
    refine AW_goto (tgt := 2) dX12_tallies_33 rfl ?_
    exact AW.sub [1, 0] rfl h
set_option maxRecDepth 20000 in
theorem eX12_tallies {g : GX} {Q : St → Prop} {d : Nat} {ρ : Rs} {S : St} (hρ : Ok ρ) (h : AW g ρ (QV Q) (d + 1) mX12_tallies 2 [(0, .ref 80), (1, .int 0)] [] ρ S) : CALLv g (d + 1) mX12_tallies [.ref 80] ρ ρ S Q := by
  refine CALL.of mdX12_tallies.2.2.2.2 (Nat.le_of_ble_eq_true rfl) (Nat.le_refl _) (Nat.le_refl _) ?_
  show AW g ρ (QV Q) (d + 1) mX12_tallies 0 [(0, .ref 80)] [] ρ S
  refine AW_iconst (v := 0) dX12_tallies_0 rfl ?_
  refine AW_istore_n (n := 1) (i := 1) rfl dX12_tallies_1 (Nat.le_of_ble_eq_true rfl) rfl ?_
  exact AW.sub [1, 0] rfl h
set_option maxRecDepth 20000 in
theorem eX12_weighs_46 {g : GX} {Q : St → Prop} {d : Nat} {ρ : Rs} {S : St} (hρ : Ok ρ) {x1 : Int64} (hF : ∀ k ∈ ([80] : List Nat), gF g k) (h : if (S.2 80 15) = 0 then Q (setL (setL S 80 24 x1) 80 26 (S.2 80 15)) else if (S.2 80 24) ≤ x1 then Q S else Q (setL (setL S 80 24 x1) 80 26 (S.2 80 15))) : AW g ρ (QV Q) (d + 1) mX12_weighs 46 [(0, .ref 80), (1, .long x1)] [] ρ S := by
  refine AW_aload_n 0 (n := 0) rfl dX12_weighs_46 rfl ?_
  refine AW_get dX12_weighs_47 flX12_175 (Nat.le_of_ble_eq_true rfl) (okn hρ (Nat.le_of_ble_eq_true rfl)) rfl (v := .long (S.2 80 15)) (fun _ => rfl) ?_
  refine AW_lconst (v := 0) dX12_weighs_50 rfl ?_
  refine AW_lc_eq dX12_weighs_51 dX12_weighs_52 rfl (iteM h (fun h => ?_) (fun h => ?_))
  · refine AW_aload_n 0 (n := 0) rfl dX12_weighs_64 rfl ?_
    refine AW_lload_n 1 (n := 1) rfl dX12_weighs_65 rfl ?_
    refine AW_put dX12_weighs_66 flX12_225 fp_10_24 (Nat.le_of_ble_eq_true rfl) (okn hρ (Nat.le_of_ble_eq_true rfl)) rfl (fun _ => rfl) (fun _ => rfl) rfl rfl rfl rfl (Fr.setL _ _ _ rfl) (fun _ _ => rfl) (ρ2 := ρ) (S2 := setL S 80 24 x1) (fun _ => rfl) (fun _ _ _ q1 _ => fvL_o q1) (hF _ (List.mem_of_getElem? (i := 0) rfl)) ?_
    refine AW_aload_n 0 (n := 0) rfl dX12_weighs_69 rfl ?_
    refine AW_aload_n 0 (n := 0) rfl dX12_weighs_70 rfl ?_
    refine AW_get dX12_weighs_71 flX12_175 (Nat.le_of_ble_eq_true rfl) (okn hρ (Nat.le_of_ble_eq_true rfl)) rfl (v := .long (S.2 80 15)) (fun _ => rfl) ?_
    refine AW_put dX12_weighs_74 flX12_228 fp_10_26 (Nat.le_of_ble_eq_true rfl) (okn hρ (Nat.le_of_ble_eq_true rfl)) rfl (fun _ => rfl) (fun _ => rfl) rfl rfl rfl rfl (Fr.setL _ _ _ rfl) (fun _ _ => rfl) (ρ2 := ρ) (S2 := setL (setL S 80 24 x1) 80 26 (S.2 80 15)) (fun _ => rfl) (fun _ _ _ q1 _ => fvL_o q1) (hF _ (List.mem_of_getElem? (i := 0) rfl)) ?_
    exact AW_retv dX12_weighs_77 rfl h
  · refine AW_lload_n 1 (n := 1) rfl dX12_weighs_55 rfl ?_
    refine AW_aload_n 0 (n := 0) rfl dX12_weighs_56 rfl ?_
    refine AW_get dX12_weighs_57 flX12_225 (Nat.le_of_ble_eq_true rfl) (okn hρ (Nat.le_of_ble_eq_true rfl)) rfl (v := .long (S.2 80 24)) (fun _ => rfl) ?_
    refine AW_lc_ge dX12_weighs_60 dX12_weighs_61 rfl (iteM h (fun h => ?_) (fun h => ?_))
    · exact AW_retv dX12_weighs_77 rfl h
    · refine AW_aload_n 0 (n := 0) rfl dX12_weighs_64 rfl ?_
      refine AW_lload_n 1 (n := 1) rfl dX12_weighs_65 rfl ?_
      refine AW_put dX12_weighs_66 flX12_225 fp_10_24 (Nat.le_of_ble_eq_true rfl) (okn hρ (Nat.le_of_ble_eq_true rfl)) rfl (fun _ => rfl) (fun _ => rfl) rfl rfl rfl rfl (Fr.setL _ _ _ rfl) (fun _ _ => rfl) (ρ2 := ρ) (S2 := setL S 80 24 x1) (fun _ => rfl) (fun _ _ _ q1 _ => fvL_o q1) (hF _ (List.mem_of_getElem? (i := 0) rfl)) ?_
      refine AW_aload_n 0 (n := 0) rfl dX12_weighs_69 rfl ?_
      refine AW_aload_n 0 (n := 0) rfl dX12_weighs_70 rfl ?_
      refine AW_get dX12_weighs_71 flX12_175 (Nat.le_of_ble_eq_true rfl) (okn hρ (Nat.le_of_ble_eq_true rfl)) rfl (v := .long (S.2 80 15)) (fun _ => rfl) ?_
      refine AW_put dX12_weighs_74 flX12_228 fp_10_26 (Nat.le_of_ble_eq_true rfl) (okn hρ (Nat.le_of_ble_eq_true rfl)) rfl (fun _ => rfl) (fun _ => rfl) rfl rfl rfl rfl (Fr.setL _ _ _ rfl) (fun _ _ => rfl) (ρ2 := ρ) (S2 := setL (setL S 80 24 x1) 80 26 (S.2 80 15)) (fun _ => rfl) (fun _ _ _ q1 _ => fvL_o q1) (hF _ (List.mem_of_getElem? (i := 0) rfl)) ?_
      exact AW_retv dX12_weighs_77 rfl h
set_option maxRecDepth 20000 in
theorem eX12_weighs {g : GX} {Q : St → Prop} {d : Nat} {ρ : Rs} {S : St} (hρ : Ok ρ) (hF : ∀ k ∈ ([80] : List Nat), gF g k) (h : CALLl g d mX12_weightOf [.ref 80] ρ ρ S (fun v1 S1 => if (S1.2 80 15) = 0 then AW g ρ (QV Q) (d + 1) mX12_weighs 46 [(0, .ref 80), (1, .long v1)] [] ρ (setL (setL (setL S1 80 22 ((S1.2 80 22) + v1)) 80 23 v1) 80 25 (S1.2 80 15)) else if v1 ≤ (S1.2 80 23) then AW g ρ (QV Q) (d + 1) mX12_weighs 46 [(0, .ref 80), (1, .long v1)] [] ρ (setL S1 80 22 ((S1.2 80 22) + v1)) else AW g ρ (QV Q) (d + 1) mX12_weighs 46 [(0, .ref 80), (1, .long v1)] [] ρ (setL (setL (setL S1 80 22 ((S1.2 80 22) + v1)) 80 23 v1) 80 25 (S1.2 80 15)))) : CALLv g (d + 1) mX12_weighs [.ref 80] ρ ρ S Q := by
  refine CALL.of mdX12_weighs.2.2.2.2 (Nat.le_of_ble_eq_true rfl) (Nat.le_refl _) (Nat.le_refl _) ?_
  show AW g ρ (QV Q) (d + 1) mX12_weighs 0 [(0, .ref 80)] [] ρ S
  refine AW_aload_n 0 (n := 0) rfl dX12_weighs_0 rfl ?_
  refine AW_callVl (M := mX12_weighs) (pc := 1) (As := []) (ρ1 := ρ) (st := []) dX12_weighs_1 mdX12_weightOf rfl mlX12_212 imX12_weightOf seX12_weightOf (rcv_of (q := (RX12, TX12, 40)) (Nat.le_of_ble_eq_true rfl) (okn hρ (Nat.le_of_ble_eq_true rfl)) rfl rfl) ⟨rfl, npX12_weightOf⟩ (Nat.le_of_ble_eq_true rfl) (Nat.le_refl _) (Nat.le_refl _) rfl (CALLl.mono h (fun v1 S1 _ h => ?_))
  refine AW_lstore_n (n := 1) (i := 1) rfl dX12_weighs_4 (Nat.le_of_ble_eq_true rfl) rfl ?_
  refine AW_aload_n 1 (n := 0) rfl dX12_weighs_5 rfl ?_
  refine AW_dup dX12_weighs_6 rfl ?_
  refine AW_get dX12_weighs_7 flX12_216 (Nat.le_of_ble_eq_true rfl) (okn hρ (Nat.le_of_ble_eq_true rfl)) rfl (v := .long (S1.2 80 22)) (fun _ => rfl) ?_
  refine AW_lload_n 0 (n := 1) rfl dX12_weighs_10 rfl ?_
  refine AW_ladd dX12_weighs_11 ?_
  refine AW_put dX12_weighs_12 flX12_216 fp_10_22 (Nat.le_of_ble_eq_true rfl) (okn hρ (Nat.le_of_ble_eq_true rfl)) rfl (fun _ => rfl) (fun _ => rfl) rfl rfl rfl rfl (Fr.setL _ _ _ rfl) (fun _ _ => rfl) (ρ2 := ρ) (S2 := setL S1 80 22 ((S1.2 80 22) + v1)) (fun _ => rfl) (fun _ _ _ q1 _ => fvL_o q1) (hF _ (List.mem_of_getElem? (i := 0) rfl)) ?_
  refine AW_aload_n 1 (n := 0) rfl dX12_weighs_15 rfl ?_
  refine AW_get dX12_weighs_16 flX12_175 (Nat.le_of_ble_eq_true rfl) (okn hρ (Nat.le_of_ble_eq_true rfl)) rfl (v := .long (S1.2 80 15)) (fun _ => rfl) ?_
  refine AW_lconst (v := 0) dX12_weighs_19 rfl ?_
  refine AW_lc_eq dX12_weighs_20 dX12_weighs_21 rfl (iteM h (fun h => ?_) (fun h => ?_))
  · refine AW_aload_n 1 (n := 0) rfl dX12_weighs_33 rfl ?_
    refine AW_lload_n 0 (n := 1) rfl dX12_weighs_34 rfl ?_
    refine AW_put dX12_weighs_35 flX12_219 fp_10_23 (Nat.le_of_ble_eq_true rfl) (okn hρ (Nat.le_of_ble_eq_true rfl)) rfl (fun _ => rfl) (fun _ => rfl) rfl rfl rfl rfl (Fr.setL _ _ _ rfl) (fun _ _ => rfl) (ρ2 := ρ) (S2 := setL (setL S1 80 22 ((S1.2 80 22) + v1)) 80 23 v1) (fun _ => rfl) (fun _ _ _ q1 _ => fvL_o q1) (hF _ (List.mem_of_getElem? (i := 0) rfl)) ?_
    refine AW_aload_n 1 (n := 0) rfl dX12_weighs_38 rfl ?_
    refine AW_aload_n 1 (n := 0) rfl dX12_weighs_39 rfl ?_
    refine AW_get dX12_weighs_40 flX12_175 (Nat.le_of_ble_eq_true rfl) (okn hρ (Nat.le_of_ble_eq_true rfl)) rfl (v := .long (S1.2 80 15)) (fun _ => rfl) ?_
    refine AW_put dX12_weighs_43 flX12_222 fp_10_25 (Nat.le_of_ble_eq_true rfl) (okn hρ (Nat.le_of_ble_eq_true rfl)) rfl (fun _ => rfl) (fun _ => rfl) rfl rfl rfl rfl (Fr.setL _ _ _ rfl) (fun _ _ => rfl) (ρ2 := ρ) (S2 := setL (setL (setL S1 80 22 ((S1.2 80 22) + v1)) 80 23 v1) 80 25 (S1.2 80 15)) (fun _ => rfl) (fun _ _ _ q1 _ => fvL_o q1) (hF _ (List.mem_of_getElem? (i := 0) rfl)) ?_
    exact AW.sub [1, 0] rfl h
  · refine AW_lload_n 0 (n := 1) rfl dX12_weighs_24 rfl ?_
    refine AW_aload_n 1 (n := 0) rfl dX12_weighs_25 rfl ?_
    refine AW_get dX12_weighs_26 flX12_219 (Nat.le_of_ble_eq_true rfl) (okn hρ (Nat.le_of_ble_eq_true rfl)) rfl (v := .long (S1.2 80 23)) (fun _ => rfl) ?_
    refine AW_lc_le dX12_weighs_29 dX12_weighs_30 rfl (iteM h (fun h => ?_) (fun h => ?_))
    · exact AW.sub [1, 0] rfl h
    · refine AW_aload_n 1 (n := 0) rfl dX12_weighs_33 rfl ?_
      refine AW_lload_n 0 (n := 1) rfl dX12_weighs_34 rfl ?_
      refine AW_put dX12_weighs_35 flX12_219 fp_10_23 (Nat.le_of_ble_eq_true rfl) (okn hρ (Nat.le_of_ble_eq_true rfl)) rfl (fun _ => rfl) (fun _ => rfl) rfl rfl rfl rfl (Fr.setL _ _ _ rfl) (fun _ _ => rfl) (ρ2 := ρ) (S2 := setL (setL S1 80 22 ((S1.2 80 22) + v1)) 80 23 v1) (fun _ => rfl) (fun _ _ _ q1 _ => fvL_o q1) (hF _ (List.mem_of_getElem? (i := 0) rfl)) ?_
      refine AW_aload_n 1 (n := 0) rfl dX12_weighs_38 rfl ?_
      refine AW_aload_n 1 (n := 0) rfl dX12_weighs_39 rfl ?_
      refine AW_get dX12_weighs_40 flX12_175 (Nat.le_of_ble_eq_true rfl) (okn hρ (Nat.le_of_ble_eq_true rfl)) rfl (v := .long (S1.2 80 15)) (fun _ => rfl) ?_
      refine AW_put dX12_weighs_43 flX12_222 fp_10_25 (Nat.le_of_ble_eq_true rfl) (okn hρ (Nat.le_of_ble_eq_true rfl)) rfl (fun _ => rfl) (fun _ => rfl) rfl rfl rfl rfl (Fr.setL _ _ _ rfl) (fun _ _ => rfl) (ρ2 := ρ) (S2 := setL (setL (setL S1 80 22 ((S1.2 80 22) + v1)) 80 23 v1) 80 25 (S1.2 80 15)) (fun _ => rfl) (fun _ _ _ q1 _ => fvL_o q1) (hF _ (List.mem_of_getElem? (i := 0) rfl)) ?_
      exact AW.sub [1, 0] rfl h
set_option maxRecDepth 20000 in
theorem eX12_measures_62 {g : GX} {Q : St → Prop} {d : Nat} {ρ : Rs} {S : St} (hρ : Ok ρ) {x3 : Int64} {s0 : Int32} (hF : ∀ k ∈ ([80] : List Nat), gF g k) (h : if s0 = 0 then if s0 = 0 then Q (setL (setL S 80 29 ((S.2 80 29) + 0)) 80 30 ((S.2 80 30) + 0)) else Q (setL (setL S 80 29 ((S.2 80 29) + 0)) 80 30 ((S.2 80 30) + x3)) else if s0 = 0 then Q (setL (setL S 80 29 ((S.2 80 29) + 1)) 80 30 ((S.2 80 30) + 0)) else Q (setL (setL S 80 29 ((S.2 80 29) + 1)) 80 30 ((S.2 80 30) + x3))) : AW g ρ (QV Q) (d + 1) mX12_measures 62 [(0, .ref 80), (3, .long x3)] [.int s0] ρ S := by
  refine AW_istore dX12_measures_62 (Nat.le_of_ble_eq_true rfl) rfl ?_
  refine AW_aload_n 1 (n := 0) rfl dX12_measures_64 rfl ?_
  refine AW_dup dX12_measures_65 rfl ?_
  refine AW_get dX12_measures_66 flX12_241 (Nat.le_of_ble_eq_true rfl) (okn hρ (Nat.le_of_ble_eq_true rfl)) rfl (v := .long (S.2 80 29)) (fun _ => rfl) ?_
  refine AW_iload 0 dX12_measures_69 rfl ?_
  refine AW_if_eq dX12_measures_71 rfl (iteM h (fun h => ?_) (fun h => ?_))
  · refine AW_lconst (v := 0) dX12_measures_78 rfl ?_
    refine AW_ladd dX12_measures_79 ?_
    refine AW_put dX12_measures_80 flX12_241 fp_10_29 (Nat.le_of_ble_eq_true rfl) (okn hρ (Nat.le_of_ble_eq_true rfl)) rfl (fun _ => rfl) (fun _ => rfl) rfl rfl rfl rfl (Fr.setL _ _ _ rfl) (fun _ _ => rfl) (ρ2 := ρ) (S2 := setL S 80 29 ((S.2 80 29) + 0)) (fun _ => rfl) (fun _ _ _ q1 _ => fvL_o q1) (hF _ (List.mem_of_getElem? (i := 0) rfl)) ?_
    refine AW_aload_n 1 (n := 0) rfl dX12_measures_83 rfl ?_
    refine AW_dup dX12_measures_84 rfl ?_
    refine AW_get dX12_measures_85 flX12_244 (Nat.le_of_ble_eq_true rfl) (okn hρ (Nat.le_of_ble_eq_true rfl)) rfl (v := .long (S.2 80 30)) (fun _ => rfl) ?_
    refine AW_iload 0 dX12_measures_88 rfl ?_
    refine AW_if_eq dX12_measures_90 rfl (iteM h (fun h => ?_) (fun h => ?_))
    · refine AW_lconst (v := 0) dX12_measures_97 rfl ?_
      refine AW_ladd dX12_measures_98 ?_
      refine AW_put dX12_measures_99 flX12_244 fp_10_30 (Nat.le_of_ble_eq_true rfl) (okn hρ (Nat.le_of_ble_eq_true rfl)) rfl (fun _ => rfl) (fun _ => rfl) rfl rfl rfl rfl (Fr.setL _ _ _ rfl) (fun _ _ => rfl) (ρ2 := ρ) (S2 := setL (setL S 80 29 ((S.2 80 29) + 0)) 80 30 ((S.2 80 30) + 0)) (fun _ => rfl) (fun _ _ _ q1 _ => fvL_o q1) (hF _ (List.mem_of_getElem? (i := 0) rfl)) ?_
      exact AW_retv dX12_measures_102 rfl h
    · refine AW_lload_n 2 (n := 3) rfl dX12_measures_93 rfl ?_
      refine AW_goto (tgt := 98) dX12_measures_94 rfl ?_
      refine AW_ladd dX12_measures_98 ?_
      refine AW_put dX12_measures_99 flX12_244 fp_10_30 (Nat.le_of_ble_eq_true rfl) (okn hρ (Nat.le_of_ble_eq_true rfl)) rfl (fun _ => rfl) (fun _ => rfl) rfl rfl rfl rfl (Fr.setL _ _ _ rfl) (fun _ _ => rfl) (ρ2 := ρ) (S2 := setL (setL S 80 29 ((S.2 80 29) + 0)) 80 30 ((S.2 80 30) + x3)) (fun _ => rfl) (fun _ _ _ q1 _ => fvL_o q1) (hF _ (List.mem_of_getElem? (i := 0) rfl)) ?_
      exact AW_retv dX12_measures_102 rfl h
  · refine AW_lconst (v := 1) dX12_measures_74 rfl ?_
    refine AW_goto (tgt := 79) dX12_measures_75 rfl ?_
    refine AW_ladd dX12_measures_79 ?_
    refine AW_put dX12_measures_80 flX12_241 fp_10_29 (Nat.le_of_ble_eq_true rfl) (okn hρ (Nat.le_of_ble_eq_true rfl)) rfl (fun _ => rfl) (fun _ => rfl) rfl rfl rfl rfl (Fr.setL _ _ _ rfl) (fun _ _ => rfl) (ρ2 := ρ) (S2 := setL S 80 29 ((S.2 80 29) + 1)) (fun _ => rfl) (fun _ _ _ q1 _ => fvL_o q1) (hF _ (List.mem_of_getElem? (i := 0) rfl)) ?_
    refine AW_aload_n 1 (n := 0) rfl dX12_measures_83 rfl ?_
    refine AW_dup dX12_measures_84 rfl ?_
    refine AW_get dX12_measures_85 flX12_244 (Nat.le_of_ble_eq_true rfl) (okn hρ (Nat.le_of_ble_eq_true rfl)) rfl (v := .long (S.2 80 30)) (fun _ => rfl) ?_
    refine AW_iload 0 dX12_measures_88 rfl ?_
    refine AW_if_eq dX12_measures_90 rfl (iteM h (fun h => ?_) (fun h => ?_))
    · refine AW_lconst (v := 0) dX12_measures_97 rfl ?_
      refine AW_ladd dX12_measures_98 ?_
      refine AW_put dX12_measures_99 flX12_244 fp_10_30 (Nat.le_of_ble_eq_true rfl) (okn hρ (Nat.le_of_ble_eq_true rfl)) rfl (fun _ => rfl) (fun _ => rfl) rfl rfl rfl rfl (Fr.setL _ _ _ rfl) (fun _ _ => rfl) (ρ2 := ρ) (S2 := setL (setL S 80 29 ((S.2 80 29) + 1)) 80 30 ((S.2 80 30) + 0)) (fun _ => rfl) (fun _ _ _ q1 _ => fvL_o q1) (hF _ (List.mem_of_getElem? (i := 0) rfl)) ?_
      exact AW_retv dX12_measures_102 rfl h
    · refine AW_lload_n 2 (n := 3) rfl dX12_measures_93 rfl ?_
      refine AW_goto (tgt := 98) dX12_measures_94 rfl ?_
      refine AW_ladd dX12_measures_98 ?_
      refine AW_put dX12_measures_99 flX12_244 fp_10_30 (Nat.le_of_ble_eq_true rfl) (okn hρ (Nat.le_of_ble_eq_true rfl)) rfl (fun _ => rfl) (fun _ => rfl) rfl rfl rfl rfl (Fr.setL _ _ _ rfl) (fun _ _ => rfl) (ρ2 := ρ) (S2 := setL (setL S 80 29 ((S.2 80 29) + 1)) 80 30 ((S.2 80 30) + x3)) (fun _ => rfl) (fun _ _ _ q1 _ => fvL_o q1) (hF _ (List.mem_of_getElem? (i := 0) rfl)) ?_
      exact AW_retv dX12_measures_102 rfl h
set_option maxRecDepth 20000 in
theorem eX12_measures {g : GX} {Q : St → Prop} {d : Nat} {ρ : Rs} {S : St} (hρ : Ok ρ) (hF : ∀ k ∈ ([80] : List Nat), gF g k) (h : CALLl g d mX12_measureOf [.ref 80, .int (S.1 80 27)] ρ ρ S (fun v1 S1 => CALLl g d mX12_weightOf [.ref 80] ρ ρ S1 (fun v2 S2 => if (S2.1 80 27) = 0 then if (S2.2 80 28) < v1 then AW g ρ (QV Q) (d + 1) mX12_measures 62 [(0, .ref 80), (3, .long v2)] [.int 0] ρ (setL S2 80 22 ((S2.2 80 22) + v2)) else AW g ρ (QV Q) (d + 1) mX12_measures 62 [(0, .ref 80), (3, .long v2)] [.int 1] ρ (setL S2 80 22 ((S2.2 80 22) + v2)) else if v1 < (S2.2 80 28) then AW g ρ (QV Q) (d + 1) mX12_measures 62 [(0, .ref 80), (3, .long v2)] [.int 0] ρ (setL S2 80 22 ((S2.2 80 22) + v2)) else AW g ρ (QV Q) (d + 1) mX12_measures 62 [(0, .ref 80), (3, .long v2)] [.int 1] ρ (setL S2 80 22 ((S2.2 80 22) + v2))))) : CALLv g (d + 1) mX12_measures [.ref 80] ρ ρ S Q := by
  refine CALL.of mdX12_measures.2.2.2.2 (Nat.le_of_ble_eq_true rfl) (Nat.le_refl _) (Nat.le_refl _) ?_
  show AW g ρ (QV Q) (d + 1) mX12_measures 0 [(0, .ref 80)] [] ρ S
  refine AW_aload_n 0 (n := 0) rfl dX12_measures_0 rfl ?_
  refine AW_aload_n 0 (n := 0) rfl dX12_measures_1 rfl ?_
  refine AW_get dX12_measures_2 flX12_231 (Nat.le_of_ble_eq_true rfl) (okn hρ (Nat.le_of_ble_eq_true rfl)) rfl (v := .int (S.1 80 27)) (fun _ => rfl) ?_
  refine AW_callVl (M := mX12_measures) (pc := 5) (As := [.int (S.1 80 27)]) (ρ1 := ρ) (st := []) dX12_measures_5 mdX12_measureOf rfl mlX12_234 imX12_measureOf seX12_measureOf (rcv_of (q := (RX12, TX12, 40)) (Nat.le_of_ble_eq_true rfl) (okn hρ (Nat.le_of_ble_eq_true rfl)) rfl rfl) ⟨rfl, npX12_measureOf⟩ (Nat.le_of_ble_eq_true rfl) (Nat.le_refl _) (Nat.le_refl _) rfl (CALLl.mono h (fun v1 S1 _ h => ?_))
  refine AW_lstore_n (n := 1) (i := 1) rfl dX12_measures_8 (Nat.le_of_ble_eq_true rfl) rfl ?_
  refine AW_aload_n 1 (n := 0) rfl dX12_measures_9 rfl ?_
  refine AW_callVl (M := mX12_measures) (pc := 10) (As := []) (ρ1 := ρ) (st := []) dX12_measures_10 mdX12_weightOf rfl mlX12_212 imX12_weightOf seX12_weightOf (rcv_of (q := (RX12, TX12, 40)) (Nat.le_of_ble_eq_true rfl) (okn hρ (Nat.le_of_ble_eq_true rfl)) rfl rfl) ⟨rfl, npX12_weightOf⟩ (Nat.le_of_ble_eq_true rfl) (Nat.le_refl _) (Nat.le_refl _) rfl (CALLl.mono h (fun v2 S2 _ h => ?_))
  refine AW_lstore_n (n := 3) (i := 3) rfl dX12_measures_13 (Nat.le_of_ble_eq_true rfl) rfl ?_
  refine AW_aload_n 2 (n := 0) rfl dX12_measures_14 rfl ?_
  refine AW_dup dX12_measures_15 rfl ?_
  refine AW_get dX12_measures_16 flX12_216 (Nat.le_of_ble_eq_true rfl) (okn hρ (Nat.le_of_ble_eq_true rfl)) rfl (v := .long (S2.2 80 22)) (fun _ => rfl) ?_
  refine AW_lload_n 0 (n := 3) rfl dX12_measures_19 rfl ?_
  refine AW_ladd dX12_measures_20 ?_
  refine AW_put dX12_measures_21 flX12_216 fp_10_22 (Nat.le_of_ble_eq_true rfl) (okn hρ (Nat.le_of_ble_eq_true rfl)) rfl (fun _ => rfl) (fun _ => rfl) rfl rfl rfl rfl (Fr.setL _ _ _ rfl) (fun _ _ => rfl) (ρ2 := ρ) (S2 := setL S2 80 22 ((S2.2 80 22) + v2)) (fun _ => rfl) (fun _ _ _ q1 _ => fvL_o q1) (hF _ (List.mem_of_getElem? (i := 0) rfl)) ?_
  refine AW_aload_n 2 (n := 0) rfl dX12_measures_24 rfl ?_
  refine AW_get dX12_measures_25 flX12_231 (Nat.le_of_ble_eq_true rfl) (okn hρ (Nat.le_of_ble_eq_true rfl)) rfl (v := .int (S2.1 80 27)) (fun _ => rfl) ?_
  refine AW_if_ne dX12_measures_28 rfl (iteM h (fun h => ?_) (fun h => ?_))
  · refine AW_lload_n 1 (n := 1) rfl dX12_measures_31 rfl ?_
    refine AW_aload_n 2 (n := 0) rfl dX12_measures_32 rfl ?_
    refine AW_get dX12_measures_33 flX12_238 (Nat.le_of_ble_eq_true rfl) (okn hρ (Nat.le_of_ble_eq_true rfl)) rfl (v := .long (S2.2 80 28)) (fun _ => rfl) ?_
    refine AW_lc_gt dX12_measures_36 dX12_measures_37 rfl (iteM h (fun h => ?_) (fun h => ?_))
    · refine AW_iconst (v := 0) dX12_measures_44 rfl ?_
      refine AW_goto (tgt := 62) dX12_measures_45 rfl ?_
      exact AW.sub [2, 0] rfl h
    · refine AW_iconst (v := 1) dX12_measures_40 rfl ?_
      refine AW_goto (tgt := 62) dX12_measures_41 rfl ?_
      exact AW.sub [2, 0] rfl h
  · refine AW_lload_n 1 (n := 1) rfl dX12_measures_48 rfl ?_
    refine AW_aload_n 2 (n := 0) rfl dX12_measures_49 rfl ?_
    refine AW_get dX12_measures_50 flX12_238 (Nat.le_of_ble_eq_true rfl) (okn hρ (Nat.le_of_ble_eq_true rfl)) rfl (v := .long (S2.2 80 28)) (fun _ => rfl) ?_
    refine AW_lc_lt dX12_measures_53 dX12_measures_54 rfl (iteM h (fun h => ?_) (fun h => ?_))
    · refine AW_iconst (v := 0) dX12_measures_61 rfl ?_
      exact AW.sub [2, 0] rfl h
    · refine AW_iconst (v := 1) dX12_measures_57 rfl ?_
      refine AW_goto (tgt := 62) dX12_measures_58 rfl ?_
      exact AW.sub [2, 0] rfl h
set_option maxRecDepth 20000 in
theorem eX12_lists_19 {g : GX} {Q : St → Prop} {d : Nat} {ρ : Rs} {S : St} (hρ : Ok ρ) {x1 : Int32} (hF : ∀ k ∈ ([89] : List Nat), gF g k) (h : CALLi g d mX12_many [.ref 80] ρ ρ S (fun v1 S1 => if v1 ≤ x1 then Q S1 else vp_in x1 16 ∧ (vp_in ((16 * ((S1.2 80 15).toInt32)) + x1) 16000 ∧ (AW g ρ (QV Q) (d + 1) mX12_lists 19 [(0, .ref 80), (1, .int (x1 + 1))] [] ρ (setI S1 89 (((16 * ((S1.2 80 15).toInt32)) + x1).toNatClampNeg) (S1.1 85 x1.toNatClampNeg)))))) : AW g ρ (QV Q) (d + 1) mX12_lists 19 [(0, .ref 80), (1, .int x1)] [] ρ S := by
  refine AW_iload_n 1 (n := 1) rfl dX12_lists_19 rfl ?_
  refine AW_aload_n 0 (n := 0) rfl dX12_lists_20 rfl ?_
  refine AW_callVi (M := mX12_lists) (pc := 21) (As := []) (ρ1 := ρ) (st := [.int x1]) dX12_lists_21 mdX12_many rfl mlX12_150 imX12_many seX12_many (rcv_of (q := (RX12, TX12, 40)) (Nat.le_of_ble_eq_true rfl) (okn hρ (Nat.le_of_ble_eq_true rfl)) rfl rfl) ⟨rfl, npX12_many⟩ (Nat.le_of_ble_eq_true rfl) (Nat.le_refl _) (Nat.le_refl _) rfl (CALLi.mono h (fun v1 S1 _ h => ?_))
  refine AW_icmp_ge dX12_lists_24 rfl (iteM h (fun h => ?_) (fun h => ?_))
  · exact AW_retv dX12_lists_54 rfl h
  · refine AW_aload_n 0 (n := 0) rfl dX12_lists_27 rfl ?_
    refine AW_get dX12_lists_28 flX12_39 (Nat.le_of_ble_eq_true rfl) (okn hρ (Nat.le_of_ble_eq_true rfl)) rfl (v := .ref 89) (fvR (okR hρ 59 rfl)) ?_
    refine AW_bipush (v := 16) dX12_lists_31 rfl ?_
    refine AW_aload_n 0 (n := 0) rfl dX12_lists_33 rfl ?_
    refine AW_get dX12_lists_34 flX12_175 (Nat.le_of_ble_eq_true rfl) (okn hρ (Nat.le_of_ble_eq_true rfl)) rfl (v := .long (S1.2 80 15)) (fun _ => rfl) ?_
    refine AW_l2i dX12_lists_37 ?_
    refine AW_imul dX12_lists_38 ?_
    refine AW_iload_n 1 (n := 1) rfl dX12_lists_39 rfl ?_
    refine AW_iadd dX12_lists_40 ?_
    refine AW_aload_n 0 (n := 0) rfl dX12_lists_41 rfl ?_
    refine AW_get dX12_lists_42 flX12_26 (Nat.le_of_ble_eq_true rfl) (okn hρ (Nat.le_of_ble_eq_true rfl)) rfl (v := .ref 85) (fvR (okR hρ 55 rfl)) ?_
    refine AW_iload_n 1 (n := 1) rfl dX12_lists_45 rfl ?_
    refine AW_iaload dX12_lists_46 (Nat.le_of_ble_eq_true rfl) (okn hρ (Nat.le_of_ble_eq_true rfl)) rfl h.1 (v := S1.1 85 x1.toNatClampNeg) rfl ?_
    replace h := h.2
    refine AW_iastore dX12_lists_47 (Nat.le_of_ble_eq_true rfl) (okn hρ (Nat.le_of_ble_eq_true rfl)) rfl h.1 (hF _ (List.mem_of_getElem? (i := 0) rfl)) (jx := ((16 * ((S1.2 80 15).toInt32)) + x1).toNatClampNeg) rfl ?_
    replace h := h.2
    refine AW_iinc 1 (v := x1 + 1) dX12_lists_48 rfl rfl (Nat.le_of_ble_eq_true rfl) rfl ?_
    refine AW_goto (tgt := 19) dX12_lists_51 rfl ?_
    exact AW.sub [1, 0] rfl h
set_option maxRecDepth 20000 in
theorem eX12_lists {g : GX} {Q : St → Prop} {d : Nat} {ρ : Rs} {S : St} (hρ : Ok ρ) (hF : ∀ k ∈ ([80] : List Nat), gF g k) (h : if (S.2 80 15) = 1000 then Q (setI S 80 14 1) else AW g ρ (QV Q) (d + 1) mX12_lists 19 [(0, .ref 80), (1, .int 0)] [] ρ S) : CALLv g (d + 1) mX12_lists [.ref 80] ρ ρ S Q := by
  refine CALL.of mdX12_lists.2.2.2.2 (Nat.le_of_ble_eq_true rfl) (Nat.le_refl _) (Nat.le_refl _) ?_
  show AW g ρ (QV Q) (d + 1) mX12_lists 0 [(0, .ref 80)] [] ρ S
  refine AW_aload_n 0 (n := 0) rfl dX12_lists_0 rfl ?_
  refine AW_get dX12_lists_1 flX12_175 (Nat.le_of_ble_eq_true rfl) (okn hρ (Nat.le_of_ble_eq_true rfl)) rfl (v := .long (S.2 80 15)) (fun _ => rfl) ?_
  refine AW_ldc2 (v := 1000) dX12_lists_4 kcX12_247 ?_
  refine AW_lc_ne dX12_lists_7 dX12_lists_8 rfl (iteM h (fun h => ?_) (fun h => ?_))
  · refine AW_aload_n 0 (n := 0) rfl dX12_lists_11 rfl ?_
    refine AW_iconst (v := 1) dX12_lists_12 rfl ?_
    refine AW_put dX12_lists_13 flX12_172 fp_10_14 (Nat.le_of_ble_eq_true rfl) (okn hρ (Nat.le_of_ble_eq_true rfl)) rfl (fun _ => Bz.nar Bz1) (fun _ => Bz.fits Bz1) rfl rfl rfl rfl (Fr.setI _ _ _ rfl) (fun _ _ => rfl) (ρ2 := ρ) (S2 := setI S 80 14 1) (fun _ => rfl) (fun _ _ _ q1 _ => fvI_o q1) (hF _ (List.mem_of_getElem? (i := 0) rfl)) ?_
    exact AW_retv dX12_lists_16 rfl h
  · refine AW_iconst (v := 0) dX12_lists_17 rfl ?_
    refine AW_istore_n (n := 1) (i := 1) rfl dX12_lists_18 (Nat.le_of_ble_eq_true rfl) rfl ?_
    exact AW.sub [1, 0] rfl h
set_option maxRecDepth 20000 in
theorem eX12_waysOf_5 {g : GX} {Q : Int64 → St → Prop} {d : Nat} {ρ : Rs} {S : St} (hρ : Ok ρ) {x0 : Int32} {x1 : Int32} {x2 : Int64} {x4 : Int32} (h : if x1 < x4 then Q x2 S else ¬ x4.toInt64 = (0 : Int64) ∧ (AW g ρ (QJ Q) d mX12_waysOf 5 [(0, .int x0), (1, .int x1), (2, .long ((x2 * (((x0 - x1) + x4).toInt64)) / x4.toInt64)), (4, .int (x4 + 1))] [] ρ S)) : AW g ρ (QJ Q) d mX12_waysOf 5 [(0, .int x0), (1, .int x1), (2, .long x2), (4, .int x4)] [] ρ S := by
  refine AW_iload 3 dX12_waysOf_5 rfl ?_
  refine AW_iload_n 1 (n := 1) rfl dX12_waysOf_7 rfl ?_
  refine AW_icmp_gt dX12_waysOf_8 rfl (iteM h (fun h => ?_) (fun h => ?_))
  · refine AW_lload_n 2 (n := 2) rfl dX12_waysOf_31 rfl ?_
    exact AW_retl dX12_waysOf_32 rfl h
  · refine AW_lload_n 2 (n := 2) rfl dX12_waysOf_11 rfl ?_
    refine AW_iload_n 0 (n := 0) rfl dX12_waysOf_12 rfl ?_
    refine AW_iload_n 1 (n := 1) rfl dX12_waysOf_13 rfl ?_
    refine AW_isub dX12_waysOf_14 ?_
    refine AW_iload 3 dX12_waysOf_15 rfl ?_
    refine AW_iadd dX12_waysOf_17 ?_
    refine AW_i2l dX12_waysOf_18 ?_
    refine AW_lmul dX12_waysOf_19 ?_
    refine AW_iload 3 dX12_waysOf_20 rfl ?_
    refine AW_i2l dX12_waysOf_22 ?_
    refine AW_ldiv dX12_waysOf_23 h.1 ?_
    replace h := h.2
    refine AW_lstore_n (n := 2) (i := 2) rfl dX12_waysOf_24 (Nat.le_of_ble_eq_true rfl) rfl ?_
    refine AW_iinc 3 (v := x4 + 1) dX12_waysOf_25 rfl rfl (Nat.le_of_ble_eq_true rfl) rfl ?_
    refine AW_goto (tgt := 5) dX12_waysOf_28 rfl ?_
    exact AW.sub [2, 3, 1, 0] rfl h
set_option maxRecDepth 20000 in
theorem eX12_waysOf {g : GX} {Q : Int64 → St → Prop} {d : Nat} {ρ : Rs} {S : St} (hρ : Ok ρ) {x0 : Int32} {x1 : Int32} (h : AW g ρ (QJ Q) d mX12_waysOf 5 [(0, .int x0), (1, .int x1), (2, .long 1), (4, .int 1)] [] ρ S) : CALLl g d mX12_waysOf [.int x0, .int x1] ρ ρ S Q := by
  refine CALL.of mdX12_waysOf.2.2.2.2 (Nat.le_of_ble_eq_true rfl) (Nat.le_refl _) (Nat.le_refl _) ?_
  show AW g ρ (QJ Q) d mX12_waysOf 0 [(0, .int x0), (1, .int x1)] [] ρ S
  refine AW_lconst (v := 1) dX12_waysOf_0 rfl ?_
  refine AW_lstore_n (n := 2) (i := 2) rfl dX12_waysOf_1 (Nat.le_of_ble_eq_true rfl) rfl ?_
  refine AW_iconst (v := 1) dX12_waysOf_2 rfl ?_
  refine AW_istore dX12_waysOf_3 (Nat.le_of_ble_eq_true rfl) rfl ?_
  exact AW.sub [2, 3, 1, 0] rfl h
set_option maxRecDepth 20000 in
theorem eX12_weightOf_20 {g : GX} {Q : Int64 → St → Prop} {d : Nat} {ρ : Rs} {S : St} (hρ : Ok ρ) {x1 : Int64} {x3 : Int32} {x4 : Int32} {x5 : Int32} (h : if (S.1 81 1) ≤ x5 then AW g ρ (QJ Q) (d + 1) mX12_weightOf 4 [(0, .ref 80), (1, .long x1), (3, .int (x3 + 1))] [] ρ S else CALLi g d mX12_place [.ref 80, .int x3, .int x5] ρ ρ S (fun v1 S1 => vp_in v1 16 ∧ (CALLi g d mX12_place [.ref 80, .int x3, .int x5] ρ ρ S1 (fun v2 S2 => vp_in v2 16 ∧ (CALLl g d mX12_waysOf [.int (x4 + (S1.1 85 v1.toNatClampNeg)), .int (S2.1 85 v2.toNatClampNeg)] ρ ρ S2 (fun v3 S3 => AW g ρ (QJ Q) (d + 1) mX12_weightOf 20 [(0, .ref 80), (1, .long (x1 * v3)), (3, .int x3), (4, .int (x4 + (S1.1 85 v1.toNatClampNeg))), (5, .int (x5 + 1))] [] ρ S3)))))) : AW g ρ (QJ Q) (d + 1) mX12_weightOf 20 [(0, .ref 80), (1, .long x1), (3, .int x3), (4, .int x4), (5, .int x5)] [] ρ S := by
  refine AW_iload 4 dX12_weightOf_20 rfl ?_
  refine AW_aload_n 0 (n := 0) rfl dX12_weightOf_22 rfl ?_
  refine AW_get dX12_weightOf_23 flX12_9 (Nat.le_of_ble_eq_true rfl) (okn hρ (Nat.le_of_ble_eq_true rfl)) rfl (v := .ref 81) (fvR (okR hρ 51 rfl)) ?_
  refine AW_iconst (v := 1) dX12_weightOf_26 rfl ?_
  refine AW_iaload dX12_weightOf_27 (Nat.le_of_ble_eq_true rfl) (okn hρ (Nat.le_of_ble_eq_true rfl)) rfl (show ¬ (_ ∨ _) by decide) (v := S.1 81 1) rfl ?_
  refine AW_icmp_ge dX12_weightOf_28 rfl (iteM h (fun h => ?_) (fun h => ?_))
  · refine AW_iinc 2 (v := x3 + 1) dX12_weightOf_74 rfl rfl (Nat.le_of_ble_eq_true rfl) rfl ?_
    refine AW_goto (tgt := 4) dX12_weightOf_77 rfl ?_
    exact AW.sub [1, 2, 0] rfl h
  · refine AW_iload 3 dX12_weightOf_31 rfl ?_
    refine AW_aload_n 0 (n := 0) rfl dX12_weightOf_33 rfl ?_
    refine AW_get dX12_weightOf_34 flX12_26 (Nat.le_of_ble_eq_true rfl) (okn hρ (Nat.le_of_ble_eq_true rfl)) rfl (v := .ref 85) (fvR (okR hρ 55 rfl)) ?_
    refine AW_aload_n 0 (n := 0) rfl dX12_weightOf_37 rfl ?_
    refine AW_iload_n 2 (n := 3) rfl dX12_weightOf_38 rfl ?_
    refine AW_iload 4 dX12_weightOf_39 rfl ?_
    refine AW_callVi (M := mX12_weightOf) (pc := 41) (As := [.int x3, .int x5]) (ρ1 := ρ) (st := [.ref 85, .int x4]) dX12_weightOf_41 mdX12_place rfl mlX12_133 imX12_place seX12_place (rcv_of (q := (RX12, TX12, 40)) (Nat.le_of_ble_eq_true rfl) (okn hρ (Nat.le_of_ble_eq_true rfl)) rfl rfl) ⟨rfl, npX12_place⟩ (Nat.le_of_ble_eq_true rfl) (Nat.le_refl _) (Nat.le_refl _) rfl (CALLi.mono h (fun v1 S1 _ h => ?_))
    refine AW_iaload dX12_weightOf_44 (Nat.le_of_ble_eq_true rfl) (okn hρ (Nat.le_of_ble_eq_true rfl)) rfl h.1 (v := S1.1 85 v1.toNatClampNeg) rfl ?_
    replace h := h.2
    refine AW_iadd dX12_weightOf_45 ?_
    refine AW_istore dX12_weightOf_46 (Nat.le_of_ble_eq_true rfl) rfl ?_
    refine AW_lload_n 2 (n := 1) rfl dX12_weightOf_48 rfl ?_
    refine AW_iload 0 dX12_weightOf_49 rfl ?_
    refine AW_aload_n 1 (n := 0) rfl dX12_weightOf_51 rfl ?_
    refine AW_get dX12_weightOf_52 flX12_26 (Nat.le_of_ble_eq_true rfl) (okn hρ (Nat.le_of_ble_eq_true rfl)) rfl (v := .ref 85) (fvR (okR hρ 55 rfl)) ?_
    refine AW_aload_n 1 (n := 0) rfl dX12_weightOf_55 rfl ?_
    refine AW_iload_n 3 (n := 3) rfl dX12_weightOf_56 rfl ?_
    refine AW_iload 4 dX12_weightOf_57 rfl ?_
    refine AW_callVi (M := mX12_weightOf) (pc := 59) (As := [.int x3, .int x5]) (ρ1 := ρ) (st := [.ref 85, .int (x4 + (S1.1 85 v1.toNatClampNeg)), .long x1]) dX12_weightOf_59 mdX12_place rfl mlX12_133 imX12_place seX12_place (rcv_of (q := (RX12, TX12, 40)) (Nat.le_of_ble_eq_true rfl) (okn hρ (Nat.le_of_ble_eq_true rfl)) rfl rfl) ⟨rfl, npX12_place⟩ (Nat.le_of_ble_eq_true rfl) (Nat.le_refl _) (Nat.le_refl _) rfl (CALLi.mono h (fun v2 S2 _ h => ?_))
    refine AW_iaload dX12_weightOf_62 (Nat.le_of_ble_eq_true rfl) (okn hρ (Nat.le_of_ble_eq_true rfl)) rfl h.1 (v := S2.1 85 v2.toNatClampNeg) rfl ?_
    replace h := h.2
    refine AW_callSl (M := mX12_weightOf) (pc := 63) (As := [.int (x4 + (S1.1 85 v1.toNatClampNeg)), .int (S2.1 85 v2.toNatClampNeg)]) (ρ1 := ρ) (st := [.long x1]) dX12_weightOf_63 mdX12_waysOf mlX12_249 smX12_waysOf ⟨rfl, npX12_waysOf⟩ (Nat.le_of_ble_eq_true rfl) (Nat.le_refl _) (Nat.le_refl _) rfl (CALLl.mono h (fun v3 S3 _ h => ?_))
    refine AW_lmul dX12_weightOf_66 ?_
    refine AW_lstore_n (n := 1) (i := 1) rfl dX12_weightOf_67 (Nat.le_of_ble_eq_true rfl) rfl ?_
    refine AW_iinc 4 (v := x5 + 1) dX12_weightOf_68 rfl rfl (Nat.le_of_ble_eq_true rfl) rfl ?_
    refine AW_goto (tgt := 20) dX12_weightOf_71 rfl ?_
    exact AW.sub [3, 1, 4, 2, 0] rfl h
set_option maxRecDepth 20000 in
theorem eX12_weightOf_4 {g : GX} {Q : Int64 → St → Prop} {d : Nat} {ρ : Rs} {S : St} (hρ : Ok ρ) {x1 : Int64} {x3 : Int32} (h : if (S.1 81 0) ≤ x3 then Q x1 S else AW g ρ (QJ Q) (d + 1) mX12_weightOf 20 [(0, .ref 80), (1, .long x1), (3, .int x3), (4, .int 0), (5, .int 0)] [] ρ S) : AW g ρ (QJ Q) (d + 1) mX12_weightOf 4 [(0, .ref 80), (1, .long x1), (3, .int x3)] [] ρ S := by
  refine AW_iload_n 2 (n := 3) rfl dX12_weightOf_4 rfl ?_
  refine AW_aload_n 0 (n := 0) rfl dX12_weightOf_5 rfl ?_
  refine AW_get dX12_weightOf_6 flX12_9 (Nat.le_of_ble_eq_true rfl) (okn hρ (Nat.le_of_ble_eq_true rfl)) rfl (v := .ref 81) (fvR (okR hρ 51 rfl)) ?_
  refine AW_iconst (v := 0) dX12_weightOf_9 rfl ?_
  refine AW_iaload dX12_weightOf_10 (Nat.le_of_ble_eq_true rfl) (okn hρ (Nat.le_of_ble_eq_true rfl)) rfl (show ¬ (_ ∨ _) by decide) (v := S.1 81 0) rfl ?_
  refine AW_icmp_ge dX12_weightOf_11 rfl (iteM h (fun h => ?_) (fun h => ?_))
  · refine AW_lload_n 1 (n := 1) rfl dX12_weightOf_80 rfl ?_
    exact AW_retl dX12_weightOf_81 rfl h
  · refine AW_iconst (v := 0) dX12_weightOf_14 rfl ?_
    refine AW_istore dX12_weightOf_15 (Nat.le_of_ble_eq_true rfl) rfl ?_
    refine AW_iconst (v := 0) dX12_weightOf_17 rfl ?_
    refine AW_istore dX12_weightOf_18 (Nat.le_of_ble_eq_true rfl) rfl ?_
    exact AW.sub [2, 3, 4, 1, 0] rfl h
set_option maxRecDepth 20000 in
theorem eX12_weightOf {g : GX} {Q : Int64 → St → Prop} {d : Nat} {ρ : Rs} {S : St} (hρ : Ok ρ) (h : AW g ρ (QJ Q) (d + 1) mX12_weightOf 4 [(0, .ref 80), (1, .long 1), (3, .int 0)] [] ρ S) : CALLl g (d + 1) mX12_weightOf [.ref 80] ρ ρ S Q := by
  refine CALL.of mdX12_weightOf.2.2.2.2 (Nat.le_of_ble_eq_true rfl) (Nat.le_refl _) (Nat.le_refl _) ?_
  show AW g ρ (QJ Q) (d + 1) mX12_weightOf 0 [(0, .ref 80)] [] ρ S
  refine AW_lconst (v := 1) dX12_weightOf_0 rfl ?_
  refine AW_lstore_n (n := 1) (i := 1) rfl dX12_weightOf_1 (Nat.le_of_ble_eq_true rfl) rfl ?_
  refine AW_iconst (v := 0) dX12_weightOf_2 rfl ?_
  refine AW_istore_n (n := 3) (i := 3) rfl dX12_weightOf_3 (Nat.le_of_ble_eq_true rfl) rfl ?_
  exact AW.sub [2, 1, 0] rfl h
set_option maxRecDepth 20000 in
theorem eX12_measureOf_14 {g : GX} {Q : Int64 → St → Prop} {d : Nat} {ρ : Rs} {S : St} (hρ : Ok ρ) {x1 : Int32} {x2 : Int64} {x4 : Int32} (h : CALLi g d mX12_many [.ref 80] ρ ρ S (fun v1 S1 => if v1 ≤ x4 then Q x2 S1 else ¬ (S1.1 81 1) = (0 : Int32) ∧ (¬ (S1.1 81 1) = (0 : Int32) ∧ (vp_in x4 16 ∧ (if x1 = 1 then CALLi g d mX12_sumOfRow [.ref 80, .int (x4 / (S1.1 81 1))] ρ ρ S1 (fun v2 S2 => if v2 ≤ 0 then AW g ρ (QJ Q) (d + 1) mX12_measureOf 14 [(0, .ref 80), (1, .int x1), (2, .long (x2 + 0)), (4, .int (x4 + 1))] [] ρ S2 else CALLi g d mX12_sumOfColumn [.ref 80, .int (x4 - x4 / (S1.1 81 1) * (S1.1 81 1))] ρ ρ S2 (fun v3 S3 => if v3 ≤ 0 then AW g ρ (QJ Q) (d + 1) mX12_measureOf 14 [(0, .ref 80), (1, .int x1), (2, .long (x2 + 0)), (4, .int (x4 + 1))] [] ρ S3 else CALLl g d mX12_product [.ref 80] ρ ρ S3 (fun v4 S4 => CALLi g d mX12_sumOfRow [.ref 80, .int (x4 / (S1.1 81 1))] ρ ρ S4 (fun v5 S5 => CALLi g d mX12_sumOfColumn [.ref 80, .int (x4 - x4 / (S1.1 81 1) * (S1.1 81 1))] ρ ρ S5 (fun v6 S6 => ¬ ((v5 * v6).toInt64) = (0 : Int64) ∧ (AW g ρ (QJ Q) (d + 1) mX12_measureOf 14 [(0, .ref 80), (1, .int x1), (2, .long (x2 + (((((S1.1 85 x4.toNatClampNeg).toInt64) * ((S1.1 85 x4.toNatClampNeg).toInt64)) * v4) / ((v5 * v6).toInt64)))), (4, .int (x4 + 1))] [] ρ S6)))))) else if x1 = 2 then AW g ρ (QJ Q) (d + 1) mX12_measureOf 14 [(0, .ref 80), (1, .int x1), (2, .long (x2 + ((((S1.1 85 x4.toNatClampNeg).toInt64) * (((x4 / (S1.1 81 1)) + 1).toInt64)) * (((x4 - x4 / (S1.1 81 1) * (S1.1 81 1)) + 1).toInt64)))), (4, .int (x4 + 1))] [] ρ S1 else AW g ρ (QJ Q) (d + 1) mX12_measureOf 14 [(0, .ref 80), (1, .int x1), (2, .long (if ((S1.1 85 x4.toNatClampNeg).toInt64) < x2 then x2 else ((S1.1 85 x4.toNatClampNeg).toInt64))), (4, .int (x4 + 1))] [] ρ S1))))) : AW g ρ (QJ Q) (d + 1) mX12_measureOf 14 [(0, .ref 80), (1, .int x1), (2, .long x2), (4, .int x4)] [] ρ S := by
  refine AW_iload 3 dX12_measureOf_14 rfl ?_
  refine AW_aload_n 0 (n := 0) rfl dX12_measureOf_16 rfl ?_
  refine AW_callVi (M := mX12_measureOf) (pc := 17) (As := []) (ρ1 := ρ) (st := [.int x4]) dX12_measureOf_17 mdX12_many rfl mlX12_150 imX12_many seX12_many (rcv_of (q := (RX12, TX12, 40)) (Nat.le_of_ble_eq_true rfl) (okn hρ (Nat.le_of_ble_eq_true rfl)) rfl rfl) ⟨rfl, npX12_many⟩ (Nat.le_of_ble_eq_true rfl) (Nat.le_refl _) (Nat.le_refl _) rfl (CALLi.mono h (fun v1 S1 _ h => ?_))
  refine AW_icmp_ge dX12_measureOf_20 rfl (iteM h (fun h => ?_) (fun h => ?_))
  · refine AW_lload_n 2 (n := 2) rfl dX12_measureOf_151 rfl ?_
    exact AW_retl dX12_measureOf_152 rfl h
  · refine AW_iload 3 dX12_measureOf_23 rfl ?_
    refine AW_aload_n 0 (n := 0) rfl dX12_measureOf_25 rfl ?_
    refine AW_get dX12_measureOf_26 flX12_9 (Nat.le_of_ble_eq_true rfl) (okn hρ (Nat.le_of_ble_eq_true rfl)) rfl (v := .ref 81) (fvR (okR hρ 51 rfl)) ?_
    refine AW_iconst (v := 1) dX12_measureOf_29 rfl ?_
    refine AW_iaload dX12_measureOf_30 (Nat.le_of_ble_eq_true rfl) (okn hρ (Nat.le_of_ble_eq_true rfl)) rfl (show ¬ (_ ∨ _) by decide) (v := S1.1 81 1) rfl ?_
    refine AW_idiv dX12_measureOf_31 h.1 ?_
    replace h := h.2
    refine AW_istore dX12_measureOf_32 (Nat.le_of_ble_eq_true rfl) rfl ?_
    refine AW_iload 4 dX12_measureOf_34 rfl ?_
    refine AW_aload_n 1 (n := 0) rfl dX12_measureOf_36 rfl ?_
    refine AW_get dX12_measureOf_37 flX12_9 (Nat.le_of_ble_eq_true rfl) (okn hρ (Nat.le_of_ble_eq_true rfl)) rfl (v := .ref 81) (fvR (okR hρ 51 rfl)) ?_
    refine AW_iconst (v := 1) dX12_measureOf_40 rfl ?_
    refine AW_iaload dX12_measureOf_41 (Nat.le_of_ble_eq_true rfl) (okn hρ (Nat.le_of_ble_eq_true rfl)) rfl (show ¬ (_ ∨ _) by decide) (v := S1.1 81 1) rfl ?_
    refine AW_irem dX12_measureOf_42 h.1 ?_
    replace h := h.2
    refine AW_istore dX12_measureOf_43 (Nat.le_of_ble_eq_true rfl) rfl ?_
    refine AW_aload_n 2 (n := 0) rfl dX12_measureOf_45 rfl ?_
    refine AW_get dX12_measureOf_46 flX12_26 (Nat.le_of_ble_eq_true rfl) (okn hρ (Nat.le_of_ble_eq_true rfl)) rfl (v := .ref 85) (fvR (okR hρ 55 rfl)) ?_
    refine AW_iload 5 dX12_measureOf_49 rfl ?_
    refine AW_iaload dX12_measureOf_51 (Nat.le_of_ble_eq_true rfl) (okn hρ (Nat.le_of_ble_eq_true rfl)) rfl h.1 (v := S1.1 85 x4.toNatClampNeg) rfl ?_
    replace h := h.2
    refine AW_i2l dX12_measureOf_52 ?_
    refine AW_lstore dX12_measureOf_53 (Nat.le_of_ble_eq_true rfl) rfl ?_
    refine AW_iload_n 4 (n := 1) rfl dX12_measureOf_55 rfl ?_
    refine AW_iconst (v := 1) dX12_measureOf_56 rfl ?_
    refine AW_icmp_ne dX12_measureOf_57 rfl (iteM h (fun h => ?_) (fun h => ?_))
    · refine AW_lload_n 5 (n := 2) rfl dX12_measureOf_60 rfl ?_
      refine AW_aload_n 3 (n := 0) rfl dX12_measureOf_61 rfl ?_
      refine AW_iload 2 dX12_measureOf_62 rfl ?_
      refine AW_callVi (M := mX12_measureOf) (pc := 64) (As := [.int (x4 / (S1.1 81 1))]) (ρ1 := ρ) (st := [.long x2]) dX12_measureOf_64 mdX12_sumOfRow rfl mlX12_163 imX12_sumOfRow seX12_sumOfRow (rcv_of (q := (RX12, TX12, 40)) (Nat.le_of_ble_eq_true rfl) (okn hρ (Nat.le_of_ble_eq_true rfl)) rfl rfl) ⟨rfl, npX12_sumOfRow⟩ (Nat.le_of_ble_eq_true rfl) (Nat.le_refl _) (Nat.le_refl _) rfl (CALLi.mono h (fun v2 S2 _ h => ?_))
      refine AW_if_le dX12_measureOf_67 rfl (iteM h (fun h => ?_) (fun h => ?_))
      · refine AW_lconst (v := 0) dX12_measureOf_107 rfl ?_
        refine AW_ladd dX12_measureOf_108 ?_
        refine AW_lstore_n (n := 2) (i := 2) rfl dX12_measureOf_109 (Nat.le_of_ble_eq_true rfl) rfl ?_
        refine AW_goto (tgt := 145) dX12_measureOf_110 rfl ?_
        refine AW_iinc 6 (v := x4 + 1) dX12_measureOf_145 rfl rfl (Nat.le_of_ble_eq_true rfl) rfl ?_
        refine AW_goto (tgt := 14) dX12_measureOf_148 rfl ?_
        exact AW.sub [5, 6, 1, 0] rfl h
      · refine AW_aload_n 3 (n := 0) rfl dX12_measureOf_70 rfl ?_
        refine AW_iload 1 dX12_measureOf_71 rfl ?_
        refine AW_callVi (M := mX12_measureOf) (pc := 73) (As := [.int (x4 - x4 / (S1.1 81 1) * (S1.1 81 1))]) (ρ1 := ρ) (st := [.long x2]) dX12_measureOf_73 mdX12_sumOfColumn rfl mlX12_166 imX12_sumOfColumn seX12_sumOfColumn (rcv_of (q := (RX12, TX12, 40)) (Nat.le_of_ble_eq_true rfl) (okn hρ (Nat.le_of_ble_eq_true rfl)) rfl rfl) ⟨rfl, npX12_sumOfColumn⟩ (Nat.le_of_ble_eq_true rfl) (Nat.le_refl _) (Nat.le_refl _) rfl (CALLi.mono h (fun v3 S3 _ h => ?_))
        refine AW_if_le dX12_measureOf_76 rfl (iteM h (fun h => ?_) (fun h => ?_))
        · refine AW_lconst (v := 0) dX12_measureOf_107 rfl ?_
          refine AW_ladd dX12_measureOf_108 ?_
          refine AW_lstore_n (n := 2) (i := 2) rfl dX12_measureOf_109 (Nat.le_of_ble_eq_true rfl) rfl ?_
          refine AW_goto (tgt := 145) dX12_measureOf_110 rfl ?_
          refine AW_iinc 6 (v := x4 + 1) dX12_measureOf_145 rfl rfl (Nat.le_of_ble_eq_true rfl) rfl ?_
          refine AW_goto (tgt := 14) dX12_measureOf_148 rfl ?_
          exact AW.sub [5, 6, 1, 0] rfl h
        · refine AW_lload 0 dX12_measureOf_79 rfl ?_
          refine AW_lload 0 dX12_measureOf_81 rfl ?_
          refine AW_lmul dX12_measureOf_83 ?_
          refine AW_aload_n 3 (n := 0) rfl dX12_measureOf_84 rfl ?_
          refine AW_callVl (M := mX12_measureOf) (pc := 85) (As := []) (ρ1 := ρ) (st := [.long (((S1.1 85 x4.toNatClampNeg).toInt64) * ((S1.1 85 x4.toNatClampNeg).toInt64)), .long x2]) dX12_measureOf_85 mdX12_product rfl mlX12_253 imX12_product seX12_product (rcv_of (q := (RX12, TX12, 40)) (Nat.le_of_ble_eq_true rfl) (okn hρ (Nat.le_of_ble_eq_true rfl)) rfl rfl) ⟨rfl, npX12_product⟩ (Nat.le_of_ble_eq_true rfl) (Nat.le_refl _) (Nat.le_refl _) rfl (CALLl.mono h (fun v4 S4 _ h => ?_))
          refine AW_lmul dX12_measureOf_88 ?_
          refine AW_aload_n 3 (n := 0) rfl dX12_measureOf_89 rfl ?_
          refine AW_iload 2 dX12_measureOf_90 rfl ?_
          refine AW_callVi (M := mX12_measureOf) (pc := 92) (As := [.int (x4 / (S1.1 81 1))]) (ρ1 := ρ) (st := [.long ((((S1.1 85 x4.toNatClampNeg).toInt64) * ((S1.1 85 x4.toNatClampNeg).toInt64)) * v4), .long x2]) dX12_measureOf_92 mdX12_sumOfRow rfl mlX12_163 imX12_sumOfRow seX12_sumOfRow (rcv_of (q := (RX12, TX12, 40)) (Nat.le_of_ble_eq_true rfl) (okn hρ (Nat.le_of_ble_eq_true rfl)) rfl rfl) ⟨rfl, npX12_sumOfRow⟩ (Nat.le_of_ble_eq_true rfl) (Nat.le_refl _) (Nat.le_refl _) rfl (CALLi.mono h (fun v5 S5 _ h => ?_))
          refine AW_aload_n 3 (n := 0) rfl dX12_measureOf_95 rfl ?_
          refine AW_iload 1 dX12_measureOf_96 rfl ?_
          refine AW_callVi (M := mX12_measureOf) (pc := 98) (As := [.int (x4 - x4 / (S1.1 81 1) * (S1.1 81 1))]) (ρ1 := ρ) (st := [.int v5, .long ((((S1.1 85 x4.toNatClampNeg).toInt64) * ((S1.1 85 x4.toNatClampNeg).toInt64)) * v4), .long x2]) dX12_measureOf_98 mdX12_sumOfColumn rfl mlX12_166 imX12_sumOfColumn seX12_sumOfColumn (rcv_of (q := (RX12, TX12, 40)) (Nat.le_of_ble_eq_true rfl) (okn hρ (Nat.le_of_ble_eq_true rfl)) rfl rfl) ⟨rfl, npX12_sumOfColumn⟩ (Nat.le_of_ble_eq_true rfl) (Nat.le_refl _) (Nat.le_refl _) rfl (CALLi.mono h (fun v6 S6 _ h => ?_))
          refine AW_imul dX12_measureOf_101 ?_
          refine AW_i2l dX12_measureOf_102 ?_
          refine AW_ldiv dX12_measureOf_103 h.1 ?_
          replace h := h.2
          refine AW_goto (tgt := 108) dX12_measureOf_104 rfl ?_
          refine AW_ladd dX12_measureOf_108 ?_
          refine AW_lstore_n (n := 2) (i := 2) rfl dX12_measureOf_109 (Nat.le_of_ble_eq_true rfl) rfl ?_
          refine AW_goto (tgt := 145) dX12_measureOf_110 rfl ?_
          refine AW_iinc 6 (v := x4 + 1) dX12_measureOf_145 rfl rfl (Nat.le_of_ble_eq_true rfl) rfl ?_
          refine AW_goto (tgt := 14) dX12_measureOf_148 rfl ?_
          exact AW.sub [5, 6, 1, 0] rfl h
    · refine AW_iload_n 4 (n := 1) rfl dX12_measureOf_113 rfl ?_
      refine AW_iconst (v := 2) dX12_measureOf_114 rfl ?_
      refine AW_icmp_ne dX12_measureOf_115 rfl (iteM h (fun h => ?_) (fun h => ?_))
      · refine AW_lload_n 5 (n := 2) rfl dX12_measureOf_118 rfl ?_
        refine AW_lload 0 dX12_measureOf_119 rfl ?_
        refine AW_iload 2 dX12_measureOf_121 rfl ?_
        refine AW_iconst (v := 1) dX12_measureOf_123 rfl ?_
        refine AW_iadd dX12_measureOf_124 ?_
        refine AW_i2l dX12_measureOf_125 ?_
        refine AW_lmul dX12_measureOf_126 ?_
        refine AW_iload 1 dX12_measureOf_127 rfl ?_
        refine AW_iconst (v := 1) dX12_measureOf_129 rfl ?_
        refine AW_iadd dX12_measureOf_130 ?_
        refine AW_i2l dX12_measureOf_131 ?_
        refine AW_lmul dX12_measureOf_132 ?_
        refine AW_ladd dX12_measureOf_133 ?_
        refine AW_lstore_n (n := 2) (i := 2) rfl dX12_measureOf_134 (Nat.le_of_ble_eq_true rfl) rfl ?_
        refine AW_goto (tgt := 145) dX12_measureOf_135 rfl ?_
        refine AW_iinc 6 (v := x4 + 1) dX12_measureOf_145 rfl rfl (Nat.le_of_ble_eq_true rfl) rfl ?_
        refine AW_goto (tgt := 14) dX12_measureOf_148 rfl ?_
        exact AW.sub [5, 6, 1, 0] rfl h
      · refine AW_lload_n 5 (n := 2) rfl dX12_measureOf_138 rfl ?_
        refine AW_lload 0 dX12_measureOf_139 rfl ?_
        refine AW_mmaxL (M := mX12_measureOf) (pc := 141) dX12_measureOf_141 mlX12_256 wmmaxLS wMath wmmaxLC (Nat.le_of_ble_eq_true rfl) ?_ (Nat.le_refl _) (Nat.le_refl _)
        refine AW_lstore_n (n := 2) (i := 2) rfl dX12_measureOf_144 (Nat.le_of_ble_eq_true rfl) rfl ?_
        refine AW_iinc 6 (v := x4 + 1) dX12_measureOf_145 rfl rfl (Nat.le_of_ble_eq_true rfl) rfl ?_
        refine AW_goto (tgt := 14) dX12_measureOf_148 rfl ?_
        exact AW.sub [5, 6, 1, 0] rfl h
set_option maxRecDepth 20000 in
theorem eX12_measureOf {g : GX} {Q : Int64 → St → Prop} {d : Nat} {ρ : Rs} {S : St} (hρ : Ok ρ) {x1 : Int32} (h : if x1 = 0 then CALLl g d mX12_weightOf [.ref 80] ρ ρ S (fun v1 S1 => Q v1 S1) else AW g ρ (QJ Q) (d + 1) mX12_measureOf 14 [(0, .ref 80), (1, .int x1), (2, .long 0), (4, .int 0)] [] ρ S) : CALLl g (d + 1) mX12_measureOf [.ref 80, .int x1] ρ ρ S Q := by
  refine CALL.of mdX12_measureOf.2.2.2.2 (Nat.le_of_ble_eq_true rfl) (Nat.le_refl _) (Nat.le_refl _) ?_
  show AW g ρ (QJ Q) (d + 1) mX12_measureOf 0 [(0, .ref 80), (1, .int x1)] [] ρ S
  refine AW_iload_n 1 (n := 1) rfl dX12_measureOf_0 rfl ?_
  refine AW_if_ne dX12_measureOf_1 rfl (iteM h (fun h => ?_) (fun h => ?_))
  · refine AW_aload_n 0 (n := 0) rfl dX12_measureOf_4 rfl ?_
    refine AW_callVl (M := mX12_measureOf) (pc := 5) (As := []) (ρ1 := ρ) (st := []) dX12_measureOf_5 mdX12_weightOf rfl mlX12_212 imX12_weightOf seX12_weightOf (rcv_of (q := (RX12, TX12, 40)) (Nat.le_of_ble_eq_true rfl) (okn hρ (Nat.le_of_ble_eq_true rfl)) rfl rfl) ⟨rfl, npX12_weightOf⟩ (Nat.le_of_ble_eq_true rfl) (Nat.le_refl _) (Nat.le_refl _) rfl (CALLl.mono h (fun v1 S1 _ h => ?_))
    exact AW_retl dX12_measureOf_8 rfl h
  · refine AW_lconst (v := 0) dX12_measureOf_9 rfl ?_
    refine AW_lstore_n (n := 2) (i := 2) rfl dX12_measureOf_10 (Nat.le_of_ble_eq_true rfl) rfl ?_
    refine AW_iconst (v := 0) dX12_measureOf_11 rfl ?_
    refine AW_istore dX12_measureOf_12 (Nat.le_of_ble_eq_true rfl) rfl ?_
    exact AW.sub [2, 3, 1, 0] rfl h
set_option maxRecDepth 20000 in
theorem eX12_product_35 {g : GX} {Q : Int64 → St → Prop} {d : Nat} {ρ : Rs} {S : St} (hρ : Ok ρ) {x1 : Int64} {x3 : Int32} (h : if (S.1 81 1) ≤ x3 then Q x1 S else CALLi g d mX12_sumOfColumn [.ref 80, .int x3] ρ ρ S (fun v1 S1 => AW g ρ (QJ Q) (d + 1) mX12_product 35 [(0, .ref 80), (1, .long (x1 * ((if (1 : Int32) < v1 then v1 else 1).toInt64))), (3, .int (x3 + 1))] [] ρ S1)) : AW g ρ (QJ Q) (d + 1) mX12_product 35 [(0, .ref 80), (1, .long x1), (3, .int x3)] [] ρ S := by
  refine AW_iload_n 2 (n := 3) rfl dX12_product_35 rfl ?_
  refine AW_aload_n 0 (n := 0) rfl dX12_product_36 rfl ?_
  refine AW_get dX12_product_37 flX12_9 (Nat.le_of_ble_eq_true rfl) (okn hρ (Nat.le_of_ble_eq_true rfl)) rfl (v := .ref 81) (fvR (okR hρ 51 rfl)) ?_
  refine AW_iconst (v := 1) dX12_product_40 rfl ?_
  refine AW_iaload dX12_product_41 (Nat.le_of_ble_eq_true rfl) (okn hρ (Nat.le_of_ble_eq_true rfl)) rfl (show ¬ (_ ∨ _) by decide) (v := S.1 81 1) rfl ?_
  refine AW_icmp_ge dX12_product_42 rfl (iteM h (fun h => ?_) (fun h => ?_))
  · refine AW_lload_n 1 (n := 1) rfl dX12_product_64 rfl ?_
    exact AW_retl dX12_product_65 rfl h
  · refine AW_lload_n 1 (n := 1) rfl dX12_product_45 rfl ?_
    refine AW_iconst (v := 1) dX12_product_46 rfl ?_
    refine AW_aload_n 0 (n := 0) rfl dX12_product_47 rfl ?_
    refine AW_iload_n 2 (n := 3) rfl dX12_product_48 rfl ?_
    refine AW_callVi (M := mX12_product) (pc := 49) (As := [.int x3]) (ρ1 := ρ) (st := [.int 1, .long x1]) dX12_product_49 mdX12_sumOfColumn rfl mlX12_166 imX12_sumOfColumn seX12_sumOfColumn (rcv_of (q := (RX12, TX12, 40)) (Nat.le_of_ble_eq_true rfl) (okn hρ (Nat.le_of_ble_eq_true rfl)) rfl rfl) ⟨rfl, npX12_sumOfColumn⟩ (Nat.le_of_ble_eq_true rfl) (Nat.le_refl _) (Nat.le_refl _) rfl (CALLi.mono h (fun v1 S1 _ h => ?_))
    refine AW_mmaxI (M := mX12_product) (pc := 52) dX12_product_52 mlX12_260 wmmaxIS wMath wmmaxIC (Nat.le_of_ble_eq_true rfl) ?_ (Nat.le_refl _) (Nat.le_refl _)
    refine AW_i2l dX12_product_55 ?_
    refine AW_lmul dX12_product_56 ?_
    refine AW_lstore_n (n := 1) (i := 1) rfl dX12_product_57 (Nat.le_of_ble_eq_true rfl) rfl ?_
    refine AW_iinc 2 (v := x3 + 1) dX12_product_58 rfl rfl (Nat.le_of_ble_eq_true rfl) rfl ?_
    refine AW_goto (tgt := 35) dX12_product_61 rfl ?_
    exact AW.sub [2, 1, 0] rfl h
set_option maxRecDepth 20000 in
theorem eX12_product_4 {g : GX} {Q : Int64 → St → Prop} {d : Nat} {ρ : Rs} {S : St} (hρ : Ok ρ) {x1 : Int64} {x3 : Int32} (h : if (S.1 81 0) ≤ x3 then AW g ρ (QJ Q) (d + 1) mX12_product 35 [(0, .ref 80), (1, .long x1), (3, .int 0)] [] ρ S else CALLi g d mX12_sumOfRow [.ref 80, .int x3] ρ ρ S (fun v1 S1 => AW g ρ (QJ Q) (d + 1) mX12_product 4 [(0, .ref 80), (1, .long (x1 * ((if (1 : Int32) < v1 then v1 else 1).toInt64))), (3, .int (x3 + 1))] [] ρ S1)) : AW g ρ (QJ Q) (d + 1) mX12_product 4 [(0, .ref 80), (1, .long x1), (3, .int x3)] [] ρ S := by
  refine AW_iload_n 2 (n := 3) rfl dX12_product_4 rfl ?_
  refine AW_aload_n 0 (n := 0) rfl dX12_product_5 rfl ?_
  refine AW_get dX12_product_6 flX12_9 (Nat.le_of_ble_eq_true rfl) (okn hρ (Nat.le_of_ble_eq_true rfl)) rfl (v := .ref 81) (fvR (okR hρ 51 rfl)) ?_
  refine AW_iconst (v := 0) dX12_product_9 rfl ?_
  refine AW_iaload dX12_product_10 (Nat.le_of_ble_eq_true rfl) (okn hρ (Nat.le_of_ble_eq_true rfl)) rfl (show ¬ (_ ∨ _) by decide) (v := S.1 81 0) rfl ?_
  refine AW_icmp_ge dX12_product_11 rfl (iteM h (fun h => ?_) (fun h => ?_))
  · refine AW_iconst (v := 0) dX12_product_33 rfl ?_
    refine AW_istore_n (n := 3) (i := 3) rfl dX12_product_34 (Nat.le_of_ble_eq_true rfl) rfl ?_
    exact AW.sub [1, 2, 0] rfl h
  · refine AW_lload_n 1 (n := 1) rfl dX12_product_14 rfl ?_
    refine AW_iconst (v := 1) dX12_product_15 rfl ?_
    refine AW_aload_n 0 (n := 0) rfl dX12_product_16 rfl ?_
    refine AW_iload_n 2 (n := 3) rfl dX12_product_17 rfl ?_
    refine AW_callVi (M := mX12_product) (pc := 18) (As := [.int x3]) (ρ1 := ρ) (st := [.int 1, .long x1]) dX12_product_18 mdX12_sumOfRow rfl mlX12_163 imX12_sumOfRow seX12_sumOfRow (rcv_of (q := (RX12, TX12, 40)) (Nat.le_of_ble_eq_true rfl) (okn hρ (Nat.le_of_ble_eq_true rfl)) rfl rfl) ⟨rfl, npX12_sumOfRow⟩ (Nat.le_of_ble_eq_true rfl) (Nat.le_refl _) (Nat.le_refl _) rfl (CALLi.mono h (fun v1 S1 _ h => ?_))
    refine AW_mmaxI (M := mX12_product) (pc := 21) dX12_product_21 mlX12_260 wmmaxIS wMath wmmaxIC (Nat.le_of_ble_eq_true rfl) ?_ (Nat.le_refl _) (Nat.le_refl _)
    refine AW_i2l dX12_product_24 ?_
    refine AW_lmul dX12_product_25 ?_
    refine AW_lstore_n (n := 1) (i := 1) rfl dX12_product_26 (Nat.le_of_ble_eq_true rfl) rfl ?_
    refine AW_iinc 2 (v := x3 + 1) dX12_product_27 rfl rfl (Nat.le_of_ble_eq_true rfl) rfl ?_
    refine AW_goto (tgt := 4) dX12_product_30 rfl ?_
    exact AW.sub [2, 1, 0] rfl h
set_option maxRecDepth 20000 in
theorem eX12_product {g : GX} {Q : Int64 → St → Prop} {d : Nat} {ρ : Rs} {S : St} (hρ : Ok ρ) (h : AW g ρ (QJ Q) (d + 1) mX12_product 4 [(0, .ref 80), (1, .long 1), (3, .int 0)] [] ρ S) : CALLl g (d + 1) mX12_product [.ref 80] ρ ρ S Q := by
  refine CALL.of mdX12_product.2.2.2.2 (Nat.le_of_ble_eq_true rfl) (Nat.le_refl _) (Nat.le_refl _) ?_
  show AW g ρ (QJ Q) (d + 1) mX12_product 0 [(0, .ref 80)] [] ρ S
  refine AW_lconst (v := 1) dX12_product_0 rfl ?_
  refine AW_lstore_n (n := 1) (i := 1) rfl dX12_product_1 (Nat.le_of_ble_eq_true rfl) rfl ?_
  refine AW_iconst (v := 0) dX12_product_2 rfl ?_
  refine AW_istore_n (n := 3) (i := 3) rfl dX12_product_3 (Nat.le_of_ble_eq_true rfl) rfl ?_
  exact AW.sub [2, 1, 0] rfl h
set_option maxRecDepth 20000 in
theorem eX12_laysNow_2 {g : GX} {Q : St → Prop} {d : Nat} {ρ : Rs} {S : St} (hρ : Ok ρ) {x1 : Int32} (hF : ∀ k ∈ ([85] : List Nat), gF g k) (h : CALLi g d mX12_many [.ref 80] ρ ρ S (fun v1 S1 => if v1 ≤ x1 then Q S1 else vp_in (5 + x1) 21 ∧ (vp_in x1 16 ∧ (AW g ρ (QV Q) (d + 1) mX12_laysNow 2 [(0, .ref 80), (1, .int (x1 + 1))] [] ρ (setI S1 85 x1.toNatClampNeg (S1.1 81 ((5 + x1).toNatClampNeg))))))) : AW g ρ (QV Q) (d + 1) mX12_laysNow 2 [(0, .ref 80), (1, .int x1)] [] ρ S := by
  refine AW_iload_n 1 (n := 1) rfl dX12_laysNow_2 rfl ?_
  refine AW_aload_n 0 (n := 0) rfl dX12_laysNow_3 rfl ?_
  refine AW_callVi (M := mX12_laysNow) (pc := 4) (As := []) (ρ1 := ρ) (st := [.int x1]) dX12_laysNow_4 mdX12_many rfl mlX12_150 imX12_many seX12_many (rcv_of (q := (RX12, TX12, 40)) (Nat.le_of_ble_eq_true rfl) (okn hρ (Nat.le_of_ble_eq_true rfl)) rfl rfl) ⟨rfl, npX12_many⟩ (Nat.le_of_ble_eq_true rfl) (Nat.le_refl _) (Nat.le_refl _) rfl (CALLi.mono h (fun v1 S1 _ h => ?_))
  refine AW_icmp_ge dX12_laysNow_7 rfl (iteM h (fun h => ?_) (fun h => ?_))
  · exact AW_retv dX12_laysNow_30 rfl h
  · refine AW_aload_n 0 (n := 0) rfl dX12_laysNow_10 rfl ?_
    refine AW_get dX12_laysNow_11 flX12_26 (Nat.le_of_ble_eq_true rfl) (okn hρ (Nat.le_of_ble_eq_true rfl)) rfl (v := .ref 85) (fvR (okR hρ 55 rfl)) ?_
    refine AW_iload_n 1 (n := 1) rfl dX12_laysNow_14 rfl ?_
    refine AW_aload_n 0 (n := 0) rfl dX12_laysNow_15 rfl ?_
    refine AW_get dX12_laysNow_16 flX12_9 (Nat.le_of_ble_eq_true rfl) (okn hρ (Nat.le_of_ble_eq_true rfl)) rfl (v := .ref 81) (fvR (okR hρ 51 rfl)) ?_
    refine AW_iconst (v := 5) dX12_laysNow_19 rfl ?_
    refine AW_iload_n 1 (n := 1) rfl dX12_laysNow_20 rfl ?_
    refine AW_iadd dX12_laysNow_21 ?_
    refine AW_iaload dX12_laysNow_22 (Nat.le_of_ble_eq_true rfl) (okn hρ (Nat.le_of_ble_eq_true rfl)) rfl h.1 (v := S1.1 81 ((5 + x1).toNatClampNeg)) rfl ?_
    replace h := h.2
    refine AW_iastore dX12_laysNow_23 (Nat.le_of_ble_eq_true rfl) (okn hρ (Nat.le_of_ble_eq_true rfl)) rfl h.1 (hF _ (List.mem_of_getElem? (i := 0) rfl)) (jx := x1.toNatClampNeg) rfl ?_
    replace h := h.2
    refine AW_iinc 1 (v := x1 + 1) dX12_laysNow_24 rfl rfl (Nat.le_of_ble_eq_true rfl) rfl ?_
    refine AW_goto (tgt := 2) dX12_laysNow_27 rfl ?_
    exact AW.sub [1, 0] rfl h
set_option maxRecDepth 20000 in
theorem eX12_laysNow {g : GX} {Q : St → Prop} {d : Nat} {ρ : Rs} {S : St} (hρ : Ok ρ) (h : AW g ρ (QV Q) (d + 1) mX12_laysNow 2 [(0, .ref 80), (1, .int 0)] [] ρ S) : CALLv g (d + 1) mX12_laysNow [.ref 80] ρ ρ S Q := by
  refine CALL.of mdX12_laysNow.2.2.2.2 (Nat.le_of_ble_eq_true rfl) (Nat.le_refl _) (Nat.le_refl _) ?_
  show AW g ρ (QV Q) (d + 1) mX12_laysNow 0 [(0, .ref 80)] [] ρ S
  refine AW_iconst (v := 0) dX12_laysNow_0 rfl ?_
  refine AW_istore_n (n := 1) (i := 1) rfl dX12_laysNow_1 (Nat.le_of_ble_eq_true rfl) rfl ?_
  exact AW.sub [1, 0] rfl h
set_option maxRecDepth 20000 in
theorem eX12_is {g : GX} {Q : Int32 → St → Prop} {d : Nat} {ρ : Rs} {S : St} (hρ : Ok ρ) (h : if (S.1 81 3) ≤ 0 then Q 0 S else Q 1 S) : CALLi g d mX12_is [.ref 80] ρ ρ S Q := by
  refine CALL.of mdX12_is.2.2.2.2 (Nat.le_of_ble_eq_true rfl) (Nat.le_refl _) (Nat.le_refl _) ?_
  show AW g ρ (QI Q) d mX12_is 0 [(0, .ref 80)] [] ρ S
  refine AW_aload_n 0 (n := 0) rfl dX12_is_0 rfl ?_
  refine AW_get dX12_is_1 flX12_9 (Nat.le_of_ble_eq_true rfl) (okn hρ (Nat.le_of_ble_eq_true rfl)) rfl (v := .ref 81) (fvR (okR hρ 51 rfl)) ?_
  refine AW_iconst (v := 3) dX12_is_4 rfl ?_
  refine AW_iaload dX12_is_5 (Nat.le_of_ble_eq_true rfl) (okn hρ (Nat.le_of_ble_eq_true rfl)) rfl (show ¬ (_ ∨ _) by decide) (v := S.1 81 3) rfl ?_
  refine AW_if_le dX12_is_6 rfl (iteM h (fun h => ?_) (fun h => ?_))
  · refine AW_iconst (v := 0) dX12_is_13 rfl ?_
    exact AW_retz dX12_is_14 rfl Bz0 h
  · refine AW_iconst (v := 1) dX12_is_9 rfl ?_
    refine AW_goto (tgt := 14) dX12_is_10 rfl ?_
    exact AW_retz dX12_is_14 rfl Bz1 h
set_option maxRecDepth 20000 in
theorem eX12_tablesOf {g : GX} {Q : Int64 → St → Prop} {d : Nat} {ρ : Rs} {S : St} (hρ : Ok ρ) (h : CALLv g d mX12_goesAll [.ref 80, .int 0] ρ ρ S (fun S1 => Q (S1.2 80 15) S1)) : CALLl g (d + 1) mX12_tablesOf [.ref 80] ρ ρ S Q := by
  refine CALL.of mdX12_tablesOf.2.2.2.2 (Nat.le_of_ble_eq_true rfl) (Nat.le_refl _) (Nat.le_refl _) ?_
  show AW g ρ (QJ Q) (d + 1) mX12_tablesOf 0 [(0, .ref 80)] [] ρ S
  refine AW_aload_n 0 (n := 0) rfl dX12_tablesOf_0 rfl ?_
  refine AW_iconst (v := 0) dX12_tablesOf_1 rfl ?_
  refine AW_callVv (M := mX12_tablesOf) (pc := 2) (As := [.int 0]) (ρ1 := ρ) (st := []) dX12_tablesOf_2 mdX12_goesAll rfl mlX12_262 imX12_goesAll seX12_goesAll (rcv_of (q := (RX12, TX12, 40)) (Nat.le_of_ble_eq_true rfl) (okn hρ (Nat.le_of_ble_eq_true rfl)) rfl rfl) ⟨rfl, npX12_goesAll⟩ (Nat.le_of_ble_eq_true rfl) (Nat.le_refl _) (Nat.le_refl _) rfl (CALLv.mono h (fun S1 _ h => ?_))
  refine AW_aload_n 0 (n := 0) rfl dX12_tablesOf_5 rfl ?_
  refine AW_get dX12_tablesOf_6 flX12_175 (Nat.le_of_ble_eq_true rfl) (okn hρ (Nat.le_of_ble_eq_true rfl)) rfl (v := .long (S1.2 80 15)) (fun _ => rfl) ?_
  exact AW_retl dX12_tablesOf_9 rfl h
set_option maxRecDepth 20000 in
theorem eX12_tables {g : GX} {Q : Int64 → St → Prop} {d : Nat} {ρ : Rs} {S : St} (hρ : Ok ρ) (h : CALLi g d mX12_is [.ref 80] ρ ρ S (fun v1 S1 => if v1 = 0 then Q (-2) S1 else CALLl g d mX12_tablesOf [.ref 80] ρ ρ S1 (fun v2 S2 => Q v2 S2))) : CALLl g (d + 1) mX12_tables [.ref 80] ρ ρ S Q := by
  refine CALL.of mdX12_tables.2.2.2.2 (Nat.le_of_ble_eq_true rfl) (Nat.le_refl _) (Nat.le_refl _) ?_
  show AW g ρ (QJ Q) (d + 1) mX12_tables 0 [(0, .ref 80)] [] ρ S
  refine AW_aload_n 0 (n := 0) rfl dX12_tables_0 rfl ?_
  refine AW_callVi (M := mX12_tables) (pc := 1) (As := []) (ρ1 := ρ) (st := []) dX12_tables_1 mdX12_is rfl mlX12_265 imX12_is seX12_is (rcv_of (q := (RX12, TX12, 40)) (Nat.le_of_ble_eq_true rfl) (okn hρ (Nat.le_of_ble_eq_true rfl)) rfl rfl) ⟨rfl, npX12_is⟩ (Nat.le_of_ble_eq_true rfl) (Nat.le_refl _) (Nat.le_refl _) rfl (CALLi.mono h (fun v1 S1 _ h => ?_))
  refine AW_if_eq dX12_tables_4 rfl (iteM h (fun h => ?_) (fun h => ?_))
  · refine AW_ldc2 (v := (-2)) dX12_tables_14 kcX12_272 ?_
    exact AW_retl dX12_tables_17 rfl h
  · refine AW_aload_n 0 (n := 0) rfl dX12_tables_7 rfl ?_
    refine AW_callVl (M := mX12_tables) (pc := 8) (As := []) (ρ1 := ρ) (st := []) dX12_tables_8 mdX12_tablesOf rfl mlX12_269 imX12_tablesOf seX12_tablesOf (rcv_of (q := (RX12, TX12, 40)) (Nat.le_of_ble_eq_true rfl) (okn hρ (Nat.le_of_ble_eq_true rfl)) rfl rfl) ⟨rfl, npX12_tablesOf⟩ (Nat.le_of_ble_eq_true rfl) (Nat.le_refl _) (Nat.le_refl _) rfl (CALLl.mono h (fun v2 S2 _ h => ?_))
    refine AW_goto (tgt := 17) dX12_tables_11 rfl ?_
    exact AW_retl dX12_tables_17 rfl h
set_option maxRecDepth 20000 in
theorem eX12_rankOf {g : GX} {Q : Int64 → St → Prop} {d : Nat} {ρ : Rs} {S : St} (hρ : Ok ρ) (h : CALLv g d mX12_goesAll [.ref 80, .int 1] ρ ρ S (fun S1 => Q (S1.2 80 17) S1)) : CALLl g (d + 1) mX12_rankOf [.ref 80] ρ ρ S Q := by
  refine CALL.of mdX12_rankOf.2.2.2.2 (Nat.le_of_ble_eq_true rfl) (Nat.le_refl _) (Nat.le_refl _) ?_
  show AW g ρ (QJ Q) (d + 1) mX12_rankOf 0 [(0, .ref 80)] [] ρ S
  refine AW_aload_n 0 (n := 0) rfl dX12_rankOf_0 rfl ?_
  refine AW_iconst (v := 1) dX12_rankOf_1 rfl ?_
  refine AW_callVv (M := mX12_rankOf) (pc := 2) (As := [.int 1]) (ρ1 := ρ) (st := []) dX12_rankOf_2 mdX12_goesAll rfl mlX12_262 imX12_goesAll seX12_goesAll (rcv_of (q := (RX12, TX12, 40)) (Nat.le_of_ble_eq_true rfl) (okn hρ (Nat.le_of_ble_eq_true rfl)) rfl rfl) ⟨rfl, npX12_goesAll⟩ (Nat.le_of_ble_eq_true rfl) (Nat.le_refl _) (Nat.le_refl _) rfl (CALLv.mono h (fun S1 _ h => ?_))
  refine AW_aload_n 0 (n := 0) rfl dX12_rankOf_5 rfl ?_
  refine AW_get dX12_rankOf_6 flX12_181 (Nat.le_of_ble_eq_true rfl) (okn hρ (Nat.le_of_ble_eq_true rfl)) rfl (v := .long (S1.2 80 17)) (fun _ => rfl) ?_
  exact AW_retl dX12_rankOf_9 rfl h
set_option maxRecDepth 20000 in
theorem eX12_rank {g : GX} {Q : Int64 → St → Prop} {d : Nat} {ρ : Rs} {S : St} (hρ : Ok ρ) (h : CALLi g d mX12_is [.ref 80] ρ ρ S (fun v1 S1 => if v1 = 0 then Q (-2) S1 else CALLl g d mX12_rankOf [.ref 80] ρ ρ S1 (fun v2 S2 => Q v2 S2))) : CALLl g (d + 1) mX12_rank [.ref 80] ρ ρ S Q := by
  refine CALL.of mdX12_rank.2.2.2.2 (Nat.le_of_ble_eq_true rfl) (Nat.le_refl _) (Nat.le_refl _) ?_
  show AW g ρ (QJ Q) (d + 1) mX12_rank 0 [(0, .ref 80)] [] ρ S
  refine AW_aload_n 0 (n := 0) rfl dX12_rank_0 rfl ?_
  refine AW_callVi (M := mX12_rank) (pc := 1) (As := []) (ρ1 := ρ) (st := []) dX12_rank_1 mdX12_is rfl mlX12_265 imX12_is seX12_is (rcv_of (q := (RX12, TX12, 40)) (Nat.le_of_ble_eq_true rfl) (okn hρ (Nat.le_of_ble_eq_true rfl)) rfl rfl) ⟨rfl, npX12_is⟩ (Nat.le_of_ble_eq_true rfl) (Nat.le_refl _) (Nat.le_refl _) rfl (CALLi.mono h (fun v1 S1 _ h => ?_))
  refine AW_if_eq dX12_rank_4 rfl (iteM h (fun h => ?_) (fun h => ?_))
  · refine AW_ldc2 (v := (-2)) dX12_rank_14 kcX12_272 ?_
    exact AW_retl dX12_rank_17 rfl h
  · refine AW_aload_n 0 (n := 0) rfl dX12_rank_7 rfl ?_
    refine AW_callVl (M := mX12_rank) (pc := 8) (As := []) (ρ1 := ρ) (st := []) dX12_rank_8 mdX12_rankOf rfl mlX12_274 imX12_rankOf seX12_rankOf (rcv_of (q := (RX12, TX12, 40)) (Nat.le_of_ble_eq_true rfl) (okn hρ (Nat.le_of_ble_eq_true rfl)) rfl rfl) ⟨rfl, npX12_rankOf⟩ (Nat.le_of_ble_eq_true rfl) (Nat.le_refl _) (Nat.le_refl _) rfl (CALLl.mono h (fun v2 S2 _ h => ?_))
    refine AW_goto (tgt := 17) dX12_rank_11 rfl ?_
    exact AW_retl dX12_rank_17 rfl h
set_option maxRecDepth 20000 in
theorem eX12_of {g : GX} {Q : Int32 → St → Prop} {d : Nat} {ρ : Rs} {S : St} (hρ : Ok ρ) {x1 : Int64} {x3 : Int32} {x4 : Int32} (hF : ∀ k ∈ ([80] : List Nat), gF g k) (h : CALLi g d mX12_isCell [.ref 80, .int x3, .int x4] ρ ρ S (fun v1 S1 => if v1 = 0 then Q (-2) S1 else if (0 : Int64) ≤ x1 then CALLv g d mX12_goesAll [.ref 80, .int 2] ρ ρ (setL S1 80 16 x1) (fun S2 => if (S2.1 80 14) = 0 then Q (-2) S2 else CALLi g d mX12_place [.ref 80, .int x3, .int x4] ρ ρ S2 (fun v3 S3 => vp_in v3 16 ∧ (Q (S3.1 85 v3.toNatClampNeg) S3))) else Q (-2) S1)) : CALLi g (d + 1) mX12_of [.ref 80, .long x1, .int x3, .int x4] ρ ρ S Q := by
  refine CALL.of mdX12_of.2.2.2.2 (Nat.le_of_ble_eq_true rfl) (Nat.le_refl _) (Nat.le_refl _) ?_
  show AW g ρ (QI Q) (d + 1) mX12_of 0 [(0, .ref 80), (1, .long x1), (3, .int x3), (4, .int x4)] [] ρ S
  refine AW_aload_n 0 (n := 0) rfl dX12_of_0 rfl ?_
  refine AW_iload_n 2 (n := 3) rfl dX12_of_1 rfl ?_
  refine AW_iload 3 dX12_of_2 rfl ?_
  refine AW_callVi (M := mX12_of) (pc := 4) (As := [.int x3, .int x4]) (ρ1 := ρ) (st := []) dX12_of_4 mdX12_isCell rfl mlX12_160 imX12_isCell seX12_isCell (rcv_of (q := (RX12, TX12, 40)) (Nat.le_of_ble_eq_true rfl) (okn hρ (Nat.le_of_ble_eq_true rfl)) rfl rfl) ⟨rfl, npX12_isCell⟩ (Nat.le_of_ble_eq_true rfl) (Nat.le_refl _) (Nat.le_refl _) rfl (CALLi.mono h (fun v1 S1 _ h => ?_))
  refine AW_if_eq dX12_of_7 rfl (iteM h (fun h => ?_) (fun h => ?_))
  · refine AW_bipush (v := (-2)) dX12_of_16 rfl ?_
    exact AW_reti dX12_of_18 rfl h
  · refine AW_lload_n 1 (n := 1) rfl dX12_of_10 rfl ?_
    refine AW_lconst (v := 0) dX12_of_11 rfl ?_
    refine AW_lc_ge dX12_of_12 dX12_of_13 rfl (iteM h (fun h => ?_) (fun h => ?_))
    · refine AW_aload_n 0 (n := 0) rfl dX12_of_19 rfl ?_
      refine AW_lload_n 1 (n := 1) rfl dX12_of_20 rfl ?_
      refine AW_put dX12_of_21 flX12_197 fp_10_16 (Nat.le_of_ble_eq_true rfl) (okn hρ (Nat.le_of_ble_eq_true rfl)) rfl (fun _ => rfl) (fun _ => rfl) rfl rfl rfl rfl (Fr.setL _ _ _ rfl) (fun _ _ => rfl) (ρ2 := ρ) (S2 := setL S1 80 16 x1) (fun _ => rfl) (fun _ _ _ q1 _ => fvL_o q1) (hF _ (List.mem_of_getElem? (i := 0) rfl)) ?_
      refine AW_aload_n 0 (n := 0) rfl dX12_of_24 rfl ?_
      refine AW_iconst (v := 2) dX12_of_25 rfl ?_
      refine AW_callVv (M := mX12_of) (pc := 26) (As := [.int 2]) (ρ1 := ρ) (st := []) dX12_of_26 mdX12_goesAll rfl mlX12_262 imX12_goesAll seX12_goesAll (rcv_of (q := (RX12, TX12, 40)) (Nat.le_of_ble_eq_true rfl) (okn hρ (Nat.le_of_ble_eq_true rfl)) rfl rfl) ⟨rfl, npX12_goesAll⟩ (Nat.le_of_ble_eq_true rfl) (Nat.le_refl _) (Nat.le_refl _) rfl (CALLv.mono h (fun S2 _ h => ?_))
      refine AW_aload_n 0 (n := 0) rfl dX12_of_29 rfl ?_
      refine AW_get dX12_of_30 flX12_172 (Nat.le_of_ble_eq_true rfl) (okn hρ (Nat.le_of_ble_eq_true rfl)) rfl (v := .int (S2.1 80 14)) (fun _ => rfl) ?_
      refine AW_if_eq dX12_of_33 rfl (iteM h (fun h => ?_) (fun h => ?_))
      · refine AW_bipush (v := (-2)) dX12_of_51 rfl ?_
        exact AW_reti dX12_of_53 rfl h
      · refine AW_aload_n 0 (n := 0) rfl dX12_of_36 rfl ?_
        refine AW_get dX12_of_37 flX12_26 (Nat.le_of_ble_eq_true rfl) (okn hρ (Nat.le_of_ble_eq_true rfl)) rfl (v := .ref 85) (fvR (okR hρ 55 rfl)) ?_
        refine AW_aload_n 0 (n := 0) rfl dX12_of_40 rfl ?_
        refine AW_iload_n 2 (n := 3) rfl dX12_of_41 rfl ?_
        refine AW_iload 3 dX12_of_42 rfl ?_
        refine AW_callVi (M := mX12_of) (pc := 44) (As := [.int x3, .int x4]) (ρ1 := ρ) (st := [.ref 85]) dX12_of_44 mdX12_place rfl mlX12_133 imX12_place seX12_place (rcv_of (q := (RX12, TX12, 40)) (Nat.le_of_ble_eq_true rfl) (okn hρ (Nat.le_of_ble_eq_true rfl)) rfl rfl) ⟨rfl, npX12_place⟩ (Nat.le_of_ble_eq_true rfl) (Nat.le_refl _) (Nat.le_refl _) rfl (CALLi.mono h (fun v3 S3 _ h => ?_))
        refine AW_iaload dX12_of_47 (Nat.le_of_ble_eq_true rfl) (okn hρ (Nat.le_of_ble_eq_true rfl)) rfl h.1 (v := S3.1 85 v3.toNatClampNeg) rfl ?_
        replace h := h.2
        refine AW_goto (tgt := 53) dX12_of_48 rfl ?_
        exact AW_reti dX12_of_53 rfl h
    · refine AW_bipush (v := (-2)) dX12_of_16 rfl ?_
      exact AW_reti dX12_of_18 rfl h
set_option maxRecDepth 20000 in
theorem eX12_talliesAll_2 {g : GX} {Q : St → Prop} {d : Nat} {ρ : Rs} {S : St} (hρ : Ok ρ) {x1 : Int32} (hF : ∀ k ∈ ([88] : List Nat), gF g k) (h : if (336 : Int32) ≤ x1 then CALLv g d mX12_goesAll [.ref 80, .int 3] ρ ρ S (fun S1 => Q S1) else vp_in x1 336 ∧ (AW g ρ (QV Q) (d + 1) mX12_talliesAll 2 [(0, .ref 80), (1, .int (x1 + 1))] [] ρ (setL S 88 x1.toNatClampNeg 0))) : AW g ρ (QV Q) (d + 1) mX12_talliesAll 2 [(0, .ref 80), (1, .int x1)] [] ρ S := by
  refine AW_iload_n 1 (n := 1) rfl dX12_talliesAll_2 rfl ?_
  refine AW_aload_n 0 (n := 0) rfl dX12_talliesAll_3 rfl ?_
  refine AW_get dX12_talliesAll_4 flX12_35 (Nat.le_of_ble_eq_true rfl) (okn hρ (Nat.le_of_ble_eq_true rfl)) rfl (v := .ref 88) (fvR (okR hρ 58 rfl)) ?_
  refine AW_alen (v := 336) dX12_talliesAll_7 (Nat.le_of_ble_eq_true rfl) (okn hρ (Nat.le_of_ble_eq_true rfl)) (by decide) rfl rfl ?_
  refine AW_icmp_ge dX12_talliesAll_8 rfl (iteM h (fun h => ?_) (fun h => ?_))
  · refine AW_aload_n 0 (n := 0) rfl dX12_talliesAll_24 rfl ?_
    refine AW_iconst (v := 3) dX12_talliesAll_25 rfl ?_
    refine AW_callVv (M := mX12_talliesAll) (pc := 26) (As := [.int 3]) (ρ1 := ρ) (st := []) dX12_talliesAll_26 mdX12_goesAll rfl mlX12_262 imX12_goesAll seX12_goesAll (rcv_of (q := (RX12, TX12, 40)) (Nat.le_of_ble_eq_true rfl) (okn hρ (Nat.le_of_ble_eq_true rfl)) rfl rfl) ⟨rfl, npX12_goesAll⟩ (Nat.le_of_ble_eq_true rfl) (Nat.le_refl _) (Nat.le_refl _) rfl (CALLv.mono h (fun S1 _ h => ?_))
    exact AW_retv dX12_talliesAll_29 rfl h
  · refine AW_aload_n 0 (n := 0) rfl dX12_talliesAll_11 rfl ?_
    refine AW_get dX12_talliesAll_12 flX12_35 (Nat.le_of_ble_eq_true rfl) (okn hρ (Nat.le_of_ble_eq_true rfl)) rfl (v := .ref 88) (fvR (okR hρ 58 rfl)) ?_
    refine AW_iload_n 1 (n := 1) rfl dX12_talliesAll_15 rfl ?_
    refine AW_lconst (v := 0) dX12_talliesAll_16 rfl ?_
    refine AW_lastore dX12_talliesAll_17 (Nat.le_of_ble_eq_true rfl) (okn hρ (Nat.le_of_ble_eq_true rfl)) rfl h.1 (hF _ (List.mem_of_getElem? (i := 0) rfl)) (jx := x1.toNatClampNeg) rfl ?_
    replace h := h.2
    refine AW_iinc 1 (v := x1 + 1) dX12_talliesAll_18 rfl rfl (Nat.le_of_ble_eq_true rfl) rfl ?_
    refine AW_goto (tgt := 2) dX12_talliesAll_21 rfl ?_
    exact AW.sub [1, 0] rfl h
set_option maxRecDepth 20000 in
theorem eX12_talliesAll {g : GX} {Q : St → Prop} {d : Nat} {ρ : Rs} {S : St} (hρ : Ok ρ) (h : AW g ρ (QV Q) (d + 1) mX12_talliesAll 2 [(0, .ref 80), (1, .int 0)] [] ρ S) : CALLv g (d + 1) mX12_talliesAll [.ref 80] ρ ρ S Q := by
  refine CALL.of mdX12_talliesAll.2.2.2.2 (Nat.le_of_ble_eq_true rfl) (Nat.le_refl _) (Nat.le_refl _) ?_
  show AW g ρ (QV Q) (d + 1) mX12_talliesAll 0 [(0, .ref 80)] [] ρ S
  refine AW_iconst (v := 0) dX12_talliesAll_0 rfl ?_
  refine AW_istore_n (n := 1) (i := 1) rfl dX12_talliesAll_1 (Nat.le_of_ble_eq_true rfl) rfl ?_
  exact AW.sub [1, 0] rfl h
set_option maxRecDepth 20000 in
theorem eX12_bounds_5 {g : GX} {Q : Int32 → St → Prop} {d : Nat} {ρ : Rs} {S : St} (hρ : Ok ρ) {x1 : Int32} {x2 : Int32} {x3 : Int32} {x4 : Int32} (h : if (20 : Int32) < x4 then Q x3 S else vp_in ((21 * x1) + x4) 336 ∧ (if (S.2 88 (((21 * x1) + x4).toNatClampNeg)) ≤ 0 then AW g ρ (QI Q) d mX12_bounds 5 [(0, .ref 80), (1, .int x1), (2, .int x2), (3, .int x3), (4, .int (x4 + 1))] [] ρ S else if x3 < 0 then AW g ρ (QI Q) d mX12_bounds 5 [(0, .ref 80), (1, .int x1), (2, .int x2), (3, .int x4), (4, .int (x4 + 1))] [] ρ S else if x2 = 0 then AW g ρ (QI Q) d mX12_bounds 5 [(0, .ref 80), (1, .int x1), (2, .int x2), (3, .int x3), (4, .int (x4 + 1))] [] ρ S else AW g ρ (QI Q) d mX12_bounds 5 [(0, .ref 80), (1, .int x1), (2, .int x2), (3, .int x4), (4, .int (x4 + 1))] [] ρ S)) : AW g ρ (QI Q) d mX12_bounds 5 [(0, .ref 80), (1, .int x1), (2, .int x2), (3, .int x3), (4, .int x4)] [] ρ S := by
  refine AW_iload 4 dX12_bounds_5 rfl ?_
  refine AW_bipush (v := 20) dX12_bounds_7 rfl ?_
  refine AW_icmp_gt dX12_bounds_9 rfl (iteM h (fun h => ?_) (fun h => ?_))
  · refine AW_iload_n 3 (n := 3) rfl dX12_bounds_50 rfl ?_
    exact AW_reti dX12_bounds_51 rfl h
  · refine AW_aload_n 0 (n := 0) rfl dX12_bounds_12 rfl ?_
    refine AW_get dX12_bounds_13 flX12_35 (Nat.le_of_ble_eq_true rfl) (okn hρ (Nat.le_of_ble_eq_true rfl)) rfl (v := .ref 88) (fvR (okR hρ 58 rfl)) ?_
    refine AW_bipush (v := 21) dX12_bounds_16 rfl ?_
    refine AW_iload_n 1 (n := 1) rfl dX12_bounds_18 rfl ?_
    refine AW_imul dX12_bounds_19 ?_
    refine AW_iload 4 dX12_bounds_20 rfl ?_
    refine AW_iadd dX12_bounds_22 ?_
    refine AW_laload dX12_bounds_23 (Nat.le_of_ble_eq_true rfl) (okn hρ (Nat.le_of_ble_eq_true rfl)) rfl h.1 (v := S.2 88 (((21 * x1) + x4).toNatClampNeg)) rfl ?_
    replace h := h.2
    refine AW_lconst (v := 0) dX12_bounds_24 rfl ?_
    refine AW_lc_le dX12_bounds_25 dX12_bounds_26 rfl (iteM h (fun h => ?_) (fun h => ?_))
    · refine AW_iload_n 3 (n := 3) rfl dX12_bounds_42 rfl ?_
      refine AW_istore_n (n := 3) (i := 3) rfl dX12_bounds_43 (Nat.le_of_ble_eq_true rfl) rfl ?_
      refine AW_iinc 4 (v := x4 + 1) dX12_bounds_44 rfl rfl (Nat.le_of_ble_eq_true rfl) rfl ?_
      refine AW_goto (tgt := 5) dX12_bounds_47 rfl ?_
      exact AW.sub [2, 3, 4, 1, 0] rfl h
    · refine AW_iload_n 3 (n := 3) rfl dX12_bounds_29 rfl ?_
      refine AW_if_lt dX12_bounds_30 rfl (iteM h (fun h => ?_) (fun h => ?_))
      · refine AW_iload 4 dX12_bounds_37 rfl ?_
        refine AW_goto (tgt := 43) dX12_bounds_39 rfl ?_
        refine AW_istore_n (n := 3) (i := 3) rfl dX12_bounds_43 (Nat.le_of_ble_eq_true rfl) rfl ?_
        refine AW_iinc 4 (v := x4 + 1) dX12_bounds_44 rfl rfl (Nat.le_of_ble_eq_true rfl) rfl ?_
        refine AW_goto (tgt := 5) dX12_bounds_47 rfl ?_
        exact AW.sub [2, 3, 4, 1, 0] rfl h
      · refine AW_iload_n 2 (n := 2) rfl dX12_bounds_33 rfl ?_
        refine AW_if_eq dX12_bounds_34 rfl (iteM h (fun h => ?_) (fun h => ?_))
        · refine AW_iload_n 3 (n := 3) rfl dX12_bounds_42 rfl ?_
          refine AW_istore_n (n := 3) (i := 3) rfl dX12_bounds_43 (Nat.le_of_ble_eq_true rfl) rfl ?_
          refine AW_iinc 4 (v := x4 + 1) dX12_bounds_44 rfl rfl (Nat.le_of_ble_eq_true rfl) rfl ?_
          refine AW_goto (tgt := 5) dX12_bounds_47 rfl ?_
          exact AW.sub [2, 3, 4, 1, 0] rfl h
        · refine AW_iload 4 dX12_bounds_37 rfl ?_
          refine AW_goto (tgt := 43) dX12_bounds_39 rfl ?_
          refine AW_istore_n (n := 3) (i := 3) rfl dX12_bounds_43 (Nat.le_of_ble_eq_true rfl) rfl ?_
          refine AW_iinc 4 (v := x4 + 1) dX12_bounds_44 rfl rfl (Nat.le_of_ble_eq_true rfl) rfl ?_
          refine AW_goto (tgt := 5) dX12_bounds_47 rfl ?_
          exact AW.sub [2, 3, 4, 1, 0] rfl h
set_option maxRecDepth 20000 in
theorem eX12_bounds {g : GX} {Q : Int32 → St → Prop} {d : Nat} {ρ : Rs} {S : St} (hρ : Ok ρ) {x1 : Int32} {x2 : Int32} (h : AW g ρ (QI Q) d mX12_bounds 5 [(0, .ref 80), (1, .int x1), (2, .int x2), (3, .int (-1)), (4, .int 0)] [] ρ S) : CALLi g d mX12_bounds [.ref 80, .int x1, .int x2] ρ ρ S Q := by
  refine CALL.of mdX12_bounds.2.2.2.2 (Nat.le_of_ble_eq_true rfl) (Nat.le_refl _) (Nat.le_refl _) ?_
  show AW g ρ (QI Q) d mX12_bounds 0 [(0, .ref 80), (1, .int x1), (2, .int x2)] [] ρ S
  refine AW_iconst (v := (-1)) dX12_bounds_0 rfl ?_
  refine AW_istore_n (n := 3) (i := 3) rfl dX12_bounds_1 (Nat.le_of_ble_eq_true rfl) rfl ?_
  refine AW_iconst (v := 0) dX12_bounds_2 rfl ?_
  refine AW_istore dX12_bounds_3 (Nat.le_of_ble_eq_true rfl) rfl ?_
  exact AW.sub [2, 3, 4, 1, 0] rfl h
set_option maxRecDepth 20000 in
theorem eX12_least {g : GX} {Q : Int32 → St → Prop} {d : Nat} {ρ : Rs} {S : St} (hρ : Ok ρ) {x1 : Int32} {x2 : Int32} (h : CALLi g d mX12_isCell [.ref 80, .int x1, .int x2] ρ ρ S (fun v1 S1 => if v1 = 0 then Q (-2) S1 else CALLv g d mX12_talliesAll [.ref 80] ρ ρ S1 (fun S2 => CALLi g d mX12_place [.ref 80, .int x1, .int x2] ρ ρ S2 (fun v3 S3 => CALLi g d mX12_bounds [.ref 80, .int v3, .int 0] ρ ρ S3 (fun v4 S4 => Q v4 S4))))) : CALLi g (d + 1) mX12_least [.ref 80, .int x1, .int x2] ρ ρ S Q := by
  refine CALL.of mdX12_least.2.2.2.2 (Nat.le_of_ble_eq_true rfl) (Nat.le_refl _) (Nat.le_refl _) ?_
  show AW g ρ (QI Q) (d + 1) mX12_least 0 [(0, .ref 80), (1, .int x1), (2, .int x2)] [] ρ S
  refine AW_aload_n 0 (n := 0) rfl dX12_least_0 rfl ?_
  refine AW_iload_n 1 (n := 1) rfl dX12_least_1 rfl ?_
  refine AW_iload_n 2 (n := 2) rfl dX12_least_2 rfl ?_
  refine AW_callVi (M := mX12_least) (pc := 3) (As := [.int x1, .int x2]) (ρ1 := ρ) (st := []) dX12_least_3 mdX12_isCell rfl mlX12_160 imX12_isCell seX12_isCell (rcv_of (q := (RX12, TX12, 40)) (Nat.le_of_ble_eq_true rfl) (okn hρ (Nat.le_of_ble_eq_true rfl)) rfl rfl) ⟨rfl, npX12_isCell⟩ (Nat.le_of_ble_eq_true rfl) (Nat.le_refl _) (Nat.le_refl _) rfl (CALLi.mono h (fun v1 S1 _ h => ?_))
  refine AW_if_ne dX12_least_6 rfl (iteM h (fun h => ?_) (fun h => ?_))
  · refine AW_bipush (v := (-2)) dX12_least_9 rfl ?_
    exact AW_reti dX12_least_11 rfl h
  · refine AW_aload_n 0 (n := 0) rfl dX12_least_12 rfl ?_
    refine AW_callVv (M := mX12_least) (pc := 13) (As := []) (ρ1 := ρ) (st := []) dX12_least_13 mdX12_talliesAll rfl mlX12_277 imX12_talliesAll seX12_talliesAll (rcv_of (q := (RX12, TX12, 40)) (Nat.le_of_ble_eq_true rfl) (okn hρ (Nat.le_of_ble_eq_true rfl)) rfl rfl) ⟨rfl, npX12_talliesAll⟩ (Nat.le_of_ble_eq_true rfl) (Nat.le_refl _) (Nat.le_refl _) rfl (CALLv.mono h (fun S2 _ h => ?_))
    refine AW_aload_n 0 (n := 0) rfl dX12_least_16 rfl ?_
    refine AW_aload_n 0 (n := 0) rfl dX12_least_17 rfl ?_
    refine AW_iload_n 1 (n := 1) rfl dX12_least_18 rfl ?_
    refine AW_iload_n 2 (n := 2) rfl dX12_least_19 rfl ?_
    refine AW_callVi (M := mX12_least) (pc := 20) (As := [.int x1, .int x2]) (ρ1 := ρ) (st := [.ref 80]) dX12_least_20 mdX12_place rfl mlX12_133 imX12_place seX12_place (rcv_of (q := (RX12, TX12, 40)) (Nat.le_of_ble_eq_true rfl) (okn hρ (Nat.le_of_ble_eq_true rfl)) rfl rfl) ⟨rfl, npX12_place⟩ (Nat.le_of_ble_eq_true rfl) (Nat.le_refl _) (Nat.le_refl _) rfl (CALLi.mono h (fun v3 S3 _ h => ?_))
    refine AW_iconst (v := 0) dX12_least_23 rfl ?_
    refine AW_callVi (M := mX12_least) (pc := 24) (As := [.int v3, .int 0]) (ρ1 := ρ) (st := []) dX12_least_24 mdX12_bounds rfl mlX12_280 imX12_bounds seX12_bounds (rcv_of (q := (RX12, TX12, 40)) (Nat.le_of_ble_eq_true rfl) (okn hρ (Nat.le_of_ble_eq_true rfl)) rfl rfl) ⟨rfl, npX12_bounds⟩ (Nat.le_of_ble_eq_true rfl) (Nat.le_refl _) (Nat.le_refl _) rfl (CALLi.mono h (fun v4 S4 _ h => ?_))
    exact AW_reti dX12_least_27 rfl h
set_option maxRecDepth 20000 in
theorem eX12_most {g : GX} {Q : Int32 → St → Prop} {d : Nat} {ρ : Rs} {S : St} (hρ : Ok ρ) {x1 : Int32} {x2 : Int32} (h : CALLi g d mX12_isCell [.ref 80, .int x1, .int x2] ρ ρ S (fun v1 S1 => if v1 = 0 then Q (-2) S1 else CALLv g d mX12_talliesAll [.ref 80] ρ ρ S1 (fun S2 => CALLi g d mX12_place [.ref 80, .int x1, .int x2] ρ ρ S2 (fun v3 S3 => CALLi g d mX12_bounds [.ref 80, .int v3, .int 1] ρ ρ S3 (fun v4 S4 => Q v4 S4))))) : CALLi g (d + 1) mX12_most [.ref 80, .int x1, .int x2] ρ ρ S Q := by
  refine CALL.of mdX12_most.2.2.2.2 (Nat.le_of_ble_eq_true rfl) (Nat.le_refl _) (Nat.le_refl _) ?_
  show AW g ρ (QI Q) (d + 1) mX12_most 0 [(0, .ref 80), (1, .int x1), (2, .int x2)] [] ρ S
  refine AW_aload_n 0 (n := 0) rfl dX12_most_0 rfl ?_
  refine AW_iload_n 1 (n := 1) rfl dX12_most_1 rfl ?_
  refine AW_iload_n 2 (n := 2) rfl dX12_most_2 rfl ?_
  refine AW_callVi (M := mX12_most) (pc := 3) (As := [.int x1, .int x2]) (ρ1 := ρ) (st := []) dX12_most_3 mdX12_isCell rfl mlX12_160 imX12_isCell seX12_isCell (rcv_of (q := (RX12, TX12, 40)) (Nat.le_of_ble_eq_true rfl) (okn hρ (Nat.le_of_ble_eq_true rfl)) rfl rfl) ⟨rfl, npX12_isCell⟩ (Nat.le_of_ble_eq_true rfl) (Nat.le_refl _) (Nat.le_refl _) rfl (CALLi.mono h (fun v1 S1 _ h => ?_))
  refine AW_if_ne dX12_most_6 rfl (iteM h (fun h => ?_) (fun h => ?_))
  · refine AW_bipush (v := (-2)) dX12_most_9 rfl ?_
    exact AW_reti dX12_most_11 rfl h
  · refine AW_aload_n 0 (n := 0) rfl dX12_most_12 rfl ?_
    refine AW_callVv (M := mX12_most) (pc := 13) (As := []) (ρ1 := ρ) (st := []) dX12_most_13 mdX12_talliesAll rfl mlX12_277 imX12_talliesAll seX12_talliesAll (rcv_of (q := (RX12, TX12, 40)) (Nat.le_of_ble_eq_true rfl) (okn hρ (Nat.le_of_ble_eq_true rfl)) rfl rfl) ⟨rfl, npX12_talliesAll⟩ (Nat.le_of_ble_eq_true rfl) (Nat.le_refl _) (Nat.le_refl _) rfl (CALLv.mono h (fun S2 _ h => ?_))
    refine AW_aload_n 0 (n := 0) rfl dX12_most_16 rfl ?_
    refine AW_aload_n 0 (n := 0) rfl dX12_most_17 rfl ?_
    refine AW_iload_n 1 (n := 1) rfl dX12_most_18 rfl ?_
    refine AW_iload_n 2 (n := 2) rfl dX12_most_19 rfl ?_
    refine AW_callVi (M := mX12_most) (pc := 20) (As := [.int x1, .int x2]) (ρ1 := ρ) (st := [.ref 80]) dX12_most_20 mdX12_place rfl mlX12_133 imX12_place seX12_place (rcv_of (q := (RX12, TX12, 40)) (Nat.le_of_ble_eq_true rfl) (okn hρ (Nat.le_of_ble_eq_true rfl)) rfl rfl) ⟨rfl, npX12_place⟩ (Nat.le_of_ble_eq_true rfl) (Nat.le_refl _) (Nat.le_refl _) rfl (CALLi.mono h (fun v3 S3 _ h => ?_))
    refine AW_iconst (v := 1) dX12_most_23 rfl ?_
    refine AW_callVi (M := mX12_most) (pc := 24) (As := [.int v3, .int 1]) (ρ1 := ρ) (st := []) dX12_most_24 mdX12_bounds rfl mlX12_280 imX12_bounds seX12_bounds (rcv_of (q := (RX12, TX12, 40)) (Nat.le_of_ble_eq_true rfl) (okn hρ (Nat.le_of_ble_eq_true rfl)) rfl rfl) ⟨rfl, npX12_bounds⟩ (Nat.le_of_ble_eq_true rfl) (Nat.le_refl _) (Nat.le_refl _) rfl (CALLi.mono h (fun v4 S4 _ h => ?_))
    exact AW_reti dX12_most_27 rfl h
set_option maxRecDepth 20000 in
theorem eX12_fixed_18 {g : GX} {Q : Int32 → St → Prop} {d : Nat} {ρ : Rs} {S : St} (hρ : Ok ρ) {x1 : Int32} {x2 : Int32} (h : CALLi g d mX12_many [.ref 80] ρ ρ S (fun v1 S1 => if v1 ≤ x2 then Q x1 S1 else CALLi g d mX12_has [.int (S1.1 81 2), .int x2] ρ ρ S1 (fun v2 S2 => if v2 = 0 then CALLi g d mX12_bounds [.ref 80, .int x2, .int 0] ρ ρ S2 (fun v3 S3 => CALLi g d mX12_bounds [.ref 80, .int x2, .int 1] ρ ρ S3 (fun v4 S4 => if v3 = v4 then AW g ρ (QI Q) (d + 1) mX12_fixed 18 [(0, .ref 80), (1, .int (x1 ||| (1 <<< (x2 &&& 31)))), (2, .int (x2 + 1))] [] ρ S4 else AW g ρ (QI Q) (d + 1) mX12_fixed 18 [(0, .ref 80), (1, .int (x1 ||| 0)), (2, .int (x2 + 1))] [] ρ S4)) else AW g ρ (QI Q) (d + 1) mX12_fixed 18 [(0, .ref 80), (1, .int (x1 ||| 0)), (2, .int (x2 + 1))] [] ρ S2))) : AW g ρ (QI Q) (d + 1) mX12_fixed 18 [(0, .ref 80), (1, .int x1), (2, .int x2)] [] ρ S := by
  refine AW_iload_n 2 (n := 2) rfl dX12_fixed_18 rfl ?_
  refine AW_aload_n 0 (n := 0) rfl dX12_fixed_19 rfl ?_
  refine AW_callVi (M := mX12_fixed) (pc := 20) (As := []) (ρ1 := ρ) (st := [.int x2]) dX12_fixed_20 mdX12_many rfl mlX12_150 imX12_many seX12_many (rcv_of (q := (RX12, TX12, 40)) (Nat.le_of_ble_eq_true rfl) (okn hρ (Nat.le_of_ble_eq_true rfl)) rfl rfl) ⟨rfl, npX12_many⟩ (Nat.le_of_ble_eq_true rfl) (Nat.le_refl _) (Nat.le_refl _) rfl (CALLi.mono h (fun v1 S1 _ h => ?_))
  refine AW_icmp_ge dX12_fixed_23 rfl (iteM h (fun h => ?_) (fun h => ?_))
  · refine AW_iload_n 1 (n := 1) rfl dX12_fixed_70 rfl ?_
    exact AW_reti dX12_fixed_71 rfl h
  · refine AW_iload_n 1 (n := 1) rfl dX12_fixed_26 rfl ?_
    refine AW_aload_n 0 (n := 0) rfl dX12_fixed_27 rfl ?_
    refine AW_get dX12_fixed_28 flX12_9 (Nat.le_of_ble_eq_true rfl) (okn hρ (Nat.le_of_ble_eq_true rfl)) rfl (v := .ref 81) (fvR (okR hρ 51 rfl)) ?_
    refine AW_iconst (v := 2) dX12_fixed_31 rfl ?_
    refine AW_iaload dX12_fixed_32 (Nat.le_of_ble_eq_true rfl) (okn hρ (Nat.le_of_ble_eq_true rfl)) rfl (show ¬ (_ ∨ _) by decide) (v := S1.1 81 2) rfl ?_
    refine AW_iload_n 2 (n := 2) rfl dX12_fixed_33 rfl ?_
    refine AW_callSi (M := mX12_fixed) (pc := 34) (As := [.int (S1.1 81 2), .int x2]) (ρ1 := ρ) (st := [.int x1]) dX12_fixed_34 mdX12_has mlX12_138 smX12_has ⟨rfl, npX12_has⟩ (Nat.le_of_ble_eq_true rfl) (Nat.le_refl _) (Nat.le_refl _) rfl (CALLi.mono h (fun v2 S2 _ h => ?_))
    refine AW_if_ne dX12_fixed_37 rfl (iteM h (fun h => ?_) (fun h => ?_))
    · refine AW_aload_n 0 (n := 0) rfl dX12_fixed_40 rfl ?_
      refine AW_iload_n 2 (n := 2) rfl dX12_fixed_41 rfl ?_
      refine AW_iconst (v := 0) dX12_fixed_42 rfl ?_
      refine AW_callVi (M := mX12_fixed) (pc := 43) (As := [.int x2, .int 0]) (ρ1 := ρ) (st := [.int x1]) dX12_fixed_43 mdX12_bounds rfl mlX12_280 imX12_bounds seX12_bounds (rcv_of (q := (RX12, TX12, 40)) (Nat.le_of_ble_eq_true rfl) (okn hρ (Nat.le_of_ble_eq_true rfl)) rfl rfl) ⟨rfl, npX12_bounds⟩ (Nat.le_of_ble_eq_true rfl) (Nat.le_refl _) (Nat.le_refl _) rfl (CALLi.mono h (fun v3 S3 _ h => ?_))
      refine AW_aload_n 0 (n := 0) rfl dX12_fixed_46 rfl ?_
      refine AW_iload_n 2 (n := 2) rfl dX12_fixed_47 rfl ?_
      refine AW_iconst (v := 1) dX12_fixed_48 rfl ?_
      refine AW_callVi (M := mX12_fixed) (pc := 49) (As := [.int x2, .int 1]) (ρ1 := ρ) (st := [.int v3, .int x1]) dX12_fixed_49 mdX12_bounds rfl mlX12_280 imX12_bounds seX12_bounds (rcv_of (q := (RX12, TX12, 40)) (Nat.le_of_ble_eq_true rfl) (okn hρ (Nat.le_of_ble_eq_true rfl)) rfl rfl) ⟨rfl, npX12_bounds⟩ (Nat.le_of_ble_eq_true rfl) (Nat.le_refl _) (Nat.le_refl _) rfl (CALLi.mono h (fun v4 S4 _ h => ?_))
      refine AW_icmp_ne dX12_fixed_52 rfl (iteM h (fun h => ?_) (fun h => ?_))
      · refine AW_iconst (v := 1) dX12_fixed_55 rfl ?_
        refine AW_iload_n 2 (n := 2) rfl dX12_fixed_56 rfl ?_
        refine AW_ishl dX12_fixed_57 ?_
        refine AW_goto (tgt := 62) dX12_fixed_58 rfl ?_
        refine AW_ior dX12_fixed_62 ?_
        refine AW_istore_n (n := 1) (i := 1) rfl dX12_fixed_63 (Nat.le_of_ble_eq_true rfl) rfl ?_
        refine AW_iinc 2 (v := x2 + 1) dX12_fixed_64 rfl rfl (Nat.le_of_ble_eq_true rfl) rfl ?_
        refine AW_goto (tgt := 18) dX12_fixed_67 rfl ?_
        exact AW.sub [2, 1, 0] rfl h
      · refine AW_iconst (v := 0) dX12_fixed_61 rfl ?_
        refine AW_ior dX12_fixed_62 ?_
        refine AW_istore_n (n := 1) (i := 1) rfl dX12_fixed_63 (Nat.le_of_ble_eq_true rfl) rfl ?_
        refine AW_iinc 2 (v := x2 + 1) dX12_fixed_64 rfl rfl (Nat.le_of_ble_eq_true rfl) rfl ?_
        refine AW_goto (tgt := 18) dX12_fixed_67 rfl ?_
        exact AW.sub [2, 1, 0] rfl h
    · refine AW_iconst (v := 0) dX12_fixed_61 rfl ?_
      refine AW_ior dX12_fixed_62 ?_
      refine AW_istore_n (n := 1) (i := 1) rfl dX12_fixed_63 (Nat.le_of_ble_eq_true rfl) rfl ?_
      refine AW_iinc 2 (v := x2 + 1) dX12_fixed_64 rfl rfl (Nat.le_of_ble_eq_true rfl) rfl ?_
      refine AW_goto (tgt := 18) dX12_fixed_67 rfl ?_
      exact AW.sub [2, 1, 0] rfl h
set_option maxRecDepth 20000 in
theorem eX12_fixed {g : GX} {Q : Int32 → St → Prop} {d : Nat} {ρ : Rs} {S : St} (hρ : Ok ρ) (h : CALLi g d mX12_is [.ref 80] ρ ρ S (fun v1 S1 => if v1 = 0 then Q (-2) S1 else CALLv g d mX12_talliesAll [.ref 80] ρ ρ S1 (fun S2 => AW g ρ (QI Q) (d + 1) mX12_fixed 18 [(0, .ref 80), (1, .int 0), (2, .int 0)] [] ρ S2))) : CALLi g (d + 1) mX12_fixed [.ref 80] ρ ρ S Q := by
  refine CALL.of mdX12_fixed.2.2.2.2 (Nat.le_of_ble_eq_true rfl) (Nat.le_refl _) (Nat.le_refl _) ?_
  show AW g ρ (QI Q) (d + 1) mX12_fixed 0 [(0, .ref 80)] [] ρ S
  refine AW_aload_n 0 (n := 0) rfl dX12_fixed_0 rfl ?_
  refine AW_callVi (M := mX12_fixed) (pc := 1) (As := []) (ρ1 := ρ) (st := []) dX12_fixed_1 mdX12_is rfl mlX12_265 imX12_is seX12_is (rcv_of (q := (RX12, TX12, 40)) (Nat.le_of_ble_eq_true rfl) (okn hρ (Nat.le_of_ble_eq_true rfl)) rfl rfl) ⟨rfl, npX12_is⟩ (Nat.le_of_ble_eq_true rfl) (Nat.le_refl _) (Nat.le_refl _) rfl (CALLi.mono h (fun v1 S1 _ h => ?_))
  refine AW_if_ne dX12_fixed_4 rfl (iteM h (fun h => ?_) (fun h => ?_))
  · refine AW_bipush (v := (-2)) dX12_fixed_7 rfl ?_
    exact AW_reti dX12_fixed_9 rfl h
  · refine AW_aload_n 0 (n := 0) rfl dX12_fixed_10 rfl ?_
    refine AW_callVv (M := mX12_fixed) (pc := 11) (As := []) (ρ1 := ρ) (st := []) dX12_fixed_11 mdX12_talliesAll rfl mlX12_277 imX12_talliesAll seX12_talliesAll (rcv_of (q := (RX12, TX12, 40)) (Nat.le_of_ble_eq_true rfl) (okn hρ (Nat.le_of_ble_eq_true rfl)) rfl rfl) ⟨rfl, npX12_talliesAll⟩ (Nat.le_of_ble_eq_true rfl) (Nat.le_refl _) (Nat.le_refl _) rfl (CALLv.mono h (fun S2 _ h => ?_))
    refine AW_iconst (v := 0) dX12_fixed_14 rfl ?_
    refine AW_istore_n (n := 1) (i := 1) rfl dX12_fixed_15 (Nat.le_of_ble_eq_true rfl) rfl ?_
    refine AW_iconst (v := 0) dX12_fixed_16 rfl ?_
    refine AW_istore_n (n := 2) (i := 2) rfl dX12_fixed_17 (Nat.le_of_ble_eq_true rfl) rfl ?_
    exact AW.sub [2, 1, 0] rfl h
set_option maxRecDepth 20000 in
theorem eX12_having {g : GX} {Q : Int64 → St → Prop} {d : Nat} {ρ : Rs} {S : St} (hρ : Ok ρ) {x1 : Int32} {x2 : Int32} {x3 : Int32} (h : CALLi g d mX12_isCell [.ref 80, .int x1, .int x2] ρ ρ S (fun v1 S1 => if v1 = 0 then Q (-2) S1 else CALLi g d mX12_in [.long x3.toInt64, .long 0, .long 20] ρ ρ S1 (fun v2 S2 => if v2 = 0 then Q (-2) S2 else CALLv g d mX12_talliesAll [.ref 80] ρ ρ S2 (fun S3 => CALLi g d mX12_place [.ref 80, .int x1, .int x2] ρ ρ S3 (fun v4 S4 => vp_in ((21 * v4) + x3) 336 ∧ (Q (S4.2 88 (((21 * v4) + x3).toNatClampNeg)) S4)))))) : CALLl g (d + 1) mX12_having [.ref 80, .int x1, .int x2, .int x3] ρ ρ S Q := by
  refine CALL.of mdX12_having.2.2.2.2 (Nat.le_of_ble_eq_true rfl) (Nat.le_refl _) (Nat.le_refl _) ?_
  show AW g ρ (QJ Q) (d + 1) mX12_having 0 [(0, .ref 80), (1, .int x1), (2, .int x2), (3, .int x3)] [] ρ S
  refine AW_aload_n 0 (n := 0) rfl dX12_having_0 rfl ?_
  refine AW_iload_n 1 (n := 1) rfl dX12_having_1 rfl ?_
  refine AW_iload_n 2 (n := 2) rfl dX12_having_2 rfl ?_
  refine AW_callVi (M := mX12_having) (pc := 3) (As := [.int x1, .int x2]) (ρ1 := ρ) (st := []) dX12_having_3 mdX12_isCell rfl mlX12_160 imX12_isCell seX12_isCell (rcv_of (q := (RX12, TX12, 40)) (Nat.le_of_ble_eq_true rfl) (okn hρ (Nat.le_of_ble_eq_true rfl)) rfl rfl) ⟨rfl, npX12_isCell⟩ (Nat.le_of_ble_eq_true rfl) (Nat.le_refl _) (Nat.le_refl _) rfl (CALLi.mono h (fun v1 S1 _ h => ?_))
  refine AW_if_eq dX12_having_6 rfl (iteM h (fun h => ?_) (fun h => ?_))
  · refine AW_ldc2 (v := (-2)) dX12_having_21 kcX12_272 ?_
    exact AW_retl dX12_having_24 rfl h
  · refine AW_iload_n 3 (n := 3) rfl dX12_having_9 rfl ?_
    refine AW_i2l dX12_having_10 ?_
    refine AW_lconst (v := 0) dX12_having_11 rfl ?_
    refine AW_ldc2 (v := 20) dX12_having_12 kcX12_284 ?_
    refine AW_callSi (M := mX12_having) (pc := 15) (As := [.long x3.toInt64, .long 0, .long 20]) (ρ1 := ρ) (st := []) dX12_having_15 mdX12_in mlX12_60 smX12_in ⟨rfl, npX12_in⟩ (Nat.le_of_ble_eq_true rfl) (Nat.le_refl _) (Nat.le_refl _) rfl (CALLi.mono h (fun v2 S2 _ h => ?_))
    refine AW_if_ne dX12_having_18 rfl (iteM h (fun h => ?_) (fun h => ?_))
    · refine AW_ldc2 (v := (-2)) dX12_having_21 kcX12_272 ?_
      exact AW_retl dX12_having_24 rfl h
    · refine AW_aload_n 0 (n := 0) rfl dX12_having_25 rfl ?_
      refine AW_callVv (M := mX12_having) (pc := 26) (As := []) (ρ1 := ρ) (st := []) dX12_having_26 mdX12_talliesAll rfl mlX12_277 imX12_talliesAll seX12_talliesAll (rcv_of (q := (RX12, TX12, 40)) (Nat.le_of_ble_eq_true rfl) (okn hρ (Nat.le_of_ble_eq_true rfl)) rfl rfl) ⟨rfl, npX12_talliesAll⟩ (Nat.le_of_ble_eq_true rfl) (Nat.le_refl _) (Nat.le_refl _) rfl (CALLv.mono h (fun S3 _ h => ?_))
      refine AW_aload_n 0 (n := 0) rfl dX12_having_29 rfl ?_
      refine AW_get dX12_having_30 flX12_35 (Nat.le_of_ble_eq_true rfl) (okn hρ (Nat.le_of_ble_eq_true rfl)) rfl (v := .ref 88) (fvR (okR hρ 58 rfl)) ?_
      refine AW_bipush (v := 21) dX12_having_33 rfl ?_
      refine AW_aload_n 0 (n := 0) rfl dX12_having_35 rfl ?_
      refine AW_iload_n 1 (n := 1) rfl dX12_having_36 rfl ?_
      refine AW_iload_n 2 (n := 2) rfl dX12_having_37 rfl ?_
      refine AW_callVi (M := mX12_having) (pc := 38) (As := [.int x1, .int x2]) (ρ1 := ρ) (st := [.int 21, .ref 88]) dX12_having_38 mdX12_place rfl mlX12_133 imX12_place seX12_place (rcv_of (q := (RX12, TX12, 40)) (Nat.le_of_ble_eq_true rfl) (okn hρ (Nat.le_of_ble_eq_true rfl)) rfl rfl) ⟨rfl, npX12_place⟩ (Nat.le_of_ble_eq_true rfl) (Nat.le_refl _) (Nat.le_refl _) rfl (CALLi.mono h (fun v4 S4 _ h => ?_))
      refine AW_imul dX12_having_41 ?_
      refine AW_iload_n 3 (n := 3) rfl dX12_having_42 rfl ?_
      refine AW_iadd dX12_having_43 ?_
      refine AW_laload dX12_having_44 (Nat.le_of_ble_eq_true rfl) (okn hρ (Nat.le_of_ble_eq_true rfl)) rfl h.1 (v := S4.2 88 (((21 * v4) + x3).toNatClampNeg)) rfl ?_
      replace h := h.2
      exact AW_retl dX12_having_45 rfl h
