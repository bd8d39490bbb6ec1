set_option maxRecDepth 20000 in
theorem eX7_quotient {g : GX} {Q : Int64 → St → Prop} {d : Nat} {ρ : Rs} {S : St} (hρ : Ok ρ) {x0 : Int64} {x2 : Int64} (h : if x2 = 0 then Q 0 S else ¬ x2 = (0 : Int64) ∧ (Q (x0 / x2) S)) : CALLl g d mX7_quotient [.long x0, .long x2] ρ ρ S Q := by
  refine CALL.of mdX7_quotient.2.2.2.2 (Nat.le_of_ble_eq_true rfl) (Nat.le_refl _) (Nat.le_refl _) ?_
  show AW g ρ (QJ Q) d mX7_quotient 0 [(0, .long x0), (2, .long x2)] [] ρ S
  refine AW_lload_n 1 (n := 2) rfl dX7_quotient_0 rfl ?_
  refine AW_lconst (v := 0) dX7_quotient_1 rfl ?_
  refine AW_lc_ne dX7_quotient_2 dX7_quotient_3 rfl (iteM h (fun h => ?_) (fun h => ?_))
  · refine AW_lconst (v := 0) dX7_quotient_6 rfl ?_
    refine AW_goto (tgt := 13) dX7_quotient_7 rfl ?_
    exact AW_retl dX7_quotient_13 rfl h
  · refine AW_lload_n 0 (n := 0) rfl dX7_quotient_10 rfl ?_
    refine AW_lload_n 1 (n := 2) rfl dX7_quotient_11 rfl ?_
    refine AW_ldiv dX7_quotient_12 h.1 ?_
    replace h := h.2
    exact AW_retl dX7_quotient_13 rfl h
set_option maxRecDepth 20000 in
theorem eX7_lowest_15 {g : GX} {Q : Int64 → St → Prop} {d : Nat} {ρ : Rs} {S : St} (hρ : Ok ρ) {x0 : Int64} {x2 : Int64} {x4 : Int32} (h : if x4 = 0 then CALLl g d mX7_divisor [.long x0, .long x2] ρ ρ S (fun v1 S1 => CALLl g d mX7_quotient [.long x0, .long v1] ρ ρ S1 (fun v2 S2 => Q v2 S2)) else CALLl g d mX7_divisor [.long x0, .long x2] ρ ρ S (fun v3 S3 => CALLl g d mX7_quotient [.long x2, .long v3] ρ ρ S3 (fun v4 S4 => Q v4 S4))) : AW g ρ (QJ Q) (d + 1) mX7_lowest 15 [(0, .long x0), (2, .long x2), (4, .int x4)] [] ρ S := by
  refine AW_iload 2 dX7_lowest_15 rfl ?_
  refine AW_if_ne dX7_lowest_17 rfl (iteM h (fun h => ?_) (fun h => ?_))
  · refine AW_lload_n 0 (n := 0) rfl dX7_lowest_20 rfl ?_
    refine AW_goto (tgt := 25) dX7_lowest_21 rfl ?_
    refine AW_lload_n 0 (n := 0) rfl dX7_lowest_25 rfl ?_
    refine AW_lload_n 1 (n := 2) rfl dX7_lowest_26 rfl ?_
    refine AW_callSl (M := mX7_lowest) (pc := 27) (As := [.long x0, .long x2]) (ρ1 := ρ) (st := [.long x0]) dX7_lowest_27 mdX7_divisor mlX7_11 smX7_divisor ⟨rfl, npX7_divisor⟩ (Nat.le_of_ble_eq_true rfl) (Nat.le_refl _) (Nat.le_refl _) rfl (CALLl.mono h (fun v1 S1 _ h => ?_))
    refine AW_callSl (M := mX7_lowest) (pc := 30) (As := [.long x0, .long v1]) (ρ1 := ρ) (st := []) dX7_lowest_30 mdX7_quotient mlX7_17 smX7_quotient ⟨rfl, npX7_quotient⟩ (Nat.le_of_ble_eq_true rfl) (Nat.le_refl _) (Nat.le_refl _) rfl (CALLl.mono h (fun v2 S2 _ h => ?_))
    exact AW_retl dX7_lowest_33 rfl h
  · refine AW_lload_n 1 (n := 2) rfl dX7_lowest_24 rfl ?_
    refine AW_lload_n 0 (n := 0) rfl dX7_lowest_25 rfl ?_
    refine AW_lload_n 1 (n := 2) rfl dX7_lowest_26 rfl ?_
    refine AW_callSl (M := mX7_lowest) (pc := 27) (As := [.long x0, .long x2]) (ρ1 := ρ) (st := [.long x2]) dX7_lowest_27 mdX7_divisor mlX7_11 smX7_divisor ⟨rfl, npX7_divisor⟩ (Nat.le_of_ble_eq_true rfl) (Nat.le_refl _) (Nat.le_refl _) rfl (CALLl.mono h (fun v3 S3 _ h => ?_))
    refine AW_callSl (M := mX7_lowest) (pc := 30) (As := [.long x2, .long v3]) (ρ1 := ρ) (st := []) dX7_lowest_30 mdX7_quotient mlX7_17 smX7_quotient ⟨rfl, npX7_quotient⟩ (Nat.le_of_ble_eq_true rfl) (Nat.le_refl _) (Nat.le_refl _) rfl (CALLl.mono h (fun v4 S4 _ h => ?_))
    exact AW_retl dX7_lowest_33 rfl h
set_option maxRecDepth 20000 in
theorem eX7_lowest {g : GX} {Q : Int64 → St → Prop} {d : Nat} {ρ : Rs} {S : St} (hρ : Ok ρ) {x0 : Int64} {x2 : Int64} {x4 : Int32} (h : if x4 = 0 then AW g ρ (QJ Q) (d + 1) mX7_lowest 15 [(0, .long x0), (2, .long x2), (4, .int x4)] [] ρ S else if x4 = 1 then AW g ρ (QJ Q) (d + 1) mX7_lowest 15 [(0, .long x0), (2, .long x2), (4, .int x4)] [] ρ S else Q (-2) S) : CALLl g (d + 1) mX7_lowest [.long x0, .long x2, .int x4] ρ ρ S Q := by
  refine CALL.of mdX7_lowest.2.2.2.2 (Nat.le_of_ble_eq_true rfl) (Nat.le_refl _) (Nat.le_refl _) ?_
  show AW g ρ (QJ Q) (d + 1) mX7_lowest 0 [(0, .long x0), (2, .long x2), (4, .int x4)] [] ρ S
  refine AW_iload 2 dX7_lowest_0 rfl ?_
  refine AW_if_eq dX7_lowest_2 rfl (iteM h (fun h => ?_) (fun h => ?_))
  · exact AW.sub [0, 1, 2] rfl h
  · refine AW_iload 2 dX7_lowest_5 rfl ?_
    refine AW_iconst (v := 1) dX7_lowest_7 rfl ?_
    refine AW_icmp_eq dX7_lowest_8 rfl (iteM h (fun h => ?_) (fun h => ?_))
    · exact AW.sub [0, 1, 2] rfl h
    · refine AW_ldc2 (v := (-2)) dX7_lowest_11 kcX7_9 ?_
      exact AW_retl dX7_lowest_14 rfl h
set_option maxRecDepth 20000 in
theorem eX7_divisor_9 {g : GX} {Q : Int64 → St → Prop} {d : Nat} {ρ : Rs} {S : St} (hρ : Ok ρ) {x4 : Int64} {x6 : Int64} {x8 : Int32} (h : if (200 : Int32) ≤ x8 then Q x4 S else if x6 = 0 then Q x4 S else ¬ x6 = (0 : Int64) ∧ (AW g ρ (QJ Q) d mX7_divisor 9 [(4, .long x6), (6, .long (x4 - x4 / x6 * x6)), (8, .int (x8 + 1))] [] ρ S)) : AW g ρ (QJ Q) d mX7_divisor 9 [(4, .long x4), (6, .long x6), (8, .int x8)] [] ρ S := by
  refine AW_iload 2 dX7_divisor_9 rfl ?_
  refine AW_sipush (v := 200) dX7_divisor_11 rfl ?_
  refine AW_icmp_ge dX7_divisor_14 rfl (iteM h (fun h => ?_) (fun h => ?_))
  · refine AW_lload 0 dX7_divisor_45 rfl ?_
    exact AW_retl dX7_divisor_47 rfl h
  · refine AW_lload 1 dX7_divisor_17 rfl ?_
    refine AW_lconst (v := 0) dX7_divisor_19 rfl ?_
    refine AW_lc_eq dX7_divisor_20 dX7_divisor_21 rfl (iteM h (fun h => ?_) (fun h => ?_))
    · refine AW_lload 0 dX7_divisor_45 rfl ?_
      exact AW_retl dX7_divisor_47 rfl h
    · refine AW_lload 0 dX7_divisor_24 rfl ?_
      refine AW_lload 1 dX7_divisor_26 rfl ?_
      refine AW_lrem dX7_divisor_28 h.1 ?_
      replace h := h.2
      refine AW_lstore dX7_divisor_29 (Nat.le_of_ble_eq_true rfl) rfl ?_
      refine AW_lload 2 dX7_divisor_31 rfl ?_
      refine AW_lstore dX7_divisor_33 (Nat.le_of_ble_eq_true rfl) rfl ?_
      refine AW_lload 1 dX7_divisor_35 rfl ?_
      refine AW_lstore dX7_divisor_37 (Nat.le_of_ble_eq_true rfl) rfl ?_
      refine AW_iinc 3 (v := x8 + 1) dX7_divisor_39 rfl rfl (Nat.le_of_ble_eq_true rfl) rfl ?_
      refine AW_goto (tgt := 9) dX7_divisor_42 rfl ?_
      exact AW.sub [2, 1, 0] rfl h
set_option maxRecDepth 20000 in
theorem eX7_divisor {g : GX} {Q : Int64 → St → Prop} {d : Nat} {ρ : Rs} {S : St} (hρ : Ok ρ) {x0 : Int64} {x2 : Int64} (h : AW g ρ (QJ Q) d mX7_divisor 9 [(4, .long x0), (6, .long x2), (8, .int 0)] [] ρ S) : CALLl g d mX7_divisor [.long x0, .long x2] ρ ρ S Q := by
  refine CALL.of mdX7_divisor.2.2.2.2 (Nat.le_of_ble_eq_true rfl) (Nat.le_refl _) (Nat.le_refl _) ?_
  show AW g ρ (QJ Q) d mX7_divisor 0 [(0, .long x0), (2, .long x2)] [] ρ S
  refine AW_lload_n 0 (n := 0) rfl dX7_divisor_0 rfl ?_
  refine AW_lstore dX7_divisor_1 (Nat.le_of_ble_eq_true rfl) rfl ?_
  refine AW_lload_n 2 (n := 2) rfl dX7_divisor_3 rfl ?_
  refine AW_lstore dX7_divisor_4 (Nat.le_of_ble_eq_true rfl) rfl ?_
  refine AW_iconst (v := 0) dX7_divisor_6 rfl ?_
  refine AW_istore dX7_divisor_7 (Nat.le_of_ble_eq_true rfl) rfl ?_
  exact AW.sub [2, 1, 0] rfl h
set_option maxRecDepth 20000 in
theorem eX7_bitsOfDouble_55 {g : GX} {Q : Int64 → St → Prop} {d : Nat} {ρ : Rs} {S : St} (hρ : Ok ρ) {x2 : UInt64} {x4 : Int64} {x6 : Int32} (h : if (1100 : Int32) ≤ x6 then vf_n64 (FP.dsub x2 FP.dconst1) ∧ (vf_n64 (FP.dmul (FP.dsub x2 FP.dconst1) 4841369599423283200) ∧ (Q ((x4 <<< ((52 : Int32).toInt64 &&& 63)) ||| (FP.d2l (FP.dmul (FP.dsub x2 FP.dconst1) 4841369599423283200))) S)) else if 0 ≤ (Op.cmpValue (FP.dcmp x2 FP.dconst1) .g) then vf_n64 (FP.dsub x2 FP.dconst1) ∧ (vf_n64 (FP.dmul (FP.dsub x2 FP.dconst1) 4841369599423283200) ∧ (Q ((x4 <<< ((52 : Int32).toInt64 &&& 63)) ||| (FP.d2l (FP.dmul (FP.dsub x2 FP.dconst1) 4841369599423283200))) S)) else vf_n64 (FP.dmul x2 4611686018427387904) ∧ (AW g ρ (QJ Q) d mX7_bitsOfDouble 55 [(2, .double (FP.dmul x2 4611686018427387904)), (4, .long (x4 - 1)), (6, .int (x6 + 1))] [] ρ S)) : AW g ρ (QJ Q) d mX7_bitsOfDouble 55 [(2, .double x2), (4, .long x4), (6, .int x6)] [] ρ S := by
  refine AW_iload 2 dX7_bitsOfDouble_55 rfl ?_
  refine AW_sipush (v := 1100) dX7_bitsOfDouble_57 rfl ?_
  refine AW_icmp_ge dX7_bitsOfDouble_60 rfl (iteM h (fun h => ?_) (fun h => ?_))
  · refine AW_lload 1 dX7_bitsOfDouble_87 rfl ?_
    refine AW_bipush (v := 52) dX7_bitsOfDouble_89 rfl ?_
    refine AW_lshl dX7_bitsOfDouble_91 ?_
    refine AW_dload_n 0 (n := 2) rfl dX7_bitsOfDouble_92 rfl ?_
    refine AW_dconst1 dX7_bitsOfDouble_93 ?_
    refine AW_dsub dX7_bitsOfDouble_94 h.1 ?_
    replace h := h.2
    refine AW_ldc2d (v := 4841369599423283200) dX7_bitsOfDouble_95 kcX7_24 ?_
    refine AW_dmul dX7_bitsOfDouble_98 h.1 ?_
    replace h := h.2
    refine AW_d2l dX7_bitsOfDouble_99 ?_
    refine AW_lor dX7_bitsOfDouble_100 ?_
    exact AW_retl dX7_bitsOfDouble_101 rfl h
  · refine AW_dload_n 0 (n := 2) rfl dX7_bitsOfDouble_63 rfl ?_
    refine AW_dconst1 dX7_bitsOfDouble_64 ?_
    refine AW_dcmp dX7_bitsOfDouble_65 ?_
    refine AW_if_ge dX7_bitsOfDouble_66 rfl (iteM h (fun h => ?_) (fun h => ?_))
    · refine AW_lload 1 dX7_bitsOfDouble_87 rfl ?_
      refine AW_bipush (v := 52) dX7_bitsOfDouble_89 rfl ?_
      refine AW_lshl dX7_bitsOfDouble_91 ?_
      refine AW_dload_n 0 (n := 2) rfl dX7_bitsOfDouble_92 rfl ?_
      refine AW_dconst1 dX7_bitsOfDouble_93 ?_
      refine AW_dsub dX7_bitsOfDouble_94 h.1 ?_
      replace h := h.2
      refine AW_ldc2d (v := 4841369599423283200) dX7_bitsOfDouble_95 kcX7_24 ?_
      refine AW_dmul dX7_bitsOfDouble_98 h.1 ?_
      replace h := h.2
      refine AW_d2l dX7_bitsOfDouble_99 ?_
      refine AW_lor dX7_bitsOfDouble_100 ?_
      exact AW_retl dX7_bitsOfDouble_101 rfl h
    · refine AW_dload_n 0 (n := 2) rfl dX7_bitsOfDouble_69 rfl ?_
      refine AW_ldc2d (v := 4611686018427387904) dX7_bitsOfDouble_70 kcX7_22 ?_
      refine AW_dmul dX7_bitsOfDouble_73 h.1 ?_
      replace h := h.2
      refine AW_dstore_n (n := 2) (i := 2) rfl dX7_bitsOfDouble_74 (Nat.le_of_ble_eq_true rfl) rfl ?_
      refine AW_lload 1 dX7_bitsOfDouble_75 rfl ?_
      refine AW_lconst (v := 1) dX7_bitsOfDouble_77 rfl ?_
      refine AW_lsub dX7_bitsOfDouble_78 ?_
      refine AW_lstore dX7_bitsOfDouble_79 (Nat.le_of_ble_eq_true rfl) rfl ?_
      refine AW_iinc 2 (v := x6 + 1) dX7_bitsOfDouble_81 rfl rfl (Nat.le_of_ble_eq_true rfl) rfl ?_
      refine AW_goto (tgt := 55) dX7_bitsOfDouble_84 rfl ?_
      exact AW.sub [2, 1, 0] rfl h
set_option maxRecDepth 20000 in
theorem eX7_bitsOfDouble_18 {g : GX} {Q : Int64 → St → Prop} {d : Nat} {ρ : Rs} {S : St} (hρ : Ok ρ) {x2 : UInt64} {x4 : Int64} {x6 : Int32} (h : if (1100 : Int32) ≤ x6 then AW g ρ (QJ Q) d mX7_bitsOfDouble 55 [(2, .double x2), (4, .long x4), (6, .int 0)] [] ρ S else if (Op.cmpValue (FP.dcmp x2 4611686018427387904) .l) < 0 then AW g ρ (QJ Q) d mX7_bitsOfDouble 55 [(2, .double x2), (4, .long x4), (6, .int 0)] [] ρ S else vf_n64 (FP.ddiv x2 4611686018427387904) ∧ (AW g ρ (QJ Q) d mX7_bitsOfDouble 18 [(2, .double (FP.ddiv x2 4611686018427387904)), (4, .long (x4 + 1)), (6, .int (x6 + 1))] [] ρ S)) : AW g ρ (QJ Q) d mX7_bitsOfDouble 18 [(2, .double x2), (4, .long x4), (6, .int x6)] [] ρ S := by
  refine AW_iload 2 dX7_bitsOfDouble_18 rfl ?_
  refine AW_sipush (v := 1100) dX7_bitsOfDouble_20 rfl ?_
  refine AW_icmp_ge dX7_bitsOfDouble_23 rfl (iteM h (fun h => ?_) (fun h => ?_))
  · refine AW_iconst (v := 0) dX7_bitsOfDouble_52 rfl ?_
    refine AW_istore dX7_bitsOfDouble_53 (Nat.le_of_ble_eq_true rfl) rfl ?_
    exact AW.sub [1, 2, 0] rfl h
  · refine AW_dload_n 0 (n := 2) rfl dX7_bitsOfDouble_26 rfl ?_
    refine AW_ldc2d (v := 4611686018427387904) dX7_bitsOfDouble_27 kcX7_22 ?_
    refine AW_dcmp dX7_bitsOfDouble_30 ?_
    refine AW_if_lt dX7_bitsOfDouble_31 rfl (iteM h (fun h => ?_) (fun h => ?_))
    · refine AW_iconst (v := 0) dX7_bitsOfDouble_52 rfl ?_
      refine AW_istore dX7_bitsOfDouble_53 (Nat.le_of_ble_eq_true rfl) rfl ?_
      exact AW.sub [1, 2, 0] rfl h
    · refine AW_dload_n 0 (n := 2) rfl dX7_bitsOfDouble_34 rfl ?_
      refine AW_ldc2d (v := 4611686018427387904) dX7_bitsOfDouble_35 kcX7_22 ?_
      refine AW_ddiv dX7_bitsOfDouble_38 h.1 ?_
      replace h := h.2
      refine AW_dstore_n (n := 2) (i := 2) rfl dX7_bitsOfDouble_39 (Nat.le_of_ble_eq_true rfl) rfl ?_
      refine AW_lload 1 dX7_bitsOfDouble_40 rfl ?_
      refine AW_lconst (v := 1) dX7_bitsOfDouble_42 rfl ?_
      refine AW_ladd dX7_bitsOfDouble_43 ?_
      refine AW_lstore dX7_bitsOfDouble_44 (Nat.le_of_ble_eq_true rfl) rfl ?_
      refine AW_iinc 2 (v := x6 + 1) dX7_bitsOfDouble_46 rfl rfl (Nat.le_of_ble_eq_true rfl) rfl ?_
      refine AW_goto (tgt := 18) dX7_bitsOfDouble_49 rfl ?_
      exact AW.sub [2, 1, 0] rfl h
set_option maxRecDepth 20000 in
theorem eX7_bitsOfDouble {g : GX} {Q : Int64 → St → Prop} {d : Nat} {ρ : Rs} {S : St} (hρ : Ok ρ) {x0 : UInt64} (h : if 0 < (Op.cmpValue (FP.dcmp x0 FP.dconst0) .l) then AW g ρ (QJ Q) d mX7_bitsOfDouble 18 [(2, .double x0), (4, .long 1023), (6, .int 0)] [] ρ S else Q 0 S) : CALLl g d mX7_bitsOfDouble [.double x0] ρ ρ S Q := by
  refine CALL.of mdX7_bitsOfDouble.2.2.2.2 (Nat.le_of_ble_eq_true rfl) (Nat.le_refl _) (Nat.le_refl _) ?_
  show AW g ρ (QJ Q) d mX7_bitsOfDouble 0 [(0, .double x0)] [] ρ S
  refine AW_dload_n 0 (n := 0) rfl dX7_bitsOfDouble_0 rfl ?_
  refine AW_dconst0 dX7_bitsOfDouble_1 ?_
  refine AW_dcmp dX7_bitsOfDouble_2 ?_
  refine AW_if_gt dX7_bitsOfDouble_3 rfl (iteM h (fun h => ?_) (fun h => ?_))
  · refine AW_dload_n 0 (n := 0) rfl dX7_bitsOfDouble_8 rfl ?_
    refine AW_dstore_n (n := 2) (i := 2) rfl dX7_bitsOfDouble_9 (Nat.le_of_ble_eq_true rfl) rfl ?_
    refine AW_ldc2 (v := 1023) dX7_bitsOfDouble_10 kcX7_20 ?_
    refine AW_lstore dX7_bitsOfDouble_13 (Nat.le_of_ble_eq_true rfl) rfl ?_
    refine AW_iconst (v := 0) dX7_bitsOfDouble_15 rfl ?_
    refine AW_istore dX7_bitsOfDouble_16 (Nat.le_of_ble_eq_true rfl) rfl ?_
    exact AW.sub [2, 1, 0] rfl h
  · refine AW_lconst (v := 0) dX7_bitsOfDouble_6 rfl ?_
    exact AW_retl dX7_bitsOfDouble_7 rfl h
set_option maxRecDepth 20000 in
theorem eX7_bitsOfFloat_12 {g : GX} {Q : Int32 → St → Prop} {d : Nat} {ρ : Rs} {S : St} (hρ : Ok ρ) {x0 : UInt32} {s0 : UInt32} (h : vf_n64 (FP.f2d s0) ∧ (CALLl g d mX7_bitsOfDouble [.double (FP.f2d s0)] ρ ρ S (fun v1 S1 => if v1 = 0 then Q 0 S1 else if 0 ≤ (Op.cmpValue (FP.fcmp x0 FP.fconst0) .g) then Q ((((v1.toUInt64 >>> ((29 : Int32).toInt64.toUInt64 &&& Int64.toUInt64 63)).toInt64) - 7516192768).toInt32) S1 else Q (((((v1.toUInt64 >>> ((29 : Int32).toInt64.toUInt64 &&& Int64.toUInt64 63)).toInt64) - 7516192768).toInt32) ||| (-2147483648)) S1))) : AW g ρ (QI Q) (d + 1) mX7_bitsOfFloat 12 [(0, .float x0)] [.float s0] ρ S := by
  refine AW_f2d dX7_bitsOfFloat_12 h.1 ?_
  replace h := h.2
  refine AW_callSl (M := mX7_bitsOfFloat) (pc := 13) (As := [.double (FP.f2d s0)]) (ρ1 := ρ) (st := []) dX7_bitsOfFloat_13 mdX7_bitsOfDouble mlX7_26 smX7_bitsOfDouble ⟨rfl, npX7_bitsOfDouble⟩ (Nat.le_of_ble_eq_true rfl) (Nat.le_refl _) (Nat.le_refl _) rfl (CALLl.mono h (fun v1 S1 _ h => ?_))
  refine AW_lstore_n (n := 1) (i := 1) rfl dX7_bitsOfFloat_16 (Nat.le_of_ble_eq_true rfl) rfl ?_
  refine AW_lload_n 0 (n := 1) rfl dX7_bitsOfFloat_17 rfl ?_
  refine AW_lconst (v := 0) dX7_bitsOfFloat_18 rfl ?_
  refine AW_lc_ne dX7_bitsOfFloat_19 dX7_bitsOfFloat_20 rfl (iteM h (fun h => ?_) (fun h => ?_))
  · refine AW_iconst (v := 0) dX7_bitsOfFloat_23 rfl ?_
    exact AW_reti dX7_bitsOfFloat_24 rfl h
  · refine AW_lload_n 0 (n := 1) rfl dX7_bitsOfFloat_25 rfl ?_
    refine AW_bipush (v := 29) dX7_bitsOfFloat_26 rfl ?_
    refine AW_lushr dX7_bitsOfFloat_28 ?_
    refine AW_ldc2 (v := 7516192768) dX7_bitsOfFloat_29 kcX7_30 ?_
    refine AW_lsub dX7_bitsOfFloat_32 ?_
    refine AW_l2i dX7_bitsOfFloat_33 ?_
    refine AW_istore_n (n := 3) (i := 3) rfl dX7_bitsOfFloat_34 (Nat.le_of_ble_eq_true rfl) rfl ?_
    refine AW_fload_n 2 (n := 0) rfl dX7_bitsOfFloat_35 rfl ?_
    refine AW_fconst0 dX7_bitsOfFloat_36 ?_
    refine AW_fcmp dX7_bitsOfFloat_37 ?_
    refine AW_if_ge dX7_bitsOfFloat_38 rfl (iteM h (fun h => ?_) (fun h => ?_))
    · refine AW_iload_n 0 (n := 3) rfl dX7_bitsOfFloat_48 rfl ?_
      exact AW_reti dX7_bitsOfFloat_49 rfl h
    · refine AW_iload_n 0 (n := 3) rfl dX7_bitsOfFloat_41 rfl ?_
      refine AW_ldc (v := (-2147483648)) dX7_bitsOfFloat_42 kcX7_32 ?_
      refine AW_ior dX7_bitsOfFloat_44 ?_
      refine AW_goto (tgt := 49) dX7_bitsOfFloat_45 rfl ?_
      exact AW_reti dX7_bitsOfFloat_49 rfl h
set_option maxRecDepth 20000 in
theorem eX7_bitsOfFloat {g : GX} {Q : Int32 → St → Prop} {d : Nat} {ρ : Rs} {S : St} (hρ : Ok ρ) {x0 : UInt32} (h : if 0 ≤ (Op.cmpValue (FP.fcmp x0 FP.fconst0) .g) then AW g ρ (QI Q) (d + 1) mX7_bitsOfFloat 12 [(0, .float x0)] [.float x0] ρ S else AW g ρ (QI Q) (d + 1) mX7_bitsOfFloat 12 [(0, .float x0)] [.float (FP.fneg x0)] ρ S) : CALLi g (d + 1) mX7_bitsOfFloat [.float x0] ρ ρ S Q := by
  refine CALL.of mdX7_bitsOfFloat.2.2.2.2 (Nat.le_of_ble_eq_true rfl) (Nat.le_refl _) (Nat.le_refl _) ?_
  show AW g ρ (QI Q) (d + 1) mX7_bitsOfFloat 0 [(0, .float x0)] [] ρ S
  refine AW_fload_n 0 (n := 0) rfl dX7_bitsOfFloat_0 rfl ?_
  refine AW_fconst0 dX7_bitsOfFloat_1 ?_
  refine AW_fcmp dX7_bitsOfFloat_2 ?_
  refine AW_if_ge dX7_bitsOfFloat_3 rfl (iteM h (fun h => ?_) (fun h => ?_))
  · refine AW_fload_n 0 (n := 0) rfl dX7_bitsOfFloat_11 rfl ?_
    exact AW.sub [0] rfl h
  · refine AW_fload_n 0 (n := 0) rfl dX7_bitsOfFloat_6 rfl ?_
    refine AW_fneg dX7_bitsOfFloat_7 ?_
    refine AW_goto (tgt := 12) dX7_bitsOfFloat_8 rfl ?_
    exact AW.sub [0] rfl h
set_option maxRecDepth 20000 in
theorem eX0_start {g : GX} {Q : St → Prop} {d : Nat} {ρ : Rs} {S : St} (hρ : Ok ρ) {x1 : Int32} (hF : ∀ k ∈ ([25] : List Nat), gF g k) (h : Q (setL S 25 0 x1.toInt64)) : CALLv g d mX0_start [.ref 25, .int x1] ρ ρ S Q := by
  refine CALL.of mdX0_start.2.2.2.2 (Nat.le_of_ble_eq_true rfl) (Nat.le_refl _) (Nat.le_refl _) ?_
  show AW g ρ (QV Q) d mX0_start 0 [(0, .ref 25), (1, .int x1)] [] ρ S
  refine AW_aload_n 0 (n := 0) rfl dX0_start_0 rfl ?_
  refine AW_iload_n 1 (n := 1) rfl dX0_start_1 rfl ?_
  refine AW_i2l dX0_start_2 ?_
  refine AW_put dX0_start_3 flX0_7 fp_0_0 (Nat.le_of_ble_eq_true rfl) (okn hρ (Nat.le_of_ble_eq_true rfl)) rfl (fun _ => rfl) (fun _ => rfl) rfl rfl rfl rfl (Fr.setL _ _ _ rfl) (fun _ _ => rfl) (ρ2 := ρ) (S2 := setL S 25 0 x1.toInt64) (fun _ => rfl) (fun _ _ _ q1 _ => fvL_o q1) (hF _ (List.mem_of_getElem? (i := 0) rfl)) ?_
  exact AW_retv dX0_start_6 rfl h
set_option maxRecDepth 20000 in
theorem eX0_draw {g : GX} {Q : Int32 → St → Prop} {d : Nat} {ρ : Rs} {S : St} (hρ : Ok ρ) {x1 : Int32} (hF : ∀ k ∈ ([25] : List Nat), gF g k) (h : if 0 < x1 then ¬ x1.toInt64 = (0 : Int64) ∧ (Q ((((((1103515245 * (S.2 25 0)) + 12345) &&& 2147483647) / 65536) - ((((1103515245 * (S.2 25 0)) + 12345) &&& 2147483647) / 65536) / x1.toInt64 * x1.toInt64).toInt32) (setL S 25 0 (((1103515245 * (S.2 25 0)) + 12345) &&& 2147483647))) else Q 0 (setL S 25 0 (((1103515245 * (S.2 25 0)) + 12345) &&& 2147483647))) : CALLi g d mX0_draw [.ref 25, .int x1] ρ ρ S Q := by
  refine CALL.of mdX0_draw.2.2.2.2 (Nat.le_of_ble_eq_true rfl) (Nat.le_refl _) (Nat.le_refl _) ?_
  show AW g ρ (QI Q) d mX0_draw 0 [(0, .ref 25), (1, .int x1)] [] ρ S
  refine AW_aload_n 0 (n := 0) rfl dX0_draw_0 rfl ?_
  refine AW_ldc2 (v := 1103515245) dX0_draw_1 kcX0_13 ?_
  refine AW_aload_n 0 (n := 0) rfl dX0_draw_4 rfl ?_
  refine AW_get dX0_draw_5 flX0_7 (Nat.le_of_ble_eq_true rfl) (okn hρ (Nat.le_of_ble_eq_true rfl)) rfl (v := .long (S.2 25 0)) (fun _ => rfl) ?_
  refine AW_lmul dX0_draw_8 ?_
  refine AW_ldc2 (v := 12345) dX0_draw_9 kcX0_15 ?_
  refine AW_ladd dX0_draw_12 ?_
  refine AW_ldc2 (v := 2147483647) dX0_draw_13 kcX0_17 ?_
  refine AW_land dX0_draw_16 ?_
  refine AW_put dX0_draw_17 flX0_7 fp_0_0 (Nat.le_of_ble_eq_true rfl) (okn hρ (Nat.le_of_ble_eq_true rfl)) rfl (fun _ => rfl) (fun _ => rfl) rfl rfl rfl rfl (Fr.setL _ _ _ rfl) (fun _ _ => rfl) (ρ2 := ρ) (S2 := setL S 25 0 (((1103515245 * (S.2 25 0)) + 12345) &&& 2147483647)) (fun _ => rfl) (fun _ _ _ q1 _ => fvL_o q1) (hF _ (List.mem_of_getElem? (i := 0) rfl)) ?_
  refine AW_iload_n 1 (n := 1) rfl dX0_draw_20 rfl ?_
  refine AW_if_gt dX0_draw_21 rfl (iteM h (fun h => ?_) (fun h => ?_))
  · refine AW_aload_n 0 (n := 0) rfl dX0_draw_28 rfl ?_
    refine AW_get dX0_draw_29 flX0_7 (Nat.le_of_ble_eq_true rfl) (okn hρ (Nat.le_of_ble_eq_true rfl)) rfl (v := .long (((1103515245 * (S.2 25 0)) + 12345) &&& 2147483647)) (fun _ => rfl) ?_
    refine AW_ldc2 (v := 65536) dX0_draw_32 kcX0_19 ?_
    refine AW_ldiv dX0_draw_35 (by decide) ?_
    refine AW_iload_n 1 (n := 1) rfl dX0_draw_36 rfl ?_
    refine AW_i2l dX0_draw_37 ?_
    refine AW_lrem dX0_draw_38 h.1 ?_
    replace h := h.2
    refine AW_l2i dX0_draw_39 ?_
    exact AW_reti dX0_draw_40 rfl h
  · refine AW_iconst (v := 0) dX0_draw_24 rfl ?_
    refine AW_goto (tgt := 40) dX0_draw_25 rfl ?_
    exact AW_reti dX0_draw_40 rfl h
set_option maxRecDepth 20000 in
theorem eX0_drawOther {g : GX} {Q : Int32 → St → Prop} {d : Nat} {ρ : Rs} {S : St} (hρ : Ok ρ) {x1 : Int32} {x2 : Int32} (h : CALLi g d mX0_draw [.ref 25, .int (x1 - 1)] ρ ρ S (fun v1 S1 => if x2 ≤ v1 then Q (v1 + 1) S1 else Q v1 S1)) : CALLi g (d + 1) mX0_drawOther [.ref 25, .int x1, .int x2] ρ ρ S Q := by
  refine CALL.of mdX0_drawOther.2.2.2.2 (Nat.le_of_ble_eq_true rfl) (Nat.le_refl _) (Nat.le_refl _) ?_
  show AW g ρ (QI Q) (d + 1) mX0_drawOther 0 [(0, .ref 25), (1, .int x1), (2, .int x2)] [] ρ S
  refine AW_aload_n 0 (n := 0) rfl dX0_drawOther_0 rfl ?_
  refine AW_iload_n 1 (n := 1) rfl dX0_drawOther_1 rfl ?_
  refine AW_iconst (v := 1) dX0_drawOther_2 rfl ?_
  refine AW_isub dX0_drawOther_3 ?_
  refine AW_callVi (M := mX0_drawOther) (pc := 4) (As := [.int (x1 - 1)]) (ρ1 := ρ) (st := []) dX0_drawOther_4 mdX0_draw rfl mlX0_21 imX0_draw seX0_draw (rcv_of (q := (RX0, TX0, 1)) (Nat.le_of_ble_eq_true rfl) (okn hρ (Nat.le_of_ble_eq_true rfl)) rfl rfl) ⟨rfl, npX0_draw⟩ (Nat.le_of_ble_eq_true rfl) (Nat.le_refl _) (Nat.le_refl _) rfl (CALLi.mono h (fun v1 S1 _ h => ?_))
  refine AW_istore_n (n := 3) (i := 3) rfl dX0_drawOther_7 (Nat.le_of_ble_eq_true rfl) rfl ?_
  refine AW_iload_n 0 (n := 3) rfl dX0_drawOther_8 rfl ?_
  refine AW_iload_n 3 (n := 2) rfl dX0_drawOther_9 rfl ?_
  refine AW_icmp_ge dX0_drawOther_10 rfl (iteM h (fun h => ?_) (fun h => ?_))
  · refine AW_iload_n 0 (n := 3) rfl dX0_drawOther_17 rfl ?_
    refine AW_iconst (v := 1) dX0_drawOther_18 rfl ?_
    refine AW_iadd dX0_drawOther_19 ?_
    exact AW_reti dX0_drawOther_20 rfl h
  · refine AW_iload_n 0 (n := 3) rfl dX0_drawOther_13 rfl ?_
    refine AW_goto (tgt := 20) dX0_drawOther_14 rfl ?_
    exact AW_reti dX0_drawOther_20 rfl h
set_option maxRecDepth 20000 in
theorem eX3_shift {g : GX} {Q : Int32 → St → Prop} {d : Nat} {ρ : Rs} {S : St} (hρ : Ok ρ) {x0 : Int32} {x1 : Int32} (h : Q (4 * ((15 - (4 * x0)) - x1)) S) : CALLi g d mX3_shift [.int x0, .int x1] ρ ρ S Q := by
  refine CALL.of mdX3_shift.2.2.2.2 (Nat.le_of_ble_eq_true rfl) (Nat.le_refl _) (Nat.le_refl _) ?_
  show AW g ρ (QI Q) d mX3_shift 0 [(0, .int x0), (1, .int x1)] [] ρ S
  refine AW_iconst (v := 4) dX3_shift_0 rfl ?_
  refine AW_bipush (v := 15) dX3_shift_1 rfl ?_
  refine AW_iconst (v := 4) dX3_shift_3 rfl ?_
  refine AW_iload_n 0 (n := 0) rfl dX3_shift_4 rfl ?_
  refine AW_imul dX3_shift_5 ?_
  refine AW_isub dX3_shift_6 ?_
  refine AW_iload_n 1 (n := 1) rfl dX3_shift_7 rfl ?_
  refine AW_isub dX3_shift_8 ?_
  refine AW_imul dX3_shift_9 ?_
  exact AW_reti dX3_shift_10 rfl h
set_option maxRecDepth 20000 in
theorem eX3_get {g : GX} {Q : Int32 → St → Prop} {d : Nat} {ρ : Rs} {S : St} (hρ : Ok ρ) {x0 : Int64} {x2 : Int32} (h : Q ((((x0.toUInt64 >>> (x2.toInt64.toUInt64 &&& Int64.toUInt64 63)).toInt64).toInt32) &&& 15) S) : CALLi g d mX3_get [.long x0, .int x2] ρ ρ S Q := by
  refine CALL.of mdX3_get.2.2.2.2 (Nat.le_of_ble_eq_true rfl) (Nat.le_refl _) (Nat.le_refl _) ?_
  show AW g ρ (QI Q) d mX3_get 0 [(0, .long x0), (2, .int x2)] [] ρ S
  refine AW_lload_n 0 (n := 0) rfl dX3_get_0 rfl ?_
  refine AW_iload_n 1 (n := 2) rfl dX3_get_1 rfl ?_
  refine AW_lushr dX3_get_2 ?_
  refine AW_l2i dX3_get_3 ?_
  refine AW_bipush (v := 15) dX3_get_4 rfl ?_
  refine AW_iand dX3_get_6 ?_
  exact AW_reti dX3_get_7 rfl h
set_option maxRecDepth 20000 in
theorem eX3_one {g : GX} {Q : Int64 → St → Prop} {d : Nat} {ρ : Rs} {S : St} (hρ : Ok ρ) {x0 : Int32} {x1 : Int32} (h : CALLi g d mX3_shift [.int x0, .int x1] ρ ρ S (fun v1 S1 => Q (1 <<< (v1.toInt64 &&& 63)) S1)) : CALLl g (d + 1) mX3_one [.int x0, .int x1] ρ ρ S Q := by
  refine CALL.of mdX3_one.2.2.2.2 (Nat.le_of_ble_eq_true rfl) (Nat.le_refl _) (Nat.le_refl _) ?_
  show AW g ρ (QJ Q) (d + 1) mX3_one 0 [(0, .int x0), (1, .int x1)] [] ρ S
  refine AW_lconst (v := 1) dX3_one_0 rfl ?_
  refine AW_iload_n 0 (n := 0) rfl dX3_one_1 rfl ?_
  refine AW_iload_n 1 (n := 1) rfl dX3_one_2 rfl ?_
  refine AW_callSi (M := mX3_one) (pc := 3) (As := [.int x0, .int x1]) (ρ1 := ρ) (st := [.long 1]) dX3_one_3 mdX3_shift mlX3_11 smX3_shift ⟨rfl, npX3_shift⟩ (Nat.le_of_ble_eq_true rfl) (Nat.le_refl _) (Nat.le_refl _) rfl (CALLi.mono h (fun v1 S1 _ h => ?_))
  refine AW_lshl dX3_one_6 ?_
  exact AW_retl dX3_one_7 rfl h
set_option maxRecDepth 20000 in
theorem eX3_swapStep {g : GX} {Q : Int64 → St → Prop} {d : Nat} {ρ : Rs} {S : St} (hρ : Ok ρ) {x0 : Int32} {x1 : Int32} {x2 : Int32} {x3 : Int32} (h : CALLl g d mX3_one [.int x0, .int x2] ρ ρ S (fun v1 S1 => CALLl g d mX3_one [.int x1, .int x3] ρ ρ S1 (fun v2 S2 => CALLl g d mX3_one [.int x0, .int x3] ρ ρ S2 (fun v3 S3 => CALLl g d mX3_one [.int x1, .int x2] ρ ρ S3 (fun v4 S4 => Q (((v1 + v2) - v3) - v4) S4))))) : CALLl g (d + 1) mX3_swapStep [.int x0, .int x1, .int x2, .int x3] ρ ρ S Q := by
  refine CALL.of mdX3_swapStep.2.2.2.2 (Nat.le_of_ble_eq_true rfl) (Nat.le_refl _) (Nat.le_refl _) ?_
  show AW g ρ (QJ Q) (d + 1) mX3_swapStep 0 [(0, .int x0), (1, .int x1), (2, .int x2), (3, .int x3)] [] ρ S
  refine AW_iload_n 0 (n := 0) rfl dX3_swapStep_0 rfl ?_
  refine AW_iload_n 2 (n := 2) rfl dX3_swapStep_1 rfl ?_
  refine AW_callSl (M := mX3_swapStep) (pc := 2) (As := [.int x0, .int x2]) (ρ1 := ρ) (st := []) dX3_swapStep_2 mdX3_one mlX3_15 smX3_one ⟨rfl, npX3_one⟩ (Nat.le_of_ble_eq_true rfl) (Nat.le_refl _) (Nat.le_refl _) rfl (CALLl.mono h (fun v1 S1 _ h => ?_))
  refine AW_iload_n 1 (n := 1) rfl dX3_swapStep_5 rfl ?_
  refine AW_iload_n 3 (n := 3) rfl dX3_swapStep_6 rfl ?_
  refine AW_callSl (M := mX3_swapStep) (pc := 7) (As := [.int x1, .int x3]) (ρ1 := ρ) (st := [.long v1]) dX3_swapStep_7 mdX3_one mlX3_15 smX3_one ⟨rfl, npX3_one⟩ (Nat.le_of_ble_eq_true rfl) (Nat.le_refl _) (Nat.le_refl _) rfl (CALLl.mono h (fun v2 S2 _ h => ?_))
  refine AW_ladd dX3_swapStep_10 ?_
  refine AW_iload_n 0 (n := 0) rfl dX3_swapStep_11 rfl ?_
  refine AW_iload_n 3 (n := 3) rfl dX3_swapStep_12 rfl ?_
  refine AW_callSl (M := mX3_swapStep) (pc := 13) (As := [.int x0, .int x3]) (ρ1 := ρ) (st := [.long (v1 + v2)]) dX3_swapStep_13 mdX3_one mlX3_15 smX3_one ⟨rfl, npX3_one⟩ (Nat.le_of_ble_eq_true rfl) (Nat.le_refl _) (Nat.le_refl _) rfl (CALLl.mono h (fun v3 S3 _ h => ?_))
  refine AW_lsub dX3_swapStep_16 ?_
  refine AW_iload_n 1 (n := 1) rfl dX3_swapStep_17 rfl ?_
  refine AW_iload_n 2 (n := 2) rfl dX3_swapStep_18 rfl ?_
  refine AW_callSl (M := mX3_swapStep) (pc := 19) (As := [.int x1, .int x2]) (ρ1 := ρ) (st := [.long ((v1 + v2) - v3)]) dX3_swapStep_19 mdX3_one mlX3_15 smX3_one ⟨rfl, npX3_one⟩ (Nat.le_of_ble_eq_true rfl) (Nat.le_refl _) (Nat.le_refl _) rfl (CALLl.mono h (fun v4 S4 _ h => ?_))
  refine AW_lsub dX3_swapStep_22 ?_
  exact AW_retl dX3_swapStep_23 rfl h
set_option maxRecDepth 20000 in
theorem eX3_lineOf {g : GX} {Q : Int32 → St → Prop} {d : Nat} {ρ : Rs} {S : St} (hρ : Ok ρ) {x0 : Int64} {x2 : Int32} (h : CALLi g d mX3_shift [.int x2, .int 3] ρ ρ S (fun v1 S1 => Q ((((x0.toUInt64 >>> (v1.toInt64.toUInt64 &&& Int64.toUInt64 63)).toInt64).toInt32) &&& 65535) S1)) : CALLi g (d + 1) mX3_lineOf [.long x0, .int x2] ρ ρ S Q := by
  refine CALL.of mdX3_lineOf.2.2.2.2 (Nat.le_of_ble_eq_true rfl) (Nat.le_refl _) (Nat.le_refl _) ?_
  show AW g ρ (QI Q) (d + 1) mX3_lineOf 0 [(0, .long x0), (2, .int x2)] [] ρ S
  refine AW_lload_n 0 (n := 0) rfl dX3_lineOf_0 rfl ?_
  refine AW_iload_n 1 (n := 2) rfl dX3_lineOf_1 rfl ?_
  refine AW_iconst (v := 3) dX3_lineOf_2 rfl ?_
  refine AW_callSi (M := mX3_lineOf) (pc := 3) (As := [.int x2, .int 3]) (ρ1 := ρ) (st := [.long x0]) dX3_lineOf_3 mdX3_shift mlX3_11 smX3_shift ⟨rfl, npX3_shift⟩ (Nat.le_of_ble_eq_true rfl) (Nat.le_refl _) (Nat.le_refl _) rfl (CALLi.mono h (fun v1 S1 _ h => ?_))
  refine AW_lushr dX3_lineOf_6 ?_
  refine AW_l2i dX3_lineOf_7 ?_
  refine AW_ldc (v := 65535) dX3_lineOf_8 kcX3_19 ?_
  refine AW_iand dX3_lineOf_10 ?_
  exact AW_reti dX3_lineOf_11 rfl h
set_option maxRecDepth 20000 in
theorem eX3_withLine {g : GX} {Q : Int64 → St → Prop} {d : Nat} {ρ : Rs} {S : St} (hρ : Ok ρ) {x0 : Int64} {x2 : Int32} {x3 : Int32} (h : CALLi g d mX3_shift [.int x2, .int 3] ρ ρ S (fun v1 S1 => Q (x0 ||| (x3.toInt64 <<< (v1.toInt64 &&& 63))) S1)) : CALLl g (d + 1) mX3_withLine [.long x0, .int x2, .int x3] ρ ρ S Q := by
  refine CALL.of mdX3_withLine.2.2.2.2 (Nat.le_of_ble_eq_true rfl) (Nat.le_refl _) (Nat.le_refl _) ?_
  show AW g ρ (QJ Q) (d + 1) mX3_withLine 0 [(0, .long x0), (2, .int x2), (3, .int x3)] [] ρ S
  refine AW_lload_n 0 (n := 0) rfl dX3_withLine_0 rfl ?_
  refine AW_iload_n 2 (n := 3) rfl dX3_withLine_1 rfl ?_
  refine AW_i2l dX3_withLine_2 ?_
  refine AW_iload_n 1 (n := 2) rfl dX3_withLine_3 rfl ?_
  refine AW_iconst (v := 3) dX3_withLine_4 rfl ?_
  refine AW_callSi (M := mX3_withLine) (pc := 5) (As := [.int x2, .int 3]) (ρ1 := ρ) (st := [.long x3.toInt64, .long x0]) dX3_withLine_5 mdX3_shift mlX3_11 smX3_shift ⟨rfl, npX3_shift⟩ (Nat.le_of_ble_eq_true rfl) (Nat.le_refl _) (Nat.le_refl _) rfl (CALLi.mono h (fun v1 S1 _ h => ?_))
  refine AW_lshl dX3_withLine_8 ?_
  refine AW_lor dX3_withLine_9 ?_
  exact AW_retl dX3_withLine_10 rfl h
set_option maxRecDepth 20000 in
theorem eX3_inLine {g : GX} {Q : Int32 → St → Prop} {d : Nat} {ρ : Rs} {S : St} (hρ : Ok ρ) {x0 : Int32} {x1 : Int32} (h : Q ((x0 >>> ((4 * (3 - x1)) &&& 31)) &&& 15) S) : CALLi g d mX3_inLine [.int x0, .int x1] ρ ρ S Q := by
  refine CALL.of mdX3_inLine.2.2.2.2 (Nat.le_of_ble_eq_true rfl) (Nat.le_refl _) (Nat.le_refl _) ?_
  show AW g ρ (QI Q) d mX3_inLine 0 [(0, .int x0), (1, .int x1)] [] ρ S
  refine AW_iload_n 0 (n := 0) rfl dX3_inLine_0 rfl ?_
  refine AW_iconst (v := 4) dX3_inLine_1 rfl ?_
  refine AW_iconst (v := 3) dX3_inLine_2 rfl ?_
  refine AW_iload_n 1 (n := 1) rfl dX3_inLine_3 rfl ?_
  refine AW_isub dX3_inLine_4 ?_
  refine AW_imul dX3_inLine_5 ?_
  refine AW_ishr dX3_inLine_6 ?_
  refine AW_bipush (v := 15) dX3_inLine_7 rfl ?_
  refine AW_iand dX3_inLine_9 ?_
  exact AW_reti dX3_inLine_10 rfl h
set_option maxRecDepth 20000 in
theorem eX3_putInLine {g : GX} {Q : Int32 → St → Prop} {d : Nat} {ρ : Rs} {S : St} (hρ : Ok ρ) {x0 : Int32} {x1 : Int32} {x2 : Int32} (h : Q (x0 ||| (x2 <<< ((4 * (3 - x1)) &&& 31))) S) : CALLi g d mX3_putInLine [.int x0, .int x1, .int x2] ρ ρ S Q := by
  refine CALL.of mdX3_putInLine.2.2.2.2 (Nat.le_of_ble_eq_true rfl) (Nat.le_refl _) (Nat.le_refl _) ?_
  show AW g ρ (QI Q) d mX3_putInLine 0 [(0, .int x0), (1, .int x1), (2, .int x2)] [] ρ S
  refine AW_iload_n 0 (n := 0) rfl dX3_putInLine_0 rfl ?_
  refine AW_iload_n 2 (n := 2) rfl dX3_putInLine_1 rfl ?_
  refine AW_iconst (v := 4) dX3_putInLine_2 rfl ?_
  refine AW_iconst (v := 3) dX3_putInLine_3 rfl ?_
  refine AW_iload_n 1 (n := 1) rfl dX3_putInLine_4 rfl ?_
  refine AW_isub dX3_putInLine_5 ?_
  refine AW_imul dX3_putInLine_6 ?_
  refine AW_ishl dX3_putInLine_7 ?_
  refine AW_ior dX3_putInLine_8 ?_
  exact AW_reti dX3_putInLine_9 rfl h
set_option maxRecDepth 20000 in
theorem eX10_hasRoom {g : GX} {Q : Int32 → St → Prop} {d : Nat} {ρ : Rs} {S : St} (hρ : Ok ρ) (h : if (300 : Int32) < ((S.1 17 1) + 20) then Q 0 S else Q 1 S) : CALLi g d mX10_hasRoom [.ref 17] ρ ρ S Q := by
  refine CALL.of mdX10_hasRoom.2.2.2.2 (Nat.le_of_ble_eq_true rfl) (Nat.le_refl _) (Nat.le_refl _) ?_
  show AW g ρ (QI Q) d mX10_hasRoom 0 [(0, .ref 17)] [] ρ S
  refine AW_aload_n 0 (n := 0) rfl dX10_hasRoom_0 rfl ?_
  refine AW_get dX10_hasRoom_1 flX10_13 (Nat.le_of_ble_eq_true rfl) (okn hρ (Nat.le_of_ble_eq_true rfl)) rfl (v := .int (S.1 17 1)) (fun _ => rfl) ?_
  refine AW_bipush (v := 20) dX10_hasRoom_4 rfl ?_
  refine AW_iadd dX10_hasRoom_6 ?_
  refine AW_sipush (v := 300) dX10_hasRoom_7 rfl ?_
  refine AW_icmp_gt dX10_hasRoom_10 rfl (iteM h (fun h => ?_) (fun h => ?_))
  · refine AW_iconst (v := 0) dX10_hasRoom_17 rfl ?_
    exact AW_retz dX10_hasRoom_18 rfl Bz0 h
  · refine AW_iconst (v := 1) dX10_hasRoom_13 rfl ?_
    refine AW_goto (tgt := 18) dX10_hasRoom_14 rfl ?_
    exact AW_retz dX10_hasRoom_18 rfl Bz1 h
set_option maxRecDepth 20000 in
theorem eX10_put_3 {g : GX} {Q : St → Prop} {d : Nat} {ρ : Rs} {S : St} (hρ : Ok ρ) {x1 : Int32} {x2 : Int32} (hF : ∀ k ∈ ([18, 17] : List Nat), gF g k) (h : if x2 < 0 then Q S else if (S.1 17 1) < 0 then AW g ρ (QV Q) d mX10_put 3 [(0, .ref 17), (1, .int x1), (2, .int (x2 + (-8)))] [] ρ S else if (300 : Int32) ≤ (S.1 17 1) then AW g ρ (QV Q) d mX10_put 3 [(0, .ref 17), (1, .int x1), (2, .int (x2 + (-8)))] [] ρ S else vp_in (S.1 17 1) 300 ∧ (AW g ρ (QV Q) d mX10_put 3 [(0, .ref 17), (1, .int x1), (2, .int (x2 + (-8)))] [] ρ (setI (setI S 18 ((S.1 17 1).toNatClampNeg) (((x1.toUInt32 >>> (x2.toUInt32 &&& Int32.toUInt32 31)).toInt32) &&& 255)) 17 1 ((S.1 17 1) + 1)))) : AW g ρ (QV Q) d mX10_put 3 [(0, .ref 17), (1, .int x1), (2, .int x2)] [] ρ S := by
  refine AW_iload_n 2 (n := 2) rfl dX10_put_3 rfl ?_
  refine AW_if_lt dX10_put_4 rfl (iteM h (fun h => ?_) (fun h => ?_))
  · exact AW_retv dX10_put_56 rfl h
  · refine AW_aload_n 0 (n := 0) rfl dX10_put_7 rfl ?_
    refine AW_get dX10_put_8 flX10_13 (Nat.le_of_ble_eq_true rfl) (okn hρ (Nat.le_of_ble_eq_true rfl)) rfl (v := .int (S.1 17 1)) (fun _ => rfl) ?_
    refine AW_if_lt dX10_put_11 rfl (iteM h (fun h => ?_) (fun h => ?_))
    · refine AW_iinc 2 (v := x2 + (-8)) dX10_put_50 rfl rfl (Nat.le_of_ble_eq_true rfl) rfl ?_
      refine AW_goto (tgt := 3) dX10_put_53 rfl ?_
      exact AW.sub [1, 2, 0] rfl h
    · refine AW_aload_n 0 (n := 0) rfl dX10_put_14 rfl ?_
      refine AW_get dX10_put_15 flX10_13 (Nat.le_of_ble_eq_true rfl) (okn hρ (Nat.le_of_ble_eq_true rfl)) rfl (v := .int (S.1 17 1)) (fun _ => rfl) ?_
      refine AW_sipush (v := 300) dX10_put_18 rfl ?_
      refine AW_icmp_ge dX10_put_21 rfl (iteM h (fun h => ?_) (fun h => ?_))
      · refine AW_iinc 2 (v := x2 + (-8)) dX10_put_50 rfl rfl (Nat.le_of_ble_eq_true rfl) rfl ?_
        refine AW_goto (tgt := 3) dX10_put_53 rfl ?_
        exact AW.sub [1, 2, 0] rfl h
      · refine AW_aload_n 0 (n := 0) rfl dX10_put_24 rfl ?_
        refine AW_get dX10_put_25 flX10_9 (Nat.le_of_ble_eq_true rfl) (okn hρ (Nat.le_of_ble_eq_true rfl)) rfl (v := .ref 18) (fvR (okR hρ 8 rfl)) ?_
        refine AW_aload_n 0 (n := 0) rfl dX10_put_28 rfl ?_
        refine AW_get dX10_put_29 flX10_13 (Nat.le_of_ble_eq_true rfl) (okn hρ (Nat.le_of_ble_eq_true rfl)) rfl (v := .int (S.1 17 1)) (fun _ => rfl) ?_
        refine AW_iload_n 1 (n := 1) rfl dX10_put_32 rfl ?_
        refine AW_iload_n 2 (n := 2) rfl dX10_put_33 rfl ?_
        refine AW_iushr dX10_put_34 ?_
        refine AW_sipush (v := 255) dX10_put_35 rfl ?_
        refine AW_iand dX10_put_38 ?_
        refine AW_iastore dX10_put_39 (Nat.le_of_ble_eq_true rfl) (okn hρ (Nat.le_of_ble_eq_true rfl)) rfl h.1 (hF _ (List.mem_of_getElem? (i := 0) rfl)) (jx := (S.1 17 1).toNatClampNeg) rfl ?_
        replace h := h.2
        refine AW_aload_n 0 (n := 0) rfl dX10_put_40 rfl ?_
        refine AW_dup dX10_put_41 rfl ?_
        refine AW_get dX10_put_42 flX10_13 (Nat.le_of_ble_eq_true rfl) (okn hρ (Nat.le_of_ble_eq_true rfl)) rfl (v := .int (S.1 17 1)) (fun _ => rfl) ?_
        refine AW_iconst (v := 1) dX10_put_45 rfl ?_
        refine AW_iadd dX10_put_46 ?_
        refine AW_put dX10_put_47 flX10_13 fp_8_1 (Nat.le_of_ble_eq_true rfl) (okn hρ (Nat.le_of_ble_eq_true rfl)) rfl (fun _ => rfl) (fun _ => rfl) rfl rfl rfl rfl (Fr.setI _ _ _ rfl) (fun _ _ => rfl) (ρ2 := ρ) (S2 := setI (setI S 18 ((S.1 17 1).toNatClampNeg) (((x1.toUInt32 >>> (x2.toUInt32 &&& Int32.toUInt32 31)).toInt32) &&& 255)) 17 1 ((S.1 17 1) + 1)) (fun _ => rfl) (fun _ _ _ q1 _ => fvI_o q1) (hF _ (List.mem_of_getElem? (i := 1) rfl)) ?_
        refine AW_iinc 2 (v := x2 + (-8)) dX10_put_50 rfl rfl (Nat.le_of_ble_eq_true rfl) rfl ?_
        refine AW_goto (tgt := 3) dX10_put_53 rfl ?_
        exact AW.sub [1, 2, 0] rfl h
set_option maxRecDepth 20000 in
theorem eX10_put {g : GX} {Q : St → Prop} {d : Nat} {ρ : Rs} {S : St} (hρ : Ok ρ) {x1 : Int32} (h : AW g ρ (QV Q) d mX10_put 3 [(0, .ref 17), (1, .int x1), (2, .int 24)] [] ρ S) : CALLv g d mX10_put [.ref 17, .int x1] ρ ρ S Q := by
  refine CALL.of mdX10_put.2.2.2.2 (Nat.le_of_ble_eq_true rfl) (Nat.le_refl _) (Nat.le_refl _) ?_
  show AW g ρ (QV Q) d mX10_put 0 [(0, .ref 17), (1, .int x1)] [] ρ S
  refine AW_bipush (v := 24) dX10_put_0 rfl ?_
  refine AW_istore_n (n := 2) (i := 2) rfl dX10_put_2 (Nat.le_of_ble_eq_true rfl) rfl ?_
  exact AW.sub [1, 2, 0] rfl h
set_option maxRecDepth 20000 in
theorem eX10_byteAt {g : GX} {Q : Int32 → St → Prop} {d : Nat} {ρ : Rs} {S : St} (hρ : Ok ρ) {x1 : Int32} (h : if x1 < 0 then Q 0 S else if (S.1 17 1) ≤ x1 then Q 0 S else if (300 : Int32) ≤ x1 then Q 0 S else vp_in x1 300 ∧ (Q (S.1 18 x1.toNatClampNeg) S)) : CALLi g d mX10_byteAt [.ref 17, .int x1] ρ ρ S Q := by
  refine CALL.of mdX10_byteAt.2.2.2.2 (Nat.le_of_ble_eq_true rfl) (Nat.le_refl _) (Nat.le_refl _) ?_
  show AW g ρ (QI Q) d mX10_byteAt 0 [(0, .ref 17), (1, .int x1)] [] ρ S
  refine AW_iload_n 1 (n := 1) rfl dX10_byteAt_0 rfl ?_
  refine AW_if_lt dX10_byteAt_1 rfl (iteM h (fun h => ?_) (fun h => ?_))
  · refine AW_iconst (v := 0) dX10_byteAt_28 rfl ?_
    exact AW_reti dX10_byteAt_29 rfl h
  · refine AW_iload_n 1 (n := 1) rfl dX10_byteAt_4 rfl ?_
    refine AW_aload_n 0 (n := 0) rfl dX10_byteAt_5 rfl ?_
    refine AW_get dX10_byteAt_6 flX10_13 (Nat.le_of_ble_eq_true rfl) (okn hρ (Nat.le_of_ble_eq_true rfl)) rfl (v := .int (S.1 17 1)) (fun _ => rfl) ?_
    refine AW_icmp_ge dX10_byteAt_9 rfl (iteM h (fun h => ?_) (fun h => ?_))
    · refine AW_iconst (v := 0) dX10_byteAt_28 rfl ?_
      exact AW_reti dX10_byteAt_29 rfl h
    · refine AW_iload_n 1 (n := 1) rfl dX10_byteAt_12 rfl ?_
      refine AW_sipush (v := 300) dX10_byteAt_13 rfl ?_
      refine AW_icmp_ge dX10_byteAt_16 rfl (iteM h (fun h => ?_) (fun h => ?_))
      · refine AW_iconst (v := 0) dX10_byteAt_28 rfl ?_
        exact AW_reti dX10_byteAt_29 rfl h
      · refine AW_aload_n 0 (n := 0) rfl dX10_byteAt_19 rfl ?_
        refine AW_get dX10_byteAt_20 flX10_9 (Nat.le_of_ble_eq_true rfl) (okn hρ (Nat.le_of_ble_eq_true rfl)) rfl (v := .ref 18) (fvR (okR hρ 8 rfl)) ?_
        refine AW_iload_n 1 (n := 1) rfl dX10_byteAt_23 rfl ?_
        refine AW_iaload dX10_byteAt_24 (Nat.le_of_ble_eq_true rfl) (okn hρ (Nat.le_of_ble_eq_true rfl)) rfl h.1 (v := S.1 18 x1.toNatClampNeg) rfl ?_
        replace h := h.2
        refine AW_goto (tgt := 29) dX10_byteAt_25 rfl ?_
        exact AW_reti dX10_byteAt_29 rfl h
