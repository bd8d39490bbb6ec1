set_option maxRecDepth 20000 in
theorem eX12_part {g : GX} {Q : Int64 → St → Prop} {d : Nat} {ρ : Rs} {S : St} (hρ : Ok ρ) {x0 : Int64} {x2 : Int64} {x4 : Int32} (h : if x4 = 0 then CALLl g d mX12_common [.long x0, .long x2] ρ ρ S (fun v1 S1 => ¬ v1 = (0 : Int64) ∧ (Q (x0 / v1) S1)) else CALLl g d mX12_common [.long x0, .long x2] ρ ρ S (fun v2 S2 => ¬ v2 = (0 : Int64) ∧ (Q (x2 / v2) S2))) : CALLl g (d + 1) mX12_part [.long x0, .long x2, .int x4] ρ ρ S Q := by
  refine CALL.of mdX12_part.2.2.2.2 (Nat.le_of_ble_eq_true rfl) (Nat.le_refl _) (Nat.le_refl _) ?_
  show AW g ρ (QJ Q) (d + 1) mX12_part 0 [(0, .long x0), (2, .long x2), (4, .int x4)] [] ρ S
  refine AW_iload 2 dX12_part_0 rfl ?_
  refine AW_if_ne dX12_part_2 rfl (iteM h (fun h => ?_) (fun h => ?_))
  · refine AW_lload_n 0 (n := 0) rfl dX12_part_5 rfl ?_
    refine AW_goto (tgt := 10) dX12_part_6 rfl ?_
    refine AW_lload_n 0 (n := 0) rfl dX12_part_10 rfl ?_
    refine AW_lload_n 1 (n := 2) rfl dX12_part_11 rfl ?_
    refine AW_callSl (M := mX12_part) (pc := 12) (As := [.long x0, .long x2]) (ρ1 := ρ) (st := [.long x0]) dX12_part_12 mdX12_common mlX12_286 smX12_common ⟨rfl, npX12_common⟩ (Nat.le_of_ble_eq_true rfl) (Nat.le_refl _) (Nat.le_refl _) rfl (CALLl.mono h (fun v1 S1 _ h => ?_))
    refine AW_ldiv dX12_part_15 h.1 ?_
    replace h := h.2
    exact AW_retl dX12_part_16 rfl h
  · refine AW_lload_n 1 (n := 2) rfl dX12_part_9 rfl ?_
    refine AW_lload_n 0 (n := 0) rfl dX12_part_10 rfl ?_
    refine AW_lload_n 1 (n := 2) rfl dX12_part_11 rfl ?_
    refine AW_callSl (M := mX12_part) (pc := 12) (As := [.long x0, .long x2]) (ρ1 := ρ) (st := [.long x2]) dX12_part_12 mdX12_common mlX12_286 smX12_common ⟨rfl, npX12_common⟩ (Nat.le_of_ble_eq_true rfl) (Nat.le_refl _) (Nat.le_refl _) rfl (CALLl.mono h (fun v2 S2 _ h => ?_))
    refine AW_ldiv dX12_part_15 h.1 ?_
    replace h := h.2
    exact AW_retl dX12_part_16 rfl h
set_option maxRecDepth 20000 in
theorem eX12_mean_33 {g : GX} {Q : Int64 → St → Prop} {d : Nat} {ρ : Rs} {S : St} (hρ : Ok ρ) {x1 : Int32} {x2 : Int32} {x3 : Int32} {x4 : Int64} {x6 : Int32} (h : if (20 : Int32) < x6 then CALLl g d mX12_part [.long x4, .long (S.2 80 15), .int x3] ρ ρ S (fun v1 S1 => Q v1 S1) else CALLi g d mX12_place [.ref 80, .int x1, .int x2] ρ ρ S (fun v2 S2 => vp_in ((21 * v2) + x6) 336 ∧ (AW g ρ (QJ Q) (d + 1) mX12_mean 33 [(0, .ref 80), (1, .int x1), (2, .int x2), (3, .int x3), (4, .long (x4 + (x6.toInt64 * (S2.2 88 (((21 * v2) + x6).toNatClampNeg))))), (6, .int (x6 + 1))] [] ρ S2))) : AW g ρ (QJ Q) (d + 1) mX12_mean 33 [(0, .ref 80), (1, .int x1), (2, .int x2), (3, .int x3), (4, .long x4), (6, .int x6)] [] ρ S := by
  refine AW_iload 5 dX12_mean_33 rfl ?_
  refine AW_bipush (v := 20) dX12_mean_35 rfl ?_
  refine AW_icmp_gt dX12_mean_37 rfl (iteM h (fun h => ?_) (fun h => ?_))
  · refine AW_lload 4 dX12_mean_72 rfl ?_
    refine AW_aload_n 0 (n := 0) rfl dX12_mean_74 rfl ?_
    refine AW_get dX12_mean_75 flX12_175 (Nat.le_of_ble_eq_true rfl) (okn hρ (Nat.le_of_ble_eq_true rfl)) rfl (v := .long (S.2 80 15)) (fun _ => rfl) ?_
    refine AW_iload_n 3 (n := 3) rfl dX12_mean_78 rfl ?_
    refine AW_callSl (M := mX12_mean) (pc := 79) (As := [.long x4, .long (S.2 80 15), .int x3]) (ρ1 := ρ) (st := []) dX12_mean_79 mdX12_part mlX12_289 smX12_part ⟨rfl, npX12_part⟩ (Nat.le_of_ble_eq_true rfl) (Nat.le_refl _) (Nat.le_refl _) rfl (CALLl.mono h (fun v1 S1 _ h => ?_))
    exact AW_retl dX12_mean_82 rfl h
  · refine AW_lload 4 dX12_mean_40 rfl ?_
    refine AW_iload 5 dX12_mean_42 rfl ?_
    refine AW_i2l dX12_mean_44 ?_
    refine AW_aload_n 0 (n := 0) rfl dX12_mean_45 rfl ?_
    refine AW_get dX12_mean_46 flX12_35 (Nat.le_of_ble_eq_true rfl) (okn hρ (Nat.le_of_ble_eq_true rfl)) rfl (v := .ref 88) (fvR (okR hρ 58 rfl)) ?_
    refine AW_bipush (v := 21) dX12_mean_49 rfl ?_
    refine AW_aload_n 0 (n := 0) rfl dX12_mean_51 rfl ?_
    refine AW_iload_n 1 (n := 1) rfl dX12_mean_52 rfl ?_
    refine AW_iload_n 2 (n := 2) rfl dX12_mean_53 rfl ?_
    refine AW_callVi (M := mX12_mean) (pc := 54) (As := [.int x1, .int x2]) (ρ1 := ρ) (st := [.int 21, .ref 88, .long x6.toInt64, .long x4]) dX12_mean_54 mdX12_place rfl mlX12_133 imX12_place seX12_place (rcv_of (q := (RX12, TX12, 40)) (Nat.le_of_ble_eq_true rfl) (okn hρ (Nat.le_of_ble_eq_true rfl)) rfl rfl) ⟨rfl, npX12_place⟩ (Nat.le_of_ble_eq_true rfl) (Nat.le_refl _) (Nat.le_refl _) rfl (CALLi.mono h (fun v2 S2 _ h => ?_))
    refine AW_imul dX12_mean_57 ?_
    refine AW_iload 5 dX12_mean_58 rfl ?_
    refine AW_iadd dX12_mean_60 ?_
    refine AW_laload dX12_mean_61 (Nat.le_of_ble_eq_true rfl) (okn hρ (Nat.le_of_ble_eq_true rfl)) rfl h.1 (v := S2.2 88 (((21 * v2) + x6).toNatClampNeg)) rfl ?_
    replace h := h.2
    refine AW_lmul dX12_mean_62 ?_
    refine AW_ladd dX12_mean_63 ?_
    refine AW_lstore dX12_mean_64 (Nat.le_of_ble_eq_true rfl) rfl ?_
    refine AW_iinc 5 (v := x6 + 1) dX12_mean_66 rfl rfl (Nat.le_of_ble_eq_true rfl) rfl ?_
    refine AW_goto (tgt := 33) dX12_mean_69 rfl ?_
    exact AW.sub [2, 3, 4, 5, 1, 0] rfl h
set_option maxRecDepth 20000 in
theorem eX12_mean {g : GX} {Q : Int64 → St → Prop} {d : Nat} {ρ : Rs} {S : St} (hρ : Ok ρ) {x1 : Int32} {x2 : Int32} {x3 : Int32} (h : CALLi g d mX12_isCell [.ref 80, .int x1, .int x2] ρ ρ S (fun v1 S1 => if v1 = 0 then Q (-2) S1 else CALLi g d mX12_in [.long x3.toInt64, .long 0, .long 1] ρ ρ S1 (fun v2 S2 => if v2 = 0 then Q (-2) S2 else CALLv g d mX12_talliesAll [.ref 80] ρ ρ S2 (fun S3 => AW g ρ (QJ Q) (d + 1) mX12_mean 33 [(0, .ref 80), (1, .int x1), (2, .int x2), (3, .int x3), (4, .long 0), (6, .int 0)] [] ρ S3)))) : CALLl g (d + 1) mX12_mean [.ref 80, .int x1, .int x2, .int x3] ρ ρ S Q := by
  refine CALL.of mdX12_mean.2.2.2.2 (Nat.le_of_ble_eq_true rfl) (Nat.le_refl _) (Nat.le_refl _) ?_
  show AW g ρ (QJ Q) (d + 1) mX12_mean 0 [(0, .ref 80), (1, .int x1), (2, .int x2), (3, .int x3)] [] ρ S
  refine AW_aload_n 0 (n := 0) rfl dX12_mean_0 rfl ?_
  refine AW_iload_n 1 (n := 1) rfl dX12_mean_1 rfl ?_
  refine AW_iload_n 2 (n := 2) rfl dX12_mean_2 rfl ?_
  refine AW_callVi (M := mX12_mean) (pc := 3) (As := [.int x1, .int x2]) (ρ1 := ρ) (st := []) dX12_mean_3 mdX12_isCell rfl mlX12_160 imX12_isCell seX12_isCell (rcv_of (q := (RX12, TX12, 40)) (Nat.le_of_ble_eq_true rfl) (okn hρ (Nat.le_of_ble_eq_true rfl)) rfl rfl) ⟨rfl, npX12_isCell⟩ (Nat.le_of_ble_eq_true rfl) (Nat.le_refl _) (Nat.le_refl _) rfl (CALLi.mono h (fun v1 S1 _ h => ?_))
  refine AW_if_eq dX12_mean_6 rfl (iteM h (fun h => ?_) (fun h => ?_))
  · refine AW_ldc2 (v := (-2)) dX12_mean_19 kcX12_272 ?_
    exact AW_retl dX12_mean_22 rfl h
  · refine AW_iload_n 3 (n := 3) rfl dX12_mean_9 rfl ?_
    refine AW_i2l dX12_mean_10 ?_
    refine AW_lconst (v := 0) dX12_mean_11 rfl ?_
    refine AW_lconst (v := 1) dX12_mean_12 rfl ?_
    refine AW_callSi (M := mX12_mean) (pc := 13) (As := [.long x3.toInt64, .long 0, .long 1]) (ρ1 := ρ) (st := []) dX12_mean_13 mdX12_in mlX12_60 smX12_in ⟨rfl, npX12_in⟩ (Nat.le_of_ble_eq_true rfl) (Nat.le_refl _) (Nat.le_refl _) rfl (CALLi.mono h (fun v2 S2 _ h => ?_))
    refine AW_if_ne dX12_mean_16 rfl (iteM h (fun h => ?_) (fun h => ?_))
    · refine AW_ldc2 (v := (-2)) dX12_mean_19 kcX12_272 ?_
      exact AW_retl dX12_mean_22 rfl h
    · refine AW_aload_n 0 (n := 0) rfl dX12_mean_23 rfl ?_
      refine AW_callVv (M := mX12_mean) (pc := 24) (As := []) (ρ1 := ρ) (st := []) dX12_mean_24 mdX12_talliesAll rfl mlX12_277 imX12_talliesAll seX12_talliesAll (rcv_of (q := (RX12, TX12, 40)) (Nat.le_of_ble_eq_true rfl) (okn hρ (Nat.le_of_ble_eq_true rfl)) rfl rfl) ⟨rfl, npX12_talliesAll⟩ (Nat.le_of_ble_eq_true rfl) (Nat.le_refl _) (Nat.le_refl _) rfl (CALLv.mono h (fun S3 _ h => ?_))
      refine AW_lconst (v := 0) dX12_mean_27 rfl ?_
      refine AW_lstore dX12_mean_28 (Nat.le_of_ble_eq_true rfl) rfl ?_
      refine AW_iconst (v := 0) dX12_mean_30 rfl ?_
      refine AW_istore dX12_mean_31 (Nat.le_of_ble_eq_true rfl) rfl ?_
      exact AW.sub [2, 3, 4, 5, 1, 0] rfl h
set_option maxRecDepth 20000 in
theorem eX12_weight {g : GX} {Q : Int64 → St → Prop} {d : Nat} {ρ : Rs} {S : St} (hρ : Ok ρ) (h : CALLi g d mX12_is [.ref 80] ρ ρ S (fun v1 S1 => if v1 = 0 then Q (-2) S1 else CALLv g d mX12_laysNow [.ref 80] ρ ρ S1 (fun S2 => CALLl g d mX12_weightOf [.ref 80] ρ ρ S2 (fun v3 S3 => Q v3 S3)))) : CALLl g (d + 1) mX12_weight [.ref 80] ρ ρ S Q := by
  refine CALL.of mdX12_weight.2.2.2.2 (Nat.le_of_ble_eq_true rfl) (Nat.le_refl _) (Nat.le_refl _) ?_
  show AW g ρ (QJ Q) (d + 1) mX12_weight 0 [(0, .ref 80)] [] ρ S
  refine AW_aload_n 0 (n := 0) rfl dX12_weight_0 rfl ?_
  refine AW_callVi (M := mX12_weight) (pc := 1) (As := []) (ρ1 := ρ) (st := []) dX12_weight_1 mdX12_is rfl mlX12_265 imX12_is seX12_is (rcv_of (q := (RX12, TX12, 40)) (Nat.le_of_ble_eq_true rfl) (okn hρ (Nat.le_of_ble_eq_true rfl)) rfl rfl) ⟨rfl, npX12_is⟩ (Nat.le_of_ble_eq_true rfl) (Nat.le_refl _) (Nat.le_refl _) rfl (CALLi.mono h (fun v1 S1 _ h => ?_))
  refine AW_if_ne dX12_weight_4 rfl (iteM h (fun h => ?_) (fun h => ?_))
  · refine AW_ldc2 (v := (-2)) dX12_weight_7 kcX12_272 ?_
    exact AW_retl dX12_weight_10 rfl h
  · refine AW_aload_n 0 (n := 0) rfl dX12_weight_11 rfl ?_
    refine AW_callVv (M := mX12_weight) (pc := 12) (As := []) (ρ1 := ρ) (st := []) dX12_weight_12 mdX12_laysNow rfl mlX12_293 imX12_laysNow seX12_laysNow (rcv_of (q := (RX12, TX12, 40)) (Nat.le_of_ble_eq_true rfl) (okn hρ (Nat.le_of_ble_eq_true rfl)) rfl rfl) ⟨rfl, npX12_laysNow⟩ (Nat.le_of_ble_eq_true rfl) (Nat.le_refl _) (Nat.le_refl _) rfl (CALLv.mono h (fun S2 _ h => ?_))
    refine AW_aload_n 0 (n := 0) rfl dX12_weight_15 rfl ?_
    refine AW_callVl (M := mX12_weight) (pc := 16) (As := []) (ρ1 := ρ) (st := []) dX12_weight_16 mdX12_weightOf rfl mlX12_212 imX12_weightOf seX12_weightOf (rcv_of (q := (RX12, TX12, 40)) (Nat.le_of_ble_eq_true rfl) (okn hρ (Nat.le_of_ble_eq_true rfl)) rfl rfl) ⟨rfl, npX12_weightOf⟩ (Nat.le_of_ble_eq_true rfl) (Nat.le_refl _) (Nat.le_refl _) rfl (CALLl.mono h (fun v3 S3 _ h => ?_))
    exact AW_retl dX12_weight_19 rfl h
set_option maxRecDepth 20000 in
theorem eX12_weighsAll {g : GX} {Q : St → Prop} {d : Nat} {ρ : Rs} {S : St} (hρ : Ok ρ) (hF : ∀ k ∈ ([80] : List Nat), gF g k) (h : CALLv g d mX12_goesAll [.ref 80, .int 4] ρ ρ (setL S 80 22 0) (fun S1 => Q S1)) : CALLv g (d + 1) mX12_weighsAll [.ref 80] ρ ρ S Q := by
  refine CALL.of mdX12_weighsAll.2.2.2.2 (Nat.le_of_ble_eq_true rfl) (Nat.le_refl _) (Nat.le_refl _) ?_
  show AW g ρ (QV Q) (d + 1) mX12_weighsAll 0 [(0, .ref 80)] [] ρ S
  refine AW_aload_n 0 (n := 0) rfl dX12_weighsAll_0 rfl ?_
  refine AW_lconst (v := 0) dX12_weighsAll_1 rfl ?_
  refine AW_put dX12_weighsAll_2 flX12_216 fp_10_22 (Nat.le_of_ble_eq_true rfl) (okn hρ (Nat.le_of_ble_eq_true rfl)) rfl (fun _ => rfl) (fun _ => rfl) rfl rfl rfl rfl (Fr.setL _ _ _ rfl) (fun _ _ => rfl) (ρ2 := ρ) (S2 := setL S 80 22 0) (fun _ => rfl) (fun _ _ _ q1 _ => fvL_o q1) (hF _ (List.mem_of_getElem? (i := 0) rfl)) ?_
  refine AW_aload_n 0 (n := 0) rfl dX12_weighsAll_5 rfl ?_
  refine AW_iconst (v := 4) dX12_weighsAll_6 rfl ?_
  refine AW_callVv (M := mX12_weighsAll) (pc := 7) (As := [.int 4]) (ρ1 := ρ) (st := []) dX12_weighsAll_7 mdX12_goesAll rfl mlX12_262 imX12_goesAll seX12_goesAll (rcv_of (q := (RX12, TX12, 40)) (Nat.le_of_ble_eq_true rfl) (okn hρ (Nat.le_of_ble_eq_true rfl)) rfl rfl) ⟨rfl, npX12_goesAll⟩ (Nat.le_of_ble_eq_true rfl) (Nat.le_refl _) (Nat.le_refl _) rfl (CALLv.mono h (fun S1 _ h => ?_))
  exact AW_retv dX12_weighsAll_10 rfl h
set_option maxRecDepth 20000 in
theorem eX12_weights {g : GX} {Q : Int64 → St → Prop} {d : Nat} {ρ : Rs} {S : St} (hρ : Ok ρ) (h : CALLi g d mX12_is [.ref 80] ρ ρ S (fun v1 S1 => if v1 = 0 then Q (-2) S1 else CALLv g d mX12_weighsAll [.ref 80] ρ ρ S1 (fun S2 => Q (S2.2 80 22) S2))) : CALLl g (d + 1) mX12_weights [.ref 80] ρ ρ S Q := by
  refine CALL.of mdX12_weights.2.2.2.2 (Nat.le_of_ble_eq_true rfl) (Nat.le_refl _) (Nat.le_refl _) ?_
  show AW g ρ (QJ Q) (d + 1) mX12_weights 0 [(0, .ref 80)] [] ρ S
  refine AW_aload_n 0 (n := 0) rfl dX12_weights_0 rfl ?_
  refine AW_callVi (M := mX12_weights) (pc := 1) (As := []) (ρ1 := ρ) (st := []) dX12_weights_1 mdX12_is rfl mlX12_265 imX12_is seX12_is (rcv_of (q := (RX12, TX12, 40)) (Nat.le_of_ble_eq_true rfl) (okn hρ (Nat.le_of_ble_eq_true rfl)) rfl rfl) ⟨rfl, npX12_is⟩ (Nat.le_of_ble_eq_true rfl) (Nat.le_refl _) (Nat.le_refl _) rfl (CALLi.mono h (fun v1 S1 _ h => ?_))
  refine AW_if_ne dX12_weights_4 rfl (iteM h (fun h => ?_) (fun h => ?_))
  · refine AW_ldc2 (v := (-2)) dX12_weights_7 kcX12_272 ?_
    exact AW_retl dX12_weights_10 rfl h
  · refine AW_aload_n 0 (n := 0) rfl dX12_weights_11 rfl ?_
    refine AW_callVv (M := mX12_weights) (pc := 12) (As := []) (ρ1 := ρ) (st := []) dX12_weights_12 mdX12_weighsAll rfl mlX12_296 imX12_weighsAll seX12_weighsAll (rcv_of (q := (RX12, TX12, 40)) (Nat.le_of_ble_eq_true rfl) (okn hρ (Nat.le_of_ble_eq_true rfl)) rfl rfl) ⟨rfl, npX12_weighsAll⟩ (Nat.le_of_ble_eq_true rfl) (Nat.le_refl _) (Nat.le_refl _) rfl (CALLv.mono h (fun S2 _ h => ?_))
    refine AW_aload_n 0 (n := 0) rfl dX12_weights_15 rfl ?_
    refine AW_get dX12_weights_16 flX12_216 (Nat.le_of_ble_eq_true rfl) (okn hρ (Nat.le_of_ble_eq_true rfl)) rfl (v := .long (S2.2 80 22)) (fun _ => rfl) ?_
    exact AW_retl dX12_weights_19 rfl h
set_option maxRecDepth 20000 in
theorem eX12_heaviest {g : GX} {Q : Int64 → St → Prop} {d : Nat} {ρ : Rs} {S : St} (hρ : Ok ρ) (h : CALLi g d mX12_is [.ref 80] ρ ρ S (fun v1 S1 => if v1 = 0 then Q (-2) S1 else CALLv g d mX12_weighsAll [.ref 80] ρ ρ S1 (fun S2 => Q (S2.2 80 25) S2))) : CALLl g (d + 1) mX12_heaviest [.ref 80] ρ ρ S Q := by
  refine CALL.of mdX12_heaviest.2.2.2.2 (Nat.le_of_ble_eq_true rfl) (Nat.le_refl _) (Nat.le_refl _) ?_
  show AW g ρ (QJ Q) (d + 1) mX12_heaviest 0 [(0, .ref 80)] [] ρ S
  refine AW_aload_n 0 (n := 0) rfl dX12_heaviest_0 rfl ?_
  refine AW_callVi (M := mX12_heaviest) (pc := 1) (As := []) (ρ1 := ρ) (st := []) dX12_heaviest_1 mdX12_is rfl mlX12_265 imX12_is seX12_is (rcv_of (q := (RX12, TX12, 40)) (Nat.le_of_ble_eq_true rfl) (okn hρ (Nat.le_of_ble_eq_true rfl)) rfl rfl) ⟨rfl, npX12_is⟩ (Nat.le_of_ble_eq_true rfl) (Nat.le_refl _) (Nat.le_refl _) rfl (CALLi.mono h (fun v1 S1 _ h => ?_))
  refine AW_if_ne dX12_heaviest_4 rfl (iteM h (fun h => ?_) (fun h => ?_))
  · refine AW_ldc2 (v := (-2)) dX12_heaviest_7 kcX12_272 ?_
    exact AW_retl dX12_heaviest_10 rfl h
  · refine AW_aload_n 0 (n := 0) rfl dX12_heaviest_11 rfl ?_
    refine AW_callVv (M := mX12_heaviest) (pc := 12) (As := []) (ρ1 := ρ) (st := []) dX12_heaviest_12 mdX12_weighsAll rfl mlX12_296 imX12_weighsAll seX12_weighsAll (rcv_of (q := (RX12, TX12, 40)) (Nat.le_of_ble_eq_true rfl) (okn hρ (Nat.le_of_ble_eq_true rfl)) rfl rfl) ⟨rfl, npX12_weighsAll⟩ (Nat.le_of_ble_eq_true rfl) (Nat.le_refl _) (Nat.le_refl _) rfl (CALLv.mono h (fun S2 _ h => ?_))
    refine AW_aload_n 0 (n := 0) rfl dX12_heaviest_15 rfl ?_
    refine AW_get dX12_heaviest_16 flX12_222 (Nat.le_of_ble_eq_true rfl) (okn hρ (Nat.le_of_ble_eq_true rfl)) rfl (v := .long (S2.2 80 25)) (fun _ => rfl) ?_
    exact AW_retl dX12_heaviest_19 rfl h
set_option maxRecDepth 20000 in
theorem eX12_lightest {g : GX} {Q : Int64 → St → Prop} {d : Nat} {ρ : Rs} {S : St} (hρ : Ok ρ) (h : CALLi g d mX12_is [.ref 80] ρ ρ S (fun v1 S1 => if v1 = 0 then Q (-2) S1 else CALLv g d mX12_weighsAll [.ref 80] ρ ρ S1 (fun S2 => Q (S2.2 80 26) S2))) : CALLl g (d + 1) mX12_lightest [.ref 80] ρ ρ S Q := by
  refine CALL.of mdX12_lightest.2.2.2.2 (Nat.le_of_ble_eq_true rfl) (Nat.le_refl _) (Nat.le_refl _) ?_
  show AW g ρ (QJ Q) (d + 1) mX12_lightest 0 [(0, .ref 80)] [] ρ S
  refine AW_aload_n 0 (n := 0) rfl dX12_lightest_0 rfl ?_
  refine AW_callVi (M := mX12_lightest) (pc := 1) (As := []) (ρ1 := ρ) (st := []) dX12_lightest_1 mdX12_is rfl mlX12_265 imX12_is seX12_is (rcv_of (q := (RX12, TX12, 40)) (Nat.le_of_ble_eq_true rfl) (okn hρ (Nat.le_of_ble_eq_true rfl)) rfl rfl) ⟨rfl, npX12_is⟩ (Nat.le_of_ble_eq_true rfl) (Nat.le_refl _) (Nat.le_refl _) rfl (CALLi.mono h (fun v1 S1 _ h => ?_))
  refine AW_if_ne dX12_lightest_4 rfl (iteM h (fun h => ?_) (fun h => ?_))
  · refine AW_ldc2 (v := (-2)) dX12_lightest_7 kcX12_272 ?_
    exact AW_retl dX12_lightest_10 rfl h
  · refine AW_aload_n 0 (n := 0) rfl dX12_lightest_11 rfl ?_
    refine AW_callVv (M := mX12_lightest) (pc := 12) (As := []) (ρ1 := ρ) (st := []) dX12_lightest_12 mdX12_weighsAll rfl mlX12_296 imX12_weighsAll seX12_weighsAll (rcv_of (q := (RX12, TX12, 40)) (Nat.le_of_ble_eq_true rfl) (okn hρ (Nat.le_of_ble_eq_true rfl)) rfl rfl) ⟨rfl, npX12_weighsAll⟩ (Nat.le_of_ble_eq_true rfl) (Nat.le_refl _) (Nat.le_refl _) rfl (CALLv.mono h (fun S2 _ h => ?_))
    refine AW_aload_n 0 (n := 0) rfl dX12_lightest_15 rfl ?_
    refine AW_get dX12_lightest_16 flX12_228 (Nat.le_of_ble_eq_true rfl) (okn hρ (Nat.le_of_ble_eq_true rfl)) rfl (v := .long (S2.2 80 26)) (fun _ => rfl) ?_
    exact AW_retl dX12_lightest_19 rfl h
set_option maxRecDepth 20000 in
theorem eX12_isStatistic {g : GX} {Q : Int32 → St → Prop} {d : Nat} {ρ : Rs} {S : St} (hρ : Ok ρ) {x1 : Int32} (h : CALLi g d mX12_is [.ref 80] ρ ρ S (fun v1 S1 => if v1 = 0 then Q 0 S1 else CALLi g d mX12_in [.long x1.toInt64, .long 0, .long 3] ρ ρ S1 (fun v2 S2 => if v2 = 0 then Q 0 S2 else Q 1 S2))) : CALLi g (d + 1) mX12_isStatistic [.ref 80, .int x1] ρ ρ S Q := by
  refine CALL.of mdX12_isStatistic.2.2.2.2 (Nat.le_of_ble_eq_true rfl) (Nat.le_refl _) (Nat.le_refl _) ?_
  show AW g ρ (QI Q) (d + 1) mX12_isStatistic 0 [(0, .ref 80), (1, .int x1)] [] ρ S
  refine AW_aload_n 0 (n := 0) rfl dX12_isStatistic_0 rfl ?_
  refine AW_callVi (M := mX12_isStatistic) (pc := 1) (As := []) (ρ1 := ρ) (st := []) dX12_isStatistic_1 mdX12_is rfl mlX12_265 imX12_is seX12_is (rcv_of (q := (RX12, TX12, 40)) (Nat.le_of_ble_eq_true rfl) (okn hρ (Nat.le_of_ble_eq_true rfl)) rfl rfl) ⟨rfl, npX12_is⟩ (Nat.le_of_ble_eq_true rfl) (Nat.le_refl _) (Nat.le_refl _) rfl (CALLi.mono h (fun v1 S1 _ h => ?_))
  refine AW_if_eq dX12_isStatistic_4 rfl (iteM h (fun h => ?_) (fun h => ?_))
  · refine AW_iconst (v := 0) dX12_isStatistic_23 rfl ?_
    exact AW_retz dX12_isStatistic_24 rfl Bz0 h
  · refine AW_iload_n 1 (n := 1) rfl dX12_isStatistic_7 rfl ?_
    refine AW_i2l dX12_isStatistic_8 ?_
    refine AW_lconst (v := 0) dX12_isStatistic_9 rfl ?_
    refine AW_ldc2 (v := 3) dX12_isStatistic_10 kcX12_299 ?_
    refine AW_callSi (M := mX12_isStatistic) (pc := 13) (As := [.long x1.toInt64, .long 0, .long 3]) (ρ1 := ρ) (st := []) dX12_isStatistic_13 mdX12_in mlX12_60 smX12_in ⟨rfl, npX12_in⟩ (Nat.le_of_ble_eq_true rfl) (Nat.le_refl _) (Nat.le_refl _) rfl (CALLi.mono h (fun v2 S2 _ h => ?_))
    refine AW_if_eq dX12_isStatistic_16 rfl (iteM h (fun h => ?_) (fun h => ?_))
    · refine AW_iconst (v := 0) dX12_isStatistic_23 rfl ?_
      exact AW_retz dX12_isStatistic_24 rfl Bz0 h
    · refine AW_iconst (v := 1) dX12_isStatistic_19 rfl ?_
      refine AW_goto (tgt := 24) dX12_isStatistic_20 rfl ?_
      exact AW_retz dX12_isStatistic_24 rfl Bz1 h
set_option maxRecDepth 20000 in
theorem eX12_statistic {g : GX} {Q : Int64 → St → Prop} {d : Nat} {ρ : Rs} {S : St} (hρ : Ok ρ) {x1 : Int32} (h : CALLi g d mX12_isStatistic [.ref 80, .int x1] ρ ρ S (fun v1 S1 => if v1 = 0 then Q (-2) S1 else CALLv g d mX12_laysNow [.ref 80] ρ ρ S1 (fun S2 => CALLl g d mX12_measureOf [.ref 80, .int x1] ρ ρ S2 (fun v3 S3 => Q v3 S3)))) : CALLl g (d + 1) mX12_statistic [.ref 80, .int x1] ρ ρ S Q := by
  refine CALL.of mdX12_statistic.2.2.2.2 (Nat.le_of_ble_eq_true rfl) (Nat.le_refl _) (Nat.le_refl _) ?_
  show AW g ρ (QJ Q) (d + 1) mX12_statistic 0 [(0, .ref 80), (1, .int x1)] [] ρ S
  refine AW_aload_n 0 (n := 0) rfl dX12_statistic_0 rfl ?_
  refine AW_iload_n 1 (n := 1) rfl dX12_statistic_1 rfl ?_
  refine AW_callVi (M := mX12_statistic) (pc := 2) (As := [.int x1]) (ρ1 := ρ) (st := []) dX12_statistic_2 mdX12_isStatistic rfl mlX12_301 imX12_isStatistic seX12_isStatistic (rcv_of (q := (RX12, TX12, 40)) (Nat.le_of_ble_eq_true rfl) (okn hρ (Nat.le_of_ble_eq_true rfl)) rfl rfl) ⟨rfl, npX12_isStatistic⟩ (Nat.le_of_ble_eq_true rfl) (Nat.le_refl _) (Nat.le_refl _) rfl (CALLi.mono h (fun v1 S1 _ h => ?_))
  refine AW_if_ne dX12_statistic_5 rfl (iteM h (fun h => ?_) (fun h => ?_))
  · refine AW_ldc2 (v := (-2)) dX12_statistic_8 kcX12_272 ?_
    exact AW_retl dX12_statistic_11 rfl h
  · refine AW_aload_n 0 (n := 0) rfl dX12_statistic_12 rfl ?_
    refine AW_callVv (M := mX12_statistic) (pc := 13) (As := []) (ρ1 := ρ) (st := []) dX12_statistic_13 mdX12_laysNow rfl mlX12_293 imX12_laysNow seX12_laysNow (rcv_of (q := (RX12, TX12, 40)) (Nat.le_of_ble_eq_true rfl) (okn hρ (Nat.le_of_ble_eq_true rfl)) rfl rfl) ⟨rfl, npX12_laysNow⟩ (Nat.le_of_ble_eq_true rfl) (Nat.le_refl _) (Nat.le_refl _) rfl (CALLv.mono h (fun S2 _ h => ?_))
    refine AW_aload_n 0 (n := 0) rfl dX12_statistic_16 rfl ?_
    refine AW_iload_n 1 (n := 1) rfl dX12_statistic_17 rfl ?_
    refine AW_callVl (M := mX12_statistic) (pc := 18) (As := [.int x1]) (ρ1 := ρ) (st := []) dX12_statistic_18 mdX12_measureOf rfl mlX12_234 imX12_measureOf seX12_measureOf (rcv_of (q := (RX12, TX12, 40)) (Nat.le_of_ble_eq_true rfl) (okn hρ (Nat.le_of_ble_eq_true rfl)) rfl rfl) ⟨rfl, npX12_measureOf⟩ (Nat.le_of_ble_eq_true rfl) (Nat.le_refl _) (Nat.le_refl _) rfl (CALLl.mono h (fun v3 S3 _ h => ?_))
    exact AW_retl dX12_statistic_21 rfl h
set_option maxRecDepth 20000 in
theorem eX12_measuresAll {g : GX} {Q : St → Prop} {d : Nat} {ρ : Rs} {S : St} (hρ : Ok ρ) {x1 : Int32} (hF : ∀ k ∈ ([80] : List Nat), gF g k) (h : CALLv g d mX12_laysNow [.ref 80] ρ ρ S (fun S1 => CALLl g d mX12_measureOf [.ref 80, .int x1] ρ ρ (setI S1 80 27 x1) (fun v2 S2 => CALLv g d mX12_goesAll [.ref 80, .int 5] ρ ρ (setL (setL (setL (setL S2 80 28 v2) 80 22 0) 80 29 0) 80 30 0) (fun S3 => Q S3)))) : CALLv g (d + 1) mX12_measuresAll [.ref 80, .int x1] ρ ρ S Q := by
  refine CALL.of mdX12_measuresAll.2.2.2.2 (Nat.le_of_ble_eq_true rfl) (Nat.le_refl _) (Nat.le_refl _) ?_
  show AW g ρ (QV Q) (d + 1) mX12_measuresAll 0 [(0, .ref 80), (1, .int x1)] [] ρ S
  refine AW_aload_n 0 (n := 0) rfl dX12_measuresAll_0 rfl ?_
  refine AW_callVv (M := mX12_measuresAll) (pc := 1) (As := []) (ρ1 := ρ) (st := []) dX12_measuresAll_1 mdX12_laysNow rfl mlX12_293 imX12_laysNow seX12_laysNow (rcv_of (q := (RX12, TX12, 40)) (Nat.le_of_ble_eq_true rfl) (okn hρ (Nat.le_of_ble_eq_true rfl)) rfl rfl) ⟨rfl, npX12_laysNow⟩ (Nat.le_of_ble_eq_true rfl) (Nat.le_refl _) (Nat.le_refl _) rfl (CALLv.mono h (fun S1 _ h => ?_))
  refine AW_aload_n 0 (n := 0) rfl dX12_measuresAll_4 rfl ?_
  refine AW_iload_n 1 (n := 1) rfl dX12_measuresAll_5 rfl ?_
  refine AW_put dX12_measuresAll_6 flX12_231 fp_10_27 (Nat.le_of_ble_eq_true rfl) (okn hρ (Nat.le_of_ble_eq_true rfl)) rfl (fun _ => rfl) (fun _ => rfl) rfl rfl rfl rfl (Fr.setI _ _ _ rfl) (fun _ _ => rfl) (ρ2 := ρ) (S2 := setI S1 80 27 x1) (fun _ => rfl) (fun _ _ _ q1 _ => fvI_o q1) (hF _ (List.mem_of_getElem? (i := 0) rfl)) ?_
  refine AW_aload_n 0 (n := 0) rfl dX12_measuresAll_9 rfl ?_
  refine AW_aload_n 0 (n := 0) rfl dX12_measuresAll_10 rfl ?_
  refine AW_iload_n 1 (n := 1) rfl dX12_measuresAll_11 rfl ?_
  refine AW_callVl (M := mX12_measuresAll) (pc := 12) (As := [.int x1]) (ρ1 := ρ) (st := [.ref 80]) dX12_measuresAll_12 mdX12_measureOf rfl mlX12_234 imX12_measureOf seX12_measureOf (rcv_of (q := (RX12, TX12, 40)) (Nat.le_of_ble_eq_true rfl) (okn hρ (Nat.le_of_ble_eq_true rfl)) rfl rfl) ⟨rfl, npX12_measureOf⟩ (Nat.le_of_ble_eq_true rfl) (Nat.le_refl _) (Nat.le_refl _) rfl (CALLl.mono h (fun v2 S2 _ h => ?_))
  refine AW_put dX12_measuresAll_15 flX12_238 fp_10_28 (Nat.le_of_ble_eq_true rfl) (okn hρ (Nat.le_of_ble_eq_true rfl)) rfl (fun _ => rfl) (fun _ => rfl) rfl rfl rfl rfl (Fr.setL _ _ _ rfl) (fun _ _ => rfl) (ρ2 := ρ) (S2 := setL S2 80 28 v2) (fun _ => rfl) (fun _ _ _ q1 _ => fvL_o q1) (hF _ (List.mem_of_getElem? (i := 0) rfl)) ?_
  refine AW_aload_n 0 (n := 0) rfl dX12_measuresAll_18 rfl ?_
  refine AW_lconst (v := 0) dX12_measuresAll_19 rfl ?_
  refine AW_put dX12_measuresAll_20 flX12_216 fp_10_22 (Nat.le_of_ble_eq_true rfl) (okn hρ (Nat.le_of_ble_eq_true rfl)) rfl (fun _ => rfl) (fun _ => rfl) rfl rfl rfl rfl (Fr.setL _ _ _ rfl) (fun _ _ => rfl) (ρ2 := ρ) (S2 := setL (setL S2 80 28 v2) 80 22 0) (fun _ => rfl) (fun _ _ _ q1 _ => fvL_o q1) (hF _ (List.mem_of_getElem? (i := 0) rfl)) ?_
  refine AW_aload_n 0 (n := 0) rfl dX12_measuresAll_23 rfl ?_
  refine AW_lconst (v := 0) dX12_measuresAll_24 rfl ?_
  refine AW_put dX12_measuresAll_25 flX12_241 fp_10_29 (Nat.le_of_ble_eq_true rfl) (okn hρ (Nat.le_of_ble_eq_true rfl)) rfl (fun _ => rfl) (fun _ => rfl) rfl rfl rfl rfl (Fr.setL _ _ _ rfl) (fun _ _ => rfl) (ρ2 := ρ) (S2 := setL (setL (setL S2 80 28 v2) 80 22 0) 80 29 0) (fun _ => rfl) (fun _ _ _ q1 _ => fvL_o q1) (hF _ (List.mem_of_getElem? (i := 0) rfl)) ?_
  refine AW_aload_n 0 (n := 0) rfl dX12_measuresAll_28 rfl ?_
  refine AW_lconst (v := 0) dX12_measuresAll_29 rfl ?_
  refine AW_put dX12_measuresAll_30 flX12_244 fp_10_30 (Nat.le_of_ble_eq_true rfl) (okn hρ (Nat.le_of_ble_eq_true rfl)) rfl (fun _ => rfl) (fun _ => rfl) rfl rfl rfl rfl (Fr.setL _ _ _ rfl) (fun _ _ => rfl) (ρ2 := ρ) (S2 := setL (setL (setL (setL S2 80 28 v2) 80 22 0) 80 29 0) 80 30 0) (fun _ => rfl) (fun _ _ _ q1 _ => fvL_o q1) (hF _ (List.mem_of_getElem? (i := 0) rfl)) ?_
  refine AW_aload_n 0 (n := 0) rfl dX12_measuresAll_33 rfl ?_
  refine AW_iconst (v := 5) dX12_measuresAll_34 rfl ?_
  refine AW_callVv (M := mX12_measuresAll) (pc := 35) (As := [.int 5]) (ρ1 := ρ) (st := []) dX12_measuresAll_35 mdX12_goesAll rfl mlX12_262 imX12_goesAll seX12_goesAll (rcv_of (q := (RX12, TX12, 40)) (Nat.le_of_ble_eq_true rfl) (okn hρ (Nat.le_of_ble_eq_true rfl)) rfl rfl) ⟨rfl, npX12_goesAll⟩ (Nat.le_of_ble_eq_true rfl) (Nat.le_refl _) (Nat.le_refl _) rfl (CALLv.mono h (fun S3 _ h => ?_))
  exact AW_retv dX12_measuresAll_38 rfl h
set_option maxRecDepth 20000 in
theorem eX12_extreme {g : GX} {Q : Int64 → St → Prop} {d : Nat} {ρ : Rs} {S : St} (hρ : Ok ρ) {x1 : Int32} (h : CALLi g d mX12_isStatistic [.ref 80, .int x1] ρ ρ S (fun v1 S1 => if v1 = 0 then Q (-2) S1 else CALLv g d mX12_measuresAll [.ref 80, .int x1] ρ ρ S1 (fun S2 => Q (S2.2 80 29) S2))) : CALLl g (d + 1) mX12_extreme [.ref 80, .int x1] ρ ρ S Q := by
  refine CALL.of mdX12_extreme.2.2.2.2 (Nat.le_of_ble_eq_true rfl) (Nat.le_refl _) (Nat.le_refl _) ?_
  show AW g ρ (QJ Q) (d + 1) mX12_extreme 0 [(0, .ref 80), (1, .int x1)] [] ρ S
  refine AW_aload_n 0 (n := 0) rfl dX12_extreme_0 rfl ?_
  refine AW_iload_n 1 (n := 1) rfl dX12_extreme_1 rfl ?_
  refine AW_callVi (M := mX12_extreme) (pc := 2) (As := [.int x1]) (ρ1 := ρ) (st := []) dX12_extreme_2 mdX12_isStatistic rfl mlX12_301 imX12_isStatistic seX12_isStatistic (rcv_of (q := (RX12, TX12, 40)) (Nat.le_of_ble_eq_true rfl) (okn hρ (Nat.le_of_ble_eq_true rfl)) rfl rfl) ⟨rfl, npX12_isStatistic⟩ (Nat.le_of_ble_eq_true rfl) (Nat.le_refl _) (Nat.le_refl _) rfl (CALLi.mono h (fun v1 S1 _ h => ?_))
  refine AW_if_ne dX12_extreme_5 rfl (iteM h (fun h => ?_) (fun h => ?_))
  · refine AW_ldc2 (v := (-2)) dX12_extreme_8 kcX12_272 ?_
    exact AW_retl dX12_extreme_11 rfl h
  · refine AW_aload_n 0 (n := 0) rfl dX12_extreme_12 rfl ?_
    refine AW_iload_n 1 (n := 1) rfl dX12_extreme_13 rfl ?_
    refine AW_callVv (M := mX12_extreme) (pc := 14) (As := [.int x1]) (ρ1 := ρ) (st := []) dX12_extreme_14 mdX12_measuresAll rfl mlX12_305 imX12_measuresAll seX12_measuresAll (rcv_of (q := (RX12, TX12, 40)) (Nat.le_of_ble_eq_true rfl) (okn hρ (Nat.le_of_ble_eq_true rfl)) rfl rfl) ⟨rfl, npX12_measuresAll⟩ (Nat.le_of_ble_eq_true rfl) (Nat.le_refl _) (Nat.le_refl _) rfl (CALLv.mono h (fun S2 _ h => ?_))
    refine AW_aload_n 0 (n := 0) rfl dX12_extreme_17 rfl ?_
    refine AW_get dX12_extreme_18 flX12_241 (Nat.le_of_ble_eq_true rfl) (okn hρ (Nat.le_of_ble_eq_true rfl)) rfl (v := .long (S2.2 80 29)) (fun _ => rfl) ?_
    exact AW_retl dX12_extreme_21 rfl h
set_option maxRecDepth 20000 in
theorem eX12_share {g : GX} {Q : Int64 → St → Prop} {d : Nat} {ρ : Rs} {S : St} (hρ : Ok ρ) {x1 : Int32} {x2 : Int32} (h : CALLi g d mX12_isStatistic [.ref 80, .int x1] ρ ρ S (fun v1 S1 => if v1 = 0 then Q (-2) S1 else CALLi g d mX12_in [.long x2.toInt64, .long 0, .long 1] ρ ρ S1 (fun v2 S2 => if v2 = 0 then Q (-2) S2 else CALLv g d mX12_measuresAll [.ref 80, .int x1] ρ ρ S2 (fun S3 => CALLl g d mX12_part [.long (S3.2 80 30), .long (S3.2 80 22), .int x2] ρ ρ S3 (fun v4 S4 => Q v4 S4))))) : CALLl g (d + 1) mX12_share [.ref 80, .int x1, .int x2] ρ ρ S Q := by
  refine CALL.of mdX12_share.2.2.2.2 (Nat.le_of_ble_eq_true rfl) (Nat.le_refl _) (Nat.le_refl _) ?_
  show AW g ρ (QJ Q) (d + 1) mX12_share 0 [(0, .ref 80), (1, .int x1), (2, .int x2)] [] ρ S
  refine AW_aload_n 0 (n := 0) rfl dX12_share_0 rfl ?_
  refine AW_iload_n 1 (n := 1) rfl dX12_share_1 rfl ?_
  refine AW_callVi (M := mX12_share) (pc := 2) (As := [.int x1]) (ρ1 := ρ) (st := []) dX12_share_2 mdX12_isStatistic rfl mlX12_301 imX12_isStatistic seX12_isStatistic (rcv_of (q := (RX12, TX12, 40)) (Nat.le_of_ble_eq_true rfl) (okn hρ (Nat.le_of_ble_eq_true rfl)) rfl rfl) ⟨rfl, npX12_isStatistic⟩ (Nat.le_of_ble_eq_true rfl) (Nat.le_refl _) (Nat.le_refl _) rfl (CALLi.mono h (fun v1 S1 _ h => ?_))
  refine AW_if_eq dX12_share_5 rfl (iteM h (fun h => ?_) (fun h => ?_))
  · refine AW_ldc2 (v := (-2)) dX12_share_18 kcX12_272 ?_
    exact AW_retl dX12_share_21 rfl h
  · refine AW_iload_n 2 (n := 2) rfl dX12_share_8 rfl ?_
    refine AW_i2l dX12_share_9 ?_
    refine AW_lconst (v := 0) dX12_share_10 rfl ?_
    refine AW_lconst (v := 1) dX12_share_11 rfl ?_
    refine AW_callSi (M := mX12_share) (pc := 12) (As := [.long x2.toInt64, .long 0, .long 1]) (ρ1 := ρ) (st := []) dX12_share_12 mdX12_in mlX12_60 smX12_in ⟨rfl, npX12_in⟩ (Nat.le_of_ble_eq_true rfl) (Nat.le_refl _) (Nat.le_refl _) rfl (CALLi.mono h (fun v2 S2 _ h => ?_))
    refine AW_if_ne dX12_share_15 rfl (iteM h (fun h => ?_) (fun h => ?_))
    · refine AW_ldc2 (v := (-2)) dX12_share_18 kcX12_272 ?_
      exact AW_retl dX12_share_21 rfl h
    · refine AW_aload_n 0 (n := 0) rfl dX12_share_22 rfl ?_
      refine AW_iload_n 1 (n := 1) rfl dX12_share_23 rfl ?_
      refine AW_callVv (M := mX12_share) (pc := 24) (As := [.int x1]) (ρ1 := ρ) (st := []) dX12_share_24 mdX12_measuresAll rfl mlX12_305 imX12_measuresAll seX12_measuresAll (rcv_of (q := (RX12, TX12, 40)) (Nat.le_of_ble_eq_true rfl) (okn hρ (Nat.le_of_ble_eq_true rfl)) rfl rfl) ⟨rfl, npX12_measuresAll⟩ (Nat.le_of_ble_eq_true rfl) (Nat.le_refl _) (Nat.le_refl _) rfl (CALLv.mono h (fun S3 _ h => ?_))
      refine AW_aload_n 0 (n := 0) rfl dX12_share_27 rfl ?_
      refine AW_get dX12_share_28 flX12_244 (Nat.le_of_ble_eq_true rfl) (okn hρ (Nat.le_of_ble_eq_true rfl)) rfl (v := .long (S3.2 80 30)) (fun _ => rfl) ?_
      refine AW_aload_n 0 (n := 0) rfl dX12_share_31 rfl ?_
      refine AW_get dX12_share_32 flX12_216 (Nat.le_of_ble_eq_true rfl) (okn hρ (Nat.le_of_ble_eq_true rfl)) rfl (v := .long (S3.2 80 22)) (fun _ => rfl) ?_
      refine AW_iload_n 2 (n := 2) rfl dX12_share_35 rfl ?_
      refine AW_callSl (M := mX12_share) (pc := 36) (As := [.long (S3.2 80 30), .long (S3.2 80 22), .int x2]) (ρ1 := ρ) (st := []) dX12_share_36 mdX12_part mlX12_289 smX12_part ⟨rfl, npX12_part⟩ (Nat.le_of_ble_eq_true rfl) (Nat.le_refl _) (Nat.le_refl _) rfl (CALLl.mono h (fun v4 S4 _ h => ?_))
      exact AW_retl dX12_share_39 rfl h
set_option maxRecDepth 20000 in
theorem eX12_chi_74 {g : GX} {Q : Int64 → St → Prop} {d : Nat} {ρ : Rs} {S : St} (hρ : Ok ρ) {x1 : UInt64} {x3 : Int32} {s0 : UInt64} (h : if (Op.cmpValue (FP.dcmp s0 FP.dconst0) .l) ≤ 0 then AW g ρ (QJ Q) (d + 1) mX12_chi 15 [(0, .ref 80), (1, .double x1), (3, .int (x3 + 1))] [] ρ S else vp_in (5 + x3) 21 ∧ (vf_n64 (FP.dsub (FP.i2d (S.1 81 ((5 + x3).toNatClampNeg))) s0) ∧ (vf_n64 (FP.dmul (FP.dsub (FP.i2d (S.1 81 ((5 + x3).toNatClampNeg))) s0) (FP.dsub (FP.i2d (S.1 81 ((5 + x3).toNatClampNeg))) s0)) ∧ (vf_n64 (FP.ddiv (FP.dmul (FP.dsub (FP.i2d (S.1 81 ((5 + x3).toNatClampNeg))) s0) (FP.dsub (FP.i2d (S.1 81 ((5 + x3).toNatClampNeg))) s0)) s0) ∧ (vf_n64 (FP.dadd x1 (FP.ddiv (FP.dmul (FP.dsub (FP.i2d (S.1 81 ((5 + x3).toNatClampNeg))) s0) (FP.dsub (FP.i2d (S.1 81 ((5 + x3).toNatClampNeg))) s0)) s0)) ∧ (AW g ρ (QJ Q) (d + 1) mX12_chi 15 [(0, .ref 80), (1, .double (FP.dadd x1 (FP.ddiv (FP.dmul (FP.dsub (FP.i2d (S.1 81 ((5 + x3).toNatClampNeg))) s0) (FP.dsub (FP.i2d (S.1 81 ((5 + x3).toNatClampNeg))) s0)) s0))), (3, .int (x3 + 1))] [] ρ S)))))) : AW g ρ (QJ Q) (d + 1) mX12_chi 74 [(0, .ref 80), (1, .double x1), (3, .int x3)] [.double s0] ρ S := by
  refine AW_dstore dX12_chi_74 (Nat.le_of_ble_eq_true rfl) rfl ?_
  refine AW_dload 0 dX12_chi_76 rfl ?_
  refine AW_dconst0 dX12_chi_78 ?_
  refine AW_dcmp dX12_chi_79 ?_
  refine AW_if_le dX12_chi_80 rfl (iteM h (fun h => ?_) (fun h => ?_))
  · refine AW_iinc 3 (v := x3 + 1) dX12_chi_108 rfl rfl (Nat.le_of_ble_eq_true rfl) rfl ?_
    refine AW_goto (tgt := 15) dX12_chi_111 rfl ?_
    exact AW.sub [2, 3, 0] rfl h
  · refine AW_aload_n 1 (n := 0) rfl dX12_chi_83 rfl ?_
    refine AW_get dX12_chi_84 flX12_9 (Nat.le_of_ble_eq_true rfl) (okn hρ (Nat.le_of_ble_eq_true rfl)) rfl (v := .ref 81) (fvR (okR hρ 51 rfl)) ?_
    refine AW_iconst (v := 5) dX12_chi_87 rfl ?_
    refine AW_iload_n 3 (n := 3) rfl dX12_chi_88 rfl ?_
    refine AW_iadd dX12_chi_89 ?_
    refine AW_iaload dX12_chi_90 (Nat.le_of_ble_eq_true rfl) (okn hρ (Nat.le_of_ble_eq_true rfl)) rfl h.1 (v := S.1 81 ((5 + x3).toNatClampNeg)) rfl ?_
    replace h := h.2
    refine AW_i2d dX12_chi_91 ?_
    refine AW_dload 0 dX12_chi_92 rfl ?_
    refine AW_dsub dX12_chi_94 h.1 ?_
    replace h := h.2
    refine AW_dstore dX12_chi_95 (Nat.le_of_ble_eq_true rfl) rfl ?_
    refine AW_dload_n 3 (n := 1) rfl dX12_chi_97 rfl ?_
    refine AW_dload 0 dX12_chi_98 rfl ?_
    refine AW_dload 0 dX12_chi_100 rfl ?_
    refine AW_dmul dX12_chi_102 h.1 ?_
    replace h := h.2
    refine AW_dload 1 dX12_chi_103 rfl ?_
    refine AW_ddiv dX12_chi_105 h.1 ?_
    replace h := h.2
    refine AW_dadd dX12_chi_106 h.1 ?_
    replace h := h.2
    refine AW_dstore_n (n := 1) (i := 1) rfl dX12_chi_107 (Nat.le_of_ble_eq_true rfl) rfl ?_
    refine AW_iinc 4 (v := x3 + 1) dX12_chi_108 rfl rfl (Nat.le_of_ble_eq_true rfl) rfl ?_
    refine AW_goto (tgt := 15) dX12_chi_111 rfl ?_
    exact AW.sub [4, 1, 0] rfl h
set_option maxRecDepth 20000 in
theorem eX12_chi_15 {g : GX} {Q : Int64 → St → Prop} {d : Nat} {ρ : Rs} {S : St} (hρ : Ok ρ) {x1 : UInt64} {x3 : Int32} (h : CALLi g d mX12_many [.ref 80] ρ ρ S (fun v1 S1 => if v1 ≤ x3 then CALLl g d mJxe99ae_doubleToLongBits_ccdee [.double x1] ρ ρ S1 (fun v2 S2 => Q v2 S2) else ¬ (S1.1 81 1) = (0 : Int32) ∧ (¬ (S1.1 81 1) = (0 : Int32) ∧ (CALLi g d mX12_totalNow [.ref 80] ρ ρ S1 (fun v3 S3 => if v3 = 0 then AW g ρ (QJ Q) (d + 1) mX12_chi 74 [(0, .ref 80), (1, .double x1), (3, .int x3)] [.double FP.dconst0] ρ S3 else CALLi g d mX12_sumOfRow [.ref 80, .int (x3 / (S1.1 81 1))] ρ ρ S3 (fun v4 S4 => CALLi g d mX12_sumOfColumn [.ref 80, .int (x3 - x3 / (S1.1 81 1) * (S1.1 81 1))] ρ ρ S4 (fun v5 S5 => CALLi g d mX12_totalNow [.ref 80] ρ ρ S5 (fun v6 S6 => vf_n64 (FP.ddiv (FP.i2d (v4 * v5)) (FP.i2d v6)) ∧ (AW g ρ (QJ Q) (d + 1) mX12_chi 74 [(0, .ref 80), (1, .double x1), (3, .int x3)] [.double (FP.ddiv (FP.i2d (v4 * v5)) (FP.i2d v6))] ρ S6))))))))) : AW g ρ (QJ Q) (d + 1) mX12_chi 15 [(0, .ref 80), (1, .double x1), (3, .int x3)] [] ρ S := by
  refine AW_iload_n 2 (n := 3) rfl dX12_chi_15 rfl ?_
  refine AW_aload_n 0 (n := 0) rfl dX12_chi_16 rfl ?_
  refine AW_callVi (M := mX12_chi) (pc := 17) (As := []) (ρ1 := ρ) (st := [.int x3]) dX12_chi_17 mdX12_many rfl mlX12_150 imX12_many seX12_many (rcv_of (q := (RX12, TX12, 40)) (Nat.le_of_ble_eq_true rfl) (okn hρ (Nat.le_of_ble_eq_true rfl)) rfl rfl) ⟨rfl, npX12_many⟩ (Nat.le_of_ble_eq_true rfl) (Nat.le_refl _) (Nat.le_refl _) rfl (CALLi.mono h (fun v1 S1 _ h => ?_))
  refine AW_icmp_ge dX12_chi_20 rfl (iteM h (fun h => ?_) (fun h => ?_))
  · refine AW_dload_n 1 (n := 1) rfl dX12_chi_114 rfl ?_
    refine AW_callSl (M := mX12_chi) (pc := 115) (As := [.double x1]) (ρ1 := ρ) (st := []) dX12_chi_115 mdJxe99ae_doubleToLongBits_ccdee mlX12_308 smJxe99ae_doubleToLongBits_ccdee ⟨rfl, npJxe99ae_doubleToLongBits_ccdee⟩ (Nat.le_of_ble_eq_true rfl) (Nat.le_refl _) (Nat.le_refl _) rfl (CALLl.mono h (fun v2 S2 _ h => ?_))
    exact AW_retl dX12_chi_118 rfl h
  · refine AW_iload_n 2 (n := 3) rfl dX12_chi_23 rfl ?_
    refine AW_aload_n 0 (n := 0) rfl dX12_chi_24 rfl ?_
    refine AW_get dX12_chi_25 flX12_9 (Nat.le_of_ble_eq_true rfl) (okn hρ (Nat.le_of_ble_eq_true rfl)) rfl (v := .ref 81) (fvR (okR hρ 51 rfl)) ?_
    refine AW_iconst (v := 1) dX12_chi_28 rfl ?_
    refine AW_iaload dX12_chi_29 (Nat.le_of_ble_eq_true rfl) (okn hρ (Nat.le_of_ble_eq_true rfl)) rfl (show ¬ (_ ∨ _) by decide) (v := S1.1 81 1) rfl ?_
    refine AW_idiv dX12_chi_30 h.1 ?_
    replace h := h.2
    refine AW_istore dX12_chi_31 (Nat.le_of_ble_eq_true rfl) rfl ?_
    refine AW_iload_n 3 (n := 3) rfl dX12_chi_33 rfl ?_
    refine AW_aload_n 1 (n := 0) rfl dX12_chi_34 rfl ?_
    refine AW_get dX12_chi_35 flX12_9 (Nat.le_of_ble_eq_true rfl) (okn hρ (Nat.le_of_ble_eq_true rfl)) rfl (v := .ref 81) (fvR (okR hρ 51 rfl)) ?_
    refine AW_iconst (v := 1) dX12_chi_38 rfl ?_
    refine AW_iaload dX12_chi_39 (Nat.le_of_ble_eq_true rfl) (okn hρ (Nat.le_of_ble_eq_true rfl)) rfl (show ¬ (_ ∨ _) by decide) (v := S1.1 81 1) rfl ?_
    refine AW_irem dX12_chi_40 h.1 ?_
    replace h := h.2
    refine AW_istore dX12_chi_41 (Nat.le_of_ble_eq_true rfl) rfl ?_
    refine AW_aload_n 2 (n := 0) rfl dX12_chi_43 rfl ?_
    refine AW_callVi (M := mX12_chi) (pc := 44) (As := []) (ρ1 := ρ) (st := []) dX12_chi_44 mdX12_totalNow rfl mlX12_153 imX12_totalNow seX12_totalNow (rcv_of (q := (RX12, TX12, 40)) (Nat.le_of_ble_eq_true rfl) (okn hρ (Nat.le_of_ble_eq_true rfl)) rfl rfl) ⟨rfl, npX12_totalNow⟩ (Nat.le_of_ble_eq_true rfl) (Nat.le_refl _) (Nat.le_refl _) rfl (CALLi.mono h (fun v3 S3 _ h => ?_))
    refine AW_if_ne dX12_chi_47 rfl (iteM h (fun h => ?_) (fun h => ?_))
    · refine AW_dconst0 dX12_chi_50 ?_
      refine AW_goto (tgt := 74) dX12_chi_51 rfl ?_
      exact AW.sub [2, 3, 4] rfl h
    · refine AW_aload_n 2 (n := 0) rfl dX12_chi_54 rfl ?_
      refine AW_iload 1 dX12_chi_55 rfl ?_
      refine AW_callVi (M := mX12_chi) (pc := 57) (As := [.int (x3 / (S1.1 81 1))]) (ρ1 := ρ) (st := []) dX12_chi_57 mdX12_sumOfRow rfl mlX12_163 imX12_sumOfRow seX12_sumOfRow (rcv_of (q := (RX12, TX12, 40)) (Nat.le_of_ble_eq_true rfl) (okn hρ (Nat.le_of_ble_eq_true rfl)) rfl rfl) ⟨rfl, npX12_sumOfRow⟩ (Nat.le_of_ble_eq_true rfl) (Nat.le_refl _) (Nat.le_refl _) rfl (CALLi.mono h (fun v4 S4 _ h => ?_))
      refine AW_aload_n 2 (n := 0) rfl dX12_chi_60 rfl ?_
      refine AW_iload 0 dX12_chi_61 rfl ?_
      refine AW_callVi (M := mX12_chi) (pc := 63) (As := [.int (x3 - x3 / (S1.1 81 1) * (S1.1 81 1))]) (ρ1 := ρ) (st := [.int v4]) dX12_chi_63 mdX12_sumOfColumn rfl mlX12_166 imX12_sumOfColumn seX12_sumOfColumn (rcv_of (q := (RX12, TX12, 40)) (Nat.le_of_ble_eq_true rfl) (okn hρ (Nat.le_of_ble_eq_true rfl)) rfl rfl) ⟨rfl, npX12_sumOfColumn⟩ (Nat.le_of_ble_eq_true rfl) (Nat.le_refl _) (Nat.le_refl _) rfl (CALLi.mono h (fun v5 S5 _ h => ?_))
      refine AW_imul dX12_chi_66 ?_
      refine AW_i2d dX12_chi_67 ?_
      refine AW_aload_n 2 (n := 0) rfl dX12_chi_68 rfl ?_
      refine AW_callVi (M := mX12_chi) (pc := 69) (As := []) (ρ1 := ρ) (st := [.double (FP.i2d (v4 * v5))]) dX12_chi_69 mdX12_totalNow rfl mlX12_153 imX12_totalNow seX12_totalNow (rcv_of (q := (RX12, TX12, 40)) (Nat.le_of_ble_eq_true rfl) (okn hρ (Nat.le_of_ble_eq_true rfl)) rfl rfl) ⟨rfl, npX12_totalNow⟩ (Nat.le_of_ble_eq_true rfl) (Nat.le_refl _) (Nat.le_refl _) rfl (CALLi.mono h (fun v6 S6 _ h => ?_))
      refine AW_i2d dX12_chi_72 ?_
      refine AW_ddiv dX12_chi_73 h.1 ?_
      replace h := h.2
      exact AW.sub [2, 3, 4] rfl h
set_option maxRecDepth 20000 in
theorem eX12_chi {g : GX} {Q : Int64 → St → Prop} {d : Nat} {ρ : Rs} {S : St} (hρ : Ok ρ) (h : CALLi g d mX12_is [.ref 80] ρ ρ S (fun v1 S1 => if v1 = 0 then Q (-2) S1 else AW g ρ (QJ Q) (d + 1) mX12_chi 15 [(0, .ref 80), (1, .double FP.dconst0), (3, .int 0)] [] ρ S1)) : CALLl g (d + 1) mX12_chi [.ref 80] ρ ρ S Q := by
  refine CALL.of mdX12_chi.2.2.2.2 (Nat.le_of_ble_eq_true rfl) (Nat.le_refl _) (Nat.le_refl _) ?_
  show AW g ρ (QJ Q) (d + 1) mX12_chi 0 [(0, .ref 80)] [] ρ S
  refine AW_aload_n 0 (n := 0) rfl dX12_chi_0 rfl ?_
  refine AW_callVi (M := mX12_chi) (pc := 1) (As := []) (ρ1 := ρ) (st := []) dX12_chi_1 mdX12_is rfl mlX12_265 imX12_is seX12_is (rcv_of (q := (RX12, TX12, 40)) (Nat.le_of_ble_eq_true rfl) (okn hρ (Nat.le_of_ble_eq_true rfl)) rfl rfl) ⟨rfl, npX12_is⟩ (Nat.le_of_ble_eq_true rfl) (Nat.le_refl _) (Nat.le_refl _) rfl (CALLi.mono h (fun v1 S1 _ h => ?_))
  refine AW_if_ne dX12_chi_4 rfl (iteM h (fun h => ?_) (fun h => ?_))
  · refine AW_ldc2 (v := (-2)) dX12_chi_7 kcX12_272 ?_
    exact AW_retl dX12_chi_10 rfl h
  · refine AW_dconst0 dX12_chi_11 ?_
    refine AW_dstore_n (n := 1) (i := 1) rfl dX12_chi_12 (Nat.le_of_ble_eq_true rfl) rfl ?_
    refine AW_iconst (v := 0) dX12_chi_13 rfl ?_
    refine AW_istore_n (n := 3) (i := 3) rfl dX12_chi_14 (Nat.le_of_ble_eq_true rfl) rfl ?_
    exact AW.sub [2, 1, 0] rfl h
set_option maxRecDepth 20000 in
theorem eX12_excess_41 {g : GX} {Q : Int32 → St → Prop} {d : Nat} {ρ : Rs} {S : St} (hρ : Ok ρ) {x1 : Int32} {x2 : Int32} {s0 : UInt32} (h : CALLi g d mX12_place [.ref 80, .int x1, .int x2] ρ ρ S (fun v1 S1 => vp_in (5 + v1) 21 ∧ (vf_n32 (FP.fsub (FP.i2f (S1.1 81 ((5 + v1).toNatClampNeg))) s0) ∧ (CALLi g d mJxf58ca_floatToIntBits_5c35a [.float (FP.fsub (FP.i2f (S1.1 81 ((5 + v1).toNatClampNeg))) s0)] ρ ρ S1 (fun v2 S2 => Q v2 S2))))) : AW g ρ (QI Q) (d + 1) mX12_excess 41 [(0, .ref 80), (1, .int x1), (2, .int x2)] [.float s0] ρ S := by
  refine AW_fstore_n (n := 3) (i := 3) rfl dX12_excess_41 (Nat.le_of_ble_eq_true rfl) rfl ?_
  refine AW_aload_n 1 (n := 0) rfl dX12_excess_42 rfl ?_
  refine AW_get dX12_excess_43 flX12_9 (Nat.le_of_ble_eq_true rfl) (okn hρ (Nat.le_of_ble_eq_true rfl)) rfl (v := .ref 81) (fvR (okR hρ 51 rfl)) ?_
  refine AW_iconst (v := 5) dX12_excess_46 rfl ?_
  refine AW_aload_n 1 (n := 0) rfl dX12_excess_47 rfl ?_
  refine AW_iload_n 2 (n := 1) rfl dX12_excess_48 rfl ?_
  refine AW_iload_n 3 (n := 2) rfl dX12_excess_49 rfl ?_
  refine AW_callVi (M := mX12_excess) (pc := 50) (As := [.int x1, .int x2]) (ρ1 := ρ) (st := [.int 5, .ref 81]) dX12_excess_50 mdX12_place rfl mlX12_133 imX12_place seX12_place (rcv_of (q := (RX12, TX12, 40)) (Nat.le_of_ble_eq_true rfl) (okn hρ (Nat.le_of_ble_eq_true rfl)) rfl rfl) ⟨rfl, npX12_place⟩ (Nat.le_of_ble_eq_true rfl) (Nat.le_refl _) (Nat.le_refl _) rfl (CALLi.mono h (fun v1 S1 _ h => ?_))
  refine AW_iadd dX12_excess_53 ?_
  refine AW_iaload dX12_excess_54 (Nat.le_of_ble_eq_true rfl) (okn hρ (Nat.le_of_ble_eq_true rfl)) rfl h.1 (v := S1.1 81 ((5 + v1).toNatClampNeg)) rfl ?_
  replace h := h.2
  refine AW_i2f dX12_excess_55 ?_
  refine AW_fload_n 0 (n := 3) rfl dX12_excess_56 rfl ?_
  refine AW_fsub dX12_excess_57 h.1 ?_
  replace h := h.2
  refine AW_callSi (M := mX12_excess) (pc := 58) (As := [.float (FP.fsub (FP.i2f (S1.1 81 ((5 + v1).toNatClampNeg))) s0)]) (ρ1 := ρ) (st := []) dX12_excess_58 mdJxf58ca_floatToIntBits_5c35a mlX12_314 smJxf58ca_floatToIntBits_5c35a ⟨rfl, npJxf58ca_floatToIntBits_5c35a⟩ (Nat.le_of_ble_eq_true rfl) (Nat.le_refl _) (Nat.le_refl _) rfl (CALLi.mono h (fun v2 S2 _ h => ?_))
  exact AW_reti dX12_excess_61 rfl h
set_option maxRecDepth 20000 in
theorem eX12_excess {g : GX} {Q : Int32 → St → Prop} {d : Nat} {ρ : Rs} {S : St} (hρ : Ok ρ) {x1 : Int32} {x2 : Int32} (h : CALLi g d mX12_isCell [.ref 80, .int x1, .int x2] ρ ρ S (fun v1 S1 => if v1 = 0 then Q (-2) S1 else CALLi g d mX12_totalNow [.ref 80] ρ ρ S1 (fun v2 S2 => if v2 = 0 then AW g ρ (QI Q) (d + 1) mX12_excess 41 [(0, .ref 80), (1, .int x1), (2, .int x2)] [.float FP.fconst0] ρ S2 else CALLi g d mX12_sumOfRow [.ref 80, .int x1] ρ ρ S2 (fun v3 S3 => CALLi g d mX12_sumOfColumn [.ref 80, .int x2] ρ ρ S3 (fun v4 S4 => CALLi g d mX12_totalNow [.ref 80] ρ ρ S4 (fun v5 S5 => vf_n32 (FP.fdiv (FP.i2f (v3 * v4)) (FP.i2f v5)) ∧ (AW g ρ (QI Q) (d + 1) mX12_excess 41 [(0, .ref 80), (1, .int x1), (2, .int x2)] [.float (FP.fdiv (FP.i2f (v3 * v4)) (FP.i2f v5))] ρ S5))))))) : CALLi g (d + 1) mX12_excess [.ref 80, .int x1, .int x2] ρ ρ S Q := by
  refine CALL.of mdX12_excess.2.2.2.2 (Nat.le_of_ble_eq_true rfl) (Nat.le_refl _) (Nat.le_refl _) ?_
  show AW g ρ (QI Q) (d + 1) mX12_excess 0 [(0, .ref 80), (1, .int x1), (2, .int x2)] [] ρ S
  refine AW_aload_n 0 (n := 0) rfl dX12_excess_0 rfl ?_
  refine AW_iload_n 1 (n := 1) rfl dX12_excess_1 rfl ?_
  refine AW_iload_n 2 (n := 2) rfl dX12_excess_2 rfl ?_
  refine AW_callVi (M := mX12_excess) (pc := 3) (As := [.int x1, .int x2]) (ρ1 := ρ) (st := []) dX12_excess_3 mdX12_isCell rfl mlX12_160 imX12_isCell seX12_isCell (rcv_of (q := (RX12, TX12, 40)) (Nat.le_of_ble_eq_true rfl) (okn hρ (Nat.le_of_ble_eq_true rfl)) rfl rfl) ⟨rfl, npX12_isCell⟩ (Nat.le_of_ble_eq_true rfl) (Nat.le_refl _) (Nat.le_refl _) rfl (CALLi.mono h (fun v1 S1 _ h => ?_))
  refine AW_if_ne dX12_excess_6 rfl (iteM h (fun h => ?_) (fun h => ?_))
  · refine AW_bipush (v := (-2)) dX12_excess_9 rfl ?_
    exact AW_reti dX12_excess_11 rfl h
  · refine AW_aload_n 0 (n := 0) rfl dX12_excess_12 rfl ?_
    refine AW_callVi (M := mX12_excess) (pc := 13) (As := []) (ρ1 := ρ) (st := []) dX12_excess_13 mdX12_totalNow rfl mlX12_153 imX12_totalNow seX12_totalNow (rcv_of (q := (RX12, TX12, 40)) (Nat.le_of_ble_eq_true rfl) (okn hρ (Nat.le_of_ble_eq_true rfl)) rfl rfl) ⟨rfl, npX12_totalNow⟩ (Nat.le_of_ble_eq_true rfl) (Nat.le_refl _) (Nat.le_refl _) rfl (CALLi.mono h (fun v2 S2 _ h => ?_))
    refine AW_if_ne dX12_excess_16 rfl (iteM h (fun h => ?_) (fun h => ?_))
    · refine AW_fconst0 dX12_excess_19 ?_
      refine AW_goto (tgt := 41) dX12_excess_20 rfl ?_
      exact AW.sub [0, 1, 2] rfl h
    · refine AW_aload_n 0 (n := 0) rfl dX12_excess_23 rfl ?_
      refine AW_iload_n 1 (n := 1) rfl dX12_excess_24 rfl ?_
      refine AW_callVi (M := mX12_excess) (pc := 25) (As := [.int x1]) (ρ1 := ρ) (st := []) dX12_excess_25 mdX12_sumOfRow rfl mlX12_163 imX12_sumOfRow seX12_sumOfRow (rcv_of (q := (RX12, TX12, 40)) (Nat.le_of_ble_eq_true rfl) (okn hρ (Nat.le_of_ble_eq_true rfl)) rfl rfl) ⟨rfl, npX12_sumOfRow⟩ (Nat.le_of_ble_eq_true rfl) (Nat.le_refl _) (Nat.le_refl _) rfl (CALLi.mono h (fun v3 S3 _ h => ?_))
      refine AW_aload_n 0 (n := 0) rfl dX12_excess_28 rfl ?_
      refine AW_iload_n 2 (n := 2) rfl dX12_excess_29 rfl ?_
      refine AW_callVi (M := mX12_excess) (pc := 30) (As := [.int x2]) (ρ1 := ρ) (st := [.int v3]) dX12_excess_30 mdX12_sumOfColumn rfl mlX12_166 imX12_sumOfColumn seX12_sumOfColumn (rcv_of (q := (RX12, TX12, 40)) (Nat.le_of_ble_eq_true rfl) (okn hρ (Nat.le_of_ble_eq_true rfl)) rfl rfl) ⟨rfl, npX12_sumOfColumn⟩ (Nat.le_of_ble_eq_true rfl) (Nat.le_refl _) (Nat.le_refl _) rfl (CALLi.mono h (fun v4 S4 _ h => ?_))
      refine AW_imul dX12_excess_33 ?_
      refine AW_i2f dX12_excess_34 ?_
      refine AW_aload_n 0 (n := 0) rfl dX12_excess_35 rfl ?_
      refine AW_callVi (M := mX12_excess) (pc := 36) (As := []) (ρ1 := ρ) (st := [.float (FP.i2f (v3 * v4))]) dX12_excess_36 mdX12_totalNow rfl mlX12_153 imX12_totalNow seX12_totalNow (rcv_of (q := (RX12, TX12, 40)) (Nat.le_of_ble_eq_true rfl) (okn hρ (Nat.le_of_ble_eq_true rfl)) rfl rfl) ⟨rfl, npX12_totalNow⟩ (Nat.le_of_ble_eq_true rfl) (Nat.le_refl _) (Nat.le_refl _) rfl (CALLi.mono h (fun v5 S5 _ h => ?_))
      refine AW_i2f dX12_excess_39 ?_
      refine AW_fdiv dX12_excess_40 h.1 ?_
      replace h := h.2
      exact AW.sub [0, 1, 2] rfl h
set_option maxRecDepth 20000 in
theorem eX12_canGo_45 {g : GX} {Q : Int32 → St → Prop} {d : Nat} {ρ : Rs} {S : St} (hρ : Ok ρ) {k1 n1 : Nat} (h16_1 : 16 ≤ k1) (hn_1 : k1 < rn ρ) (hs_1 : shp ρ k1 = .inr (0, n1)) {x2 : Int32} {x3 : Int32} {x4 : Int32} {x5 : Int32} (h : CALLi g d mX12_has [.int x4, .int x5] ρ ρ S (fun v1 S1 => if v1 = 0 then AW g ρ (QI Q) (d + 1) mX12_canGo 3 [(0, .ref 80), (1, .ref k1), (2, .int x2), (3, .int x3), (4, .int x4), (5, .int (x5 + 1))] [] ρ S1 else vp_in (x2 + x5) n1 ∧ (if (S1.1 k1 ((x2 + x5).toNatClampNeg)) = 0 then Q 0 S1 else AW g ρ (QI Q) (d + 1) mX12_canGo 3 [(0, .ref 80), (1, .ref k1), (2, .int x2), (3, .int x3), (4, .int x4), (5, .int (x5 + 1))] [] ρ S1))) : AW g ρ (QI Q) (d + 1) mX12_canGo 45 [(0, .ref 80), (1, .ref k1), (2, .int x2), (3, .int x3), (4, .int x4), (5, .int x5)] [] ρ S := by
  refine AW_iload 4 dX12_canGo_45 rfl ?_
  refine AW_iload 5 dX12_canGo_47 rfl ?_
  refine AW_callSi (M := mX12_canGo) (pc := 49) (As := [.int x4, .int x5]) (ρ1 := ρ) (st := []) dX12_canGo_49 mdX12_has mlX12_138 smX12_has ⟨rfl, npX12_has⟩ (Nat.le_of_ble_eq_true rfl) (Nat.le_refl _) (Nat.le_refl _) rfl (CALLi.mono h (fun v1 S1 _ h => ?_))
  refine AW_if_eq dX12_canGo_52 rfl (iteM h (fun h => ?_) (fun h => ?_))
  · refine AW_iinc 5 (v := x5 + 1) dX12_canGo_66 rfl rfl (Nat.le_of_ble_eq_true rfl) rfl ?_
    refine AW_goto (tgt := 3) dX12_canGo_69 rfl ?_
    exact AW.sub [1, 2, 3, 4, 5, 0] rfl h
  · refine AW_aload_n 1 (n := 1) rfl dX12_canGo_55 rfl ?_
    refine AW_iload_n 2 (n := 2) rfl dX12_canGo_56 rfl ?_
    refine AW_iload 5 dX12_canGo_57 rfl ?_
    refine AW_iadd dX12_canGo_59 ?_
    refine AW_iaload dX12_canGo_60 h16_1 hn_1 hs_1 h.1 (v := S1.1 k1 ((x2 + x5).toNatClampNeg)) rfl ?_
    replace h := h.2
    refine AW_if_ne dX12_canGo_61 rfl (iteM h (fun h => ?_) (fun h => ?_))
    · refine AW_iconst (v := 0) dX12_canGo_64 rfl ?_
      exact AW_retz dX12_canGo_65 rfl Bz0 h
    · refine AW_iinc 5 (v := x5 + 1) dX12_canGo_66 rfl rfl (Nat.le_of_ble_eq_true rfl) rfl ?_
      refine AW_goto (tgt := 3) dX12_canGo_69 rfl ?_
      exact AW.sub [1, 2, 3, 4, 5, 0] rfl h
set_option maxRecDepth 20000 in
theorem eX12_canGo_3 {g : GX} {Q : Int32 → St → Prop} {d : Nat} {ρ : Rs} {S : St} (hρ : Ok ρ) {k1 n1 : Nat} (h16_1 : 16 ≤ k1) (hn_1 : k1 < rn ρ) (hs_1 : shp ρ k1 = .inr (0, n1)) {x2 : Int32} {x3 : Int32} {x4 : Int32} {x5 : Int32} (h : CALLi g d mX12_many [.ref 80] ρ ρ S (fun v1 S1 => if v1 ≤ x5 then Q 1 S1 else CALLi g d mX12_has [.int x3, .int x5] ρ ρ S1 (fun v2 S2 => if v2 = 0 then CALLi g d mX12_has [.int x4, .int x5] ρ ρ S2 (fun v3 S3 => if v3 = 0 then AW g ρ (QI Q) (d + 1) mX12_canGo 45 [(0, .ref 80), (1, .ref k1), (2, .int x2), (3, .int x3), (4, .int x4), (5, .int x5)] [] ρ S3 else CALLi g d mX12_has [.int (S3.1 81 2), .int x5] ρ ρ S3 (fun v4 S4 => if v4 = 0 then AW g ρ (QI Q) (d + 1) mX12_canGo 45 [(0, .ref 80), (1, .ref k1), (2, .int x2), (3, .int x3), (4, .int x4), (5, .int x5)] [] ρ S4 else Q 0 S4)) else CALLi g d mX12_has [.int (S2.1 81 2), .int x5] ρ ρ S2 (fun v5 S5 => if v5 = 0 then AW g ρ (QI Q) (d + 1) mX12_canGo 45 [(0, .ref 80), (1, .ref k1), (2, .int x2), (3, .int x3), (4, .int x4), (5, .int x5)] [] ρ S5 else Q 0 S5)))) : AW g ρ (QI Q) (d + 1) mX12_canGo 3 [(0, .ref 80), (1, .ref k1), (2, .int x2), (3, .int x3), (4, .int x4), (5, .int x5)] [] ρ S := by
  refine AW_iload 5 dX12_canGo_3 rfl ?_
  refine AW_aload_n 0 (n := 0) rfl dX12_canGo_5 rfl ?_
  refine AW_callVi (M := mX12_canGo) (pc := 6) (As := []) (ρ1 := ρ) (st := [.int x5]) dX12_canGo_6 mdX12_many rfl mlX12_150 imX12_many seX12_many (rcv_of (q := (RX12, TX12, 40)) (Nat.le_of_ble_eq_true rfl) (okn hρ (Nat.le_of_ble_eq_true rfl)) rfl rfl) ⟨rfl, npX12_many⟩ (Nat.le_of_ble_eq_true rfl) (Nat.le_refl _) (Nat.le_refl _) rfl (CALLi.mono h (fun v1 S1 _ h => ?_))
  refine AW_icmp_ge dX12_canGo_9 rfl (iteM h (fun h => ?_) (fun h => ?_))
  · refine AW_iconst (v := 1) dX12_canGo_72 rfl ?_
    exact AW_retz dX12_canGo_73 rfl Bz1 h
  · refine AW_iload_n 3 (n := 3) rfl dX12_canGo_12 rfl ?_
    refine AW_iload 5 dX12_canGo_13 rfl ?_
    refine AW_callSi (M := mX12_canGo) (pc := 15) (As := [.int x3, .int x5]) (ρ1 := ρ) (st := []) dX12_canGo_15 mdX12_has mlX12_138 smX12_has ⟨rfl, npX12_has⟩ (Nat.le_of_ble_eq_true rfl) (Nat.le_refl _) (Nat.le_refl _) rfl (CALLi.mono h (fun v2 S2 _ h => ?_))
    refine AW_if_ne dX12_canGo_18 rfl (iteM h (fun h => ?_) (fun h => ?_))
    · refine AW_iload 4 dX12_canGo_21 rfl ?_
      refine AW_iload 5 dX12_canGo_23 rfl ?_
      refine AW_callSi (M := mX12_canGo) (pc := 25) (As := [.int x4, .int x5]) (ρ1 := ρ) (st := []) dX12_canGo_25 mdX12_has mlX12_138 smX12_has ⟨rfl, npX12_has⟩ (Nat.le_of_ble_eq_true rfl) (Nat.le_refl _) (Nat.le_refl _) rfl (CALLi.mono h (fun v3 S3 _ h => ?_))
      refine AW_if_eq dX12_canGo_28 rfl (iteM h (fun h => ?_) (fun h => ?_))
      · exact AW.sub [0, 1, 2, 3, 4, 5] rfl h
      · refine AW_aload_n 0 (n := 0) rfl dX12_canGo_31 rfl ?_
        refine AW_get dX12_canGo_32 flX12_9 (Nat.le_of_ble_eq_true rfl) (okn hρ (Nat.le_of_ble_eq_true rfl)) rfl (v := .ref 81) (fvR (okR hρ 51 rfl)) ?_
        refine AW_iconst (v := 2) dX12_canGo_35 rfl ?_
        refine AW_iaload dX12_canGo_36 (Nat.le_of_ble_eq_true rfl) (okn hρ (Nat.le_of_ble_eq_true rfl)) rfl (show ¬ (_ ∨ _) by decide) (v := S3.1 81 2) rfl ?_
        refine AW_iload 5 dX12_canGo_37 rfl ?_
        refine AW_callSi (M := mX12_canGo) (pc := 39) (As := [.int (S3.1 81 2), .int x5]) (ρ1 := ρ) (st := []) dX12_canGo_39 mdX12_has mlX12_138 smX12_has ⟨rfl, npX12_has⟩ (Nat.le_of_ble_eq_true rfl) (Nat.le_refl _) (Nat.le_refl _) rfl (CALLi.mono h (fun v4 S4 _ h => ?_))
        refine AW_if_ne dX12_canGo_42 rfl (iteM h (fun h => ?_) (fun h => ?_))
        · exact AW.sub [0, 1, 2, 3, 4, 5] rfl h
        · refine AW_iconst (v := 0) dX12_canGo_64 rfl ?_
          exact AW_retz dX12_canGo_65 rfl Bz0 h
    · refine AW_aload_n 0 (n := 0) rfl dX12_canGo_31 rfl ?_
      refine AW_get dX12_canGo_32 flX12_9 (Nat.le_of_ble_eq_true rfl) (okn hρ (Nat.le_of_ble_eq_true rfl)) rfl (v := .ref 81) (fvR (okR hρ 51 rfl)) ?_
      refine AW_iconst (v := 2) dX12_canGo_35 rfl ?_
      refine AW_iaload dX12_canGo_36 (Nat.le_of_ble_eq_true rfl) (okn hρ (Nat.le_of_ble_eq_true rfl)) rfl (show ¬ (_ ∨ _) by decide) (v := S2.1 81 2) rfl ?_
      refine AW_iload 5 dX12_canGo_37 rfl ?_
      refine AW_callSi (M := mX12_canGo) (pc := 39) (As := [.int (S2.1 81 2), .int x5]) (ρ1 := ρ) (st := []) dX12_canGo_39 mdX12_has mlX12_138 smX12_has ⟨rfl, npX12_has⟩ (Nat.le_of_ble_eq_true rfl) (Nat.le_refl _) (Nat.le_refl _) rfl (CALLi.mono h (fun v5 S5 _ h => ?_))
      refine AW_if_ne dX12_canGo_42 rfl (iteM h (fun h => ?_) (fun h => ?_))
      · exact AW.sub [0, 1, 2, 3, 4, 5] rfl h
      · refine AW_iconst (v := 0) dX12_canGo_64 rfl ?_
        exact AW_retz dX12_canGo_65 rfl Bz0 h
set_option maxRecDepth 20000 in
theorem eX12_canGo {g : GX} {Q : Int32 → St → Prop} {d : Nat} {ρ : Rs} {S : St} (hρ : Ok ρ) {k1 n1 : Nat} (h16_1 : 16 ≤ k1) (hn_1 : k1 < rn ρ) (hs_1 : shp ρ k1 = .inr (0, n1)) {x2 : Int32} {x3 : Int32} {x4 : Int32} (h : AW g ρ (QI Q) (d + 1) mX12_canGo 3 [(0, .ref 80), (1, .ref k1), (2, .int x2), (3, .int x3), (4, .int x4), (5, .int 0)] [] ρ S) : CALLi g (d + 1) mX12_canGo [.ref 80, .ref k1, .int x2, .int x3, .int x4] ρ ρ S Q := by
  refine CALL.of mdX12_canGo.2.2.2.2 (Nat.le_of_ble_eq_true rfl) (Nat.le_refl _) (Nat.le_refl _) ?_
  show AW g ρ (QI Q) (d + 1) mX12_canGo 0 [(0, .ref 80), (1, .ref k1), (2, .int x2), (3, .int x3), (4, .int x4)] [] ρ S
  refine AW_iconst (v := 0) dX12_canGo_0 rfl ?_
  refine AW_istore dX12_canGo_1 (Nat.le_of_ble_eq_true rfl) rfl ?_
  exact AW.sub [1, 2, 3, 4, 5, 0] rfl h
set_option maxRecDepth 20000 in
theorem eX12_two {g : GX} {Q : Int32 → St → Prop} {d : Nat} {ρ : Rs} {S : St} (hρ : Ok ρ) {x1 : Int32} {x2 : Int32} {x3 : Int32} {x4 : Int32} (h : CALLi g d mX12_place [.ref 80, .int x1, .int x2] ρ ρ S (fun v1 S1 => CALLi g d mX12_place [.ref 80, .int x3, .int x4] ρ ρ S1 (fun v2 S2 => Q ((1 <<< (v1 &&& 31)) ||| (1 <<< (v2 &&& 31))) S2))) : CALLi g (d + 1) mX12_two [.ref 80, .int x1, .int x2, .int x3, .int x4] ρ ρ S Q := by
  refine CALL.of mdX12_two.2.2.2.2 (Nat.le_of_ble_eq_true rfl) (Nat.le_refl _) (Nat.le_refl _) ?_
  show AW g ρ (QI Q) (d + 1) mX12_two 0 [(0, .ref 80), (1, .int x1), (2, .int x2), (3, .int x3), (4, .int x4)] [] ρ S
  refine AW_iconst (v := 1) dX12_two_0 rfl ?_
  refine AW_aload_n 0 (n := 0) rfl dX12_two_1 rfl ?_
  refine AW_iload_n 1 (n := 1) rfl dX12_two_2 rfl ?_
  refine AW_iload_n 2 (n := 2) rfl dX12_two_3 rfl ?_
  refine AW_callVi (M := mX12_two) (pc := 4) (As := [.int x1, .int x2]) (ρ1 := ρ) (st := [.int 1]) dX12_two_4 mdX12_place rfl mlX12_133 imX12_place seX12_place (rcv_of (q := (RX12, TX12, 40)) (Nat.le_of_ble_eq_true rfl) (okn hρ (Nat.le_of_ble_eq_true rfl)) rfl rfl) ⟨rfl, npX12_place⟩ (Nat.le_of_ble_eq_true rfl) (Nat.le_refl _) (Nat.le_refl _) rfl (CALLi.mono h (fun v1 S1 _ h => ?_))
  refine AW_ishl dX12_two_7 ?_
  refine AW_iconst (v := 1) dX12_two_8 rfl ?_
  refine AW_aload_n 0 (n := 0) rfl dX12_two_9 rfl ?_
  refine AW_iload_n 3 (n := 3) rfl dX12_two_10 rfl ?_
  refine AW_iload 4 dX12_two_11 rfl ?_
  refine AW_callVi (M := mX12_two) (pc := 13) (As := [.int x3, .int x4]) (ρ1 := ρ) (st := [.int 1, .int (1 <<< (v1 &&& 31))]) dX12_two_13 mdX12_place rfl mlX12_133 imX12_place seX12_place (rcv_of (q := (RX12, TX12, 40)) (Nat.le_of_ble_eq_true rfl) (okn hρ (Nat.le_of_ble_eq_true rfl)) rfl rfl) ⟨rfl, npX12_place⟩ (Nat.le_of_ble_eq_true rfl) (Nat.le_refl _) (Nat.le_refl _) rfl (CALLi.mono h (fun v2 S2 _ h => ?_))
  refine AW_ishl dX12_two_16 ?_
  refine AW_ior dX12_two_17 ?_
  exact AW_reti dX12_two_18 rfl h
set_option maxRecDepth 20000 in
theorem eX12_changes_33 {g : GX} {Q : St → Prop} {d : Nat} {ρ : Rs} {S : St} (hρ : Ok ρ) {k1 n1 : Nat} (h16_1 : 16 ≤ k1) (hn_1 : k1 < rn ρ) (hs_1 : shp ρ k1 = .inr (0, n1)) {x2 : Int32} {x3 : Int32} {x4 : Int32} {x5 : Int32} {s0 : Int32} {s1 : Int32} {s2 : Int32} (hF_1 : gF g k1) (h : CALLi g d mX12_has [.int x4, .int x5] ρ ρ S (fun v1 S1 => if v1 = 0 then vp_in s2 n1 ∧ (AW g ρ (QV Q) (d + 1) mX12_changes 3 [(0, .ref 80), (1, .ref k1), (2, .int x2), (3, .int x3), (4, .int x4), (5, .int (x5 + 1))] [] ρ (setI S1 k1 s2.toNatClampNeg (s1 + (s0 - 0)))) else vp_in s2 n1 ∧ (AW g ρ (QV Q) (d + 1) mX12_changes 3 [(0, .ref 80), (1, .ref k1), (2, .int x2), (3, .int x3), (4, .int x4), (5, .int (x5 + 1))] [] ρ (setI S1 k1 s2.toNatClampNeg (s1 + (s0 - 1)))))) : AW g ρ (QV Q) (d + 1) mX12_changes 33 [(0, .ref 80), (1, .ref k1), (2, .int x2), (3, .int x3), (4, .int x4), (5, .int x5)] [.int s0, .int s1, .int s2, .ref k1] ρ S := by
  refine AW_iload 4 dX12_changes_33 rfl ?_
  refine AW_iload 5 dX12_changes_35 rfl ?_
  refine AW_callSi (M := mX12_changes) (pc := 37) (As := [.int x4, .int x5]) (ρ1 := ρ) (st := [.int s0, .int s1, .int s2, .ref k1]) dX12_changes_37 mdX12_has mlX12_138 smX12_has ⟨rfl, npX12_has⟩ (Nat.le_of_ble_eq_true rfl) (Nat.le_refl _) (Nat.le_refl _) rfl (CALLi.mono h (fun v1 S1 _ h => ?_))
  refine AW_if_eq dX12_changes_40 rfl (iteM h (fun h => ?_) (fun h => ?_))
  · refine AW_iconst (v := 0) dX12_changes_47 rfl ?_
    refine AW_isub dX12_changes_48 ?_
    refine AW_iadd dX12_changes_49 ?_
    refine AW_iastore dX12_changes_50 h16_1 hn_1 hs_1 h.1 hF_1 (jx := s2.toNatClampNeg) rfl ?_
    replace h := h.2
    refine AW_iinc 5 (v := x5 + 1) dX12_changes_51 rfl rfl (Nat.le_of_ble_eq_true rfl) rfl ?_
    refine AW_goto (tgt := 3) dX12_changes_54 rfl ?_
    exact AW.sub [1, 2, 3, 4, 5, 0] rfl h
  · refine AW_iconst (v := 1) dX12_changes_43 rfl ?_
    refine AW_goto (tgt := 48) dX12_changes_44 rfl ?_
    refine AW_isub dX12_changes_48 ?_
    refine AW_iadd dX12_changes_49 ?_
    refine AW_iastore dX12_changes_50 h16_1 hn_1 hs_1 h.1 hF_1 (jx := s2.toNatClampNeg) rfl ?_
    replace h := h.2
    refine AW_iinc 5 (v := x5 + 1) dX12_changes_51 rfl rfl (Nat.le_of_ble_eq_true rfl) rfl ?_
    refine AW_goto (tgt := 3) dX12_changes_54 rfl ?_
    exact AW.sub [1, 2, 3, 4, 5, 0] rfl h
set_option maxRecDepth 20000 in
theorem eX12_changes_3 {g : GX} {Q : St → Prop} {d : Nat} {ρ : Rs} {S : St} (hρ : Ok ρ) {k1 n1 : Nat} (h16_1 : 16 ≤ k1) (hn_1 : k1 < rn ρ) (hs_1 : shp ρ k1 = .inr (0, n1)) {x2 : Int32} {x3 : Int32} {x4 : Int32} {x5 : Int32} (h : CALLi g d mX12_many [.ref 80] ρ ρ S (fun v1 S1 => if v1 ≤ x5 then Q S1 else vp_in (x2 + x5) n1 ∧ (CALLi g d mX12_has [.int x3, .int x5] ρ ρ S1 (fun v2 S2 => if v2 = 0 then AW g ρ (QV Q) (d + 1) mX12_changes 33 [(0, .ref 80), (1, .ref k1), (2, .int x2), (3, .int x3), (4, .int x4), (5, .int x5)] [.int 0, .int (S1.1 k1 ((x2 + x5).toNatClampNeg)), .int (x2 + x5), .ref k1] ρ S2 else AW g ρ (QV Q) (d + 1) mX12_changes 33 [(0, .ref 80), (1, .ref k1), (2, .int x2), (3, .int x3), (4, .int x4), (5, .int x5)] [.int 1, .int (S1.1 k1 ((x2 + x5).toNatClampNeg)), .int (x2 + x5), .ref k1] ρ S2)))) : AW g ρ (QV Q) (d + 1) mX12_changes 3 [(0, .ref 80), (1, .ref k1), (2, .int x2), (3, .int x3), (4, .int x4), (5, .int x5)] [] ρ S := by
  refine AW_iload 5 dX12_changes_3 rfl ?_
  refine AW_aload_n 0 (n := 0) rfl dX12_changes_5 rfl ?_
  refine AW_callVi (M := mX12_changes) (pc := 6) (As := []) (ρ1 := ρ) (st := [.int x5]) dX12_changes_6 mdX12_many rfl mlX12_150 imX12_many seX12_many (rcv_of (q := (RX12, TX12, 40)) (Nat.le_of_ble_eq_true rfl) (okn hρ (Nat.le_of_ble_eq_true rfl)) rfl rfl) ⟨rfl, npX12_many⟩ (Nat.le_of_ble_eq_true rfl) (Nat.le_refl _) (Nat.le_refl _) rfl (CALLi.mono h (fun v1 S1 _ h => ?_))
  refine AW_icmp_ge dX12_changes_9 rfl (iteM h (fun h => ?_) (fun h => ?_))
  · exact AW_retv dX12_changes_57 rfl h
  · refine AW_aload_n 1 (n := 1) rfl dX12_changes_12 rfl ?_
    refine AW_iload_n 2 (n := 2) rfl dX12_changes_13 rfl ?_
    refine AW_iload 5 dX12_changes_14 rfl ?_
    refine AW_iadd dX12_changes_16 ?_
    refine AW_dup2_11 dX12_changes_17 rfl rfl ?_
    refine AW_iaload dX12_changes_18 h16_1 hn_1 hs_1 h.1 (v := S1.1 k1 ((x2 + x5).toNatClampNeg)) rfl ?_
    replace h := h.2
    refine AW_iload_n 3 (n := 3) rfl dX12_changes_19 rfl ?_
    refine AW_iload 5 dX12_changes_20 rfl ?_
    refine AW_callSi (M := mX12_changes) (pc := 22) (As := [.int x3, .int x5]) (ρ1 := ρ) (st := [.int (S1.1 k1 ((x2 + x5).toNatClampNeg)), .int (x2 + x5), .ref k1]) dX12_changes_22 mdX12_has mlX12_138 smX12_has ⟨rfl, npX12_has⟩ (Nat.le_of_ble_eq_true rfl) (Nat.le_refl _) (Nat.le_refl _) rfl (CALLi.mono h (fun v2 S2 _ h => ?_))
    refine AW_if_eq dX12_changes_25 rfl (iteM h (fun h => ?_) (fun h => ?_))
    · refine AW_iconst (v := 0) dX12_changes_32 rfl ?_
      exact AW.sub [0, 1, 2, 3, 4, 5] rfl h
    · refine AW_iconst (v := 1) dX12_changes_28 rfl ?_
      refine AW_goto (tgt := 33) dX12_changes_29 rfl ?_
      exact AW.sub [0, 1, 2, 3, 4, 5] rfl h
set_option maxRecDepth 20000 in
theorem eX12_changes {g : GX} {Q : St → Prop} {d : Nat} {ρ : Rs} {S : St} (hρ : Ok ρ) {k1 n1 : Nat} (h16_1 : 16 ≤ k1) (hn_1 : k1 < rn ρ) (hs_1 : shp ρ k1 = .inr (0, n1)) {x2 : Int32} {x3 : Int32} {x4 : Int32} (h : AW g ρ (QV Q) (d + 1) mX12_changes 3 [(0, .ref 80), (1, .ref k1), (2, .int x2), (3, .int x3), (4, .int x4), (5, .int 0)] [] ρ S) : CALLv g (d + 1) mX12_changes [.ref 80, .ref k1, .int x2, .int x3, .int x4] ρ ρ S Q := by
  refine CALL.of mdX12_changes.2.2.2.2 (Nat.le_of_ble_eq_true rfl) (Nat.le_refl _) (Nat.le_refl _) ?_
  show AW g ρ (QV Q) (d + 1) mX12_changes 0 [(0, .ref 80), (1, .ref k1), (2, .int x2), (3, .int x3), (4, .int x4)] [] ρ S
  refine AW_iconst (v := 0) dX12_changes_0 rfl ?_
  refine AW_istore dX12_changes_1 (Nat.le_of_ble_eq_true rfl) rfl ?_
  exact AW.sub [1, 2, 3, 4, 5, 0] rfl h
set_option maxRecDepth 20000 in
theorem eX12_swaps_45 {g : GX} {Q : Int32 → St → Prop} {d : Nat} {ρ : Rs} {S : St} (hρ : Ok ρ) {x1 : Int32} {x2 : Int32} {x3 : Int32} {x4 : Int32} (h : if ((S.1 81 1) * (S.1 81 1)) ≤ x4 then AW g ρ (QI Q) (d + 1) mX12_swaps 32 [(0, .ref 80), (1, .int x1), (2, .int x2), (3, .int (x3 + 1))] [] ρ S else ¬ (S.1 81 1) = (0 : Int32) ∧ (¬ (S.1 81 1) = (0 : Int32) ∧ (if (x4 / (S.1 81 1)) = (x4 - x4 / (S.1 81 1) * (S.1 81 1)) then AW g ρ (QI Q) (d + 1) mX12_swaps 45 [(0, .ref 80), (1, .int (x1 + 0)), (2, .int x2), (3, .int x3), (4, .int (x4 + 1))] [] ρ S else CALLi g d mX12_two [.ref 80, .int x2, .int (x4 / (S.1 81 1)), .int x3, .int (x4 - x4 / (S.1 81 1) * (S.1 81 1))] ρ ρ S (fun v1 S1 => CALLi g d mX12_two [.ref 80, .int x2, .int (x4 - x4 / (S.1 81 1) * (S.1 81 1)), .int x3, .int (x4 / (S.1 81 1))] ρ ρ S1 (fun v2 S2 => CALLi g d mX12_canGo [.ref 80, .ref 85, .int 0, .int v1, .int v2] ρ ρ S2 (fun v3 S3 => if v3 = 0 then AW g ρ (QI Q) (d + 1) mX12_swaps 45 [(0, .ref 80), (1, .int (x1 + 0)), (2, .int x2), (3, .int x3), (4, .int (x4 + 1))] [] ρ S3 else AW g ρ (QI Q) (d + 1) mX12_swaps 45 [(0, .ref 80), (1, .int (x1 + 1)), (2, .int x2), (3, .int x3), (4, .int (x4 + 1))] [] ρ S3)))))) : AW g ρ (QI Q) (d + 1) mX12_swaps 45 [(0, .ref 80), (1, .int x1), (2, .int x2), (3, .int x3), (4, .int x4)] [] ρ S := by
  refine AW_iload 4 dX12_swaps_45 rfl ?_
  refine AW_aload_n 0 (n := 0) rfl dX12_swaps_47 rfl ?_
  refine AW_get dX12_swaps_48 flX12_9 (Nat.le_of_ble_eq_true rfl) (okn hρ (Nat.le_of_ble_eq_true rfl)) rfl (v := .ref 81) (fvR (okR hρ 51 rfl)) ?_
  refine AW_iconst (v := 1) dX12_swaps_51 rfl ?_
  refine AW_iaload dX12_swaps_52 (Nat.le_of_ble_eq_true rfl) (okn hρ (Nat.le_of_ble_eq_true rfl)) rfl (show ¬ (_ ∨ _) by decide) (v := S.1 81 1) rfl ?_
  refine AW_aload_n 0 (n := 0) rfl dX12_swaps_53 rfl ?_
  refine AW_get dX12_swaps_54 flX12_9 (Nat.le_of_ble_eq_true rfl) (okn hρ (Nat.le_of_ble_eq_true rfl)) rfl (v := .ref 81) (fvR (okR hρ 51 rfl)) ?_
  refine AW_iconst (v := 1) dX12_swaps_57 rfl ?_
  refine AW_iaload dX12_swaps_58 (Nat.le_of_ble_eq_true rfl) (okn hρ (Nat.le_of_ble_eq_true rfl)) rfl (show ¬ (_ ∨ _) by decide) (v := S.1 81 1) rfl ?_
  refine AW_imul dX12_swaps_59 ?_
  refine AW_icmp_ge dX12_swaps_60 rfl (iteM h (fun h => ?_) (fun h => ?_))
  · refine AW_iinc 3 (v := x3 + 1) dX12_swaps_138 rfl rfl (Nat.le_of_ble_eq_true rfl) rfl ?_
    refine AW_goto (tgt := 32) dX12_swaps_141 rfl ?_
    exact AW.sub [1, 2, 3, 0] rfl h
  · refine AW_iload 4 dX12_swaps_63 rfl ?_
    refine AW_aload_n 0 (n := 0) rfl dX12_swaps_65 rfl ?_
    refine AW_get dX12_swaps_66 flX12_9 (Nat.le_of_ble_eq_true rfl) (okn hρ (Nat.le_of_ble_eq_true rfl)) rfl (v := .ref 81) (fvR (okR hρ 51 rfl)) ?_
    refine AW_iconst (v := 1) dX12_swaps_69 rfl ?_
    refine AW_iaload dX12_swaps_70 (Nat.le_of_ble_eq_true rfl) (okn hρ (Nat.le_of_ble_eq_true rfl)) rfl (show ¬ (_ ∨ _) by decide) (v := S.1 81 1) rfl ?_
    refine AW_idiv dX12_swaps_71 h.1 ?_
    replace h := h.2
    refine AW_istore dX12_swaps_72 (Nat.le_of_ble_eq_true rfl) rfl ?_
    refine AW_iload 5 dX12_swaps_74 rfl ?_
    refine AW_aload_n 1 (n := 0) rfl dX12_swaps_76 rfl ?_
    refine AW_get dX12_swaps_77 flX12_9 (Nat.le_of_ble_eq_true rfl) (okn hρ (Nat.le_of_ble_eq_true rfl)) rfl (v := .ref 81) (fvR (okR hρ 51 rfl)) ?_
    refine AW_iconst (v := 1) dX12_swaps_80 rfl ?_
    refine AW_iaload dX12_swaps_81 (Nat.le_of_ble_eq_true rfl) (okn hρ (Nat.le_of_ble_eq_true rfl)) rfl (show ¬ (_ ∨ _) by decide) (v := S.1 81 1) rfl ?_
    refine AW_irem dX12_swaps_82 h.1 ?_
    replace h := h.2
    refine AW_istore dX12_swaps_83 (Nat.le_of_ble_eq_true rfl) rfl ?_
    refine AW_iload_n 3 (n := 1) rfl dX12_swaps_85 rfl ?_
    refine AW_iload 1 dX12_swaps_86 rfl ?_
    refine AW_iload 0 dX12_swaps_88 rfl ?_
    refine AW_icmp_eq dX12_swaps_90 rfl (iteM h (fun h => ?_) (fun h => ?_))
    · refine AW_iconst (v := 0) dX12_swaps_129 rfl ?_
      refine AW_iadd dX12_swaps_130 ?_
      refine AW_istore_n (n := 1) (i := 1) rfl dX12_swaps_131 (Nat.le_of_ble_eq_true rfl) rfl ?_
      refine AW_iinc 6 (v := x4 + 1) dX12_swaps_132 rfl rfl (Nat.le_of_ble_eq_true rfl) rfl ?_
      refine AW_goto (tgt := 45) dX12_swaps_135 rfl ?_
      exact AW.sub [4, 1, 5, 6, 0] rfl h
    · refine AW_aload_n 2 (n := 0) rfl dX12_swaps_93 rfl ?_
      refine AW_aload_n 2 (n := 0) rfl dX12_swaps_94 rfl ?_
      refine AW_get dX12_swaps_95 flX12_26 (Nat.le_of_ble_eq_true rfl) (okn hρ (Nat.le_of_ble_eq_true rfl)) rfl (v := .ref 85) (fvR (okR hρ 55 rfl)) ?_
      refine AW_iconst (v := 0) dX12_swaps_98 rfl ?_
      refine AW_aload_n 2 (n := 0) rfl dX12_swaps_99 rfl ?_
      refine AW_iload_n 4 (n := 2) rfl dX12_swaps_100 rfl ?_
      refine AW_iload 1 dX12_swaps_101 rfl ?_
      refine AW_iload_n 5 (n := 3) rfl dX12_swaps_103 rfl ?_
      refine AW_iload 0 dX12_swaps_104 rfl ?_
      refine AW_callVi (M := mX12_swaps) (pc := 106) (As := [.int x2, .int (x4 / (S.1 81 1)), .int x3, .int (x4 - x4 / (S.1 81 1) * (S.1 81 1))]) (ρ1 := ρ) (st := [.int 0, .ref 85, .ref 80, .int x1]) dX12_swaps_106 mdX12_two rfl mlX12_320 imX12_two seX12_two (rcv_of (q := (RX12, TX12, 40)) (Nat.le_of_ble_eq_true rfl) (okn hρ (Nat.le_of_ble_eq_true rfl)) rfl rfl) ⟨rfl, npX12_two⟩ (Nat.le_of_ble_eq_true rfl) (Nat.le_refl _) (Nat.le_refl _) rfl (CALLi.mono h (fun v1 S1 _ h => ?_))
      refine AW_aload_n 2 (n := 0) rfl dX12_swaps_109 rfl ?_
      refine AW_iload_n 4 (n := 2) rfl dX12_swaps_110 rfl ?_
      refine AW_iload 0 dX12_swaps_111 rfl ?_
      refine AW_iload_n 5 (n := 3) rfl dX12_swaps_113 rfl ?_
      refine AW_iload 1 dX12_swaps_114 rfl ?_
      refine AW_callVi (M := mX12_swaps) (pc := 116) (As := [.int x2, .int (x4 - x4 / (S.1 81 1) * (S.1 81 1)), .int x3, .int (x4 / (S.1 81 1))]) (ρ1 := ρ) (st := [.int v1, .int 0, .ref 85, .ref 80, .int x1]) dX12_swaps_116 mdX12_two rfl mlX12_320 imX12_two seX12_two (rcv_of (q := (RX12, TX12, 40)) (Nat.le_of_ble_eq_true rfl) (okn hρ (Nat.le_of_ble_eq_true rfl)) rfl rfl) ⟨rfl, npX12_two⟩ (Nat.le_of_ble_eq_true rfl) (Nat.le_refl _) (Nat.le_refl _) rfl (CALLi.mono h (fun v2 S2 _ h => ?_))
      refine AW_callVi (M := mX12_swaps) (pc := 119) (As := [.ref 85, .int 0, .int v1, .int v2]) (ρ1 := ρ) (st := [.int x1]) dX12_swaps_119 mdX12_canGo rfl mlX12_324 imX12_canGo seX12_canGo (rcv_of (q := (RX12, TX12, 40)) (Nat.le_of_ble_eq_true rfl) (okn hρ (Nat.le_of_ble_eq_true rfl)) rfl rfl) ⟨rfl, npX12_canGo⟩ (Nat.le_of_ble_eq_true rfl) (Nat.le_refl _) (Nat.le_refl _) rfl (CALLi.mono h (fun v3 S3 _ h => ?_))
      refine AW_if_eq dX12_swaps_122 rfl (iteM h (fun h => ?_) (fun h => ?_))
      · refine AW_iconst (v := 0) dX12_swaps_129 rfl ?_
        refine AW_iadd dX12_swaps_130 ?_
        refine AW_istore_n (n := 1) (i := 1) rfl dX12_swaps_131 (Nat.le_of_ble_eq_true rfl) rfl ?_
        refine AW_iinc 6 (v := x4 + 1) dX12_swaps_132 rfl rfl (Nat.le_of_ble_eq_true rfl) rfl ?_
        refine AW_goto (tgt := 45) dX12_swaps_135 rfl ?_
        exact AW.sub [4, 1, 5, 6, 0] rfl h
      · refine AW_iconst (v := 1) dX12_swaps_125 rfl ?_
        refine AW_goto (tgt := 130) dX12_swaps_126 rfl ?_
        refine AW_iadd dX12_swaps_130 ?_
        refine AW_istore_n (n := 1) (i := 1) rfl dX12_swaps_131 (Nat.le_of_ble_eq_true rfl) rfl ?_
        refine AW_iinc 6 (v := x4 + 1) dX12_swaps_132 rfl rfl (Nat.le_of_ble_eq_true rfl) rfl ?_
        refine AW_goto (tgt := 45) dX12_swaps_135 rfl ?_
        exact AW.sub [4, 1, 5, 6, 0] rfl h
set_option maxRecDepth 20000 in
theorem eX12_swaps_32 {g : GX} {Q : Int32 → St → Prop} {d : Nat} {ρ : Rs} {S : St} (hρ : Ok ρ) {x1 : Int32} {x2 : Int32} {x3 : Int32} (h : if (S.1 81 0) ≤ x3 then AW g ρ (QI Q) (d + 1) mX12_swaps 18 [(0, .ref 80), (1, .int x1), (2, .int (x2 + 1))] [] ρ S else AW g ρ (QI Q) (d + 1) mX12_swaps 45 [(0, .ref 80), (1, .int x1), (2, .int x2), (3, .int x3), (4, .int 0)] [] ρ S) : AW g ρ (QI Q) (d + 1) mX12_swaps 32 [(0, .ref 80), (1, .int x1), (2, .int x2), (3, .int x3)] [] ρ S := by
  refine AW_iload_n 3 (n := 3) rfl dX12_swaps_32 rfl ?_
  refine AW_aload_n 0 (n := 0) rfl dX12_swaps_33 rfl ?_
  refine AW_get dX12_swaps_34 flX12_9 (Nat.le_of_ble_eq_true rfl) (okn hρ (Nat.le_of_ble_eq_true rfl)) rfl (v := .ref 81) (fvR (okR hρ 51 rfl)) ?_
  refine AW_iconst (v := 0) dX12_swaps_37 rfl ?_
  refine AW_iaload dX12_swaps_38 (Nat.le_of_ble_eq_true rfl) (okn hρ (Nat.le_of_ble_eq_true rfl)) rfl (show ¬ (_ ∨ _) by decide) (v := S.1 81 0) rfl ?_
  refine AW_icmp_ge dX12_swaps_39 rfl (iteM h (fun h => ?_) (fun h => ?_))
  · refine AW_iinc 2 (v := x2 + 1) dX12_swaps_144 rfl rfl (Nat.le_of_ble_eq_true rfl) rfl ?_
    refine AW_goto (tgt := 18) dX12_swaps_147 rfl ?_
    exact AW.sub [1, 2, 0] rfl h
  · refine AW_iconst (v := 0) dX12_swaps_42 rfl ?_
    refine AW_istore dX12_swaps_43 (Nat.le_of_ble_eq_true rfl) rfl ?_
    exact AW.sub [1, 2, 3, 4, 0] rfl h
set_option maxRecDepth 20000 in
theorem eX12_swaps_18 {g : GX} {Q : Int32 → St → Prop} {d : Nat} {ρ : Rs} {S : St} (hρ : Ok ρ) {x1 : Int32} {x2 : Int32} (h : if (S.1 81 0) ≤ x2 then Q x1 S else AW g ρ (QI Q) (d + 1) mX12_swaps 32 [(0, .ref 80), (1, .int x1), (2, .int x2), (3, .int (x2 + 1))] [] ρ S) : AW g ρ (QI Q) (d + 1) mX12_swaps 18 [(0, .ref 80), (1, .int x1), (2, .int x2)] [] ρ S := by
  refine AW_iload_n 2 (n := 2) rfl dX12_swaps_18 rfl ?_
  refine AW_aload_n 0 (n := 0) rfl dX12_swaps_19 rfl ?_
  refine AW_get dX12_swaps_20 flX12_9 (Nat.le_of_ble_eq_true rfl) (okn hρ (Nat.le_of_ble_eq_true rfl)) rfl (v := .ref 81) (fvR (okR hρ 51 rfl)) ?_
  refine AW_iconst (v := 0) dX12_swaps_23 rfl ?_
  refine AW_iaload dX12_swaps_24 (Nat.le_of_ble_eq_true rfl) (okn hρ (Nat.le_of_ble_eq_true rfl)) rfl (show ¬ (_ ∨ _) by decide) (v := S.1 81 0) rfl ?_
  refine AW_icmp_ge dX12_swaps_25 rfl (iteM h (fun h => ?_) (fun h => ?_))
  · refine AW_iload_n 1 (n := 1) rfl dX12_swaps_150 rfl ?_
    exact AW_reti dX12_swaps_151 rfl h
  · refine AW_iload_n 2 (n := 2) rfl dX12_swaps_28 rfl ?_
    refine AW_iconst (v := 1) dX12_swaps_29 rfl ?_
    refine AW_iadd dX12_swaps_30 ?_
    refine AW_istore_n (n := 3) (i := 3) rfl dX12_swaps_31 (Nat.le_of_ble_eq_true rfl) rfl ?_
    exact AW.sub [1, 2, 3, 0] rfl h
set_option maxRecDepth 20000 in
theorem eX12_swaps {g : GX} {Q : Int32 → St → Prop} {d : Nat} {ρ : Rs} {S : St} (hρ : Ok ρ) (h : CALLi g d mX12_is [.ref 80] ρ ρ S (fun v1 S1 => if v1 = 0 then Q (-2) S1 else CALLv g d mX12_laysNow [.ref 80] ρ ρ S1 (fun S2 => AW g ρ (QI Q) (d + 1) mX12_swaps 18 [(0, .ref 80), (1, .int 0), (2, .int 0)] [] ρ S2))) : CALLi g (d + 1) mX12_swaps [.ref 80] ρ ρ S Q := by
  refine CALL.of mdX12_swaps.2.2.2.2 (Nat.le_of_ble_eq_true rfl) (Nat.le_refl _) (Nat.le_refl _) ?_
  show AW g ρ (QI Q) (d + 1) mX12_swaps 0 [(0, .ref 80)] [] ρ S
  refine AW_aload_n 0 (n := 0) rfl dX12_swaps_0 rfl ?_
  refine AW_callVi (M := mX12_swaps) (pc := 1) (As := []) (ρ1 := ρ) (st := []) dX12_swaps_1 mdX12_is rfl mlX12_265 imX12_is seX12_is (rcv_of (q := (RX12, TX12, 40)) (Nat.le_of_ble_eq_true rfl) (okn hρ (Nat.le_of_ble_eq_true rfl)) rfl rfl) ⟨rfl, npX12_is⟩ (Nat.le_of_ble_eq_true rfl) (Nat.le_refl _) (Nat.le_refl _) rfl (CALLi.mono h (fun v1 S1 _ h => ?_))
  refine AW_if_ne dX12_swaps_4 rfl (iteM h (fun h => ?_) (fun h => ?_))
  · refine AW_bipush (v := (-2)) dX12_swaps_7 rfl ?_
    exact AW_reti dX12_swaps_9 rfl h
  · refine AW_aload_n 0 (n := 0) rfl dX12_swaps_10 rfl ?_
    refine AW_callVv (M := mX12_swaps) (pc := 11) (As := []) (ρ1 := ρ) (st := []) dX12_swaps_11 mdX12_laysNow rfl mlX12_293 imX12_laysNow seX12_laysNow (rcv_of (q := (RX12, TX12, 40)) (Nat.le_of_ble_eq_true rfl) (okn hρ (Nat.le_of_ble_eq_true rfl)) rfl rfl) ⟨rfl, npX12_laysNow⟩ (Nat.le_of_ble_eq_true rfl) (Nat.le_refl _) (Nat.le_refl _) rfl (CALLv.mono h (fun S2 _ h => ?_))
    refine AW_iconst (v := 0) dX12_swaps_14 rfl ?_
    refine AW_istore_n (n := 1) (i := 1) rfl dX12_swaps_15 (Nat.le_of_ble_eq_true rfl) rfl ?_
    refine AW_iconst (v := 0) dX12_swaps_16 rfl ?_
    refine AW_istore_n (n := 2) (i := 2) rfl dX12_swaps_17 (Nat.le_of_ble_eq_true rfl) rfl ?_
    exact AW.sub [2, 1, 0] rfl h
set_option maxRecDepth 20000 in
theorem eX12_listsAll {g : GX} {Q : Int32 → St → Prop} {d : Nat} {ρ : Rs} {S : St} (hρ : Ok ρ) (hF : ∀ k ∈ ([80] : List Nat), gF g k) (h : CALLv g d mX12_goesAll [.ref 80, .int 6] ρ ρ S (fun S1 => if (S1.1 80 14) = 0 then Q 1 (setI S1 80 32 ((S1.2 80 15).toInt32)) else Q 0 (setI S1 80 32 ((S1.2 80 15).toInt32)))) : CALLi g (d + 1) mX12_listsAll [.ref 80] ρ ρ S Q := by
  refine CALL.of mdX12_listsAll.2.2.2.2 (Nat.le_of_ble_eq_true rfl) (Nat.le_refl _) (Nat.le_refl _) ?_
  show AW g ρ (QI Q) (d + 1) mX12_listsAll 0 [(0, .ref 80)] [] ρ S
  refine AW_aload_n 0 (n := 0) rfl dX12_listsAll_0 rfl ?_
  refine AW_bipush (v := 6) dX12_listsAll_1 rfl ?_
  refine AW_callVv (M := mX12_listsAll) (pc := 3) (As := [.int 6]) (ρ1 := ρ) (st := []) dX12_listsAll_3 mdX12_goesAll rfl mlX12_262 imX12_goesAll seX12_goesAll (rcv_of (q := (RX12, TX12, 40)) (Nat.le_of_ble_eq_true rfl) (okn hρ (Nat.le_of_ble_eq_true rfl)) rfl rfl) ⟨rfl, npX12_goesAll⟩ (Nat.le_of_ble_eq_true rfl) (Nat.le_refl _) (Nat.le_refl _) rfl (CALLv.mono h (fun S1 _ h => ?_))
  refine AW_aload_n 0 (n := 0) rfl dX12_listsAll_6 rfl ?_
  refine AW_aload_n 0 (n := 0) rfl dX12_listsAll_7 rfl ?_
  refine AW_get dX12_listsAll_8 flX12_175 (Nat.le_of_ble_eq_true rfl) (okn hρ (Nat.le_of_ble_eq_true rfl)) rfl (v := .long (S1.2 80 15)) (fun _ => rfl) ?_
  refine AW_l2i dX12_listsAll_11 ?_
  refine AW_put dX12_listsAll_12 flX12_328 fp_10_32 (Nat.le_of_ble_eq_true rfl) (okn hρ (Nat.le_of_ble_eq_true rfl)) rfl (fun _ => rfl) (fun _ => rfl) rfl rfl rfl rfl (Fr.setI _ _ _ rfl) (fun _ _ => rfl) (ρ2 := ρ) (S2 := setI S1 80 32 ((S1.2 80 15).toInt32)) (fun _ => rfl) (fun _ _ _ q1 _ => fvI_o q1) (hF _ (List.mem_of_getElem? (i := 0) rfl)) ?_
  refine AW_aload_n 0 (n := 0) rfl dX12_listsAll_15 rfl ?_
  refine AW_get dX12_listsAll_16 flX12_172 (Nat.le_of_ble_eq_true rfl) (okn hρ (Nat.le_of_ble_eq_true rfl)) rfl (v := .int (S1.1 80 14)) (fun _ => rfl) ?_
  refine AW_if_ne dX12_listsAll_19 rfl (iteM h (fun h => ?_) (fun h => ?_))
  · refine AW_iconst (v := 1) dX12_listsAll_22 rfl ?_
    refine AW_goto (tgt := 27) dX12_listsAll_23 rfl ?_
    exact AW_retz dX12_listsAll_27 rfl Bz1 h
  · refine AW_iconst (v := 0) dX12_listsAll_26 rfl ?_
    exact AW_retz dX12_listsAll_27 rfl Bz0 h
set_option maxRecDepth 20000 in
theorem eX12_listedAt_10 {g : GX} {Q : Int32 → St → Prop} {d : Nat} {ρ : Rs} {S : St} (hρ : Ok ρ) {k1 n1 : Nat} (h16_1 : 16 ≤ k1) (hn_1 : k1 < rn ρ) (hs_1 : shp ρ k1 = .inr (0, n1)) {x2 : Int32} {x3 : Int32} {x4 : Int32} (h : if x4 ≤ x3 then Q x3 S else CALLi g d mX12_isAhead [.ref 80, .int ((x3 + x4) / 2), .ref k1, .int x2] ρ ρ S (fun v1 S1 => if v1 = 0 then AW g ρ (QI Q) (d + 1) mX12_listedAt 10 [(0, .ref 80), (1, .ref k1), (2, .int x2), (3, .int x3), (4, .int ((x3 + x4) / 2))] [] ρ S1 else AW g ρ (QI Q) (d + 1) mX12_listedAt 10 [(0, .ref 80), (1, .ref k1), (2, .int x2), (3, .int (((x3 + x4) / 2) + 1)), (4, .int x4)] [] ρ S1)) : AW g ρ (QI Q) (d + 1) mX12_listedAt 10 [(0, .ref 80), (1, .ref k1), (2, .int x2), (3, .int x3), (4, .int x4)] [] ρ S := by
  refine AW_iload_n 3 (n := 3) rfl dX12_listedAt_10 rfl ?_
  refine AW_iload 4 dX12_listedAt_11 rfl ?_
  refine AW_icmp_ge dX12_listedAt_13 rfl (iteM h (fun h => ?_) (fun h => ?_))
  · refine AW_iload_n 3 (n := 3) rfl dX12_listedAt_50 rfl ?_
    exact AW_reti dX12_listedAt_51 rfl h
  · refine AW_iload_n 3 (n := 3) rfl dX12_listedAt_16 rfl ?_
    refine AW_iload 4 dX12_listedAt_17 rfl ?_
    refine AW_iadd dX12_listedAt_19 ?_
    refine AW_iconst (v := 2) dX12_listedAt_20 rfl ?_
    refine AW_idiv dX12_listedAt_21 (by decide) ?_
    refine AW_istore dX12_listedAt_22 (Nat.le_of_ble_eq_true rfl) rfl ?_
    refine AW_aload_n 1 (n := 0) rfl dX12_listedAt_24 rfl ?_
    refine AW_iload 0 dX12_listedAt_25 rfl ?_
    refine AW_aload_n 2 (n := 1) rfl dX12_listedAt_27 rfl ?_
    refine AW_iload_n 3 (n := 2) rfl dX12_listedAt_28 rfl ?_
    refine AW_callVi (M := mX12_listedAt) (pc := 29) (As := [.int ((x3 + x4) / 2), .ref k1, .int x2]) (ρ1 := ρ) (st := []) dX12_listedAt_29 mdX12_isAhead rfl mlX12_331 imX12_isAhead seX12_isAhead (rcv_of (q := (RX12, TX12, 40)) (Nat.le_of_ble_eq_true rfl) (okn hρ (Nat.le_of_ble_eq_true rfl)) rfl rfl) ⟨rfl, npX12_isAhead⟩ (Nat.le_of_ble_eq_true rfl) (Nat.le_refl _) (Nat.le_refl _) rfl (CALLi.mono h (fun v1 S1 _ h => ?_))
    refine AW_if_eq dX12_listedAt_32 rfl (iteM h (fun h => ?_) (fun h => ?_))
    · refine AW_iload 0 dX12_listedAt_43 rfl ?_
      refine AW_istore dX12_listedAt_45 (Nat.le_of_ble_eq_true rfl) rfl ?_
      refine AW_goto (tgt := 10) dX12_listedAt_47 rfl ?_
      exact AW.sub [2, 3, 4, 5, 0] rfl h
    · refine AW_iload 0 dX12_listedAt_35 rfl ?_
      refine AW_iconst (v := 1) dX12_listedAt_37 rfl ?_
      refine AW_iadd dX12_listedAt_38 ?_
      refine AW_istore_n (n := 3) (i := 3) rfl dX12_listedAt_39 (Nat.le_of_ble_eq_true rfl) rfl ?_
      refine AW_goto (tgt := 47) dX12_listedAt_40 rfl ?_
      refine AW_goto (tgt := 10) dX12_listedAt_47 rfl ?_
      exact AW.sub [2, 3, 4, 0, 5] rfl h
set_option maxRecDepth 20000 in
theorem eX12_listedAt {g : GX} {Q : Int32 → St → Prop} {d : Nat} {ρ : Rs} {S : St} (hρ : Ok ρ) {k1 n1 : Nat} (h16_1 : 16 ≤ k1) (hn_1 : k1 < rn ρ) (hs_1 : shp ρ k1 = .inr (0, n1)) {x2 : Int32} (h : AW g ρ (QI Q) (d + 1) mX12_listedAt 10 [(0, .ref 80), (1, .ref k1), (2, .int x2), (3, .int 0), (4, .int ((S.1 80 32) - 1))] [] ρ S) : CALLi g (d + 1) mX12_listedAt [.ref 80, .ref k1, .int x2] ρ ρ S Q := by
  refine CALL.of mdX12_listedAt.2.2.2.2 (Nat.le_of_ble_eq_true rfl) (Nat.le_refl _) (Nat.le_refl _) ?_
  show AW g ρ (QI Q) (d + 1) mX12_listedAt 0 [(0, .ref 80), (1, .ref k1), (2, .int x2)] [] ρ S
  refine AW_iconst (v := 0) dX12_listedAt_0 rfl ?_
  refine AW_istore_n (n := 3) (i := 3) rfl dX12_listedAt_1 (Nat.le_of_ble_eq_true rfl) rfl ?_
  refine AW_aload_n 1 (n := 0) rfl dX12_listedAt_2 rfl ?_
  refine AW_get dX12_listedAt_3 flX12_328 (Nat.le_of_ble_eq_true rfl) (okn hρ (Nat.le_of_ble_eq_true rfl)) rfl (v := .int (S.1 80 32)) (fun _ => rfl) ?_
  refine AW_iconst (v := 1) dX12_listedAt_6 rfl ?_
  refine AW_isub dX12_listedAt_7 ?_
  refine AW_istore dX12_listedAt_8 (Nat.le_of_ble_eq_true rfl) rfl ?_
  exact AW.sub [2, 3, 4, 1, 0] rfl h
set_option maxRecDepth 20000 in
theorem eX12_isAhead_3 {g : GX} {Q : Int32 → St → Prop} {d : Nat} {ρ : Rs} {S : St} (hρ : Ok ρ) {k2 n2 : Nat} (h16_2 : 16 ≤ k2) (hn_2 : k2 < rn ρ) (hs_2 : shp ρ k2 = .inr (0, n2)) {x1 : Int32} {x3 : Int32} {x4 : Int32} (h : CALLi g d mX12_many [.ref 80] ρ ρ S (fun v1 S1 => if v1 ≤ x4 then Q 0 S1 else vp_in ((16 * x1) + x4) 16000 ∧ (vp_in (x3 + x4) n2 ∧ (if (S1.1 89 (((16 * x1) + x4).toNatClampNeg)) = (S1.1 k2 ((x3 + x4).toNatClampNeg)) then AW g ρ (QI Q) (d + 1) mX12_isAhead 3 [(0, .ref 80), (1, .int x1), (2, .ref k2), (3, .int x3), (4, .int (x4 + 1))] [] ρ S1 else vp_in ((16 * x1) + x4) 16000 ∧ (vp_in (x3 + x4) n2 ∧ (if (S1.1 k2 ((x3 + x4).toNatClampNeg)) ≤ (S1.1 89 (((16 * x1) + x4).toNatClampNeg)) then Q 0 S1 else Q 1 S1)))))) : AW g ρ (QI Q) (d + 1) mX12_isAhead 3 [(0, .ref 80), (1, .int x1), (2, .ref k2), (3, .int x3), (4, .int x4)] [] ρ S := by
  refine AW_iload 4 dX12_isAhead_3 rfl ?_
  refine AW_aload_n 0 (n := 0) rfl dX12_isAhead_5 rfl ?_
  refine AW_callVi (M := mX12_isAhead) (pc := 6) (As := []) (ρ1 := ρ) (st := [.int x4]) dX12_isAhead_6 mdX12_many rfl mlX12_150 imX12_many seX12_many (rcv_of (q := (RX12, TX12, 40)) (Nat.le_of_ble_eq_true rfl) (okn hρ (Nat.le_of_ble_eq_true rfl)) rfl rfl) ⟨rfl, npX12_many⟩ (Nat.le_of_ble_eq_true rfl) (Nat.le_refl _) (Nat.le_refl _) rfl (CALLi.mono h (fun v1 S1 _ h => ?_))
  refine AW_icmp_ge dX12_isAhead_9 rfl (iteM h (fun h => ?_) (fun h => ?_))
  · refine AW_iconst (v := 0) dX12_isAhead_66 rfl ?_
    exact AW_retz dX12_isAhead_67 rfl Bz0 h
  · refine AW_aload_n 0 (n := 0) rfl dX12_isAhead_12 rfl ?_
    refine AW_get dX12_isAhead_13 flX12_39 (Nat.le_of_ble_eq_true rfl) (okn hρ (Nat.le_of_ble_eq_true rfl)) rfl (v := .ref 89) (fvR (okR hρ 59 rfl)) ?_
    refine AW_bipush (v := 16) dX12_isAhead_16 rfl ?_
    refine AW_iload_n 1 (n := 1) rfl dX12_isAhead_18 rfl ?_
    refine AW_imul dX12_isAhead_19 ?_
    refine AW_iload 4 dX12_isAhead_20 rfl ?_
    refine AW_iadd dX12_isAhead_22 ?_
    refine AW_iaload dX12_isAhead_23 (Nat.le_of_ble_eq_true rfl) (okn hρ (Nat.le_of_ble_eq_true rfl)) rfl h.1 (v := S1.1 89 (((16 * x1) + x4).toNatClampNeg)) rfl ?_
    replace h := h.2
    refine AW_aload_n 2 (n := 2) rfl dX12_isAhead_24 rfl ?_
    refine AW_iload_n 3 (n := 3) rfl dX12_isAhead_25 rfl ?_
    refine AW_iload 4 dX12_isAhead_26 rfl ?_
    refine AW_iadd dX12_isAhead_28 ?_
    refine AW_iaload dX12_isAhead_29 h16_2 hn_2 hs_2 h.1 (v := S1.1 k2 ((x3 + x4).toNatClampNeg)) rfl ?_
    replace h := h.2
    refine AW_icmp_eq dX12_isAhead_30 rfl (iteM h (fun h => ?_) (fun h => ?_))
    · refine AW_iinc 4 (v := x4 + 1) dX12_isAhead_60 rfl rfl (Nat.le_of_ble_eq_true rfl) rfl ?_
      refine AW_goto (tgt := 3) dX12_isAhead_63 rfl ?_
      exact AW.sub [1, 2, 3, 4, 0] rfl h
    · refine AW_aload_n 0 (n := 0) rfl dX12_isAhead_33 rfl ?_
      refine AW_get dX12_isAhead_34 flX12_39 (Nat.le_of_ble_eq_true rfl) (okn hρ (Nat.le_of_ble_eq_true rfl)) rfl (v := .ref 89) (fvR (okR hρ 59 rfl)) ?_
      refine AW_bipush (v := 16) dX12_isAhead_37 rfl ?_
      refine AW_iload_n 1 (n := 1) rfl dX12_isAhead_39 rfl ?_
      refine AW_imul dX12_isAhead_40 ?_
      refine AW_iload 4 dX12_isAhead_41 rfl ?_
      refine AW_iadd dX12_isAhead_43 ?_
      refine AW_iaload dX12_isAhead_44 (Nat.le_of_ble_eq_true rfl) (okn hρ (Nat.le_of_ble_eq_true rfl)) rfl h.1 (v := S1.1 89 (((16 * x1) + x4).toNatClampNeg)) rfl ?_
      replace h := h.2
      refine AW_aload_n 2 (n := 2) rfl dX12_isAhead_45 rfl ?_
      refine AW_iload_n 3 (n := 3) rfl dX12_isAhead_46 rfl ?_
      refine AW_iload 4 dX12_isAhead_47 rfl ?_
      refine AW_iadd dX12_isAhead_49 ?_
      refine AW_iaload dX12_isAhead_50 h16_2 hn_2 hs_2 h.1 (v := S1.1 k2 ((x3 + x4).toNatClampNeg)) rfl ?_
      replace h := h.2
      refine AW_icmp_ge dX12_isAhead_51 rfl (iteM h (fun h => ?_) (fun h => ?_))
      · refine AW_iconst (v := 0) dX12_isAhead_58 rfl ?_
        exact AW_retz dX12_isAhead_59 rfl Bz0 h
      · refine AW_iconst (v := 1) dX12_isAhead_54 rfl ?_
        refine AW_goto (tgt := 59) dX12_isAhead_55 rfl ?_
        exact AW_retz dX12_isAhead_59 rfl Bz1 h
set_option maxRecDepth 20000 in
theorem eX12_isAhead {g : GX} {Q : Int32 → St → Prop} {d : Nat} {ρ : Rs} {S : St} (hρ : Ok ρ) {x1 : Int32} {k2 n2 : Nat} (h16_2 : 16 ≤ k2) (hn_2 : k2 < rn ρ) (hs_2 : shp ρ k2 = .inr (0, n2)) {x3 : Int32} (h : AW g ρ (QI Q) (d + 1) mX12_isAhead 3 [(0, .ref 80), (1, .int x1), (2, .ref k2), (3, .int x3), (4, .int 0)] [] ρ S) : CALLi g (d + 1) mX12_isAhead [.ref 80, .int x1, .ref k2, .int x3] ρ ρ S Q := by
  refine CALL.of mdX12_isAhead.2.2.2.2 (Nat.le_of_ble_eq_true rfl) (Nat.le_refl _) (Nat.le_refl _) ?_
  show AW g ρ (QI Q) (d + 1) mX12_isAhead 0 [(0, .ref 80), (1, .int x1), (2, .ref k2), (3, .int x3)] [] ρ S
  refine AW_iconst (v := 0) dX12_isAhead_0 rfl ?_
  refine AW_istore dX12_isAhead_1 (Nat.le_of_ble_eq_true rfl) rfl ?_
  exact AW.sub [1, 2, 3, 4, 0] rfl h
set_option maxRecDepth 20000 in
theorem eX12_comesOf_22 {g : GX} {Q : Int32 → St → Prop} {d : Nat} {ρ : Rs} {S : St} (hρ : Ok ρ) {x1 : Int32} {x2 : Int32} {x3 : Int32} {x4 : Int32} (hF : ∀ k ∈ ([90] : List Nat), gF g k) (h : CALLi g d mX12_many [.ref 80] ρ ρ S (fun v1 S1 => if v1 ≤ x4 then CALLv g d mX12_changes [.ref 80, .ref 90, .int 0, .int x2, .int x3] ρ ρ S1 (fun S2 => CALLi g d mX12_listedAt [.ref 80, .ref 90, .int 0] ρ ρ S2 (fun v3 S3 => Q v3 S3)) else vp_in ((16 * x1) + x4) 16000 ∧ (vp_in x4 16 ∧ (AW g ρ (QI Q) (d + 1) mX12_comesOf 22 [(0, .ref 80), (1, .int x1), (2, .int x2), (3, .int x3), (4, .int (x4 + 1))] [] ρ (setI S1 90 x4.toNatClampNeg (S1.1 89 (((16 * x1) + x4).toNatClampNeg))))))) : AW g ρ (QI Q) (d + 1) mX12_comesOf 22 [(0, .ref 80), (1, .int x1), (2, .int x2), (3, .int x3), (4, .int x4)] [] ρ S := by
  refine AW_iload 4 dX12_comesOf_22 rfl ?_
  refine AW_aload_n 0 (n := 0) rfl dX12_comesOf_24 rfl ?_
  refine AW_callVi (M := mX12_comesOf) (pc := 25) (As := []) (ρ1 := ρ) (st := [.int x4]) dX12_comesOf_25 mdX12_many rfl mlX12_150 imX12_many seX12_many (rcv_of (q := (RX12, TX12, 40)) (Nat.le_of_ble_eq_true rfl) (okn hρ (Nat.le_of_ble_eq_true rfl)) rfl rfl) ⟨rfl, npX12_many⟩ (Nat.le_of_ble_eq_true rfl) (Nat.le_refl _) (Nat.le_refl _) rfl (CALLi.mono h (fun v1 S1 _ h => ?_))
  refine AW_icmp_ge dX12_comesOf_28 rfl (iteM h (fun h => ?_) (fun h => ?_))
  · refine AW_aload_n 0 (n := 0) rfl dX12_comesOf_56 rfl ?_
    refine AW_aload_n 0 (n := 0) rfl dX12_comesOf_57 rfl ?_
    refine AW_get dX12_comesOf_58 flX12_42 (Nat.le_of_ble_eq_true rfl) (okn hρ (Nat.le_of_ble_eq_true rfl)) rfl (v := .ref 90) (fvR (okR hρ 60 rfl)) ?_
    refine AW_iconst (v := 0) dX12_comesOf_61 rfl ?_
    refine AW_iload_n 2 (n := 2) rfl dX12_comesOf_62 rfl ?_
    refine AW_iload_n 3 (n := 3) rfl dX12_comesOf_63 rfl ?_
    refine AW_callVv (M := mX12_comesOf) (pc := 64) (As := [.ref 90, .int 0, .int x2, .int x3]) (ρ1 := ρ) (st := []) dX12_comesOf_64 mdX12_changes rfl mlX12_335 imX12_changes seX12_changes (rcv_of (q := (RX12, TX12, 40)) (Nat.le_of_ble_eq_true rfl) (okn hρ (Nat.le_of_ble_eq_true rfl)) rfl rfl) ⟨rfl, npX12_changes⟩ (Nat.le_of_ble_eq_true rfl) (Nat.le_refl _) (Nat.le_refl _) rfl (CALLv.mono h (fun S2 _ h => ?_))
    refine AW_aload_n 0 (n := 0) rfl dX12_comesOf_67 rfl ?_
    refine AW_aload_n 0 (n := 0) rfl dX12_comesOf_68 rfl ?_
    refine AW_get dX12_comesOf_69 flX12_42 (Nat.le_of_ble_eq_true rfl) (okn hρ (Nat.le_of_ble_eq_true rfl)) rfl (v := .ref 90) (fvR (okR hρ 60 rfl)) ?_
    refine AW_iconst (v := 0) dX12_comesOf_72 rfl ?_
    refine AW_callVi (M := mX12_comesOf) (pc := 73) (As := [.ref 90, .int 0]) (ρ1 := ρ) (st := []) dX12_comesOf_73 mdX12_listedAt rfl mlX12_339 imX12_listedAt seX12_listedAt (rcv_of (q := (RX12, TX12, 40)) (Nat.le_of_ble_eq_true rfl) (okn hρ (Nat.le_of_ble_eq_true rfl)) rfl rfl) ⟨rfl, npX12_listedAt⟩ (Nat.le_of_ble_eq_true rfl) (Nat.le_refl _) (Nat.le_refl _) rfl (CALLi.mono h (fun v3 S3 _ h => ?_))
    exact AW_reti dX12_comesOf_76 rfl h
  · refine AW_aload_n 0 (n := 0) rfl dX12_comesOf_31 rfl ?_
    refine AW_get dX12_comesOf_32 flX12_42 (Nat.le_of_ble_eq_true rfl) (okn hρ (Nat.le_of_ble_eq_true rfl)) rfl (v := .ref 90) (fvR (okR hρ 60 rfl)) ?_
    refine AW_iload 4 dX12_comesOf_35 rfl ?_
    refine AW_aload_n 0 (n := 0) rfl dX12_comesOf_37 rfl ?_
    refine AW_get dX12_comesOf_38 flX12_39 (Nat.le_of_ble_eq_true rfl) (okn hρ (Nat.le_of_ble_eq_true rfl)) rfl (v := .ref 89) (fvR (okR hρ 59 rfl)) ?_
    refine AW_bipush (v := 16) dX12_comesOf_41 rfl ?_
    refine AW_iload_n 1 (n := 1) rfl dX12_comesOf_43 rfl ?_
    refine AW_imul dX12_comesOf_44 ?_
    refine AW_iload 4 dX12_comesOf_45 rfl ?_
    refine AW_iadd dX12_comesOf_47 ?_
    refine AW_iaload dX12_comesOf_48 (Nat.le_of_ble_eq_true rfl) (okn hρ (Nat.le_of_ble_eq_true rfl)) rfl h.1 (v := S1.1 89 (((16 * x1) + x4).toNatClampNeg)) rfl ?_
    replace h := h.2
    refine AW_iastore dX12_comesOf_49 (Nat.le_of_ble_eq_true rfl) (okn hρ (Nat.le_of_ble_eq_true rfl)) rfl h.1 (hF _ (List.mem_of_getElem? (i := 0) rfl)) (jx := x4.toNatClampNeg) rfl ?_
    replace h := h.2
    refine AW_iinc 4 (v := x4 + 1) dX12_comesOf_50 rfl rfl (Nat.le_of_ble_eq_true rfl) rfl ?_
    refine AW_goto (tgt := 22) dX12_comesOf_53 rfl ?_
    exact AW.sub [1, 2, 3, 4, 0] rfl h
set_option maxRecDepth 20000 in
theorem eX12_comesOf {g : GX} {Q : Int32 → St → Prop} {d : Nat} {ρ : Rs} {S : St} (hρ : Ok ρ) {x1 : Int32} {x2 : Int32} {x3 : Int32} (h : CALLi g d mX12_canGo [.ref 80, .ref 89, .int (16 * x1), .int x2, .int x3] ρ ρ S (fun v1 S1 => if v1 = 0 then Q (-1) S1 else AW g ρ (QI Q) (d + 1) mX12_comesOf 22 [(0, .ref 80), (1, .int x1), (2, .int x2), (3, .int x3), (4, .int 0)] [] ρ S1)) : CALLi g (d + 1) mX12_comesOf [.ref 80, .int x1, .int x2, .int x3] ρ ρ S Q := by
  refine CALL.of mdX12_comesOf.2.2.2.2 (Nat.le_of_ble_eq_true rfl) (Nat.le_refl _) (Nat.le_refl _) ?_
  show AW g ρ (QI Q) (d + 1) mX12_comesOf 0 [(0, .ref 80), (1, .int x1), (2, .int x2), (3, .int x3)] [] ρ S
  refine AW_aload_n 0 (n := 0) rfl dX12_comesOf_0 rfl ?_
  refine AW_aload_n 0 (n := 0) rfl dX12_comesOf_1 rfl ?_
  refine AW_get dX12_comesOf_2 flX12_39 (Nat.le_of_ble_eq_true rfl) (okn hρ (Nat.le_of_ble_eq_true rfl)) rfl (v := .ref 89) (fvR (okR hρ 59 rfl)) ?_
  refine AW_bipush (v := 16) dX12_comesOf_5 rfl ?_
  refine AW_iload_n 1 (n := 1) rfl dX12_comesOf_7 rfl ?_
  refine AW_imul dX12_comesOf_8 ?_
  refine AW_iload_n 2 (n := 2) rfl dX12_comesOf_9 rfl ?_
  refine AW_iload_n 3 (n := 3) rfl dX12_comesOf_10 rfl ?_
  refine AW_callVi (M := mX12_comesOf) (pc := 11) (As := [.ref 89, .int (16 * x1), .int x2, .int x3]) (ρ1 := ρ) (st := []) dX12_comesOf_11 mdX12_canGo rfl mlX12_324 imX12_canGo seX12_canGo (rcv_of (q := (RX12, TX12, 40)) (Nat.le_of_ble_eq_true rfl) (okn hρ (Nat.le_of_ble_eq_true rfl)) rfl rfl) ⟨rfl, npX12_canGo⟩ (Nat.le_of_ble_eq_true rfl) (Nat.le_refl _) (Nat.le_refl _) rfl (CALLi.mono h (fun v1 S1 _ h => ?_))
  refine AW_if_ne dX12_comesOf_14 rfl (iteM h (fun h => ?_) (fun h => ?_))
  · refine AW_iconst (v := (-1)) dX12_comesOf_17 rfl ?_
    exact AW_reti dX12_comesOf_18 rfl h
  · refine AW_iconst (v := 0) dX12_comesOf_19 rfl ?_
    refine AW_istore dX12_comesOf_20 (Nat.le_of_ble_eq_true rfl) rfl ?_
    exact AW.sub [1, 2, 3, 4, 0] rfl h
set_option maxRecDepth 20000 in
theorem eX12_reaches {g : GX} {Q : St → Prop} {d : Nat} {ρ : Rs} {S : St} (hρ : Ok ρ) {x1 : Int32} {x2 : Int32} (hF : ∀ k ∈ ([91, 92, 80] : List Nat), gF g k) (h : if x1 < 0 then Q S else vp_in x1 1000 ∧ (if 0 ≤ (S.1 91 x1.toNatClampNeg) then Q S else vp_in x1 1000 ∧ (vp_in (S.1 80 36) 1000 ∧ (Q (setI (setI (setI S 91 x1.toNatClampNeg x2) 92 ((S.1 80 36).toNatClampNeg) x1) 80 36 ((S.1 80 36) + 1)))))) : CALLv g d mX12_reaches [.ref 80, .int x1, .int x2] ρ ρ S Q := by
  refine CALL.of mdX12_reaches.2.2.2.2 (Nat.le_of_ble_eq_true rfl) (Nat.le_refl _) (Nat.le_refl _) ?_
  show AW g ρ (QV Q) d mX12_reaches 0 [(0, .ref 80), (1, .int x1), (2, .int x2)] [] ρ S
  refine AW_iload_n 1 (n := 1) rfl dX12_reaches_0 rfl ?_
  refine AW_if_lt dX12_reaches_1 rfl (iteM h (fun h => ?_) (fun h => ?_))
  · exact AW_retv dX12_reaches_40 rfl h
  · refine AW_aload_n 0 (n := 0) rfl dX12_reaches_4 rfl ?_
    refine AW_get dX12_reaches_5 flX12_45 (Nat.le_of_ble_eq_true rfl) (okn hρ (Nat.le_of_ble_eq_true rfl)) rfl (v := .ref 91) (fvR (okR hρ 61 rfl)) ?_
    refine AW_iload_n 1 (n := 1) rfl dX12_reaches_8 rfl ?_
    refine AW_iaload dX12_reaches_9 (Nat.le_of_ble_eq_true rfl) (okn hρ (Nat.le_of_ble_eq_true rfl)) rfl h.1 (v := S.1 91 x1.toNatClampNeg) rfl ?_
    replace h := h.2
    refine AW_if_ge dX12_reaches_10 rfl (iteM h (fun h => ?_) (fun h => ?_))
    · exact AW_retv dX12_reaches_40 rfl h
    · refine AW_aload_n 0 (n := 0) rfl dX12_reaches_13 rfl ?_
      refine AW_get dX12_reaches_14 flX12_45 (Nat.le_of_ble_eq_true rfl) (okn hρ (Nat.le_of_ble_eq_true rfl)) rfl (v := .ref 91) (fvR (okR hρ 61 rfl)) ?_
      refine AW_iload_n 1 (n := 1) rfl dX12_reaches_17 rfl ?_
      refine AW_iload_n 2 (n := 2) rfl dX12_reaches_18 rfl ?_
      refine AW_iastore dX12_reaches_19 (Nat.le_of_ble_eq_true rfl) (okn hρ (Nat.le_of_ble_eq_true rfl)) rfl h.1 (hF _ (List.mem_of_getElem? (i := 0) rfl)) (jx := x1.toNatClampNeg) rfl ?_
      replace h := h.2
      refine AW_aload_n 0 (n := 0) rfl dX12_reaches_20 rfl ?_
      refine AW_get dX12_reaches_21 flX12_48 (Nat.le_of_ble_eq_true rfl) (okn hρ (Nat.le_of_ble_eq_true rfl)) rfl (v := .ref 92) (fvR (okR hρ 62 rfl)) ?_
      refine AW_aload_n 0 (n := 0) rfl dX12_reaches_24 rfl ?_
      refine AW_get dX12_reaches_25 flX12_343 (Nat.le_of_ble_eq_true rfl) (okn hρ (Nat.le_of_ble_eq_true rfl)) rfl (v := .int (S.1 80 36)) (fun _ => rfl) ?_
      refine AW_iload_n 1 (n := 1) rfl dX12_reaches_28 rfl ?_
      refine AW_iastore dX12_reaches_29 (Nat.le_of_ble_eq_true rfl) (okn hρ (Nat.le_of_ble_eq_true rfl)) rfl h.1 (hF _ (List.mem_of_getElem? (i := 1) rfl)) (jx := (S.1 80 36).toNatClampNeg) rfl ?_
      replace h := h.2
      refine AW_aload_n 0 (n := 0) rfl dX12_reaches_30 rfl ?_
      refine AW_dup dX12_reaches_31 rfl ?_
      refine AW_get dX12_reaches_32 flX12_343 (Nat.le_of_ble_eq_true rfl) (okn hρ (Nat.le_of_ble_eq_true rfl)) rfl (v := .int (S.1 80 36)) (fun _ => rfl) ?_
      refine AW_iconst (v := 1) dX12_reaches_35 rfl ?_
      refine AW_iadd dX12_reaches_36 ?_
      refine AW_put dX12_reaches_37 flX12_343 fp_10_36 (Nat.le_of_ble_eq_true rfl) (okn hρ (Nat.le_of_ble_eq_true rfl)) rfl (fun _ => rfl) (fun _ => rfl) rfl rfl rfl rfl (Fr.setI _ _ _ rfl) (fun _ _ => rfl) (ρ2 := ρ) (S2 := setI (setI (setI S 91 x1.toNatClampNeg x2) 92 ((S.1 80 36).toNatClampNeg) x1) 80 36 ((S.1 80 36) + 1)) (fun _ => rfl) (fun _ _ _ q1 _ => fvI_o q1) (hF _ (List.mem_of_getElem? (i := 2) rfl)) ?_
      exact AW_retv dX12_reaches_40 rfl h
set_option maxRecDepth 20000 in
theorem eX12_swapsFrom_2 {g : GX} {Q : St → Prop} {d : Nat} {ρ : Rs} {S : St} (hρ : Ok ρ) {x1 : Int32} {x2 : Int32} (h : CALLi g d mX12_choices [] ρ ρ S (fun v1 S1 => if v1 ≤ x2 then Q S1 else CALLi g d mX12_moreOf [.ref 80, .int x2] ρ ρ S1 (fun v2 S2 => if v2 ≤ 0 then AW g ρ (QV Q) (d + 1) mX12_swapsFrom 2 [(0, .ref 80), (1, .int x1), (2, .int (x2 + 1))] [] ρ S2 else CALLi g d mX12_lessOf [.ref 80, .int x2] ρ ρ S2 (fun v3 S3 => CALLi g d mX12_comesOf [.ref 80, .int x1, .int v2, .int v3] ρ ρ S3 (fun v4 S4 => vp_in x1 1000 ∧ (CALLv g d mX12_reaches [.ref 80, .int v4, .int ((S4.1 91 x1.toNatClampNeg) + 1)] ρ ρ S4 (fun S5 => AW g ρ (QV Q) (d + 1) mX12_swapsFrom 2 [(0, .ref 80), (1, .int x1), (2, .int (x2 + 1))] [] ρ S5))))))) : AW g ρ (QV Q) (d + 1) mX12_swapsFrom 2 [(0, .ref 80), (1, .int x1), (2, .int x2)] [] ρ S := by
  refine AW_iload_n 2 (n := 2) rfl dX12_swapsFrom_2 rfl ?_
  refine AW_callSi (M := mX12_swapsFrom) (pc := 3) (As := []) (ρ1 := ρ) (st := [.int x2]) dX12_swapsFrom_3 mdX12_choices mlX12_346 smX12_choices ⟨rfl, npX12_choices⟩ (Nat.le_of_ble_eq_true rfl) (Nat.le_refl _) (Nat.le_refl _) rfl (CALLi.mono h (fun v1 S1 _ h => ?_))
  refine AW_icmp_ge dX12_swapsFrom_6 rfl (iteM h (fun h => ?_) (fun h => ?_))
  · exact AW_retv dX12_swapsFrom_48 rfl h
  · refine AW_aload_n 0 (n := 0) rfl dX12_swapsFrom_9 rfl ?_
    refine AW_iload_n 2 (n := 2) rfl dX12_swapsFrom_10 rfl ?_
    refine AW_callVi (M := mX12_swapsFrom) (pc := 11) (As := [.int x2]) (ρ1 := ρ) (st := []) dX12_swapsFrom_11 mdX12_moreOf rfl mlX12_349 imX12_moreOf seX12_moreOf (rcv_of (q := (RX12, TX12, 40)) (Nat.le_of_ble_eq_true rfl) (okn hρ (Nat.le_of_ble_eq_true rfl)) rfl rfl) ⟨rfl, npX12_moreOf⟩ (Nat.le_of_ble_eq_true rfl) (Nat.le_refl _) (Nat.le_refl _) rfl (CALLi.mono h (fun v2 S2 _ h => ?_))
    refine AW_istore_n (n := 3) (i := 3) rfl dX12_swapsFrom_14 (Nat.le_of_ble_eq_true rfl) rfl ?_
    refine AW_iload_n 0 (n := 3) rfl dX12_swapsFrom_15 rfl ?_
    refine AW_if_le dX12_swapsFrom_16 rfl (iteM h (fun h => ?_) (fun h => ?_))
    · refine AW_iinc 3 (v := x2 + 1) dX12_swapsFrom_42 rfl rfl (Nat.le_of_ble_eq_true rfl) rfl ?_
      refine AW_goto (tgt := 2) dX12_swapsFrom_45 rfl ?_
      exact AW.sub [2, 3, 0] rfl h
    · refine AW_aload_n 1 (n := 0) rfl dX12_swapsFrom_19 rfl ?_
      refine AW_aload_n 1 (n := 0) rfl dX12_swapsFrom_20 rfl ?_
      refine AW_iload_n 2 (n := 1) rfl dX12_swapsFrom_21 rfl ?_
      refine AW_iload_n 0 (n := 3) rfl dX12_swapsFrom_22 rfl ?_
      refine AW_aload_n 1 (n := 0) rfl dX12_swapsFrom_23 rfl ?_
      refine AW_iload_n 3 (n := 2) rfl dX12_swapsFrom_24 rfl ?_
      refine AW_callVi (M := mX12_swapsFrom) (pc := 25) (As := [.int x2]) (ρ1 := ρ) (st := [.int v2, .int x1, .ref 80, .ref 80]) dX12_swapsFrom_25 mdX12_lessOf rfl mlX12_352 imX12_lessOf seX12_lessOf (rcv_of (q := (RX12, TX12, 40)) (Nat.le_of_ble_eq_true rfl) (okn hρ (Nat.le_of_ble_eq_true rfl)) rfl rfl) ⟨rfl, npX12_lessOf⟩ (Nat.le_of_ble_eq_true rfl) (Nat.le_refl _) (Nat.le_refl _) rfl (CALLi.mono h (fun v3 S3 _ h => ?_))
      refine AW_callVi (M := mX12_swapsFrom) (pc := 28) (As := [.int x1, .int v2, .int v3]) (ρ1 := ρ) (st := [.ref 80]) dX12_swapsFrom_28 mdX12_comesOf rfl mlX12_355 imX12_comesOf seX12_comesOf (rcv_of (q := (RX12, TX12, 40)) (Nat.le_of_ble_eq_true rfl) (okn hρ (Nat.le_of_ble_eq_true rfl)) rfl rfl) ⟨rfl, npX12_comesOf⟩ (Nat.le_of_ble_eq_true rfl) (Nat.le_refl _) (Nat.le_refl _) rfl (CALLi.mono h (fun v4 S4 _ h => ?_))
      refine AW_aload_n 1 (n := 0) rfl dX12_swapsFrom_31 rfl ?_
      refine AW_get dX12_swapsFrom_32 flX12_45 (Nat.le_of_ble_eq_true rfl) (okn hρ (Nat.le_of_ble_eq_true rfl)) rfl (v := .ref 91) (fvR (okR hρ 61 rfl)) ?_
      refine AW_iload_n 2 (n := 1) rfl dX12_swapsFrom_35 rfl ?_
      refine AW_iaload dX12_swapsFrom_36 (Nat.le_of_ble_eq_true rfl) (okn hρ (Nat.le_of_ble_eq_true rfl)) rfl h.1 (v := S4.1 91 x1.toNatClampNeg) rfl ?_
      replace h := h.2
      refine AW_iconst (v := 1) dX12_swapsFrom_37 rfl ?_
      refine AW_iadd dX12_swapsFrom_38 ?_
      refine AW_callVv (M := mX12_swapsFrom) (pc := 39) (As := [.int v4, .int ((S4.1 91 x1.toNatClampNeg) + 1)]) (ρ1 := ρ) (st := []) dX12_swapsFrom_39 mdX12_reaches rfl mlX12_359 imX12_reaches seX12_reaches (rcv_of (q := (RX12, TX12, 40)) (Nat.le_of_ble_eq_true rfl) (okn hρ (Nat.le_of_ble_eq_true rfl)) rfl rfl) ⟨rfl, npX12_reaches⟩ (Nat.le_of_ble_eq_true rfl) (Nat.le_refl _) (Nat.le_refl _) rfl (CALLv.mono h (fun S5 _ h => ?_))
      refine AW_iinc 3 (v := x2 + 1) dX12_swapsFrom_42 rfl rfl (Nat.le_of_ble_eq_true rfl) rfl ?_
      refine AW_goto (tgt := 2) dX12_swapsFrom_45 rfl ?_
      exact AW.sub [2, 3, 0] rfl h
set_option maxRecDepth 20000 in
theorem eX12_swapsFrom {g : GX} {Q : St → Prop} {d : Nat} {ρ : Rs} {S : St} (hρ : Ok ρ) {x1 : Int32} (h : AW g ρ (QV Q) (d + 1) mX12_swapsFrom 2 [(0, .ref 80), (1, .int x1), (2, .int 0)] [] ρ S) : CALLv g (d + 1) mX12_swapsFrom [.ref 80, .int x1] ρ ρ S Q := by
  refine CALL.of mdX12_swapsFrom.2.2.2.2 (Nat.le_of_ble_eq_true rfl) (Nat.le_refl _) (Nat.le_refl _) ?_
  show AW g ρ (QV Q) (d + 1) mX12_swapsFrom 0 [(0, .ref 80), (1, .int x1)] [] ρ S
  refine AW_iconst (v := 0) dX12_swapsFrom_0 rfl ?_
  refine AW_istore_n (n := 2) (i := 2) rfl dX12_swapsFrom_1 (Nat.le_of_ble_eq_true rfl) rfl ?_
  exact AW.sub [1, 2, 0] rfl h
set_option maxRecDepth 20000 in
theorem eX12_choices {g : GX} {Q : Int32 → St → Prop} {d : Nat} {ρ : Rs} {S : St} (hρ : Ok ρ) (h : Q 256 S) : CALLi g d mX12_choices [] ρ ρ S Q := by
  refine CALL.of mdX12_choices.2.2.2.2 (Nat.le_of_ble_eq_true rfl) (Nat.le_refl _) (Nat.le_refl _) ?_
  show AW g ρ (QI Q) d mX12_choices 0 [] [] ρ S
  refine AW_sipush (v := 256) dX12_choices_0 rfl ?_
  exact AW_reti dX12_choices_3 rfl h
set_option maxRecDepth 20000 in
theorem eX12_isChoice {g : GX} {Q : Int32 → St → Prop} {d : Nat} {ρ : Rs} {S : St} (hρ : Ok ρ) {x1 : Int32} (h : if (x1 / 64) = ((x1 / 16) - (x1 / 16) / 4 * 4) then Q 0 S else if ((x1 / 4) - (x1 / 4) / 4 * 4) = (x1 - x1 / 4 * 4) then Q 0 S else if (S.1 81 0) ≤ (x1 / 64) then Q 0 S else if (S.1 81 0) ≤ ((x1 / 16) - (x1 / 16) / 4 * 4) then Q 0 S else if (S.1 81 1) ≤ ((x1 / 4) - (x1 / 4) / 4 * 4) then Q 0 S else if (S.1 81 1) ≤ (x1 - x1 / 4 * 4) then Q 0 S else Q 1 S) : CALLi g d mX12_isChoice [.ref 80, .int x1] ρ ρ S Q := by
  refine CALL.of mdX12_isChoice.2.2.2.2 (Nat.le_of_ble_eq_true rfl) (Nat.le_refl _) (Nat.le_refl _) ?_
  show AW g ρ (QI Q) d mX12_isChoice 0 [(0, .ref 80), (1, .int x1)] [] ρ S
  refine AW_iload_n 1 (n := 1) rfl dX12_isChoice_0 rfl ?_
  refine AW_bipush (v := 64) dX12_isChoice_1 rfl ?_
  refine AW_idiv dX12_isChoice_3 (by decide) ?_
  refine AW_istore_n (n := 2) (i := 2) rfl dX12_isChoice_4 (Nat.le_of_ble_eq_true rfl) rfl ?_
  refine AW_iload_n 2 (n := 1) rfl dX12_isChoice_5 rfl ?_
  refine AW_bipush (v := 16) dX12_isChoice_6 rfl ?_
  refine AW_idiv dX12_isChoice_8 (by decide) ?_
  refine AW_iconst (v := 4) dX12_isChoice_9 rfl ?_
  refine AW_irem dX12_isChoice_10 (by decide) ?_
  refine AW_istore_n (n := 3) (i := 3) rfl dX12_isChoice_11 (Nat.le_of_ble_eq_true rfl) rfl ?_
  refine AW_iload_n 3 (n := 1) rfl dX12_isChoice_12 rfl ?_
  refine AW_iconst (v := 4) dX12_isChoice_13 rfl ?_
  refine AW_idiv dX12_isChoice_14 (by decide) ?_
  refine AW_iconst (v := 4) dX12_isChoice_15 rfl ?_
  refine AW_irem dX12_isChoice_16 (by decide) ?_
  refine AW_istore dX12_isChoice_17 (Nat.le_of_ble_eq_true rfl) rfl ?_
  refine AW_iload_n 4 (n := 1) rfl dX12_isChoice_19 rfl ?_
  refine AW_iconst (v := 4) dX12_isChoice_20 rfl ?_
  refine AW_irem dX12_isChoice_21 (by decide) ?_
  refine AW_istore dX12_isChoice_22 (Nat.le_of_ble_eq_true rfl) rfl ?_
  refine AW_iload_n 3 (n := 2) rfl dX12_isChoice_24 rfl ?_
  refine AW_iload_n 2 (n := 3) rfl dX12_isChoice_25 rfl ?_
  refine AW_icmp_eq dX12_isChoice_26 rfl (iteM h (fun h => ?_) (fun h => ?_))
  · refine AW_iconst (v := 0) dX12_isChoice_82 rfl ?_
    exact AW_retz dX12_isChoice_83 rfl Bz0 h
  · refine AW_iload 1 dX12_isChoice_29 rfl ?_
    refine AW_iload 0 dX12_isChoice_31 rfl ?_
    refine AW_icmp_eq dX12_isChoice_33 rfl (iteM h (fun h => ?_) (fun h => ?_))
    · refine AW_iconst (v := 0) dX12_isChoice_82 rfl ?_
      exact AW_retz dX12_isChoice_83 rfl Bz0 h
    · refine AW_iload_n 3 (n := 2) rfl dX12_isChoice_36 rfl ?_
      refine AW_aload_n 4 (n := 0) rfl dX12_isChoice_37 rfl ?_
      refine AW_get dX12_isChoice_38 flX12_9 (Nat.le_of_ble_eq_true rfl) (okn hρ (Nat.le_of_ble_eq_true rfl)) rfl (v := .ref 81) (fvR (okR hρ 51 rfl)) ?_
      refine AW_iconst (v := 0) dX12_isChoice_41 rfl ?_
      refine AW_iaload dX12_isChoice_42 (Nat.le_of_ble_eq_true rfl) (okn hρ (Nat.le_of_ble_eq_true rfl)) rfl (show ¬ (_ ∨ _) by decide) (v := S.1 81 0) rfl ?_
      refine AW_icmp_ge dX12_isChoice_43 rfl (iteM h (fun h => ?_) (fun h => ?_))
      · refine AW_iconst (v := 0) dX12_isChoice_82 rfl ?_
        exact AW_retz dX12_isChoice_83 rfl Bz0 h
      · refine AW_iload_n 2 (n := 3) rfl dX12_isChoice_46 rfl ?_
        refine AW_aload_n 4 (n := 0) rfl dX12_isChoice_47 rfl ?_
        refine AW_get dX12_isChoice_48 flX12_9 (Nat.le_of_ble_eq_true rfl) (okn hρ (Nat.le_of_ble_eq_true rfl)) rfl (v := .ref 81) (fvR (okR hρ 51 rfl)) ?_
        refine AW_iconst (v := 0) dX12_isChoice_51 rfl ?_
        refine AW_iaload dX12_isChoice_52 (Nat.le_of_ble_eq_true rfl) (okn hρ (Nat.le_of_ble_eq_true rfl)) rfl (show ¬ (_ ∨ _) by decide) (v := S.1 81 0) rfl ?_
        refine AW_icmp_ge dX12_isChoice_53 rfl (iteM h (fun h => ?_) (fun h => ?_))
        · refine AW_iconst (v := 0) dX12_isChoice_82 rfl ?_
          exact AW_retz dX12_isChoice_83 rfl Bz0 h
        · refine AW_iload 1 dX12_isChoice_56 rfl ?_
          refine AW_aload_n 4 (n := 0) rfl dX12_isChoice_58 rfl ?_
          refine AW_get dX12_isChoice_59 flX12_9 (Nat.le_of_ble_eq_true rfl) (okn hρ (Nat.le_of_ble_eq_true rfl)) rfl (v := .ref 81) (fvR (okR hρ 51 rfl)) ?_
          refine AW_iconst (v := 1) dX12_isChoice_62 rfl ?_
          refine AW_iaload dX12_isChoice_63 (Nat.le_of_ble_eq_true rfl) (okn hρ (Nat.le_of_ble_eq_true rfl)) rfl (show ¬ (_ ∨ _) by decide) (v := S.1 81 1) rfl ?_
          refine AW_icmp_ge dX12_isChoice_64 rfl (iteM h (fun h => ?_) (fun h => ?_))
          · refine AW_iconst (v := 0) dX12_isChoice_82 rfl ?_
            exact AW_retz dX12_isChoice_83 rfl Bz0 h
          · refine AW_iload 0 dX12_isChoice_67 rfl ?_
            refine AW_aload_n 4 (n := 0) rfl dX12_isChoice_69 rfl ?_
            refine AW_get dX12_isChoice_70 flX12_9 (Nat.le_of_ble_eq_true rfl) (okn hρ (Nat.le_of_ble_eq_true rfl)) rfl (v := .ref 81) (fvR (okR hρ 51 rfl)) ?_
            refine AW_iconst (v := 1) dX12_isChoice_73 rfl ?_
            refine AW_iaload dX12_isChoice_74 (Nat.le_of_ble_eq_true rfl) (okn hρ (Nat.le_of_ble_eq_true rfl)) rfl (show ¬ (_ ∨ _) by decide) (v := S.1 81 1) rfl ?_
            refine AW_icmp_ge dX12_isChoice_75 rfl (iteM h (fun h => ?_) (fun h => ?_))
            · refine AW_iconst (v := 0) dX12_isChoice_82 rfl ?_
              exact AW_retz dX12_isChoice_83 rfl Bz0 h
            · refine AW_iconst (v := 1) dX12_isChoice_78 rfl ?_
              refine AW_goto (tgt := 83) dX12_isChoice_79 rfl ?_
              exact AW_retz dX12_isChoice_83 rfl Bz1 h
set_option maxRecDepth 20000 in
theorem eX12_moreOf {g : GX} {Q : Int32 → St → Prop} {d : Nat} {ρ : Rs} {S : St} (hρ : Ok ρ) {x1 : Int32} (h : CALLi g d mX12_isChoice [.ref 80, .int x1] ρ ρ S (fun v1 S1 => if v1 = 0 then Q 0 S1 else CALLi g d mX12_two [.ref 80, .int (x1 / 64), .int ((x1 / 4) - (x1 / 4) / 4 * 4), .int ((x1 / 16) - (x1 / 16) / 4 * 4), .int (x1 - x1 / 4 * 4)] ρ ρ S1 (fun v2 S2 => Q v2 S2))) : CALLi g (d + 1) mX12_moreOf [.ref 80, .int x1] ρ ρ S Q := by
  refine CALL.of mdX12_moreOf.2.2.2.2 (Nat.le_of_ble_eq_true rfl) (Nat.le_refl _) (Nat.le_refl _) ?_
  show AW g ρ (QI Q) (d + 1) mX12_moreOf 0 [(0, .ref 80), (1, .int x1)] [] ρ S
  refine AW_aload_n 0 (n := 0) rfl dX12_moreOf_0 rfl ?_
  refine AW_iload_n 1 (n := 1) rfl dX12_moreOf_1 rfl ?_
  refine AW_callVi (M := mX12_moreOf) (pc := 2) (As := [.int x1]) (ρ1 := ρ) (st := []) dX12_moreOf_2 mdX12_isChoice rfl mlX12_363 imX12_isChoice seX12_isChoice (rcv_of (q := (RX12, TX12, 40)) (Nat.le_of_ble_eq_true rfl) (okn hρ (Nat.le_of_ble_eq_true rfl)) rfl rfl) ⟨rfl, npX12_isChoice⟩ (Nat.le_of_ble_eq_true rfl) (Nat.le_refl _) (Nat.le_refl _) rfl (CALLi.mono h (fun v1 S1 _ h => ?_))
  refine AW_if_eq dX12_moreOf_5 rfl (iteM h (fun h => ?_) (fun h => ?_))
  · refine AW_iconst (v := 0) dX12_moreOf_33 rfl ?_
    exact AW_reti dX12_moreOf_34 rfl h
  · refine AW_aload_n 0 (n := 0) rfl dX12_moreOf_8 rfl ?_
    refine AW_iload_n 1 (n := 1) rfl dX12_moreOf_9 rfl ?_
    refine AW_bipush (v := 64) dX12_moreOf_10 rfl ?_
    refine AW_idiv dX12_moreOf_12 (by decide) ?_
    refine AW_iload_n 1 (n := 1) rfl dX12_moreOf_13 rfl ?_
    refine AW_iconst (v := 4) dX12_moreOf_14 rfl ?_
    refine AW_idiv dX12_moreOf_15 (by decide) ?_
    refine AW_iconst (v := 4) dX12_moreOf_16 rfl ?_
    refine AW_irem dX12_moreOf_17 (by decide) ?_
    refine AW_iload_n 1 (n := 1) rfl dX12_moreOf_18 rfl ?_
    refine AW_bipush (v := 16) dX12_moreOf_19 rfl ?_
    refine AW_idiv dX12_moreOf_21 (by decide) ?_
    refine AW_iconst (v := 4) dX12_moreOf_22 rfl ?_
    refine AW_irem dX12_moreOf_23 (by decide) ?_
    refine AW_iload_n 1 (n := 1) rfl dX12_moreOf_24 rfl ?_
    refine AW_iconst (v := 4) dX12_moreOf_25 rfl ?_
    refine AW_irem dX12_moreOf_26 (by decide) ?_
    refine AW_callVi (M := mX12_moreOf) (pc := 27) (As := [.int (x1 / 64), .int ((x1 / 4) - (x1 / 4) / 4 * 4), .int ((x1 / 16) - (x1 / 16) / 4 * 4), .int (x1 - x1 / 4 * 4)]) (ρ1 := ρ) (st := []) dX12_moreOf_27 mdX12_two rfl mlX12_320 imX12_two seX12_two (rcv_of (q := (RX12, TX12, 40)) (Nat.le_of_ble_eq_true rfl) (okn hρ (Nat.le_of_ble_eq_true rfl)) rfl rfl) ⟨rfl, npX12_two⟩ (Nat.le_of_ble_eq_true rfl) (Nat.le_refl _) (Nat.le_refl _) rfl (CALLi.mono h (fun v2 S2 _ h => ?_))
    refine AW_goto (tgt := 34) dX12_moreOf_30 rfl ?_
    exact AW_reti dX12_moreOf_34 rfl h
set_option maxRecDepth 20000 in
theorem eX12_lessOf {g : GX} {Q : Int32 → St → Prop} {d : Nat} {ρ : Rs} {S : St} (hρ : Ok ρ) {x1 : Int32} (h : CALLi g d mX12_two [.ref 80, .int (x1 / 64), .int (x1 - x1 / 4 * 4), .int ((x1 / 16) - (x1 / 16) / 4 * 4), .int ((x1 / 4) - (x1 / 4) / 4 * 4)] ρ ρ S (fun v1 S1 => Q v1 S1)) : CALLi g (d + 1) mX12_lessOf [.ref 80, .int x1] ρ ρ S Q := by
  refine CALL.of mdX12_lessOf.2.2.2.2 (Nat.le_of_ble_eq_true rfl) (Nat.le_refl _) (Nat.le_refl _) ?_
  show AW g ρ (QI Q) (d + 1) mX12_lessOf 0 [(0, .ref 80), (1, .int x1)] [] ρ S
  refine AW_aload_n 0 (n := 0) rfl dX12_lessOf_0 rfl ?_
  refine AW_iload_n 1 (n := 1) rfl dX12_lessOf_1 rfl ?_
  refine AW_bipush (v := 64) dX12_lessOf_2 rfl ?_
  refine AW_idiv dX12_lessOf_4 (by decide) ?_
  refine AW_iload_n 1 (n := 1) rfl dX12_lessOf_5 rfl ?_
  refine AW_iconst (v := 4) dX12_lessOf_6 rfl ?_
  refine AW_irem dX12_lessOf_7 (by decide) ?_
  refine AW_iload_n 1 (n := 1) rfl dX12_lessOf_8 rfl ?_
  refine AW_bipush (v := 16) dX12_lessOf_9 rfl ?_
  refine AW_idiv dX12_lessOf_11 (by decide) ?_
  refine AW_iconst (v := 4) dX12_lessOf_12 rfl ?_
  refine AW_irem dX12_lessOf_13 (by decide) ?_
  refine AW_iload_n 1 (n := 1) rfl dX12_lessOf_14 rfl ?_
  refine AW_iconst (v := 4) dX12_lessOf_15 rfl ?_
  refine AW_idiv dX12_lessOf_16 (by decide) ?_
  refine AW_iconst (v := 4) dX12_lessOf_17 rfl ?_
  refine AW_irem dX12_lessOf_18 (by decide) ?_
  refine AW_callVi (M := mX12_lessOf) (pc := 19) (As := [.int (x1 / 64), .int (x1 - x1 / 4 * 4), .int ((x1 / 16) - (x1 / 16) / 4 * 4), .int ((x1 / 4) - (x1 / 4) / 4 * 4)]) (ρ1 := ρ) (st := []) dX12_lessOf_19 mdX12_two rfl mlX12_320 imX12_two seX12_two (rcv_of (q := (RX12, TX12, 40)) (Nat.le_of_ble_eq_true rfl) (okn hρ (Nat.le_of_ble_eq_true rfl)) rfl rfl) ⟨rfl, npX12_two⟩ (Nat.le_of_ble_eq_true rfl) (Nat.le_refl _) (Nat.le_refl _) rfl (CALLi.mono h (fun v1 S1 _ h => ?_))
  exact AW_reti dX12_lessOf_22 rfl h
set_option maxRecDepth 20000 in
theorem eX12_turnsFrom_150 {g : GX} {Q : St → Prop} {d : Nat} {ρ : Rs} {S : St} (hρ : Ok ρ) {x1 : Int32} {x2 : Int32} {x3 : Int32} {x4 : Int32} {x5 : Int32} {x6 : Int32} {x7 : Int32} {x8 : Int32} {s0 : Int32} (h : if s0 = 0 then AW g ρ (QV Q) (d + 1) mX12_turnsFrom 2 [(0, .ref 80), (1, .int x1), (2, .int (x2 + 1))] [] ρ S else CALLi g d mX12_two [.ref 80, .int x3, .int x6, .int x4, .int x7] ρ ρ S (fun v1 S1 => CALLi g d mX12_place [.ref 80, .int x5, .int x8] ρ ρ S1 (fun v2 S2 => CALLi g d mX12_two [.ref 80, .int x3, .int x7, .int x4, .int x8] ρ ρ S2 (fun v3 S3 => CALLi g d mX12_place [.ref 80, .int x5, .int x6] ρ ρ S3 (fun v4 S4 => CALLi g d mX12_comesOf [.ref 80, .int x1, .int (v1 ||| (1 <<< (v2 &&& 31))), .int (v3 ||| (1 <<< (v4 &&& 31)))] ρ ρ S4 (fun v5 S5 => vp_in x1 1000 ∧ (CALLv g d mX12_reaches [.ref 80, .int v5, .int ((S5.1 91 x1.toNatClampNeg) + 1)] ρ ρ S5 (fun S6 => AW g ρ (QV Q) (d + 1) mX12_turnsFrom 2 [(0, .ref 80), (1, .int x1), (2, .int (x2 + 1))] [] ρ S6)))))))) : AW g ρ (QV Q) (d + 1) mX12_turnsFrom 150 [(0, .ref 80), (1, .int x1), (2, .int x2), (3, .int x3), (4, .int x4), (5, .int x5), (6, .int x6), (7, .int x7), (8, .int x8)] [.int s0] ρ S := by
  refine AW_istore dX12_turnsFrom_150 (Nat.le_of_ble_eq_true rfl) rfl ?_
  refine AW_iload 0 dX12_turnsFrom_152 rfl ?_
  refine AW_if_eq dX12_turnsFrom_154 rfl (iteM h (fun h => ?_) (fun h => ?_))
  · refine AW_iinc 3 (v := x2 + 1) dX12_turnsFrom_218 rfl rfl (Nat.le_of_ble_eq_true rfl) rfl ?_
    refine AW_goto (tgt := 2) dX12_turnsFrom_221 rfl ?_
    exact AW.sub [2, 3, 0] rfl h
  · refine AW_aload_n 1 (n := 0) rfl dX12_turnsFrom_157 rfl ?_
    refine AW_aload_n 1 (n := 0) rfl dX12_turnsFrom_158 rfl ?_
    refine AW_iload_n 2 (n := 1) rfl dX12_turnsFrom_159 rfl ?_
    refine AW_aload_n 1 (n := 0) rfl dX12_turnsFrom_160 rfl ?_
    refine AW_iload_n 4 (n := 3) rfl dX12_turnsFrom_161 rfl ?_
    refine AW_iload 7 dX12_turnsFrom_162 rfl ?_
    refine AW_iload 5 dX12_turnsFrom_164 rfl ?_
    refine AW_iload 8 dX12_turnsFrom_166 rfl ?_
    refine AW_callVi (M := mX12_turnsFrom) (pc := 168) (As := [.int x3, .int x6, .int x4, .int x7]) (ρ1 := ρ) (st := [.int x1, .ref 80, .ref 80]) dX12_turnsFrom_168 mdX12_two rfl mlX12_320 imX12_two seX12_two (rcv_of (q := (RX12, TX12, 40)) (Nat.le_of_ble_eq_true rfl) (okn hρ (Nat.le_of_ble_eq_true rfl)) rfl rfl) ⟨rfl, npX12_two⟩ (Nat.le_of_ble_eq_true rfl) (Nat.le_refl _) (Nat.le_refl _) rfl (CALLi.mono h (fun v1 S1 _ h => ?_))
    refine AW_iconst (v := 1) dX12_turnsFrom_171 rfl ?_
    refine AW_aload_n 1 (n := 0) rfl dX12_turnsFrom_172 rfl ?_
    refine AW_iload 6 dX12_turnsFrom_173 rfl ?_
    refine AW_iload 9 dX12_turnsFrom_175 rfl ?_
    refine AW_callVi (M := mX12_turnsFrom) (pc := 177) (As := [.int x5, .int x8]) (ρ1 := ρ) (st := [.int 1, .int v1, .int x1, .ref 80, .ref 80]) dX12_turnsFrom_177 mdX12_place rfl mlX12_133 imX12_place seX12_place (rcv_of (q := (RX12, TX12, 40)) (Nat.le_of_ble_eq_true rfl) (okn hρ (Nat.le_of_ble_eq_true rfl)) rfl rfl) ⟨rfl, npX12_place⟩ (Nat.le_of_ble_eq_true rfl) (Nat.le_refl _) (Nat.le_refl _) rfl (CALLi.mono h (fun v2 S2 _ h => ?_))
    refine AW_ishl dX12_turnsFrom_180 ?_
    refine AW_ior dX12_turnsFrom_181 ?_
    refine AW_aload_n 1 (n := 0) rfl dX12_turnsFrom_182 rfl ?_
    refine AW_iload_n 4 (n := 3) rfl dX12_turnsFrom_183 rfl ?_
    refine AW_iload 8 dX12_turnsFrom_184 rfl ?_
    refine AW_iload 5 dX12_turnsFrom_186 rfl ?_
    refine AW_iload 9 dX12_turnsFrom_188 rfl ?_
    refine AW_callVi (M := mX12_turnsFrom) (pc := 190) (As := [.int x3, .int x7, .int x4, .int x8]) (ρ1 := ρ) (st := [.int (v1 ||| (1 <<< (v2 &&& 31))), .int x1, .ref 80, .ref 80]) dX12_turnsFrom_190 mdX12_two rfl mlX12_320 imX12_two seX12_two (rcv_of (q := (RX12, TX12, 40)) (Nat.le_of_ble_eq_true rfl) (okn hρ (Nat.le_of_ble_eq_true rfl)) rfl rfl) ⟨rfl, npX12_two⟩ (Nat.le_of_ble_eq_true rfl) (Nat.le_refl _) (Nat.le_refl _) rfl (CALLi.mono h (fun v3 S3 _ h => ?_))
    refine AW_iconst (v := 1) dX12_turnsFrom_193 rfl ?_
    refine AW_aload_n 1 (n := 0) rfl dX12_turnsFrom_194 rfl ?_
    refine AW_iload 6 dX12_turnsFrom_195 rfl ?_
    refine AW_iload 7 dX12_turnsFrom_197 rfl ?_
    refine AW_callVi (M := mX12_turnsFrom) (pc := 199) (As := [.int x5, .int x6]) (ρ1 := ρ) (st := [.int 1, .int v3, .int (v1 ||| (1 <<< (v2 &&& 31))), .int x1, .ref 80, .ref 80]) dX12_turnsFrom_199 mdX12_place rfl mlX12_133 imX12_place seX12_place (rcv_of (q := (RX12, TX12, 40)) (Nat.le_of_ble_eq_true rfl) (okn hρ (Nat.le_of_ble_eq_true rfl)) rfl rfl) ⟨rfl, npX12_place⟩ (Nat.le_of_ble_eq_true rfl) (Nat.le_refl _) (Nat.le_refl _) rfl (CALLi.mono h (fun v4 S4 _ h => ?_))
    refine AW_ishl dX12_turnsFrom_202 ?_
    refine AW_ior dX12_turnsFrom_203 ?_
    refine AW_callVi (M := mX12_turnsFrom) (pc := 204) (As := [.int x1, .int (v1 ||| (1 <<< (v2 &&& 31))), .int (v3 ||| (1 <<< (v4 &&& 31)))]) (ρ1 := ρ) (st := [.ref 80]) dX12_turnsFrom_204 mdX12_comesOf rfl mlX12_355 imX12_comesOf seX12_comesOf (rcv_of (q := (RX12, TX12, 40)) (Nat.le_of_ble_eq_true rfl) (okn hρ (Nat.le_of_ble_eq_true rfl)) rfl rfl) ⟨rfl, npX12_comesOf⟩ (Nat.le_of_ble_eq_true rfl) (Nat.le_refl _) (Nat.le_refl _) rfl (CALLi.mono h (fun v5 S5 _ h => ?_))
    refine AW_aload_n 1 (n := 0) rfl dX12_turnsFrom_207 rfl ?_
    refine AW_get dX12_turnsFrom_208 flX12_45 (Nat.le_of_ble_eq_true rfl) (okn hρ (Nat.le_of_ble_eq_true rfl)) rfl (v := .ref 91) (fvR (okR hρ 61 rfl)) ?_
    refine AW_iload_n 2 (n := 1) rfl dX12_turnsFrom_211 rfl ?_
    refine AW_iaload dX12_turnsFrom_212 (Nat.le_of_ble_eq_true rfl) (okn hρ (Nat.le_of_ble_eq_true rfl)) rfl h.1 (v := S5.1 91 x1.toNatClampNeg) rfl ?_
    replace h := h.2
    refine AW_iconst (v := 1) dX12_turnsFrom_213 rfl ?_
    refine AW_iadd dX12_turnsFrom_214 ?_
    refine AW_callVv (M := mX12_turnsFrom) (pc := 215) (As := [.int v5, .int ((S5.1 91 x1.toNatClampNeg) + 1)]) (ρ1 := ρ) (st := []) dX12_turnsFrom_215 mdX12_reaches rfl mlX12_359 imX12_reaches seX12_reaches (rcv_of (q := (RX12, TX12, 40)) (Nat.le_of_ble_eq_true rfl) (okn hρ (Nat.le_of_ble_eq_true rfl)) rfl rfl) ⟨rfl, npX12_reaches⟩ (Nat.le_of_ble_eq_true rfl) (Nat.le_refl _) (Nat.le_refl _) rfl (CALLv.mono h (fun S6 _ h => ?_))
    refine AW_iinc 3 (v := x2 + 1) dX12_turnsFrom_218 rfl rfl (Nat.le_of_ble_eq_true rfl) rfl ?_
    refine AW_goto (tgt := 2) dX12_turnsFrom_221 rfl ?_
    exact AW.sub [2, 3, 0] rfl h
set_option maxRecDepth 20000 in
theorem eX12_turnsFrom_97 {g : GX} {Q : St → Prop} {d : Nat} {ρ : Rs} {S : St} (hρ : Ok ρ) {x1 : Int32} {x2 : Int32} {x3 : Int32} {x4 : Int32} {x5 : Int32} {x6 : Int32} {x7 : Int32} {x8 : Int32} {s0 : Int32} (h : if s0 = 0 then AW g ρ (QV Q) (d + 1) mX12_turnsFrom 150 [(0, .ref 80), (1, .int x1), (2, .int x2), (3, .int x3), (4, .int x4), (5, .int x5), (6, .int x6), (7, .int x7), (8, .int x8)] [.int 0] ρ S else if (S.1 81 0) ≤ (if x3 < (if x4 < x5 then x5 else x4) then (if x4 < x5 then x5 else x4) else x3) then AW g ρ (QV Q) (d + 1) mX12_turnsFrom 150 [(0, .ref 80), (1, .int x1), (2, .int x2), (3, .int x3), (4, .int x4), (5, .int x5), (6, .int x6), (7, .int x7), (8, .int x8)] [.int 0] ρ S else if (S.1 81 1) ≤ (if x6 < (if x7 < x8 then x8 else x7) then (if x7 < x8 then x8 else x7) else x6) then AW g ρ (QV Q) (d + 1) mX12_turnsFrom 150 [(0, .ref 80), (1, .int x1), (2, .int x2), (3, .int x3), (4, .int x4), (5, .int x5), (6, .int x6), (7, .int x7), (8, .int x8)] [.int 0] ρ S else AW g ρ (QV Q) (d + 1) mX12_turnsFrom 150 [(0, .ref 80), (1, .int x1), (2, .int x2), (3, .int x3), (4, .int x4), (5, .int x5), (6, .int x6), (7, .int x7), (8, .int x8)] [.int 1] ρ S) : AW g ρ (QV Q) (d + 1) mX12_turnsFrom 97 [(0, .ref 80), (1, .int x1), (2, .int x2), (3, .int x3), (4, .int x4), (5, .int x5), (6, .int x6), (7, .int x7), (8, .int x8)] [.int s0] ρ S := by
  refine AW_istore dX12_turnsFrom_97 (Nat.le_of_ble_eq_true rfl) rfl ?_
  refine AW_iload 0 dX12_turnsFrom_99 rfl ?_
  refine AW_if_eq dX12_turnsFrom_101 rfl (iteM h (fun h => ?_) (fun h => ?_))
  · refine AW_iconst (v := 0) dX12_turnsFrom_149 rfl ?_
    exact AW.sub [1, 2, 3, 4, 5, 6, 7, 8, 9] rfl h
  · refine AW_iload_n 4 (n := 3) rfl dX12_turnsFrom_104 rfl ?_
    refine AW_iload 5 dX12_turnsFrom_105 rfl ?_
    refine AW_iload 6 dX12_turnsFrom_107 rfl ?_
    refine AW_mmaxI (M := mX12_turnsFrom) (pc := 109) dX12_turnsFrom_109 mlX12_260 wmmaxIS wMath wmmaxIC (Nat.le_of_ble_eq_true rfl) ?_ (Nat.le_refl _) (Nat.le_refl _)
    refine AW_mmaxI (M := mX12_turnsFrom) (pc := 112) dX12_turnsFrom_112 mlX12_260 wmmaxIS wMath wmmaxIC (Nat.le_of_ble_eq_true rfl) ?_ (Nat.le_refl _) (Nat.le_refl _)
    refine AW_aload_n 1 (n := 0) rfl dX12_turnsFrom_115 rfl ?_
    refine AW_get dX12_turnsFrom_116 flX12_9 (Nat.le_of_ble_eq_true rfl) (okn hρ (Nat.le_of_ble_eq_true rfl)) rfl (v := .ref 81) (fvR (okR hρ 51 rfl)) ?_
    refine AW_iconst (v := 0) dX12_turnsFrom_119 rfl ?_
    refine AW_iaload dX12_turnsFrom_120 (Nat.le_of_ble_eq_true rfl) (okn hρ (Nat.le_of_ble_eq_true rfl)) rfl (show ¬ (_ ∨ _) by decide) (v := S.1 81 0) rfl ?_
    refine AW_icmp_ge dX12_turnsFrom_121 rfl (iteM h (fun h => ?_) (fun h => ?_))
    · refine AW_iconst (v := 0) dX12_turnsFrom_149 rfl ?_
      exact AW.sub [1, 2, 3, 4, 5, 6, 7, 8, 9] rfl h
    · refine AW_iload 7 dX12_turnsFrom_124 rfl ?_
      refine AW_iload 8 dX12_turnsFrom_126 rfl ?_
      refine AW_iload 9 dX12_turnsFrom_128 rfl ?_
      refine AW_mmaxI (M := mX12_turnsFrom) (pc := 130) dX12_turnsFrom_130 mlX12_260 wmmaxIS wMath wmmaxIC (Nat.le_of_ble_eq_true rfl) ?_ (Nat.le_refl _) (Nat.le_refl _)
      refine AW_mmaxI (M := mX12_turnsFrom) (pc := 133) dX12_turnsFrom_133 mlX12_260 wmmaxIS wMath wmmaxIC (Nat.le_of_ble_eq_true rfl) ?_ (Nat.le_refl _) (Nat.le_refl _)
      refine AW_aload_n 1 (n := 0) rfl dX12_turnsFrom_136 rfl ?_
      refine AW_get dX12_turnsFrom_137 flX12_9 (Nat.le_of_ble_eq_true rfl) (okn hρ (Nat.le_of_ble_eq_true rfl)) rfl (v := .ref 81) (fvR (okR hρ 51 rfl)) ?_
      refine AW_iconst (v := 1) dX12_turnsFrom_140 rfl ?_
      refine AW_iaload dX12_turnsFrom_141 (Nat.le_of_ble_eq_true rfl) (okn hρ (Nat.le_of_ble_eq_true rfl)) rfl (show ¬ (_ ∨ _) by decide) (v := S.1 81 1) rfl ?_
      refine AW_icmp_ge dX12_turnsFrom_142 rfl (iteM h (fun h => ?_) (fun h => ?_))
      · refine AW_iconst (v := 0) dX12_turnsFrom_149 rfl ?_
        exact AW.sub [1, 2, 3, 4, 5, 6, 7, 8, 9] rfl h
      · refine AW_iconst (v := 1) dX12_turnsFrom_145 rfl ?_
        refine AW_goto (tgt := 150) dX12_turnsFrom_146 rfl ?_
        exact AW.sub [1, 2, 3, 4, 5, 6, 7, 8, 9] rfl h
set_option maxRecDepth 20000 in
theorem eX12_turnsFrom_2 {g : GX} {Q : St → Prop} {d : Nat} {ρ : Rs} {S : St} (hρ : Ok ρ) {x1 : Int32} {x2 : Int32} (h : if (4096 : Int32) ≤ x2 then Q S else if (x2 / 1024) = ((x2 / 256) - (x2 / 256) / 4 * 4) then AW g ρ (QV Q) (d + 1) mX12_turnsFrom 97 [(0, .ref 80), (1, .int x1), (2, .int x2), (3, .int (x2 / 1024)), (4, .int ((x2 / 256) - (x2 / 256) / 4 * 4)), (5, .int ((x2 / 64) - (x2 / 64) / 4 * 4)), (6, .int ((x2 / 16) - (x2 / 16) / 4 * 4)), (7, .int ((x2 / 4) - (x2 / 4) / 4 * 4)), (8, .int (x2 - x2 / 4 * 4))] [.int 0] ρ S else if (x2 / 1024) = ((x2 / 64) - (x2 / 64) / 4 * 4) then AW g ρ (QV Q) (d + 1) mX12_turnsFrom 97 [(0, .ref 80), (1, .int x1), (2, .int x2), (3, .int (x2 / 1024)), (4, .int ((x2 / 256) - (x2 / 256) / 4 * 4)), (5, .int ((x2 / 64) - (x2 / 64) / 4 * 4)), (6, .int ((x2 / 16) - (x2 / 16) / 4 * 4)), (7, .int ((x2 / 4) - (x2 / 4) / 4 * 4)), (8, .int (x2 - x2 / 4 * 4))] [.int 0] ρ S else if ((x2 / 256) - (x2 / 256) / 4 * 4) = ((x2 / 64) - (x2 / 64) / 4 * 4) then AW g ρ (QV Q) (d + 1) mX12_turnsFrom 97 [(0, .ref 80), (1, .int x1), (2, .int x2), (3, .int (x2 / 1024)), (4, .int ((x2 / 256) - (x2 / 256) / 4 * 4)), (5, .int ((x2 / 64) - (x2 / 64) / 4 * 4)), (6, .int ((x2 / 16) - (x2 / 16) / 4 * 4)), (7, .int ((x2 / 4) - (x2 / 4) / 4 * 4)), (8, .int (x2 - x2 / 4 * 4))] [.int 0] ρ S else if ((x2 / 16) - (x2 / 16) / 4 * 4) = ((x2 / 4) - (x2 / 4) / 4 * 4) then AW g ρ (QV Q) (d + 1) mX12_turnsFrom 97 [(0, .ref 80), (1, .int x1), (2, .int x2), (3, .int (x2 / 1024)), (4, .int ((x2 / 256) - (x2 / 256) / 4 * 4)), (5, .int ((x2 / 64) - (x2 / 64) / 4 * 4)), (6, .int ((x2 / 16) - (x2 / 16) / 4 * 4)), (7, .int ((x2 / 4) - (x2 / 4) / 4 * 4)), (8, .int (x2 - x2 / 4 * 4))] [.int 0] ρ S else if ((x2 / 16) - (x2 / 16) / 4 * 4) = (x2 - x2 / 4 * 4) then AW g ρ (QV Q) (d + 1) mX12_turnsFrom 97 [(0, .ref 80), (1, .int x1), (2, .int x2), (3, .int (x2 / 1024)), (4, .int ((x2 / 256) - (x2 / 256) / 4 * 4)), (5, .int ((x2 / 64) - (x2 / 64) / 4 * 4)), (6, .int ((x2 / 16) - (x2 / 16) / 4 * 4)), (7, .int ((x2 / 4) - (x2 / 4) / 4 * 4)), (8, .int (x2 - x2 / 4 * 4))] [.int 0] ρ S else if ((x2 / 4) - (x2 / 4) / 4 * 4) = (x2 - x2 / 4 * 4) then AW g ρ (QV Q) (d + 1) mX12_turnsFrom 97 [(0, .ref 80), (1, .int x1), (2, .int x2), (3, .int (x2 / 1024)), (4, .int ((x2 / 256) - (x2 / 256) / 4 * 4)), (5, .int ((x2 / 64) - (x2 / 64) / 4 * 4)), (6, .int ((x2 / 16) - (x2 / 16) / 4 * 4)), (7, .int ((x2 / 4) - (x2 / 4) / 4 * 4)), (8, .int (x2 - x2 / 4 * 4))] [.int 0] ρ S else AW g ρ (QV Q) (d + 1) mX12_turnsFrom 97 [(0, .ref 80), (1, .int x1), (2, .int x2), (3, .int (x2 / 1024)), (4, .int ((x2 / 256) - (x2 / 256) / 4 * 4)), (5, .int ((x2 / 64) - (x2 / 64) / 4 * 4)), (6, .int ((x2 / 16) - (x2 / 16) / 4 * 4)), (7, .int ((x2 / 4) - (x2 / 4) / 4 * 4)), (8, .int (x2 - x2 / 4 * 4))] [.int 1] ρ S) : AW g ρ (QV Q) (d + 1) mX12_turnsFrom 2 [(0, .ref 80), (1, .int x1), (2, .int x2)] [] ρ S := by
  refine AW_iload_n 2 (n := 2) rfl dX12_turnsFrom_2 rfl ?_
  refine AW_sipush (v := 4096) dX12_turnsFrom_3 rfl ?_
  refine AW_icmp_ge dX12_turnsFrom_6 rfl (iteM h (fun h => ?_) (fun h => ?_))
  · exact AW_retv dX12_turnsFrom_224 rfl h
  · refine AW_iload_n 2 (n := 2) rfl dX12_turnsFrom_9 rfl ?_
    refine AW_sipush (v := 1024) dX12_turnsFrom_10 rfl ?_
    refine AW_idiv dX12_turnsFrom_13 (by decide) ?_
    refine AW_istore_n (n := 3) (i := 3) rfl dX12_turnsFrom_14 (Nat.le_of_ble_eq_true rfl) rfl ?_
    refine AW_iload_n 3 (n := 2) rfl dX12_turnsFrom_15 rfl ?_
    refine AW_sipush (v := 256) dX12_turnsFrom_16 rfl ?_
    refine AW_idiv dX12_turnsFrom_19 (by decide) ?_
    refine AW_iconst (v := 4) dX12_turnsFrom_20 rfl ?_
    refine AW_irem dX12_turnsFrom_21 (by decide) ?_
    refine AW_istore dX12_turnsFrom_22 (Nat.le_of_ble_eq_true rfl) rfl ?_
    refine AW_iload_n 4 (n := 2) rfl dX12_turnsFrom_24 rfl ?_
    refine AW_bipush (v := 64) dX12_turnsFrom_25 rfl ?_
    refine AW_idiv dX12_turnsFrom_27 (by decide) ?_
    refine AW_iconst (v := 4) dX12_turnsFrom_28 rfl ?_
    refine AW_irem dX12_turnsFrom_29 (by decide) ?_
    refine AW_istore dX12_turnsFrom_30 (Nat.le_of_ble_eq_true rfl) rfl ?_
    refine AW_iload_n 5 (n := 2) rfl dX12_turnsFrom_32 rfl ?_
    refine AW_bipush (v := 16) dX12_turnsFrom_33 rfl ?_
    refine AW_idiv dX12_turnsFrom_35 (by decide) ?_
    refine AW_iconst (v := 4) dX12_turnsFrom_36 rfl ?_
    refine AW_irem dX12_turnsFrom_37 (by decide) ?_
    refine AW_istore dX12_turnsFrom_38 (Nat.le_of_ble_eq_true rfl) rfl ?_
    refine AW_iload_n 6 (n := 2) rfl dX12_turnsFrom_40 rfl ?_
    refine AW_iconst (v := 4) dX12_turnsFrom_41 rfl ?_
    refine AW_idiv dX12_turnsFrom_42 (by decide) ?_
    refine AW_iconst (v := 4) dX12_turnsFrom_43 rfl ?_
    refine AW_irem dX12_turnsFrom_44 (by decide) ?_
    refine AW_istore dX12_turnsFrom_45 (Nat.le_of_ble_eq_true rfl) rfl ?_
    refine AW_iload_n 7 (n := 2) rfl dX12_turnsFrom_47 rfl ?_
    refine AW_iconst (v := 4) dX12_turnsFrom_48 rfl ?_
    refine AW_irem dX12_turnsFrom_49 (by decide) ?_
    refine AW_istore dX12_turnsFrom_50 (Nat.le_of_ble_eq_true rfl) rfl ?_
    refine AW_iload_n 5 (n := 3) rfl dX12_turnsFrom_52 rfl ?_
    refine AW_iload 4 dX12_turnsFrom_53 rfl ?_
    refine AW_icmp_eq dX12_turnsFrom_55 rfl (iteM h (fun h => ?_) (fun h => ?_))
    · refine AW_iconst (v := 0) dX12_turnsFrom_96 rfl ?_
      exact AW.sub [6, 7, 8, 5, 4, 3, 2, 1, 0] rfl h
    · refine AW_iload_n 5 (n := 3) rfl dX12_turnsFrom_58 rfl ?_
      refine AW_iload 3 dX12_turnsFrom_59 rfl ?_
      refine AW_icmp_eq dX12_turnsFrom_61 rfl (iteM h (fun h => ?_) (fun h => ?_))
      · refine AW_iconst (v := 0) dX12_turnsFrom_96 rfl ?_
        exact AW.sub [6, 7, 8, 5, 4, 3, 2, 1, 0] rfl h
      · refine AW_iload 4 dX12_turnsFrom_64 rfl ?_
        refine AW_iload 3 dX12_turnsFrom_66 rfl ?_
        refine AW_icmp_eq dX12_turnsFrom_68 rfl (iteM h (fun h => ?_) (fun h => ?_))
        · refine AW_iconst (v := 0) dX12_turnsFrom_96 rfl ?_
          exact AW.sub [6, 7, 8, 5, 4, 3, 2, 1, 0] rfl h
        · refine AW_iload 2 dX12_turnsFrom_71 rfl ?_
          refine AW_iload 1 dX12_turnsFrom_73 rfl ?_
          refine AW_icmp_eq dX12_turnsFrom_75 rfl (iteM h (fun h => ?_) (fun h => ?_))
          · refine AW_iconst (v := 0) dX12_turnsFrom_96 rfl ?_
            exact AW.sub [6, 7, 8, 5, 4, 3, 2, 1, 0] rfl h
          · refine AW_iload 2 dX12_turnsFrom_78 rfl ?_
            refine AW_iload 0 dX12_turnsFrom_80 rfl ?_
            refine AW_icmp_eq dX12_turnsFrom_82 rfl (iteM h (fun h => ?_) (fun h => ?_))
            · refine AW_iconst (v := 0) dX12_turnsFrom_96 rfl ?_
              exact AW.sub [6, 7, 8, 5, 4, 3, 2, 1, 0] rfl h
            · refine AW_iload 1 dX12_turnsFrom_85 rfl ?_
              refine AW_iload 0 dX12_turnsFrom_87 rfl ?_
              refine AW_icmp_eq dX12_turnsFrom_89 rfl (iteM h (fun h => ?_) (fun h => ?_))
              · refine AW_iconst (v := 0) dX12_turnsFrom_96 rfl ?_
                exact AW.sub [6, 7, 8, 5, 4, 3, 2, 1, 0] rfl h
              · refine AW_iconst (v := 1) dX12_turnsFrom_92 rfl ?_
                refine AW_goto (tgt := 97) dX12_turnsFrom_93 rfl ?_
                exact AW.sub [6, 7, 8, 5, 4, 3, 2, 1, 0] rfl h
set_option maxRecDepth 20000 in
theorem eX12_turnsFrom {g : GX} {Q : St → Prop} {d : Nat} {ρ : Rs} {S : St} (hρ : Ok ρ) {x1 : Int32} (h : AW g ρ (QV Q) (d + 1) mX12_turnsFrom 2 [(0, .ref 80), (1, .int x1), (2, .int 0)] [] ρ S) : CALLv g (d + 1) mX12_turnsFrom [.ref 80, .int x1] ρ ρ S Q := by
  refine CALL.of mdX12_turnsFrom.2.2.2.2 (Nat.le_of_ble_eq_true rfl) (Nat.le_refl _) (Nat.le_refl _) ?_
  show AW g ρ (QV Q) (d + 1) mX12_turnsFrom 0 [(0, .ref 80), (1, .int x1)] [] ρ S
  refine AW_iconst (v := 0) dX12_turnsFrom_0 rfl ?_
  refine AW_istore_n (n := 2) (i := 2) rfl dX12_turnsFrom_1 (Nat.le_of_ble_eq_true rfl) rfl ?_
  exact AW.sub [1, 2, 0] rfl h
set_option maxRecDepth 20000 in
theorem eX12_begins_2 {g : GX} {Q : St → Prop} {d : Nat} {ρ : Rs} {S : St} (hρ : Ok ρ) {x1 : Int32} (hF : ∀ k ∈ ([80, 91] : List Nat), gF g k) (h : if (1000 : Int32) ≤ x1 then Q (setI S 80 36 0) else vp_in x1 1000 ∧ (AW g ρ (QV Q) d mX12_begins 2 [(0, .ref 80), (1, .int (x1 + 1))] [] ρ (setI S 91 x1.toNatClampNeg (-1)))) : AW g ρ (QV Q) d mX12_begins 2 [(0, .ref 80), (1, .int x1)] [] ρ S := by
  refine AW_iload_n 1 (n := 1) rfl dX12_begins_2 rfl ?_
  refine AW_sipush (v := 1000) dX12_begins_3 rfl ?_
  refine AW_icmp_ge dX12_begins_6 rfl (iteM h (fun h => ?_) (fun h => ?_))
  · refine AW_aload_n 0 (n := 0) rfl dX12_begins_22 rfl ?_
    refine AW_iconst (v := 0) dX12_begins_23 rfl ?_
    refine AW_put dX12_begins_24 flX12_343 fp_10_36 (Nat.le_of_ble_eq_true rfl) (okn hρ (Nat.le_of_ble_eq_true rfl)) rfl (fun _ => rfl) (fun _ => rfl) rfl rfl rfl rfl (Fr.setI _ _ _ rfl) (fun _ _ => rfl) (ρ2 := ρ) (S2 := setI S 80 36 0) (fun _ => rfl) (fun _ _ _ q1 _ => fvI_o q1) (hF _ (List.mem_of_getElem? (i := 0) rfl)) ?_
    exact AW_retv dX12_begins_27 rfl h
  · refine AW_aload_n 0 (n := 0) rfl dX12_begins_9 rfl ?_
    refine AW_get dX12_begins_10 flX12_45 (Nat.le_of_ble_eq_true rfl) (okn hρ (Nat.le_of_ble_eq_true rfl)) rfl (v := .ref 91) (fvR (okR hρ 61 rfl)) ?_
    refine AW_iload_n 1 (n := 1) rfl dX12_begins_13 rfl ?_
    refine AW_iconst (v := (-1)) dX12_begins_14 rfl ?_
    refine AW_iastore dX12_begins_15 (Nat.le_of_ble_eq_true rfl) (okn hρ (Nat.le_of_ble_eq_true rfl)) rfl h.1 (hF _ (List.mem_of_getElem? (i := 1) rfl)) (jx := x1.toNatClampNeg) rfl ?_
    replace h := h.2
    refine AW_iinc 1 (v := x1 + 1) dX12_begins_16 rfl rfl (Nat.le_of_ble_eq_true rfl) rfl ?_
    refine AW_goto (tgt := 2) dX12_begins_19 rfl ?_
    exact AW.sub [1, 0] rfl h
set_option maxRecDepth 20000 in
theorem eX12_begins {g : GX} {Q : St → Prop} {d : Nat} {ρ : Rs} {S : St} (hρ : Ok ρ) (h : AW g ρ (QV Q) d mX12_begins 2 [(0, .ref 80), (1, .int 0)] [] ρ S) : CALLv g d mX12_begins [.ref 80] ρ ρ S Q := by
  refine CALL.of mdX12_begins.2.2.2.2 (Nat.le_of_ble_eq_true rfl) (Nat.le_refl _) (Nat.le_refl _) ?_
  show AW g ρ (QV Q) d mX12_begins 0 [(0, .ref 80)] [] ρ S
  refine AW_iconst (v := 0) dX12_begins_0 rfl ?_
  refine AW_istore_n (n := 1) (i := 1) rfl dX12_begins_1 (Nat.le_of_ble_eq_true rfl) rfl ?_
  exact AW.sub [1, 0] rfl h
set_option maxRecDepth 20000 in
theorem eX12_spreads_14 {g : GX} {Q : Int32 → St → Prop} {d : Nat} {ρ : Rs} {S : St} (hρ : Ok ρ) {x2 : Int32} {x3 : Int32} {x4 : Int32} (h : if (S.1 80 36) ≤ x4 then Q ((S.1 80 36) - x3) S else vp_in x4 1000 ∧ (CALLv g d mX12_swapsFrom [.ref 80, .int (S.1 92 x4.toNatClampNeg)] ρ ρ S (fun S1 => if x2 = 0 then AW g ρ (QI Q) (d + 1) mX12_spreads 14 [(0, .ref 80), (2, .int x2), (3, .int x3), (4, .int (x4 + 1))] [] ρ S1 else vp_in x4 1000 ∧ (CALLv g d mX12_turnsFrom [.ref 80, .int (S1.1 92 x4.toNatClampNeg)] ρ ρ S1 (fun S2 => AW g ρ (QI Q) (d + 1) mX12_spreads 14 [(0, .ref 80), (2, .int x2), (3, .int x3), (4, .int (x4 + 1))] [] ρ S2))))) : AW g ρ (QI Q) (d + 1) mX12_spreads 14 [(0, .ref 80), (2, .int x2), (3, .int x3), (4, .int x4)] [] ρ S := by
  refine AW_iload 3 dX12_spreads_14 rfl ?_
  refine AW_aload_n 0 (n := 0) rfl dX12_spreads_16 rfl ?_
  refine AW_get dX12_spreads_17 flX12_343 (Nat.le_of_ble_eq_true rfl) (okn hρ (Nat.le_of_ble_eq_true rfl)) rfl (v := .int (S.1 80 36)) (fun _ => rfl) ?_
  refine AW_icmp_ge dX12_spreads_20 rfl (iteM h (fun h => ?_) (fun h => ?_))
  · refine AW_aload_n 0 (n := 0) rfl dX12_spreads_55 rfl ?_
    refine AW_get dX12_spreads_56 flX12_343 (Nat.le_of_ble_eq_true rfl) (okn hρ (Nat.le_of_ble_eq_true rfl)) rfl (v := .int (S.1 80 36)) (fun _ => rfl) ?_
    refine AW_iload_n 2 (n := 3) rfl dX12_spreads_59 rfl ?_
    refine AW_isub dX12_spreads_60 ?_
    exact AW_reti dX12_spreads_61 rfl h
  · refine AW_aload_n 0 (n := 0) rfl dX12_spreads_23 rfl ?_
    refine AW_aload_n 0 (n := 0) rfl dX12_spreads_24 rfl ?_
    refine AW_get dX12_spreads_25 flX12_48 (Nat.le_of_ble_eq_true rfl) (okn hρ (Nat.le_of_ble_eq_true rfl)) rfl (v := .ref 92) (fvR (okR hρ 62 rfl)) ?_
    refine AW_iload 3 dX12_spreads_28 rfl ?_
    refine AW_iaload dX12_spreads_30 (Nat.le_of_ble_eq_true rfl) (okn hρ (Nat.le_of_ble_eq_true rfl)) rfl h.1 (v := S.1 92 x4.toNatClampNeg) rfl ?_
    replace h := h.2
    refine AW_callVv (M := mX12_spreads) (pc := 31) (As := [.int (S.1 92 x4.toNatClampNeg)]) (ρ1 := ρ) (st := []) dX12_spreads_31 mdX12_swapsFrom rfl mlX12_366 imX12_swapsFrom seX12_swapsFrom (rcv_of (q := (RX12, TX12, 40)) (Nat.le_of_ble_eq_true rfl) (okn hρ (Nat.le_of_ble_eq_true rfl)) rfl rfl) ⟨rfl, npX12_swapsFrom⟩ (Nat.le_of_ble_eq_true rfl) (Nat.le_refl _) (Nat.le_refl _) rfl (CALLv.mono h (fun S1 _ h => ?_))
    refine AW_iload_n 1 (n := 2) rfl dX12_spreads_34 rfl ?_
    refine AW_if_eq dX12_spreads_35 rfl (iteM h (fun h => ?_) (fun h => ?_))
    · refine AW_iinc 3 (v := x4 + 1) dX12_spreads_49 rfl rfl (Nat.le_of_ble_eq_true rfl) rfl ?_
      refine AW_goto (tgt := 14) dX12_spreads_52 rfl ?_
      exact AW.sub [1, 2, 3, 0] rfl h
    · refine AW_aload_n 0 (n := 0) rfl dX12_spreads_38 rfl ?_
      refine AW_aload_n 0 (n := 0) rfl dX12_spreads_39 rfl ?_
      refine AW_get dX12_spreads_40 flX12_48 (Nat.le_of_ble_eq_true rfl) (okn hρ (Nat.le_of_ble_eq_true rfl)) rfl (v := .ref 92) (fvR (okR hρ 62 rfl)) ?_
      refine AW_iload 3 dX12_spreads_43 rfl ?_
      refine AW_iaload dX12_spreads_45 (Nat.le_of_ble_eq_true rfl) (okn hρ (Nat.le_of_ble_eq_true rfl)) rfl h.1 (v := S1.1 92 x4.toNatClampNeg) rfl ?_
      replace h := h.2
      refine AW_callVv (M := mX12_spreads) (pc := 46) (As := [.int (S1.1 92 x4.toNatClampNeg)]) (ρ1 := ρ) (st := []) dX12_spreads_46 mdX12_turnsFrom rfl mlX12_369 imX12_turnsFrom seX12_turnsFrom (rcv_of (q := (RX12, TX12, 40)) (Nat.le_of_ble_eq_true rfl) (okn hρ (Nat.le_of_ble_eq_true rfl)) rfl rfl) ⟨rfl, npX12_turnsFrom⟩ (Nat.le_of_ble_eq_true rfl) (Nat.le_refl _) (Nat.le_refl _) rfl (CALLv.mono h (fun S2 _ h => ?_))
      refine AW_iinc 3 (v := x4 + 1) dX12_spreads_49 rfl rfl (Nat.le_of_ble_eq_true rfl) rfl ?_
      refine AW_goto (tgt := 14) dX12_spreads_52 rfl ?_
      exact AW.sub [1, 2, 3, 0] rfl h
set_option maxRecDepth 20000 in
theorem eX12_spreads {g : GX} {Q : Int32 → St → Prop} {d : Nat} {ρ : Rs} {S : St} (hρ : Ok ρ) {x1 : Int32} {x2 : Int32} (h : CALLv g d mX12_reaches [.ref 80, .int x1, .int 0] ρ ρ S (fun S1 => AW g ρ (QI Q) (d + 1) mX12_spreads 14 [(0, .ref 80), (2, .int x2), (3, .int (S.1 80 36)), (4, .int (S.1 80 36))] [] ρ S1)) : CALLi g (d + 1) mX12_spreads [.ref 80, .int x1, .int x2] ρ ρ S Q := by
  refine CALL.of mdX12_spreads.2.2.2.2 (Nat.le_of_ble_eq_true rfl) (Nat.le_refl _) (Nat.le_refl _) ?_
  show AW g ρ (QI Q) (d + 1) mX12_spreads 0 [(0, .ref 80), (1, .int x1), (2, .int x2)] [] ρ S
  refine AW_aload_n 0 (n := 0) rfl dX12_spreads_0 rfl ?_
  refine AW_get dX12_spreads_1 flX12_343 (Nat.le_of_ble_eq_true rfl) (okn hρ (Nat.le_of_ble_eq_true rfl)) rfl (v := .int (S.1 80 36)) (fun _ => rfl) ?_
  refine AW_istore_n (n := 3) (i := 3) rfl dX12_spreads_4 (Nat.le_of_ble_eq_true rfl) rfl ?_
  refine AW_aload_n 1 (n := 0) rfl dX12_spreads_5 rfl ?_
  refine AW_iload_n 2 (n := 1) rfl dX12_spreads_6 rfl ?_
  refine AW_iconst (v := 0) dX12_spreads_7 rfl ?_
  refine AW_callVv (M := mX12_spreads) (pc := 8) (As := [.int x1, .int 0]) (ρ1 := ρ) (st := []) dX12_spreads_8 mdX12_reaches rfl mlX12_359 imX12_reaches seX12_reaches (rcv_of (q := (RX12, TX12, 40)) (Nat.le_of_ble_eq_true rfl) (okn hρ (Nat.le_of_ble_eq_true rfl)) rfl rfl) ⟨rfl, npX12_reaches⟩ (Nat.le_of_ble_eq_true rfl) (Nat.le_refl _) (Nat.le_refl _) rfl (CALLv.mono h (fun S1 _ h => ?_))
  refine AW_iload_n 0 (n := 3) rfl dX12_spreads_11 rfl ?_
  refine AW_istore dX12_spreads_12 (Nat.le_of_ble_eq_true rfl) rfl ?_
  exact AW.sub [2, 4, 1, 0] rfl h
set_option maxRecDepth 20000 in
theorem eX12_classesOf_28 {g : GX} {Q : Int32 → St → Prop} {d : Nat} {ρ : Rs} {S : St} (hρ : Ok ρ) {x1 : Int32} {x2 : Int32} {x3 : Int32} (h : if (S.1 80 32) ≤ x3 then Q x2 S else CALLi g d mX12_spreads [.ref 80, .int x3, .int x1] ρ ρ S (fun v1 S1 => if v1 ≤ 0 then AW g ρ (QI Q) (d + 1) mX12_classesOf 28 [(0, .ref 80), (1, .int x1), (2, .int (x2 + 0)), (3, .int (x3 + 1))] [] ρ S1 else AW g ρ (QI Q) (d + 1) mX12_classesOf 28 [(0, .ref 80), (1, .int x1), (2, .int (x2 + 1)), (3, .int (x3 + 1))] [] ρ S1)) : AW g ρ (QI Q) (d + 1) mX12_classesOf 28 [(0, .ref 80), (1, .int x1), (2, .int x2), (3, .int x3)] [] ρ S := by
  refine AW_iload_n 3 (n := 3) rfl dX12_classesOf_28 rfl ?_
  refine AW_aload_n 0 (n := 0) rfl dX12_classesOf_29 rfl ?_
  refine AW_get dX12_classesOf_30 flX12_328 (Nat.le_of_ble_eq_true rfl) (okn hρ (Nat.le_of_ble_eq_true rfl)) rfl (v := .int (S.1 80 32)) (fun _ => rfl) ?_
  refine AW_icmp_ge dX12_classesOf_33 rfl (iteM h (fun h => ?_) (fun h => ?_))
  · refine AW_iload_n 2 (n := 2) rfl dX12_classesOf_59 rfl ?_
    exact AW_reti dX12_classesOf_60 rfl h
  · refine AW_iload_n 2 (n := 2) rfl dX12_classesOf_36 rfl ?_
    refine AW_aload_n 0 (n := 0) rfl dX12_classesOf_37 rfl ?_
    refine AW_iload_n 3 (n := 3) rfl dX12_classesOf_38 rfl ?_
    refine AW_iload_n 1 (n := 1) rfl dX12_classesOf_39 rfl ?_
    refine AW_callVi (M := mX12_classesOf) (pc := 40) (As := [.int x3, .int x1]) (ρ1 := ρ) (st := [.int x2]) dX12_classesOf_40 mdX12_spreads rfl mlX12_378 imX12_spreads seX12_spreads (rcv_of (q := (RX12, TX12, 40)) (Nat.le_of_ble_eq_true rfl) (okn hρ (Nat.le_of_ble_eq_true rfl)) rfl rfl) ⟨rfl, npX12_spreads⟩ (Nat.le_of_ble_eq_true rfl) (Nat.le_refl _) (Nat.le_refl _) rfl (CALLi.mono h (fun v1 S1 _ h => ?_))
    refine AW_if_le dX12_classesOf_43 rfl (iteM h (fun h => ?_) (fun h => ?_))
    · refine AW_iconst (v := 0) dX12_classesOf_50 rfl ?_
      refine AW_iadd dX12_classesOf_51 ?_
      refine AW_istore_n (n := 2) (i := 2) rfl dX12_classesOf_52 (Nat.le_of_ble_eq_true rfl) rfl ?_
      refine AW_iinc 3 (v := x3 + 1) dX12_classesOf_53 rfl rfl (Nat.le_of_ble_eq_true rfl) rfl ?_
      refine AW_goto (tgt := 28) dX12_classesOf_56 rfl ?_
      exact AW.sub [2, 3, 1, 0] rfl h
    · refine AW_iconst (v := 1) dX12_classesOf_46 rfl ?_
      refine AW_goto (tgt := 51) dX12_classesOf_47 rfl ?_
      refine AW_iadd dX12_classesOf_51 ?_
      refine AW_istore_n (n := 2) (i := 2) rfl dX12_classesOf_52 (Nat.le_of_ble_eq_true rfl) rfl ?_
      refine AW_iinc 3 (v := x3 + 1) dX12_classesOf_53 rfl rfl (Nat.le_of_ble_eq_true rfl) rfl ?_
      refine AW_goto (tgt := 28) dX12_classesOf_56 rfl ?_
      exact AW.sub [2, 3, 1, 0] rfl h
set_option maxRecDepth 20000 in
theorem eX12_classesOf {g : GX} {Q : Int32 → St → Prop} {d : Nat} {ρ : Rs} {S : St} (hρ : Ok ρ) {x1 : Int32} (h : CALLi g d mX12_is [.ref 80] ρ ρ S (fun v1 S1 => if v1 = 0 then Q (-2) S1 else CALLi g d mX12_listsAll [.ref 80] ρ ρ S1 (fun v2 S2 => if v2 = 0 then Q (-3) S2 else CALLv g d mX12_begins [.ref 80] ρ ρ S2 (fun S3 => AW g ρ (QI Q) (d + 1) mX12_classesOf 28 [(0, .ref 80), (1, .int x1), (2, .int 0), (3, .int 0)] [] ρ S3)))) : CALLi g (d + 1) mX12_classesOf [.ref 80, .int x1] ρ ρ S Q := by
  refine CALL.of mdX12_classesOf.2.2.2.2 (Nat.le_of_ble_eq_true rfl) (Nat.le_refl _) (Nat.le_refl _) ?_
  show AW g ρ (QI Q) (d + 1) mX12_classesOf 0 [(0, .ref 80), (1, .int x1)] [] ρ S
  refine AW_aload_n 0 (n := 0) rfl dX12_classesOf_0 rfl ?_
  refine AW_callVi (M := mX12_classesOf) (pc := 1) (As := []) (ρ1 := ρ) (st := []) dX12_classesOf_1 mdX12_is rfl mlX12_265 imX12_is seX12_is (rcv_of (q := (RX12, TX12, 40)) (Nat.le_of_ble_eq_true rfl) (okn hρ (Nat.le_of_ble_eq_true rfl)) rfl rfl) ⟨rfl, npX12_is⟩ (Nat.le_of_ble_eq_true rfl) (Nat.le_refl _) (Nat.le_refl _) rfl (CALLi.mono h (fun v1 S1 _ h => ?_))
  refine AW_if_ne dX12_classesOf_4 rfl (iteM h (fun h => ?_) (fun h => ?_))
  · refine AW_bipush (v := (-2)) dX12_classesOf_7 rfl ?_
    exact AW_reti dX12_classesOf_9 rfl h
  · refine AW_aload_n 0 (n := 0) rfl dX12_classesOf_10 rfl ?_
    refine AW_callVi (M := mX12_classesOf) (pc := 11) (As := []) (ρ1 := ρ) (st := []) dX12_classesOf_11 mdX12_listsAll rfl mlX12_372 imX12_listsAll seX12_listsAll (rcv_of (q := (RX12, TX12, 40)) (Nat.le_of_ble_eq_true rfl) (okn hρ (Nat.le_of_ble_eq_true rfl)) rfl rfl) ⟨rfl, npX12_listsAll⟩ (Nat.le_of_ble_eq_true rfl) (Nat.le_refl _) (Nat.le_refl _) rfl (CALLi.mono h (fun v2 S2 _ h => ?_))
    refine AW_if_ne dX12_classesOf_14 rfl (iteM h (fun h => ?_) (fun h => ?_))
    · refine AW_bipush (v := (-3)) dX12_classesOf_17 rfl ?_
      exact AW_reti dX12_classesOf_19 rfl h
    · refine AW_aload_n 0 (n := 0) rfl dX12_classesOf_20 rfl ?_
      refine AW_callVv (M := mX12_classesOf) (pc := 21) (As := []) (ρ1 := ρ) (st := []) dX12_classesOf_21 mdX12_begins rfl mlX12_375 imX12_begins seX12_begins (rcv_of (q := (RX12, TX12, 40)) (Nat.le_of_ble_eq_true rfl) (okn hρ (Nat.le_of_ble_eq_true rfl)) rfl rfl) ⟨rfl, npX12_begins⟩ (Nat.le_of_ble_eq_true rfl) (Nat.le_refl _) (Nat.le_refl _) rfl (CALLv.mono h (fun S3 _ h => ?_))
      refine AW_iconst (v := 0) dX12_classesOf_24 rfl ?_
      refine AW_istore_n (n := 2) (i := 2) rfl dX12_classesOf_25 (Nat.le_of_ble_eq_true rfl) rfl ?_
      refine AW_iconst (v := 0) dX12_classesOf_26 rfl ?_
      refine AW_istore_n (n := 3) (i := 3) rfl dX12_classesOf_27 (Nat.le_of_ble_eq_true rfl) rfl ?_
      exact AW.sub [2, 3, 1, 0] rfl h
set_option maxRecDepth 20000 in
theorem eX12_classes {g : GX} {Q : Int32 → St → Prop} {d : Nat} {ρ : Rs} {S : St} (hρ : Ok ρ) (h : CALLi g d mX12_classesOf [.ref 80, .int 0] ρ ρ S (fun v1 S1 => Q v1 S1)) : CALLi g (d + 1) mX12_classes [.ref 80] ρ ρ S Q := by
  refine CALL.of mdX12_classes.2.2.2.2 (Nat.le_of_ble_eq_true rfl) (Nat.le_refl _) (Nat.le_refl _) ?_
  show AW g ρ (QI Q) (d + 1) mX12_classes 0 [(0, .ref 80)] [] ρ S
  refine AW_aload_n 0 (n := 0) rfl dX12_classes_0 rfl ?_
  refine AW_iconst (v := 0) dX12_classes_1 rfl ?_
  refine AW_callVi (M := mX12_classes) (pc := 2) (As := [.int 0]) (ρ1 := ρ) (st := []) dX12_classes_2 mdX12_classesOf rfl mlX12_381 imX12_classesOf seX12_classesOf (rcv_of (q := (RX12, TX12, 40)) (Nat.le_of_ble_eq_true rfl) (okn hρ (Nat.le_of_ble_eq_true rfl)) rfl rfl) ⟨rfl, npX12_classesOf⟩ (Nat.le_of_ble_eq_true rfl) (Nat.le_refl _) (Nat.le_refl _) rfl (CALLi.mono h (fun v1 S1 _ h => ?_))
  exact AW_reti dX12_classes_5 rfl h
set_option maxRecDepth 20000 in
theorem eX12_joined {g : GX} {Q : Int32 → St → Prop} {d : Nat} {ρ : Rs} {S : St} (hρ : Ok ρ) (h : CALLi g d mX12_classesOf [.ref 80, .int 1] ρ ρ S (fun v1 S1 => Q v1 S1)) : CALLi g (d + 1) mX12_joined [.ref 80] ρ ρ S Q := by
  refine CALL.of mdX12_joined.2.2.2.2 (Nat.le_of_ble_eq_true rfl) (Nat.le_refl _) (Nat.le_refl _) ?_
  show AW g ρ (QI Q) (d + 1) mX12_joined 0 [(0, .ref 80)] [] ρ S
  refine AW_aload_n 0 (n := 0) rfl dX12_joined_0 rfl ?_
  refine AW_iconst (v := 1) dX12_joined_1 rfl ?_
  refine AW_callVi (M := mX12_joined) (pc := 2) (As := [.int 1]) (ρ1 := ρ) (st := []) dX12_joined_2 mdX12_classesOf rfl mlX12_381 imX12_classesOf seX12_classesOf (rcv_of (q := (RX12, TX12, 40)) (Nat.le_of_ble_eq_true rfl) (okn hρ (Nat.le_of_ble_eq_true rfl)) rfl rfl) ⟨rfl, npX12_classesOf⟩ (Nat.le_of_ble_eq_true rfl) (Nat.le_refl _) (Nat.le_refl _) rfl (CALLi.mono h (fun v1 S1 _ h => ?_))
  exact AW_reti dX12_joined_5 rfl h
set_option maxRecDepth 20000 in
theorem eX12_whyNot {g : GX} {Q : Int32 → St → Prop} {d : Nat} {ρ : Rs} {S : St} (hρ : Ok ρ) {x1 : Int32} (h : CALLi g d mX12_is [.ref 80] ρ ρ S (fun v1 S1 => if v1 = 0 then Q (-2) S1 else CALLi g d mX12_listsAll [.ref 80] ρ ρ S1 (fun v2 S2 => if v2 = 0 then Q (-3) S2 else CALLi g d mX12_in [.long x1.toInt64, .long 0, .long (((S2.1 80 32) - 1).toInt64)] ρ ρ S2 (fun v3 S3 => if v3 = 0 then Q (-2) S3 else CALLv g d mX12_begins [.ref 80] ρ ρ S3 (fun S4 => CALLi g d mX12_spreads [.ref 80, .int x1, .int 0] ρ ρ S4 (fun v5 S5 => Q 0 S5)))))) : CALLi g (d + 1) mX12_whyNot [.ref 80, .int x1] ρ ρ S Q := by
  refine CALL.of mdX12_whyNot.2.2.2.2 (Nat.le_of_ble_eq_true rfl) (Nat.le_refl _) (Nat.le_refl _) ?_
  show AW g ρ (QI Q) (d + 1) mX12_whyNot 0 [(0, .ref 80), (1, .int x1)] [] ρ S
  refine AW_aload_n 0 (n := 0) rfl dX12_whyNot_0 rfl ?_
  refine AW_callVi (M := mX12_whyNot) (pc := 1) (As := []) (ρ1 := ρ) (st := []) dX12_whyNot_1 mdX12_is rfl mlX12_265 imX12_is seX12_is (rcv_of (q := (RX12, TX12, 40)) (Nat.le_of_ble_eq_true rfl) (okn hρ (Nat.le_of_ble_eq_true rfl)) rfl rfl) ⟨rfl, npX12_is⟩ (Nat.le_of_ble_eq_true rfl) (Nat.le_refl _) (Nat.le_refl _) rfl (CALLi.mono h (fun v1 S1 _ h => ?_))
  refine AW_if_ne dX12_whyNot_4 rfl (iteM h (fun h => ?_) (fun h => ?_))
  · refine AW_bipush (v := (-2)) dX12_whyNot_7 rfl ?_
    exact AW_reti dX12_whyNot_9 rfl h
  · refine AW_aload_n 0 (n := 0) rfl dX12_whyNot_10 rfl ?_
    refine AW_callVi (M := mX12_whyNot) (pc := 11) (As := []) (ρ1 := ρ) (st := []) dX12_whyNot_11 mdX12_listsAll rfl mlX12_372 imX12_listsAll seX12_listsAll (rcv_of (q := (RX12, TX12, 40)) (Nat.le_of_ble_eq_true rfl) (okn hρ (Nat.le_of_ble_eq_true rfl)) rfl rfl) ⟨rfl, npX12_listsAll⟩ (Nat.le_of_ble_eq_true rfl) (Nat.le_refl _) (Nat.le_refl _) rfl (CALLi.mono h (fun v2 S2 _ h => ?_))
    refine AW_if_ne dX12_whyNot_14 rfl (iteM h (fun h => ?_) (fun h => ?_))
    · refine AW_bipush (v := (-3)) dX12_whyNot_17 rfl ?_
      exact AW_reti dX12_whyNot_19 rfl h
    · refine AW_iload_n 1 (n := 1) rfl dX12_whyNot_20 rfl ?_
      refine AW_i2l dX12_whyNot_21 ?_
      refine AW_lconst (v := 0) dX12_whyNot_22 rfl ?_
      refine AW_aload_n 0 (n := 0) rfl dX12_whyNot_23 rfl ?_
      refine AW_get dX12_whyNot_24 flX12_328 (Nat.le_of_ble_eq_true rfl) (okn hρ (Nat.le_of_ble_eq_true rfl)) rfl (v := .int (S2.1 80 32)) (fun _ => rfl) ?_
      refine AW_iconst (v := 1) dX12_whyNot_27 rfl ?_
      refine AW_isub dX12_whyNot_28 ?_
      refine AW_i2l dX12_whyNot_29 ?_
      refine AW_callSi (M := mX12_whyNot) (pc := 30) (As := [.long x1.toInt64, .long 0, .long (((S2.1 80 32) - 1).toInt64)]) (ρ1 := ρ) (st := []) dX12_whyNot_30 mdX12_in mlX12_60 smX12_in ⟨rfl, npX12_in⟩ (Nat.le_of_ble_eq_true rfl) (Nat.le_refl _) (Nat.le_refl _) rfl (CALLi.mono h (fun v3 S3 _ h => ?_))
      refine AW_if_ne dX12_whyNot_33 rfl (iteM h (fun h => ?_) (fun h => ?_))
      · refine AW_bipush (v := (-2)) dX12_whyNot_36 rfl ?_
        exact AW_reti dX12_whyNot_38 rfl h
      · refine AW_aload_n 0 (n := 0) rfl dX12_whyNot_39 rfl ?_
        refine AW_callVv (M := mX12_whyNot) (pc := 40) (As := []) (ρ1 := ρ) (st := []) dX12_whyNot_40 mdX12_begins rfl mlX12_375 imX12_begins seX12_begins (rcv_of (q := (RX12, TX12, 40)) (Nat.le_of_ble_eq_true rfl) (okn hρ (Nat.le_of_ble_eq_true rfl)) rfl rfl) ⟨rfl, npX12_begins⟩ (Nat.le_of_ble_eq_true rfl) (Nat.le_refl _) (Nat.le_refl _) rfl (CALLv.mono h (fun S4 _ h => ?_))
        refine AW_aload_n 0 (n := 0) rfl dX12_whyNot_43 rfl ?_
        refine AW_iload_n 1 (n := 1) rfl dX12_whyNot_44 rfl ?_
        refine AW_iconst (v := 0) dX12_whyNot_45 rfl ?_
        refine AW_callVi (M := mX12_whyNot) (pc := 46) (As := [.int x1, .int 0]) (ρ1 := ρ) (st := []) dX12_whyNot_46 mdX12_spreads rfl mlX12_378 imX12_spreads seX12_spreads (rcv_of (q := (RX12, TX12, 40)) (Nat.le_of_ble_eq_true rfl) (okn hρ (Nat.le_of_ble_eq_true rfl)) rfl rfl) ⟨rfl, npX12_spreads⟩ (Nat.le_of_ble_eq_true rfl) (Nat.le_refl _) (Nat.le_refl _) rfl (CALLi.mono h (fun v5 S5 _ h => ?_))
        refine AW_pop dX12_whyNot_49 rfl ?_
        refine AW_iconst (v := 0) dX12_whyNot_50 rfl ?_
        exact AW_reti dX12_whyNot_51 rfl h
set_option maxRecDepth 20000 in
theorem eX12_classOf_14 {g : GX} {Q : Int32 → St → Prop} {d : Nat} {ρ : Rs} {S : St} (hρ : Ok ρ) {x3 : Int32} (h : vp_in x3 1000 ∧ (if 0 ≤ (S.1 91 x3.toNatClampNeg) then Q x3 S else AW g ρ (QI Q) (d + 1) mX12_classOf 14 [(0, .ref 80), (3, .int (x3 + 1))] [] ρ S)) : AW g ρ (QI Q) (d + 1) mX12_classOf 14 [(0, .ref 80), (3, .int x3)] [] ρ S := by
  refine AW_aload_n 0 (n := 0) rfl dX12_classOf_14 rfl ?_
  refine AW_get dX12_classOf_15 flX12_45 (Nat.le_of_ble_eq_true rfl) (okn hρ (Nat.le_of_ble_eq_true rfl)) rfl (v := .ref 91) (fvR (okR hρ 61 rfl)) ?_
  refine AW_iload_n 1 (n := 3) rfl dX12_classOf_18 rfl ?_
  refine AW_iaload dX12_classOf_19 (Nat.le_of_ble_eq_true rfl) (okn hρ (Nat.le_of_ble_eq_true rfl)) rfl h.1 (v := S.1 91 x3.toNatClampNeg) rfl ?_
  replace h := h.2
  refine AW_if_ge dX12_classOf_20 rfl (iteM h (fun h => ?_) (fun h => ?_))
  · refine AW_iload_n 1 (n := 3) rfl dX12_classOf_29 rfl ?_
    exact AW_reti dX12_classOf_30 rfl h
  · refine AW_iinc 1 (v := x3 + 1) dX12_classOf_23 rfl rfl (Nat.le_of_ble_eq_true rfl) rfl ?_
    refine AW_goto (tgt := 14) dX12_classOf_26 rfl ?_
    exact AW.sub [1, 0] rfl h
set_option maxRecDepth 20000 in
theorem eX12_classOf {g : GX} {Q : Int32 → St → Prop} {d : Nat} {ρ : Rs} {S : St} (hρ : Ok ρ) {x1 : Int32} (h : CALLi g d mX12_whyNot [.ref 80, .int x1] ρ ρ S (fun v1 S1 => if 0 ≤ v1 then AW g ρ (QI Q) (d + 1) mX12_classOf 14 [(0, .ref 80), (3, .int 0)] [] ρ S1 else Q v1 S1)) : CALLi g (d + 1) mX12_classOf [.ref 80, .int x1] ρ ρ S Q := by
  refine CALL.of mdX12_classOf.2.2.2.2 (Nat.le_of_ble_eq_true rfl) (Nat.le_refl _) (Nat.le_refl _) ?_
  show AW g ρ (QI Q) (d + 1) mX12_classOf 0 [(0, .ref 80), (1, .int x1)] [] ρ S
  refine AW_aload_n 0 (n := 0) rfl dX12_classOf_0 rfl ?_
  refine AW_iload_n 1 (n := 1) rfl dX12_classOf_1 rfl ?_
  refine AW_callVi (M := mX12_classOf) (pc := 2) (As := [.int x1]) (ρ1 := ρ) (st := []) dX12_classOf_2 mdX12_whyNot rfl mlX12_385 imX12_whyNot seX12_whyNot (rcv_of (q := (RX12, TX12, 40)) (Nat.le_of_ble_eq_true rfl) (okn hρ (Nat.le_of_ble_eq_true rfl)) rfl rfl) ⟨rfl, npX12_whyNot⟩ (Nat.le_of_ble_eq_true rfl) (Nat.le_refl _) (Nat.le_refl _) rfl (CALLi.mono h (fun v1 S1 _ h => ?_))
  refine AW_istore_n (n := 2) (i := 2) rfl dX12_classOf_5 (Nat.le_of_ble_eq_true rfl) rfl ?_
  refine AW_iload_n 0 (n := 2) rfl dX12_classOf_6 rfl ?_
  refine AW_if_ge dX12_classOf_7 rfl (iteM h (fun h => ?_) (fun h => ?_))
  · refine AW_iconst (v := 0) dX12_classOf_12 rfl ?_
    refine AW_istore_n (n := 3) (i := 3) rfl dX12_classOf_13 (Nat.le_of_ble_eq_true rfl) rfl ?_
    exact AW.sub [2, 0] rfl h
  · refine AW_iload_n 0 (n := 2) rfl dX12_classOf_10 rfl ?_
    exact AW_reti dX12_classOf_11 rfl h
set_option maxRecDepth 20000 in
theorem eX12_sized {g : GX} {Q : Int32 → St → Prop} {d : Nat} {ρ : Rs} {S : St} (hρ : Ok ρ) {x1 : Int32} (h : CALLi g d mX12_whyNot [.ref 80, .int x1] ρ ρ S (fun v1 S1 => if 0 ≤ v1 then Q (S1.1 80 36) S1 else Q v1 S1)) : CALLi g (d + 1) mX12_sized [.ref 80, .int x1] ρ ρ S Q := by
  refine CALL.of mdX12_sized.2.2.2.2 (Nat.le_of_ble_eq_true rfl) (Nat.le_refl _) (Nat.le_refl _) ?_
  show AW g ρ (QI Q) (d + 1) mX12_sized 0 [(0, .ref 80), (1, .int x1)] [] ρ S
  refine AW_aload_n 0 (n := 0) rfl dX12_sized_0 rfl ?_
  refine AW_iload_n 1 (n := 1) rfl dX12_sized_1 rfl ?_
  refine AW_callVi (M := mX12_sized) (pc := 2) (As := [.int x1]) (ρ1 := ρ) (st := []) dX12_sized_2 mdX12_whyNot rfl mlX12_385 imX12_whyNot seX12_whyNot (rcv_of (q := (RX12, TX12, 40)) (Nat.le_of_ble_eq_true rfl) (okn hρ (Nat.le_of_ble_eq_true rfl)) rfl rfl) ⟨rfl, npX12_whyNot⟩ (Nat.le_of_ble_eq_true rfl) (Nat.le_refl _) (Nat.le_refl _) rfl (CALLi.mono h (fun v1 S1 _ h => ?_))
  refine AW_istore_n (n := 2) (i := 2) rfl dX12_sized_5 (Nat.le_of_ble_eq_true rfl) rfl ?_
  refine AW_iload_n 0 (n := 2) rfl dX12_sized_6 rfl ?_
  refine AW_if_ge dX12_sized_7 rfl (iteM h (fun h => ?_) (fun h => ?_))
  · refine AW_aload_n 1 (n := 0) rfl dX12_sized_14 rfl ?_
    refine AW_get dX12_sized_15 flX12_343 (Nat.le_of_ble_eq_true rfl) (okn hρ (Nat.le_of_ble_eq_true rfl)) rfl (v := .int (S1.1 80 36)) (fun _ => rfl) ?_
    exact AW_reti dX12_sized_18 rfl h
  · refine AW_iload_n 0 (n := 2) rfl dX12_sized_10 rfl ?_
    refine AW_goto (tgt := 18) dX12_sized_11 rfl ?_
    exact AW_reti dX12_sized_18 rfl h
set_option maxRecDepth 20000 in
theorem eX12_apart {g : GX} {Q : Int32 → St → Prop} {d : Nat} {ρ : Rs} {S : St} (hρ : Ok ρ) {x1 : Int32} {x2 : Int32} (h : CALLi g d mX12_whyNot [.ref 80, .int x1] ρ ρ S (fun v1 S1 => if 0 ≤ v1 then CALLi g d mX12_in [.long x2.toInt64, .long 0, .long (((S1.1 80 32) - 1).toInt64)] ρ ρ S1 (fun v2 S2 => if v2 = 0 then Q (-2) S2 else vp_in x2 1000 ∧ (Q (S2.1 91 x2.toNatClampNeg) S2)) else Q v1 S1)) : CALLi g (d + 1) mX12_apart [.ref 80, .int x1, .int x2] ρ ρ S Q := by
  refine CALL.of mdX12_apart.2.2.2.2 (Nat.le_of_ble_eq_true rfl) (Nat.le_refl _) (Nat.le_refl _) ?_
  show AW g ρ (QI Q) (d + 1) mX12_apart 0 [(0, .ref 80), (1, .int x1), (2, .int x2)] [] ρ S
  refine AW_aload_n 0 (n := 0) rfl dX12_apart_0 rfl ?_
  refine AW_iload_n 1 (n := 1) rfl dX12_apart_1 rfl ?_
  refine AW_callVi (M := mX12_apart) (pc := 2) (As := [.int x1]) (ρ1 := ρ) (st := []) dX12_apart_2 mdX12_whyNot rfl mlX12_385 imX12_whyNot seX12_whyNot (rcv_of (q := (RX12, TX12, 40)) (Nat.le_of_ble_eq_true rfl) (okn hρ (Nat.le_of_ble_eq_true rfl)) rfl rfl) ⟨rfl, npX12_whyNot⟩ (Nat.le_of_ble_eq_true rfl) (Nat.le_refl _) (Nat.le_refl _) rfl (CALLi.mono h (fun v1 S1 _ h => ?_))
  refine AW_istore_n (n := 3) (i := 3) rfl dX12_apart_5 (Nat.le_of_ble_eq_true rfl) rfl ?_
  refine AW_iload_n 0 (n := 3) rfl dX12_apart_6 rfl ?_
  refine AW_if_ge dX12_apart_7 rfl (iteM h (fun h => ?_) (fun h => ?_))
  · refine AW_iload_n 3 (n := 2) rfl dX12_apart_12 rfl ?_
    refine AW_i2l dX12_apart_13 ?_
    refine AW_lconst (v := 0) dX12_apart_14 rfl ?_
    refine AW_aload_n 1 (n := 0) rfl dX12_apart_15 rfl ?_
    refine AW_get dX12_apart_16 flX12_328 (Nat.le_of_ble_eq_true rfl) (okn hρ (Nat.le_of_ble_eq_true rfl)) rfl (v := .int (S1.1 80 32)) (fun _ => rfl) ?_
    refine AW_iconst (v := 1) dX12_apart_19 rfl ?_
    refine AW_isub dX12_apart_20 ?_
    refine AW_i2l dX12_apart_21 ?_
    refine AW_callSi (M := mX12_apart) (pc := 22) (As := [.long x2.toInt64, .long 0, .long (((S1.1 80 32) - 1).toInt64)]) (ρ1 := ρ) (st := []) dX12_apart_22 mdX12_in mlX12_60 smX12_in ⟨rfl, npX12_in⟩ (Nat.le_of_ble_eq_true rfl) (Nat.le_refl _) (Nat.le_refl _) rfl (CALLi.mono h (fun v2 S2 _ h => ?_))
    refine AW_if_eq dX12_apart_25 rfl (iteM h (fun h => ?_) (fun h => ?_))
    · refine AW_bipush (v := (-2)) dX12_apart_37 rfl ?_
      exact AW_reti dX12_apart_39 rfl h
    · refine AW_aload_n 1 (n := 0) rfl dX12_apart_28 rfl ?_
      refine AW_get dX12_apart_29 flX12_45 (Nat.le_of_ble_eq_true rfl) (okn hρ (Nat.le_of_ble_eq_true rfl)) rfl (v := .ref 91) (fvR (okR hρ 61 rfl)) ?_
      refine AW_iload_n 3 (n := 2) rfl dX12_apart_32 rfl ?_
      refine AW_iaload dX12_apart_33 (Nat.le_of_ble_eq_true rfl) (okn hρ (Nat.le_of_ble_eq_true rfl)) rfl h.1 (v := S2.1 91 x2.toNatClampNeg) rfl ?_
      replace h := h.2
      refine AW_goto (tgt := 39) dX12_apart_34 rfl ?_
      exact AW_reti dX12_apart_39 rfl h
  · refine AW_iload_n 0 (n := 3) rfl dX12_apart_10 rfl ?_
    exact AW_reti dX12_apart_11 rfl h
set_option maxRecDepth 20000 in
theorem eX12_whyNotNow {g : GX} {Q : Int32 → St → Prop} {d : Nat} {ρ : Rs} {S : St} (hρ : Ok ρ) (h : CALLi g d mX12_is [.ref 80] ρ ρ S (fun v1 S1 => if v1 = 0 then Q (-2) S1 else CALLi g d mX12_listsAll [.ref 80] ρ ρ S1 (fun v2 S2 => if v2 = 0 then Q (-3) S2 else CALLv g d mX12_laysNow [.ref 80] ρ ρ S2 (fun S3 => CALLv g d mX12_begins [.ref 80] ρ ρ S3 (fun S4 => CALLi g d mX12_listedAt [.ref 80, .ref 85, .int 0] ρ ρ S4 (fun v5 S5 => CALLi g d mX12_spreads [.ref 80, .int v5, .int 0] ρ ρ S5 (fun v6 S6 => Q 0 S6))))))) : CALLi g (d + 1) mX12_whyNotNow [.ref 80] ρ ρ S Q := by
  refine CALL.of mdX12_whyNotNow.2.2.2.2 (Nat.le_of_ble_eq_true rfl) (Nat.le_refl _) (Nat.le_refl _) ?_
  show AW g ρ (QI Q) (d + 1) mX12_whyNotNow 0 [(0, .ref 80)] [] ρ S
  refine AW_aload_n 0 (n := 0) rfl dX12_whyNotNow_0 rfl ?_
  refine AW_callVi (M := mX12_whyNotNow) (pc := 1) (As := []) (ρ1 := ρ) (st := []) dX12_whyNotNow_1 mdX12_is rfl mlX12_265 imX12_is seX12_is (rcv_of (q := (RX12, TX12, 40)) (Nat.le_of_ble_eq_true rfl) (okn hρ (Nat.le_of_ble_eq_true rfl)) rfl rfl) ⟨rfl, npX12_is⟩ (Nat.le_of_ble_eq_true rfl) (Nat.le_refl _) (Nat.le_refl _) rfl (CALLi.mono h (fun v1 S1 _ h => ?_))
  refine AW_if_ne dX12_whyNotNow_4 rfl (iteM h (fun h => ?_) (fun h => ?_))
  · refine AW_bipush (v := (-2)) dX12_whyNotNow_7 rfl ?_
    exact AW_reti dX12_whyNotNow_9 rfl h
  · refine AW_aload_n 0 (n := 0) rfl dX12_whyNotNow_10 rfl ?_
    refine AW_callVi (M := mX12_whyNotNow) (pc := 11) (As := []) (ρ1 := ρ) (st := []) dX12_whyNotNow_11 mdX12_listsAll rfl mlX12_372 imX12_listsAll seX12_listsAll (rcv_of (q := (RX12, TX12, 40)) (Nat.le_of_ble_eq_true rfl) (okn hρ (Nat.le_of_ble_eq_true rfl)) rfl rfl) ⟨rfl, npX12_listsAll⟩ (Nat.le_of_ble_eq_true rfl) (Nat.le_refl _) (Nat.le_refl _) rfl (CALLi.mono h (fun v2 S2 _ h => ?_))
    refine AW_if_ne dX12_whyNotNow_14 rfl (iteM h (fun h => ?_) (fun h => ?_))
    · refine AW_bipush (v := (-3)) dX12_whyNotNow_17 rfl ?_
      exact AW_reti dX12_whyNotNow_19 rfl h
    · refine AW_aload_n 0 (n := 0) rfl dX12_whyNotNow_20 rfl ?_
      refine AW_callVv (M := mX12_whyNotNow) (pc := 21) (As := []) (ρ1 := ρ) (st := []) dX12_whyNotNow_21 mdX12_laysNow rfl mlX12_293 imX12_laysNow seX12_laysNow (rcv_of (q := (RX12, TX12, 40)) (Nat.le_of_ble_eq_true rfl) (okn hρ (Nat.le_of_ble_eq_true rfl)) rfl rfl) ⟨rfl, npX12_laysNow⟩ (Nat.le_of_ble_eq_true rfl) (Nat.le_refl _) (Nat.le_refl _) rfl (CALLv.mono h (fun S3 _ h => ?_))
      refine AW_aload_n 0 (n := 0) rfl dX12_whyNotNow_24 rfl ?_
      refine AW_callVv (M := mX12_whyNotNow) (pc := 25) (As := []) (ρ1 := ρ) (st := []) dX12_whyNotNow_25 mdX12_begins rfl mlX12_375 imX12_begins seX12_begins (rcv_of (q := (RX12, TX12, 40)) (Nat.le_of_ble_eq_true rfl) (okn hρ (Nat.le_of_ble_eq_true rfl)) rfl rfl) ⟨rfl, npX12_begins⟩ (Nat.le_of_ble_eq_true rfl) (Nat.le_refl _) (Nat.le_refl _) rfl (CALLv.mono h (fun S4 _ h => ?_))
      refine AW_aload_n 0 (n := 0) rfl dX12_whyNotNow_28 rfl ?_
      refine AW_aload_n 0 (n := 0) rfl dX12_whyNotNow_29 rfl ?_
      refine AW_aload_n 0 (n := 0) rfl dX12_whyNotNow_30 rfl ?_
      refine AW_get dX12_whyNotNow_31 flX12_26 (Nat.le_of_ble_eq_true rfl) (okn hρ (Nat.le_of_ble_eq_true rfl)) rfl (v := .ref 85) (fvR (okR hρ 55 rfl)) ?_
      refine AW_iconst (v := 0) dX12_whyNotNow_34 rfl ?_
      refine AW_callVi (M := mX12_whyNotNow) (pc := 35) (As := [.ref 85, .int 0]) (ρ1 := ρ) (st := [.ref 80]) dX12_whyNotNow_35 mdX12_listedAt rfl mlX12_339 imX12_listedAt seX12_listedAt (rcv_of (q := (RX12, TX12, 40)) (Nat.le_of_ble_eq_true rfl) (okn hρ (Nat.le_of_ble_eq_true rfl)) rfl rfl) ⟨rfl, npX12_listedAt⟩ (Nat.le_of_ble_eq_true rfl) (Nat.le_refl _) (Nat.le_refl _) rfl (CALLi.mono h (fun v5 S5 _ h => ?_))
      refine AW_iconst (v := 0) dX12_whyNotNow_38 rfl ?_
      refine AW_callVi (M := mX12_whyNotNow) (pc := 39) (As := [.int v5, .int 0]) (ρ1 := ρ) (st := []) dX12_whyNotNow_39 mdX12_spreads rfl mlX12_378 imX12_spreads seX12_spreads (rcv_of (q := (RX12, TX12, 40)) (Nat.le_of_ble_eq_true rfl) (okn hρ (Nat.le_of_ble_eq_true rfl)) rfl rfl) ⟨rfl, npX12_spreads⟩ (Nat.le_of_ble_eq_true rfl) (Nat.le_refl _) (Nat.le_refl _) rfl (CALLi.mono h (fun v6 S6 _ h => ?_))
      refine AW_pop dX12_whyNotNow_42 rfl ?_
      refine AW_iconst (v := 0) dX12_whyNotNow_43 rfl ?_
      exact AW_reti dX12_whyNotNow_44 rfl h
set_option maxRecDepth 20000 in
theorem eX12_farOf_4 {g : GX} {Q : Int32 → St → Prop} {d : Nat} {ρ : Rs} {S : St} (hρ : Ok ρ) {x1 : Int32} {x2 : Int32} (h : if (S.1 80 32) ≤ x2 then Q x1 S else vp_in x2 1000 ∧ (AW g ρ (QI Q) (d + 1) mX12_farOf 4 [(0, .ref 80), (1, .int (if x1 < (S.1 91 x2.toNatClampNeg) then (S.1 91 x2.toNatClampNeg) else x1)), (2, .int (x2 + 1))] [] ρ S)) : AW g ρ (QI Q) (d + 1) mX12_farOf 4 [(0, .ref 80), (1, .int x1), (2, .int x2)] [] ρ S := by
  refine AW_iload_n 2 (n := 2) rfl dX12_farOf_4 rfl ?_
  refine AW_aload_n 0 (n := 0) rfl dX12_farOf_5 rfl ?_
  refine AW_get dX12_farOf_6 flX12_328 (Nat.le_of_ble_eq_true rfl) (okn hρ (Nat.le_of_ble_eq_true rfl)) rfl (v := .int (S.1 80 32)) (fun _ => rfl) ?_
  refine AW_icmp_ge dX12_farOf_9 rfl (iteM h (fun h => ?_) (fun h => ?_))
  · refine AW_iload_n 1 (n := 1) rfl dX12_farOf_29 rfl ?_
    exact AW_reti dX12_farOf_30 rfl h
  · refine AW_iload_n 1 (n := 1) rfl dX12_farOf_12 rfl ?_
    refine AW_aload_n 0 (n := 0) rfl dX12_farOf_13 rfl ?_
    refine AW_get dX12_farOf_14 flX12_45 (Nat.le_of_ble_eq_true rfl) (okn hρ (Nat.le_of_ble_eq_true rfl)) rfl (v := .ref 91) (fvR (okR hρ 61 rfl)) ?_
    refine AW_iload_n 2 (n := 2) rfl dX12_farOf_17 rfl ?_
    refine AW_iaload dX12_farOf_18 (Nat.le_of_ble_eq_true rfl) (okn hρ (Nat.le_of_ble_eq_true rfl)) rfl h.1 (v := S.1 91 x2.toNatClampNeg) rfl ?_
    replace h := h.2
    refine AW_mmaxI (M := mX12_farOf) (pc := 19) dX12_farOf_19 mlX12_260 wmmaxIS wMath wmmaxIC (Nat.le_of_ble_eq_true rfl) ?_ (Nat.le_refl _) (Nat.le_refl _)
    refine AW_istore_n (n := 1) (i := 1) rfl dX12_farOf_22 (Nat.le_of_ble_eq_true rfl) rfl ?_
    refine AW_iinc 2 (v := x2 + 1) dX12_farOf_23 rfl rfl (Nat.le_of_ble_eq_true rfl) rfl ?_
    refine AW_goto (tgt := 4) dX12_farOf_26 rfl ?_
    exact AW.sub [2, 1, 0] rfl h
set_option maxRecDepth 20000 in
theorem eX12_farOf {g : GX} {Q : Int32 → St → Prop} {d : Nat} {ρ : Rs} {S : St} (hρ : Ok ρ) (h : AW g ρ (QI Q) (d + 1) mX12_farOf 4 [(0, .ref 80), (1, .int 0), (2, .int 0)] [] ρ S) : CALLi g (d + 1) mX12_farOf [.ref 80] ρ ρ S Q := by
  refine CALL.of mdX12_farOf.2.2.2.2 (Nat.le_of_ble_eq_true rfl) (Nat.le_refl _) (Nat.le_refl _) ?_
  show AW g ρ (QI Q) (d + 1) mX12_farOf 0 [(0, .ref 80)] [] ρ S
  refine AW_iconst (v := 0) dX12_farOf_0 rfl ?_
  refine AW_istore_n (n := 1) (i := 1) rfl dX12_farOf_1 (Nat.le_of_ble_eq_true rfl) rfl ?_
  refine AW_iconst (v := 0) dX12_farOf_2 rfl ?_
  refine AW_istore_n (n := 2) (i := 2) rfl dX12_farOf_3 (Nat.le_of_ble_eq_true rfl) rfl ?_
  exact AW.sub [2, 1, 0] rfl h
set_option maxRecDepth 20000 in
theorem eX12_far {g : GX} {Q : Int32 → St → Prop} {d : Nat} {ρ : Rs} {S : St} (hρ : Ok ρ) (h : CALLi g d mX12_whyNotNow [.ref 80] ρ ρ S (fun v1 S1 => if 0 ≤ v1 then CALLi g d mX12_farOf [.ref 80] ρ ρ S1 (fun v2 S2 => Q v2 S2) else Q v1 S1)) : CALLi g (d + 1) mX12_far [.ref 80] ρ ρ S Q := by
  refine CALL.of mdX12_far.2.2.2.2 (Nat.le_of_ble_eq_true rfl) (Nat.le_refl _) (Nat.le_refl _) ?_
  show AW g ρ (QI Q) (d + 1) mX12_far 0 [(0, .ref 80)] [] ρ S
  refine AW_aload_n 0 (n := 0) rfl dX12_far_0 rfl ?_
  refine AW_callVi (M := mX12_far) (pc := 1) (As := []) (ρ1 := ρ) (st := []) dX12_far_1 mdX12_whyNotNow rfl mlX12_388 imX12_whyNotNow seX12_whyNotNow (rcv_of (q := (RX12, TX12, 40)) (Nat.le_of_ble_eq_true rfl) (okn hρ (Nat.le_of_ble_eq_true rfl)) rfl rfl) ⟨rfl, npX12_whyNotNow⟩ (Nat.le_of_ble_eq_true rfl) (Nat.le_refl _) (Nat.le_refl _) rfl (CALLi.mono h (fun v1 S1 _ h => ?_))
  refine AW_istore_n (n := 1) (i := 1) rfl dX12_far_4 (Nat.le_of_ble_eq_true rfl) rfl ?_
  refine AW_iload_n 0 (n := 1) rfl dX12_far_5 rfl ?_
  refine AW_if_ge dX12_far_6 rfl (iteM h (fun h => ?_) (fun h => ?_))
  · refine AW_aload_n 1 (n := 0) rfl dX12_far_13 rfl ?_
    refine AW_callVi (M := mX12_far) (pc := 14) (As := []) (ρ1 := ρ) (st := []) dX12_far_14 mdX12_farOf rfl mlX12_391 imX12_farOf seX12_farOf (rcv_of (q := (RX12, TX12, 40)) (Nat.le_of_ble_eq_true rfl) (okn hρ (Nat.le_of_ble_eq_true rfl)) rfl rfl) ⟨rfl, npX12_farOf⟩ (Nat.le_of_ble_eq_true rfl) (Nat.le_refl _) (Nat.le_refl _) rfl (CALLi.mono h (fun v2 S2 _ h => ?_))
    exact AW_reti dX12_far_17 rfl h
  · refine AW_iload_n 0 (n := 1) rfl dX12_far_9 rfl ?_
    refine AW_goto (tgt := 17) dX12_far_10 rfl ?_
    exact AW_reti dX12_far_17 rfl h
set_option maxRecDepth 20000 in
theorem eX12_farthest_13 {g : GX} {Q : Int32 → St → Prop} {d : Nat} {ρ : Rs} {S : St} (hρ : Ok ρ) {x2 : Int32} (h : vp_in x2 1000 ∧ (CALLi g d mX12_farOf [.ref 80] ρ ρ S (fun v1 S1 => if (S.1 91 x2.toNatClampNeg) = v1 then Q x2 S1 else AW g ρ (QI Q) (d + 1) mX12_farthest 13 [(0, .ref 80), (2, .int (x2 + 1))] [] ρ S1))) : AW g ρ (QI Q) (d + 1) mX12_farthest 13 [(0, .ref 80), (2, .int x2)] [] ρ S := by
  refine AW_aload_n 0 (n := 0) rfl dX12_farthest_13 rfl ?_
  refine AW_get dX12_farthest_14 flX12_45 (Nat.le_of_ble_eq_true rfl) (okn hρ (Nat.le_of_ble_eq_true rfl)) rfl (v := .ref 91) (fvR (okR hρ 61 rfl)) ?_
  refine AW_iload_n 1 (n := 2) rfl dX12_farthest_17 rfl ?_
  refine AW_iaload dX12_farthest_18 (Nat.le_of_ble_eq_true rfl) (okn hρ (Nat.le_of_ble_eq_true rfl)) rfl h.1 (v := S.1 91 x2.toNatClampNeg) rfl ?_
  replace h := h.2
  refine AW_aload_n 0 (n := 0) rfl dX12_farthest_19 rfl ?_
  refine AW_callVi (M := mX12_farthest) (pc := 20) (As := []) (ρ1 := ρ) (st := [.int (S.1 91 x2.toNatClampNeg)]) dX12_farthest_20 mdX12_farOf rfl mlX12_391 imX12_farOf seX12_farOf (rcv_of (q := (RX12, TX12, 40)) (Nat.le_of_ble_eq_true rfl) (okn hρ (Nat.le_of_ble_eq_true rfl)) rfl rfl) ⟨rfl, npX12_farOf⟩ (Nat.le_of_ble_eq_true rfl) (Nat.le_refl _) (Nat.le_refl _) rfl (CALLi.mono h (fun v1 S1 _ h => ?_))
  refine AW_icmp_eq dX12_farthest_23 rfl (iteM h (fun h => ?_) (fun h => ?_))
  · refine AW_iload_n 1 (n := 2) rfl dX12_farthest_32 rfl ?_
    exact AW_reti dX12_farthest_33 rfl h
  · refine AW_iinc 1 (v := x2 + 1) dX12_farthest_26 rfl rfl (Nat.le_of_ble_eq_true rfl) rfl ?_
    refine AW_goto (tgt := 13) dX12_farthest_29 rfl ?_
    exact AW.sub [1, 0] rfl h
set_option maxRecDepth 20000 in
theorem eX12_farthest {g : GX} {Q : Int32 → St → Prop} {d : Nat} {ρ : Rs} {S : St} (hρ : Ok ρ) (h : CALLi g d mX12_whyNotNow [.ref 80] ρ ρ S (fun v1 S1 => if 0 ≤ v1 then AW g ρ (QI Q) (d + 1) mX12_farthest 13 [(0, .ref 80), (2, .int 0)] [] ρ S1 else Q v1 S1)) : CALLi g (d + 1) mX12_farthest [.ref 80] ρ ρ S Q := by
  refine CALL.of mdX12_farthest.2.2.2.2 (Nat.le_of_ble_eq_true rfl) (Nat.le_refl _) (Nat.le_refl _) ?_
  show AW g ρ (QI Q) (d + 1) mX12_farthest 0 [(0, .ref 80)] [] ρ S
  refine AW_aload_n 0 (n := 0) rfl dX12_farthest_0 rfl ?_
  refine AW_callVi (M := mX12_farthest) (pc := 1) (As := []) (ρ1 := ρ) (st := []) dX12_farthest_1 mdX12_whyNotNow rfl mlX12_388 imX12_whyNotNow seX12_whyNotNow (rcv_of (q := (RX12, TX12, 40)) (Nat.le_of_ble_eq_true rfl) (okn hρ (Nat.le_of_ble_eq_true rfl)) rfl rfl) ⟨rfl, npX12_whyNotNow⟩ (Nat.le_of_ble_eq_true rfl) (Nat.le_refl _) (Nat.le_refl _) rfl (CALLi.mono h (fun v1 S1 _ h => ?_))
  refine AW_istore_n (n := 1) (i := 1) rfl dX12_farthest_4 (Nat.le_of_ble_eq_true rfl) rfl ?_
  refine AW_iload_n 0 (n := 1) rfl dX12_farthest_5 rfl ?_
  refine AW_if_ge dX12_farthest_6 rfl (iteM h (fun h => ?_) (fun h => ?_))
  · refine AW_iconst (v := 0) dX12_farthest_11 rfl ?_
    refine AW_istore_n (n := 2) (i := 2) rfl dX12_farthest_12 (Nat.le_of_ble_eq_true rfl) rfl ?_
    exact AW.sub [2, 0] rfl h
  · refine AW_iload_n 0 (n := 1) rfl dX12_farthest_9 rfl ?_
    exact AW_reti dX12_farthest_10 rfl h
set_option maxRecDepth 20000 in
theorem eX12_within_31 {g : GX} {Q : Int32 → St → Prop} {d : Nat} {ρ : Rs} {S : St} (hρ : Ok ρ) {x1 : Int32} {x3 : Int32} {x4 : Int32} (h : if (S.1 80 32) ≤ x4 then Q x3 S else vp_in x4 1000 ∧ (CALLi g d mX12_in [.long ((S.1 91 x4.toNatClampNeg).toInt64), .long 0, .long x1.toInt64] ρ ρ S (fun v1 S1 => if v1 = 0 then AW g ρ (QI Q) (d + 1) mX12_within 31 [(0, .ref 80), (1, .int x1), (3, .int (x3 + 0)), (4, .int (x4 + 1))] [] ρ S1 else AW g ρ (QI Q) (d + 1) mX12_within 31 [(0, .ref 80), (1, .int x1), (3, .int (x3 + 1)), (4, .int (x4 + 1))] [] ρ S1))) : AW g ρ (QI Q) (d + 1) mX12_within 31 [(0, .ref 80), (1, .int x1), (3, .int x3), (4, .int x4)] [] ρ S := by
  refine AW_iload 3 dX12_within_31 rfl ?_
  refine AW_aload_n 0 (n := 0) rfl dX12_within_33 rfl ?_
  refine AW_get dX12_within_34 flX12_328 (Nat.le_of_ble_eq_true rfl) (okn hρ (Nat.le_of_ble_eq_true rfl)) rfl (v := .int (S.1 80 32)) (fun _ => rfl) ?_
  refine AW_icmp_ge dX12_within_37 rfl (iteM h (fun h => ?_) (fun h => ?_))
  · refine AW_iload_n 2 (n := 3) rfl dX12_within_71 rfl ?_
    exact AW_reti dX12_within_72 rfl h
  · refine AW_iload_n 2 (n := 3) rfl dX12_within_40 rfl ?_
    refine AW_aload_n 0 (n := 0) rfl dX12_within_41 rfl ?_
    refine AW_get dX12_within_42 flX12_45 (Nat.le_of_ble_eq_true rfl) (okn hρ (Nat.le_of_ble_eq_true rfl)) rfl (v := .ref 91) (fvR (okR hρ 61 rfl)) ?_
    refine AW_iload 3 dX12_within_45 rfl ?_
    refine AW_iaload dX12_within_47 (Nat.le_of_ble_eq_true rfl) (okn hρ (Nat.le_of_ble_eq_true rfl)) rfl h.1 (v := S.1 91 x4.toNatClampNeg) rfl ?_
    replace h := h.2
    refine AW_i2l dX12_within_48 ?_
    refine AW_lconst (v := 0) dX12_within_49 rfl ?_
    refine AW_iload_n 1 (n := 1) rfl dX12_within_50 rfl ?_
    refine AW_i2l dX12_within_51 ?_
    refine AW_callSi (M := mX12_within) (pc := 52) (As := [.long ((S.1 91 x4.toNatClampNeg).toInt64), .long 0, .long x1.toInt64]) (ρ1 := ρ) (st := [.int x3]) dX12_within_52 mdX12_in mlX12_60 smX12_in ⟨rfl, npX12_in⟩ (Nat.le_of_ble_eq_true rfl) (Nat.le_refl _) (Nat.le_refl _) rfl (CALLi.mono h (fun v1 S1 _ h => ?_))
    refine AW_if_eq dX12_within_55 rfl (iteM h (fun h => ?_) (fun h => ?_))
    · refine AW_iconst (v := 0) dX12_within_62 rfl ?_
      refine AW_iadd dX12_within_63 ?_
      refine AW_istore_n (n := 3) (i := 3) rfl dX12_within_64 (Nat.le_of_ble_eq_true rfl) rfl ?_
      refine AW_iinc 3 (v := x4 + 1) dX12_within_65 rfl rfl (Nat.le_of_ble_eq_true rfl) rfl ?_
      refine AW_goto (tgt := 31) dX12_within_68 rfl ?_
      exact AW.sub [2, 3, 1, 0] rfl h
    · refine AW_iconst (v := 1) dX12_within_58 rfl ?_
      refine AW_goto (tgt := 63) dX12_within_59 rfl ?_
      refine AW_iadd dX12_within_63 ?_
      refine AW_istore_n (n := 3) (i := 3) rfl dX12_within_64 (Nat.le_of_ble_eq_true rfl) rfl ?_
      refine AW_iinc 3 (v := x4 + 1) dX12_within_65 rfl rfl (Nat.le_of_ble_eq_true rfl) rfl ?_
      refine AW_goto (tgt := 31) dX12_within_68 rfl ?_
      exact AW.sub [2, 3, 1, 0] rfl h
set_option maxRecDepth 20000 in
theorem eX12_within {g : GX} {Q : Int32 → St → Prop} {d : Nat} {ρ : Rs} {S : St} (hρ : Ok ρ) {x1 : Int32} (h : CALLi g d mX12_in [.long x1.toInt64, .long 0, .long 40] ρ ρ S (fun v1 S1 => if v1 = 0 then Q (-2) S1 else CALLi g d mX12_whyNotNow [.ref 80] ρ ρ S1 (fun v2 S2 => if 0 ≤ v2 then AW g ρ (QI Q) (d + 1) mX12_within 31 [(0, .ref 80), (1, .int x1), (3, .int 0), (4, .int 0)] [] ρ S2 else Q v2 S2))) : CALLi g (d + 1) mX12_within [.ref 80, .int x1] ρ ρ S Q := by
  refine CALL.of mdX12_within.2.2.2.2 (Nat.le_of_ble_eq_true rfl) (Nat.le_refl _) (Nat.le_refl _) ?_
  show AW g ρ (QI Q) (d + 1) mX12_within 0 [(0, .ref 80), (1, .int x1)] [] ρ S
  refine AW_iload_n 1 (n := 1) rfl dX12_within_0 rfl ?_
  refine AW_i2l dX12_within_1 ?_
  refine AW_lconst (v := 0) dX12_within_2 rfl ?_
  refine AW_ldc2 (v := 40) dX12_within_3 kcX12_394 ?_
  refine AW_callSi (M := mX12_within) (pc := 6) (As := [.long x1.toInt64, .long 0, .long 40]) (ρ1 := ρ) (st := []) dX12_within_6 mdX12_in mlX12_60 smX12_in ⟨rfl, npX12_in⟩ (Nat.le_of_ble_eq_true rfl) (Nat.le_refl _) (Nat.le_refl _) rfl (CALLi.mono h (fun v1 S1 _ h => ?_))
  refine AW_if_ne dX12_within_9 rfl (iteM h (fun h => ?_) (fun h => ?_))
  · refine AW_bipush (v := (-2)) dX12_within_12 rfl ?_
    exact AW_reti dX12_within_14 rfl h
  · refine AW_aload_n 0 (n := 0) rfl dX12_within_15 rfl ?_
    refine AW_callVi (M := mX12_within) (pc := 16) (As := []) (ρ1 := ρ) (st := []) dX12_within_16 mdX12_whyNotNow rfl mlX12_388 imX12_whyNotNow seX12_whyNotNow (rcv_of (q := (RX12, TX12, 40)) (Nat.le_of_ble_eq_true rfl) (okn hρ (Nat.le_of_ble_eq_true rfl)) rfl rfl) ⟨rfl, npX12_whyNotNow⟩ (Nat.le_of_ble_eq_true rfl) (Nat.le_refl _) (Nat.le_refl _) rfl (CALLi.mono h (fun v2 S2 _ h => ?_))
    refine AW_istore_n (n := 2) (i := 2) rfl dX12_within_19 (Nat.le_of_ble_eq_true rfl) rfl ?_
    refine AW_iload_n 0 (n := 2) rfl dX12_within_20 rfl ?_
    refine AW_if_ge dX12_within_21 rfl (iteM h (fun h => ?_) (fun h => ?_))
    · refine AW_iconst (v := 0) dX12_within_26 rfl ?_
      refine AW_istore_n (n := 3) (i := 3) rfl dX12_within_27 (Nat.le_of_ble_eq_true rfl) rfl ?_
      refine AW_iconst (v := 0) dX12_within_28 rfl ?_
      refine AW_istore dX12_within_29 (Nat.le_of_ble_eq_true rfl) rfl ?_
      exact AW.sub [3, 4, 1, 0] rfl h
    · refine AW_iload_n 0 (n := 2) rfl dX12_within_24 rfl ?_
      exact AW_reti dX12_within_25 rfl h
set_option maxRecDepth 20000 in
theorem eX12_ways_107 {g : GX} {Q : Int64 → St → Prop} {d : Nat} {ρ : Rs} {S : St} (hρ : Ok ρ) {x1 : Int32} {x2 : Int32} {x4 : Int32} (h : if x1 ≤ x4 then vp_in x2 1000 ∧ (Q (S.2 93 x2.toNatClampNeg) S) else CALLv g d mX12_goesOn [.ref 80] ρ ρ S (fun S1 => AW g ρ (QJ Q) (d + 1) mX12_ways 107 [(0, .ref 80), (1, .int x1), (2, .int x2), (4, .int (x4 + 1))] [] ρ S1)) : AW g ρ (QJ Q) (d + 1) mX12_ways 107 [(0, .ref 80), (1, .int x1), (2, .int x2), (4, .int x4)] [] ρ S := by
  refine AW_iload 3 dX12_ways_107 rfl ?_
  refine AW_iload_n 1 (n := 1) rfl dX12_ways_109 rfl ?_
  refine AW_icmp_ge dX12_ways_110 rfl (iteM h (fun h => ?_) (fun h => ?_))
  · refine AW_aload_n 0 (n := 0) rfl dX12_ways_123 rfl ?_
    refine AW_get dX12_ways_124 flX12_51 (Nat.le_of_ble_eq_true rfl) (okn hρ (Nat.le_of_ble_eq_true rfl)) rfl (v := .ref 93) (fvR (okR hρ 63 rfl)) ?_
    refine AW_iload_n 2 (n := 2) rfl dX12_ways_127 rfl ?_
    refine AW_laload dX12_ways_128 (Nat.le_of_ble_eq_true rfl) (okn hρ (Nat.le_of_ble_eq_true rfl)) rfl h.1 (v := S.2 93 x2.toNatClampNeg) rfl ?_
    replace h := h.2
    exact AW_retl dX12_ways_129 rfl h
  · refine AW_aload_n 0 (n := 0) rfl dX12_ways_113 rfl ?_
    refine AW_callVv (M := mX12_ways) (pc := 114) (As := []) (ρ1 := ρ) (st := []) dX12_ways_114 mdX12_goesOn rfl mlX12_400 imX12_goesOn seX12_goesOn (rcv_of (q := (RX12, TX12, 40)) (Nat.le_of_ble_eq_true rfl) (okn hρ (Nat.le_of_ble_eq_true rfl)) rfl rfl) ⟨rfl, npX12_goesOn⟩ (Nat.le_of_ble_eq_true rfl) (Nat.le_refl _) (Nat.le_refl _) rfl (CALLv.mono h (fun S1 _ h => ?_))
    refine AW_iinc 3 (v := x4 + 1) dX12_ways_117 rfl rfl (Nat.le_of_ble_eq_true rfl) rfl ?_
    refine AW_goto (tgt := 107) dX12_ways_120 rfl ?_
    exact AW.sub [1, 2, 3, 0] rfl h
set_option maxRecDepth 20000 in
theorem eX12_ways_71 {g : GX} {Q : Int64 → St → Prop} {d : Nat} {ρ : Rs} {S : St} (hρ : Ok ρ) {x1 : Int32} {x2 : Int32} {x3 : Int32} {x4 : Int32} (hF : ∀ k ∈ ([93] : List Nat), gF g k) (h : if (S.1 80 32) ≤ x4 then AW g ρ (QJ Q) (d + 1) mX12_ways 107 [(0, .ref 80), (1, .int x1), (2, .int x2), (4, .int 0)] [] ρ S else if x4 = x3 then vp_in x4 1000 ∧ (AW g ρ (QJ Q) (d + 1) mX12_ways 71 [(0, .ref 80), (1, .int x1), (2, .int x2), (3, .int x3), (4, .int (x4 + 1))] [] ρ (setL S 93 x4.toNatClampNeg 1)) else vp_in x4 1000 ∧ (AW g ρ (QJ Q) (d + 1) mX12_ways 71 [(0, .ref 80), (1, .int x1), (2, .int x2), (3, .int x3), (4, .int (x4 + 1))] [] ρ (setL S 93 x4.toNatClampNeg 0))) : AW g ρ (QJ Q) (d + 1) mX12_ways 71 [(0, .ref 80), (1, .int x1), (2, .int x2), (3, .int x3), (4, .int x4)] [] ρ S := by
  refine AW_iload 4 dX12_ways_71 rfl ?_
  refine AW_aload_n 0 (n := 0) rfl dX12_ways_73 rfl ?_
  refine AW_get dX12_ways_74 flX12_328 (Nat.le_of_ble_eq_true rfl) (okn hρ (Nat.le_of_ble_eq_true rfl)) rfl (v := .int (S.1 80 32)) (fun _ => rfl) ?_
  refine AW_icmp_ge dX12_ways_77 rfl (iteM h (fun h => ?_) (fun h => ?_))
  · refine AW_iconst (v := 0) dX12_ways_104 rfl ?_
    refine AW_istore dX12_ways_105 (Nat.le_of_ble_eq_true rfl) rfl ?_
    exact AW.sub [1, 2, 3, 0] rfl h
  · refine AW_aload_n 0 (n := 0) rfl dX12_ways_80 rfl ?_
    refine AW_get dX12_ways_81 flX12_51 (Nat.le_of_ble_eq_true rfl) (okn hρ (Nat.le_of_ble_eq_true rfl)) rfl (v := .ref 93) (fvR (okR hρ 63 rfl)) ?_
    refine AW_iload 4 dX12_ways_84 rfl ?_
    refine AW_iload 4 dX12_ways_86 rfl ?_
    refine AW_iload_n 3 (n := 3) rfl dX12_ways_88 rfl ?_
    refine AW_icmp_ne dX12_ways_89 rfl (iteM h (fun h => ?_) (fun h => ?_))
    · refine AW_lconst (v := 1) dX12_ways_92 rfl ?_
      refine AW_goto (tgt := 97) dX12_ways_93 rfl ?_
      refine AW_lastore dX12_ways_97 (Nat.le_of_ble_eq_true rfl) (okn hρ (Nat.le_of_ble_eq_true rfl)) rfl h.1 (hF _ (List.mem_of_getElem? (i := 0) rfl)) (jx := x4.toNatClampNeg) rfl ?_
      replace h := h.2
      refine AW_iinc 4 (v := x4 + 1) dX12_ways_98 rfl rfl (Nat.le_of_ble_eq_true rfl) rfl ?_
      refine AW_goto (tgt := 71) dX12_ways_101 rfl ?_
      exact AW.sub [1, 2, 3, 4, 0] rfl h
    · refine AW_lconst (v := 0) dX12_ways_96 rfl ?_
      refine AW_lastore dX12_ways_97 (Nat.le_of_ble_eq_true rfl) (okn hρ (Nat.le_of_ble_eq_true rfl)) rfl h.1 (hF _ (List.mem_of_getElem? (i := 0) rfl)) (jx := x4.toNatClampNeg) rfl ?_
      replace h := h.2
      refine AW_iinc 4 (v := x4 + 1) dX12_ways_98 rfl rfl (Nat.le_of_ble_eq_true rfl) rfl ?_
      refine AW_goto (tgt := 71) dX12_ways_101 rfl ?_
      exact AW.sub [1, 2, 3, 4, 0] rfl h
set_option maxRecDepth 20000 in
theorem eX12_ways {g : GX} {Q : Int64 → St → Prop} {d : Nat} {ρ : Rs} {S : St} (hρ : Ok ρ) {x1 : Int32} {x2 : Int32} (h : CALLi g d mX12_in [.long x1.toInt64, .long 0, .long 4] ρ ρ S (fun v1 S1 => if v1 = 0 then Q (-2) S1 else CALLi g d mX12_is [.ref 80] ρ ρ S1 (fun v2 S2 => if v2 = 0 then Q (-2) S2 else CALLi g d mX12_listsAll [.ref 80] ρ ρ S2 (fun v3 S3 => if v3 = 0 then Q (-3) S3 else CALLi g d mX12_in [.long x2.toInt64, .long 0, .long (((S3.1 80 32) - 1).toInt64)] ρ ρ S3 (fun v4 S4 => if v4 = 0 then Q (-2) S4 else CALLv g d mX12_laysNow [.ref 80] ρ ρ S4 (fun S5 => CALLi g d mX12_listedAt [.ref 80, .ref 85, .int 0] ρ ρ S5 (fun v6 S6 => AW g ρ (QJ Q) (d + 1) mX12_ways 71 [(0, .ref 80), (1, .int x1), (2, .int x2), (3, .int v6), (4, .int 0)] [] ρ S6))))))) : CALLl g (d + 1) mX12_ways [.ref 80, .int x1, .int x2] ρ ρ S Q := by
  refine CALL.of mdX12_ways.2.2.2.2 (Nat.le_of_ble_eq_true rfl) (Nat.le_refl _) (Nat.le_refl _) ?_
  show AW g ρ (QJ Q) (d + 1) mX12_ways 0 [(0, .ref 80), (1, .int x1), (2, .int x2)] [] ρ S
  refine AW_iload_n 1 (n := 1) rfl dX12_ways_0 rfl ?_
  refine AW_i2l dX12_ways_1 ?_
  refine AW_lconst (v := 0) dX12_ways_2 rfl ?_
  refine AW_ldc2 (v := 4) dX12_ways_3 kcX12_396 ?_
  refine AW_callSi (M := mX12_ways) (pc := 6) (As := [.long x1.toInt64, .long 0, .long 4]) (ρ1 := ρ) (st := []) dX12_ways_6 mdX12_in mlX12_60 smX12_in ⟨rfl, npX12_in⟩ (Nat.le_of_ble_eq_true rfl) (Nat.le_refl _) (Nat.le_refl _) rfl (CALLi.mono h (fun v1 S1 _ h => ?_))
  refine AW_if_eq dX12_ways_9 rfl (iteM h (fun h => ?_) (fun h => ?_))
  · refine AW_ldc2 (v := (-2)) dX12_ways_19 kcX12_272 ?_
    exact AW_retl dX12_ways_22 rfl h
  · refine AW_aload_n 0 (n := 0) rfl dX12_ways_12 rfl ?_
    refine AW_callVi (M := mX12_ways) (pc := 13) (As := []) (ρ1 := ρ) (st := []) dX12_ways_13 mdX12_is rfl mlX12_265 imX12_is seX12_is (rcv_of (q := (RX12, TX12, 40)) (Nat.le_of_ble_eq_true rfl) (okn hρ (Nat.le_of_ble_eq_true rfl)) rfl rfl) ⟨rfl, npX12_is⟩ (Nat.le_of_ble_eq_true rfl) (Nat.le_refl _) (Nat.le_refl _) rfl (CALLi.mono h (fun v2 S2 _ h => ?_))
    refine AW_if_ne dX12_ways_16 rfl (iteM h (fun h => ?_) (fun h => ?_))
    · refine AW_ldc2 (v := (-2)) dX12_ways_19 kcX12_272 ?_
      exact AW_retl dX12_ways_22 rfl h
    · refine AW_aload_n 0 (n := 0) rfl dX12_ways_23 rfl ?_
      refine AW_callVi (M := mX12_ways) (pc := 24) (As := []) (ρ1 := ρ) (st := []) dX12_ways_24 mdX12_listsAll rfl mlX12_372 imX12_listsAll seX12_listsAll (rcv_of (q := (RX12, TX12, 40)) (Nat.le_of_ble_eq_true rfl) (okn hρ (Nat.le_of_ble_eq_true rfl)) rfl rfl) ⟨rfl, npX12_listsAll⟩ (Nat.le_of_ble_eq_true rfl) (Nat.le_refl _) (Nat.le_refl _) rfl (CALLi.mono h (fun v3 S3 _ h => ?_))
      refine AW_if_ne dX12_ways_27 rfl (iteM h (fun h => ?_) (fun h => ?_))
      · refine AW_ldc2 (v := (-3)) dX12_ways_30 kcX12_398 ?_
        exact AW_retl dX12_ways_33 rfl h
      · refine AW_iload_n 2 (n := 2) rfl dX12_ways_34 rfl ?_
        refine AW_i2l dX12_ways_35 ?_
        refine AW_lconst (v := 0) dX12_ways_36 rfl ?_
        refine AW_aload_n 0 (n := 0) rfl dX12_ways_37 rfl ?_
        refine AW_get dX12_ways_38 flX12_328 (Nat.le_of_ble_eq_true rfl) (okn hρ (Nat.le_of_ble_eq_true rfl)) rfl (v := .int (S3.1 80 32)) (fun _ => rfl) ?_
        refine AW_iconst (v := 1) dX12_ways_41 rfl ?_
        refine AW_isub dX12_ways_42 ?_
        refine AW_i2l dX12_ways_43 ?_
        refine AW_callSi (M := mX12_ways) (pc := 44) (As := [.long x2.toInt64, .long 0, .long (((S3.1 80 32) - 1).toInt64)]) (ρ1 := ρ) (st := []) dX12_ways_44 mdX12_in mlX12_60 smX12_in ⟨rfl, npX12_in⟩ (Nat.le_of_ble_eq_true rfl) (Nat.le_refl _) (Nat.le_refl _) rfl (CALLi.mono h (fun v4 S4 _ h => ?_))
        refine AW_if_ne dX12_ways_47 rfl (iteM h (fun h => ?_) (fun h => ?_))
        · refine AW_ldc2 (v := (-2)) dX12_ways_50 kcX12_272 ?_
          exact AW_retl dX12_ways_53 rfl h
        · refine AW_aload_n 0 (n := 0) rfl dX12_ways_54 rfl ?_
          refine AW_callVv (M := mX12_ways) (pc := 55) (As := []) (ρ1 := ρ) (st := []) dX12_ways_55 mdX12_laysNow rfl mlX12_293 imX12_laysNow seX12_laysNow (rcv_of (q := (RX12, TX12, 40)) (Nat.le_of_ble_eq_true rfl) (okn hρ (Nat.le_of_ble_eq_true rfl)) rfl rfl) ⟨rfl, npX12_laysNow⟩ (Nat.le_of_ble_eq_true rfl) (Nat.le_refl _) (Nat.le_refl _) rfl (CALLv.mono h (fun S5 _ h => ?_))
          refine AW_aload_n 0 (n := 0) rfl dX12_ways_58 rfl ?_
          refine AW_aload_n 0 (n := 0) rfl dX12_ways_59 rfl ?_
          refine AW_get dX12_ways_60 flX12_26 (Nat.le_of_ble_eq_true rfl) (okn hρ (Nat.le_of_ble_eq_true rfl)) rfl (v := .ref 85) (fvR (okR hρ 55 rfl)) ?_
          refine AW_iconst (v := 0) dX12_ways_63 rfl ?_
          refine AW_callVi (M := mX12_ways) (pc := 64) (As := [.ref 85, .int 0]) (ρ1 := ρ) (st := []) dX12_ways_64 mdX12_listedAt rfl mlX12_339 imX12_listedAt seX12_listedAt (rcv_of (q := (RX12, TX12, 40)) (Nat.le_of_ble_eq_true rfl) (okn hρ (Nat.le_of_ble_eq_true rfl)) rfl rfl) ⟨rfl, npX12_listedAt⟩ (Nat.le_of_ble_eq_true rfl) (Nat.le_refl _) (Nat.le_refl _) rfl (CALLi.mono h (fun v6 S6 _ h => ?_))
          refine AW_istore_n (n := 3) (i := 3) rfl dX12_ways_67 (Nat.le_of_ble_eq_true rfl) rfl ?_
          refine AW_iconst (v := 0) dX12_ways_68 rfl ?_
          refine AW_istore dX12_ways_69 (Nat.le_of_ble_eq_true rfl) rfl ?_
          exact AW.sub [2, 3, 4, 1, 0] rfl h
set_option maxRecDepth 20000 in
theorem eX12_goesOn_115 {g : GX} {Q : St → Prop} {d : Nat} {ρ : Rs} {S : St} (hρ : Ok ρ) {x1 : Int32} (hF : ∀ k ∈ ([93] : List Nat), gF g k) (h : if (S.1 80 32) ≤ x1 then Q S else vp_in x1 1000 ∧ (vp_in x1 1000 ∧ (AW g ρ (QV Q) (d + 1) mX12_goesOn 115 [(0, .ref 80), (1, .int (x1 + 1))] [] ρ (setL S 93 x1.toNatClampNeg (S.2 94 x1.toNatClampNeg))))) : AW g ρ (QV Q) (d + 1) mX12_goesOn 115 [(0, .ref 80), (1, .int x1)] [] ρ S := by
  refine AW_iload_n 1 (n := 1) rfl dX12_goesOn_115 rfl ?_
  refine AW_aload_n 0 (n := 0) rfl dX12_goesOn_116 rfl ?_
  refine AW_get dX12_goesOn_117 flX12_328 (Nat.le_of_ble_eq_true rfl) (okn hρ (Nat.le_of_ble_eq_true rfl)) rfl (v := .int (S.1 80 32)) (fun _ => rfl) ?_
  refine AW_icmp_ge dX12_goesOn_120 rfl (iteM h (fun h => ?_) (fun h => ?_))
  · exact AW_retv dX12_goesOn_141 rfl h
  · refine AW_aload_n 0 (n := 0) rfl dX12_goesOn_123 rfl ?_
    refine AW_get dX12_goesOn_124 flX12_51 (Nat.le_of_ble_eq_true rfl) (okn hρ (Nat.le_of_ble_eq_true rfl)) rfl (v := .ref 93) (fvR (okR hρ 63 rfl)) ?_
    refine AW_iload_n 1 (n := 1) rfl dX12_goesOn_127 rfl ?_
    refine AW_aload_n 0 (n := 0) rfl dX12_goesOn_128 rfl ?_
    refine AW_get dX12_goesOn_129 flX12_54 (Nat.le_of_ble_eq_true rfl) (okn hρ (Nat.le_of_ble_eq_true rfl)) rfl (v := .ref 94) (fvR (okR hρ 64 rfl)) ?_
    refine AW_iload_n 1 (n := 1) rfl dX12_goesOn_132 rfl ?_
    refine AW_laload dX12_goesOn_133 (Nat.le_of_ble_eq_true rfl) (okn hρ (Nat.le_of_ble_eq_true rfl)) rfl h.1 (v := S.2 94 x1.toNatClampNeg) rfl ?_
    replace h := h.2
    refine AW_lastore dX12_goesOn_134 (Nat.le_of_ble_eq_true rfl) (okn hρ (Nat.le_of_ble_eq_true rfl)) rfl h.1 (hF _ (List.mem_of_getElem? (i := 0) rfl)) (jx := x1.toNatClampNeg) rfl ?_
    replace h := h.2
    refine AW_iinc 1 (v := x1 + 1) dX12_goesOn_135 rfl rfl (Nat.le_of_ble_eq_true rfl) rfl ?_
    refine AW_goto (tgt := 115) dX12_goesOn_138 rfl ?_
    exact AW.sub [1, 0] rfl h
set_option maxRecDepth 20000 in
theorem eX12_goesOn_35 {g : GX} {Q : St → Prop} {d : Nat} {ρ : Rs} {S : St} (hρ : Ok ρ) {x1 : Int32} {x2 : Int32} (hF : ∀ k ∈ ([94] : List Nat), gF g k) (h : CALLi g d mX12_choices [] ρ ρ S (fun v1 S1 => if v1 ≤ x2 then AW g ρ (QV Q) (d + 1) mX12_goesOn 25 [(0, .ref 80), (1, .int (x1 + 1))] [] ρ S1 else vp_in x1 1000 ∧ (if (S1.2 93 x1.toNatClampNeg) ≤ 0 then AW g ρ (QV Q) (d + 1) mX12_goesOn 25 [(0, .ref 80), (1, .int (x1 + 1))] [] ρ S1 else CALLi g d mX12_moreOf [.ref 80, .int x2] ρ ρ S1 (fun v2 S2 => if v2 ≤ 0 then AW g ρ (QV Q) (d + 1) mX12_goesOn 35 [(0, .ref 80), (1, .int x1), (2, .int (x2 + 1))] [] ρ S2 else CALLi g d mX12_lessOf [.ref 80, .int x2] ρ ρ S2 (fun v3 S3 => CALLi g d mX12_comesOf [.ref 80, .int x1, .int v2, .int v3] ρ ρ S3 (fun v4 S4 => if 0 ≤ v4 then vp_in v4 1000 ∧ (vp_in x1 1000 ∧ (vp_in v4 1000 ∧ (AW g ρ (QV Q) (d + 1) mX12_goesOn 35 [(0, .ref 80), (1, .int x1), (2, .int (x2 + 1))] [] ρ (setL S4 94 v4.toNatClampNeg ((S4.2 94 v4.toNatClampNeg) + (S4.2 93 x1.toNatClampNeg)))))) else vp_in x1 1000 ∧ (vp_in x1 1000 ∧ (vp_in x1 1000 ∧ (AW g ρ (QV Q) (d + 1) mX12_goesOn 35 [(0, .ref 80), (1, .int x1), (2, .int (x2 + 1))] [] ρ (setL S4 94 x1.toNatClampNeg ((S4.2 94 x1.toNatClampNeg) + (S4.2 93 x1.toNatClampNeg)))))))))))) : AW g ρ (QV Q) (d + 1) mX12_goesOn 35 [(0, .ref 80), (1, .int x1), (2, .int x2)] [] ρ S := by
  refine AW_iload_n 2 (n := 2) rfl dX12_goesOn_35 rfl ?_
  refine AW_callSi (M := mX12_goesOn) (pc := 36) (As := []) (ρ1 := ρ) (st := [.int x2]) dX12_goesOn_36 mdX12_choices mlX12_346 smX12_choices ⟨rfl, npX12_choices⟩ (Nat.le_of_ble_eq_true rfl) (Nat.le_refl _) (Nat.le_refl _) rfl (CALLi.mono h (fun v1 S1 _ h => ?_))
  refine AW_icmp_ge dX12_goesOn_39 rfl (iteM h (fun h => ?_) (fun h => ?_))
  · refine AW_iinc 1 (v := x1 + 1) dX12_goesOn_107 rfl rfl (Nat.le_of_ble_eq_true rfl) rfl ?_
    refine AW_goto (tgt := 25) dX12_goesOn_110 rfl ?_
    exact AW.sub [1, 0] rfl h
  · refine AW_aload_n 0 (n := 0) rfl dX12_goesOn_42 rfl ?_
    refine AW_get dX12_goesOn_43 flX12_51 (Nat.le_of_ble_eq_true rfl) (okn hρ (Nat.le_of_ble_eq_true rfl)) rfl (v := .ref 93) (fvR (okR hρ 63 rfl)) ?_
    refine AW_iload_n 1 (n := 1) rfl dX12_goesOn_46 rfl ?_
    refine AW_laload dX12_goesOn_47 (Nat.le_of_ble_eq_true rfl) (okn hρ (Nat.le_of_ble_eq_true rfl)) rfl h.1 (v := S1.2 93 x1.toNatClampNeg) rfl ?_
    replace h := h.2
    refine AW_lconst (v := 0) dX12_goesOn_48 rfl ?_
    refine AW_lc_le dX12_goesOn_49 dX12_goesOn_50 rfl (iteM h (fun h => ?_) (fun h => ?_))
    · refine AW_iinc 1 (v := x1 + 1) dX12_goesOn_107 rfl rfl (Nat.le_of_ble_eq_true rfl) rfl ?_
      refine AW_goto (tgt := 25) dX12_goesOn_110 rfl ?_
      exact AW.sub [1, 0] rfl h
    · refine AW_aload_n 0 (n := 0) rfl dX12_goesOn_53 rfl ?_
      refine AW_iload_n 2 (n := 2) rfl dX12_goesOn_54 rfl ?_
      refine AW_callVi (M := mX12_goesOn) (pc := 55) (As := [.int x2]) (ρ1 := ρ) (st := []) dX12_goesOn_55 mdX12_moreOf rfl mlX12_349 imX12_moreOf seX12_moreOf (rcv_of (q := (RX12, TX12, 40)) (Nat.le_of_ble_eq_true rfl) (okn hρ (Nat.le_of_ble_eq_true rfl)) rfl rfl) ⟨rfl, npX12_moreOf⟩ (Nat.le_of_ble_eq_true rfl) (Nat.le_refl _) (Nat.le_refl _) rfl (CALLi.mono h (fun v2 S2 _ h => ?_))
      refine AW_istore_n (n := 3) (i := 3) rfl dX12_goesOn_58 (Nat.le_of_ble_eq_true rfl) rfl ?_
      refine AW_iload_n 0 (n := 3) rfl dX12_goesOn_59 rfl ?_
      refine AW_if_le dX12_goesOn_60 rfl (iteM h (fun h => ?_) (fun h => ?_))
      · refine AW_iinc 3 (v := x2 + 1) dX12_goesOn_101 rfl rfl (Nat.le_of_ble_eq_true rfl) rfl ?_
        refine AW_goto (tgt := 35) dX12_goesOn_104 rfl ?_
        exact AW.sub [2, 3, 0] rfl h
      · refine AW_aload_n 1 (n := 0) rfl dX12_goesOn_63 rfl ?_
        refine AW_iload_n 2 (n := 1) rfl dX12_goesOn_64 rfl ?_
        refine AW_iload_n 0 (n := 3) rfl dX12_goesOn_65 rfl ?_
        refine AW_aload_n 1 (n := 0) rfl dX12_goesOn_66 rfl ?_
        refine AW_iload_n 3 (n := 2) rfl dX12_goesOn_67 rfl ?_
        refine AW_callVi (M := mX12_goesOn) (pc := 68) (As := [.int x2]) (ρ1 := ρ) (st := [.int v2, .int x1, .ref 80]) dX12_goesOn_68 mdX12_lessOf rfl mlX12_352 imX12_lessOf seX12_lessOf (rcv_of (q := (RX12, TX12, 40)) (Nat.le_of_ble_eq_true rfl) (okn hρ (Nat.le_of_ble_eq_true rfl)) rfl rfl) ⟨rfl, npX12_lessOf⟩ (Nat.le_of_ble_eq_true rfl) (Nat.le_refl _) (Nat.le_refl _) rfl (CALLi.mono h (fun v3 S3 _ h => ?_))
        refine AW_callVi (M := mX12_goesOn) (pc := 71) (As := [.int x1, .int v2, .int v3]) (ρ1 := ρ) (st := []) dX12_goesOn_71 mdX12_comesOf rfl mlX12_355 imX12_comesOf seX12_comesOf (rcv_of (q := (RX12, TX12, 40)) (Nat.le_of_ble_eq_true rfl) (okn hρ (Nat.le_of_ble_eq_true rfl)) rfl rfl) ⟨rfl, npX12_comesOf⟩ (Nat.le_of_ble_eq_true rfl) (Nat.le_refl _) (Nat.le_refl _) rfl (CALLi.mono h (fun v4 S4 _ h => ?_))
        refine AW_istore dX12_goesOn_74 (Nat.le_of_ble_eq_true rfl) rfl ?_
        refine AW_aload_n 2 (n := 0) rfl dX12_goesOn_76 rfl ?_
        refine AW_get dX12_goesOn_77 flX12_54 (Nat.le_of_ble_eq_true rfl) (okn hρ (Nat.le_of_ble_eq_true rfl)) rfl (v := .ref 94) (fvR (okR hρ 64 rfl)) ?_
        refine AW_iload 0 dX12_goesOn_80 rfl ?_
        refine AW_if_ge dX12_goesOn_82 rfl (iteM h (fun h => ?_) (fun h => ?_))
        · refine AW_iload 0 dX12_goesOn_89 rfl ?_
          refine AW_dup2_11 dX12_goesOn_91 rfl rfl ?_
          refine AW_laload dX12_goesOn_92 (Nat.le_of_ble_eq_true rfl) (okn hρ (Nat.le_of_ble_eq_true rfl)) rfl h.1 (v := S4.2 94 v4.toNatClampNeg) rfl ?_
          replace h := h.2
          refine AW_aload_n 2 (n := 0) rfl dX12_goesOn_93 rfl ?_
          refine AW_get dX12_goesOn_94 flX12_51 (Nat.le_of_ble_eq_true rfl) (okn hρ (Nat.le_of_ble_eq_true rfl)) rfl (v := .ref 93) (fvR (okR hρ 63 rfl)) ?_
          refine AW_iload_n 3 (n := 1) rfl dX12_goesOn_97 rfl ?_
          refine AW_laload dX12_goesOn_98 (Nat.le_of_ble_eq_true rfl) (okn hρ (Nat.le_of_ble_eq_true rfl)) rfl h.1 (v := S4.2 93 x1.toNatClampNeg) rfl ?_
          replace h := h.2
          refine AW_ladd dX12_goesOn_99 ?_
          refine AW_lastore dX12_goesOn_100 (Nat.le_of_ble_eq_true rfl) (okn hρ (Nat.le_of_ble_eq_true rfl)) rfl h.1 (hF _ (List.mem_of_getElem? (i := 0) rfl)) (jx := v4.toNatClampNeg) rfl ?_
          replace h := h.2
          refine AW_iinc 4 (v := x2 + 1) dX12_goesOn_101 rfl rfl (Nat.le_of_ble_eq_true rfl) rfl ?_
          refine AW_goto (tgt := 35) dX12_goesOn_104 rfl ?_
          exact AW.sub [3, 4, 0] rfl h
        · refine AW_iload_n 3 (n := 1) rfl dX12_goesOn_85 rfl ?_
          refine AW_goto (tgt := 91) dX12_goesOn_86 rfl ?_
          refine AW_dup2_11 dX12_goesOn_91 rfl rfl ?_
          refine AW_laload dX12_goesOn_92 (Nat.le_of_ble_eq_true rfl) (okn hρ (Nat.le_of_ble_eq_true rfl)) rfl h.1 (v := S4.2 94 x1.toNatClampNeg) rfl ?_
          replace h := h.2
          refine AW_aload_n 2 (n := 0) rfl dX12_goesOn_93 rfl ?_
          refine AW_get dX12_goesOn_94 flX12_51 (Nat.le_of_ble_eq_true rfl) (okn hρ (Nat.le_of_ble_eq_true rfl)) rfl (v := .ref 93) (fvR (okR hρ 63 rfl)) ?_
          refine AW_iload_n 3 (n := 1) rfl dX12_goesOn_97 rfl ?_
          refine AW_laload dX12_goesOn_98 (Nat.le_of_ble_eq_true rfl) (okn hρ (Nat.le_of_ble_eq_true rfl)) rfl h.1 (v := S4.2 93 x1.toNatClampNeg) rfl ?_
          replace h := h.2
          refine AW_ladd dX12_goesOn_99 ?_
          refine AW_lastore dX12_goesOn_100 (Nat.le_of_ble_eq_true rfl) (okn hρ (Nat.le_of_ble_eq_true rfl)) rfl h.1 (hF _ (List.mem_of_getElem? (i := 0) rfl)) (jx := x1.toNatClampNeg) rfl ?_
          replace h := h.2
          refine AW_iinc 4 (v := x2 + 1) dX12_goesOn_101 rfl rfl (Nat.le_of_ble_eq_true rfl) rfl ?_
          refine AW_goto (tgt := 35) dX12_goesOn_104 rfl ?_
          exact AW.sub [3, 4, 0] rfl h
set_option maxRecDepth 20000 in
theorem eX12_goesOn_25 {g : GX} {Q : St → Prop} {d : Nat} {ρ : Rs} {S : St} (hρ : Ok ρ) {x1 : Int32} (h : if (S.1 80 32) ≤ x1 then AW g ρ (QV Q) (d + 1) mX12_goesOn 115 [(0, .ref 80), (1, .int 0)] [] ρ S else AW g ρ (QV Q) (d + 1) mX12_goesOn 35 [(0, .ref 80), (1, .int x1), (2, .int 0)] [] ρ S) : AW g ρ (QV Q) (d + 1) mX12_goesOn 25 [(0, .ref 80), (1, .int x1)] [] ρ S := by
  refine AW_iload_n 1 (n := 1) rfl dX12_goesOn_25 rfl ?_
  refine AW_aload_n 0 (n := 0) rfl dX12_goesOn_26 rfl ?_
  refine AW_get dX12_goesOn_27 flX12_328 (Nat.le_of_ble_eq_true rfl) (okn hρ (Nat.le_of_ble_eq_true rfl)) rfl (v := .int (S.1 80 32)) (fun _ => rfl) ?_
  refine AW_icmp_ge dX12_goesOn_30 rfl (iteM h (fun h => ?_) (fun h => ?_))
  · refine AW_iconst (v := 0) dX12_goesOn_113 rfl ?_
    refine AW_istore_n (n := 1) (i := 1) rfl dX12_goesOn_114 (Nat.le_of_ble_eq_true rfl) rfl ?_
    exact AW.sub [1, 0] rfl h
  · refine AW_iconst (v := 0) dX12_goesOn_33 rfl ?_
    refine AW_istore_n (n := 2) (i := 2) rfl dX12_goesOn_34 (Nat.le_of_ble_eq_true rfl) rfl ?_
    exact AW.sub [1, 2, 0] rfl h
set_option maxRecDepth 20000 in
theorem eX12_goesOn_2 {g : GX} {Q : St → Prop} {d : Nat} {ρ : Rs} {S : St} (hρ : Ok ρ) {x1 : Int32} (hF : ∀ k ∈ ([94] : List Nat), gF g k) (h : if (S.1 80 32) ≤ x1 then AW g ρ (QV Q) (d + 1) mX12_goesOn 25 [(0, .ref 80), (1, .int 0)] [] ρ S else vp_in x1 1000 ∧ (AW g ρ (QV Q) (d + 1) mX12_goesOn 2 [(0, .ref 80), (1, .int (x1 + 1))] [] ρ (setL S 94 x1.toNatClampNeg 0))) : AW g ρ (QV Q) (d + 1) mX12_goesOn 2 [(0, .ref 80), (1, .int x1)] [] ρ S := by
  refine AW_iload_n 1 (n := 1) rfl dX12_goesOn_2 rfl ?_
  refine AW_aload_n 0 (n := 0) rfl dX12_goesOn_3 rfl ?_
  refine AW_get dX12_goesOn_4 flX12_328 (Nat.le_of_ble_eq_true rfl) (okn hρ (Nat.le_of_ble_eq_true rfl)) rfl (v := .int (S.1 80 32)) (fun _ => rfl) ?_
  refine AW_icmp_ge dX12_goesOn_7 rfl (iteM h (fun h => ?_) (fun h => ?_))
  · refine AW_iconst (v := 0) dX12_goesOn_23 rfl ?_
    refine AW_istore_n (n := 1) (i := 1) rfl dX12_goesOn_24 (Nat.le_of_ble_eq_true rfl) rfl ?_
    exact AW.sub [1, 0] rfl h
  · refine AW_aload_n 0 (n := 0) rfl dX12_goesOn_10 rfl ?_
    refine AW_get dX12_goesOn_11 flX12_54 (Nat.le_of_ble_eq_true rfl) (okn hρ (Nat.le_of_ble_eq_true rfl)) rfl (v := .ref 94) (fvR (okR hρ 64 rfl)) ?_
    refine AW_iload_n 1 (n := 1) rfl dX12_goesOn_14 rfl ?_
    refine AW_lconst (v := 0) dX12_goesOn_15 rfl ?_
    refine AW_lastore dX12_goesOn_16 (Nat.le_of_ble_eq_true rfl) (okn hρ (Nat.le_of_ble_eq_true rfl)) rfl h.1 (hF _ (List.mem_of_getElem? (i := 0) rfl)) (jx := x1.toNatClampNeg) rfl ?_
    replace h := h.2
    refine AW_iinc 1 (v := x1 + 1) dX12_goesOn_17 rfl rfl (Nat.le_of_ble_eq_true rfl) rfl ?_
    refine AW_goto (tgt := 2) dX12_goesOn_20 rfl ?_
    exact AW.sub [1, 0] rfl h
set_option maxRecDepth 20000 in
theorem eX12_goesOn {g : GX} {Q : St → Prop} {d : Nat} {ρ : Rs} {S : St} (hρ : Ok ρ) (h : AW g ρ (QV Q) (d + 1) mX12_goesOn 2 [(0, .ref 80), (1, .int 0)] [] ρ S) : CALLv g (d + 1) mX12_goesOn [.ref 80] ρ ρ S Q := by
  refine CALL.of mdX12_goesOn.2.2.2.2 (Nat.le_of_ble_eq_true rfl) (Nat.le_refl _) (Nat.le_refl _) ?_
  show AW g ρ (QV Q) (d + 1) mX12_goesOn 0 [(0, .ref 80)] [] ρ S
  refine AW_iconst (v := 0) dX12_goesOn_0 rfl ?_
  refine AW_istore_n (n := 1) (i := 1) rfl dX12_goesOn_1 (Nat.le_of_ble_eq_true rfl) rfl ?_
  exact AW.sub [1, 0] rfl h
set_option maxRecDepth 20000 in
theorem eX12_drawn {g : GX} {Q : Int64 → St → Prop} {d : Nat} {ρ : Rs} {S : St} (hρ : Ok ρ) {x1 : Int32} (h : CALLi g d mX12_is [.ref 80] ρ ρ S (fun v1 S1 => if v1 = 0 then Q (-2) S1 else CALLi g d mX12_in [.long x1.toInt64, .long 0, .long 1073741823] ρ ρ S1 (fun v2 S2 => if v2 = 0 then Q (-2) S2 else CALLl g d mX12_tablesOf [.ref 80] ρ ρ S2 (fun v3 S3 => ¬ v3 = (0 : Int64) ∧ (if ((1073741824 / v3) * v3) ≤ x1.toInt64 then Q (-1) S3 else ¬ v3 = (0 : Int64) ∧ (Q (x1.toInt64 - x1.toInt64 / v3 * v3) S3)))))) : CALLl g (d + 1) mX12_drawn [.ref 80, .int x1] ρ ρ S Q := by
  refine CALL.of mdX12_drawn.2.2.2.2 (Nat.le_of_ble_eq_true rfl) (Nat.le_refl _) (Nat.le_refl _) ?_
  show AW g ρ (QJ Q) (d + 1) mX12_drawn 0 [(0, .ref 80), (1, .int x1)] [] ρ S
  refine AW_aload_n 0 (n := 0) rfl dX12_drawn_0 rfl ?_
  refine AW_callVi (M := mX12_drawn) (pc := 1) (As := []) (ρ1 := ρ) (st := []) dX12_drawn_1 mdX12_is rfl mlX12_265 imX12_is seX12_is (rcv_of (q := (RX12, TX12, 40)) (Nat.le_of_ble_eq_true rfl) (okn hρ (Nat.le_of_ble_eq_true rfl)) rfl rfl) ⟨rfl, npX12_is⟩ (Nat.le_of_ble_eq_true rfl) (Nat.le_refl _) (Nat.le_refl _) rfl (CALLi.mono h (fun v1 S1 _ h => ?_))
  refine AW_if_eq dX12_drawn_4 rfl (iteM h (fun h => ?_) (fun h => ?_))
  · refine AW_ldc2 (v := (-2)) dX12_drawn_19 kcX12_272 ?_
    exact AW_retl dX12_drawn_22 rfl h
  · refine AW_iload_n 1 (n := 1) rfl dX12_drawn_7 rfl ?_
    refine AW_i2l dX12_drawn_8 ?_
    refine AW_lconst (v := 0) dX12_drawn_9 rfl ?_
    refine AW_ldc2 (v := 1073741823) dX12_drawn_10 kcX12_403 ?_
    refine AW_callSi (M := mX12_drawn) (pc := 13) (As := [.long x1.toInt64, .long 0, .long 1073741823]) (ρ1 := ρ) (st := []) dX12_drawn_13 mdX12_in mlX12_60 smX12_in ⟨rfl, npX12_in⟩ (Nat.le_of_ble_eq_true rfl) (Nat.le_refl _) (Nat.le_refl _) rfl (CALLi.mono h (fun v2 S2 _ h => ?_))
    refine AW_if_ne dX12_drawn_16 rfl (iteM h (fun h => ?_) (fun h => ?_))
    · refine AW_ldc2 (v := (-2)) dX12_drawn_19 kcX12_272 ?_
      exact AW_retl dX12_drawn_22 rfl h
    · refine AW_aload_n 0 (n := 0) rfl dX12_drawn_23 rfl ?_
      refine AW_callVl (M := mX12_drawn) (pc := 24) (As := []) (ρ1 := ρ) (st := []) dX12_drawn_24 mdX12_tablesOf rfl mlX12_269 imX12_tablesOf seX12_tablesOf (rcv_of (q := (RX12, TX12, 40)) (Nat.le_of_ble_eq_true rfl) (okn hρ (Nat.le_of_ble_eq_true rfl)) rfl rfl) ⟨rfl, npX12_tablesOf⟩ (Nat.le_of_ble_eq_true rfl) (Nat.le_refl _) (Nat.le_refl _) rfl (CALLl.mono h (fun v3 S3 _ h => ?_))
      refine AW_lstore_n (n := 2) (i := 2) rfl dX12_drawn_27 (Nat.le_of_ble_eq_true rfl) rfl ?_
      refine AW_iload_n 2 (n := 1) rfl dX12_drawn_28 rfl ?_
      refine AW_i2l dX12_drawn_29 ?_
      refine AW_ldc2 (v := 1073741824) dX12_drawn_30 kcX12_405 ?_
      refine AW_lload_n 0 (n := 2) rfl dX12_drawn_33 rfl ?_
      refine AW_ldiv dX12_drawn_34 h.1 ?_
      replace h := h.2
      refine AW_lload_n 0 (n := 2) rfl dX12_drawn_35 rfl ?_
      refine AW_lmul dX12_drawn_36 ?_
      refine AW_lc_ge dX12_drawn_37 dX12_drawn_38 rfl (iteM h (fun h => ?_) (fun h => ?_))
      · refine AW_ldc2 (v := (-1)) dX12_drawn_48 kcX12_179 ?_
        exact AW_retl dX12_drawn_51 rfl h
      · refine AW_iload_n 2 (n := 1) rfl dX12_drawn_41 rfl ?_
        refine AW_i2l dX12_drawn_42 ?_
        refine AW_lload_n 0 (n := 2) rfl dX12_drawn_43 rfl ?_
        refine AW_lrem dX12_drawn_44 h.1 ?_
        replace h := h.2
        refine AW_goto (tgt := 51) dX12_drawn_45 rfl ?_
        exact AW_retl dX12_drawn_51 rfl h
set_option maxRecDepth 20000 in
theorem eX12_evenly {g : GX} {Q : Int32 → St → Prop} {d : Nat} {ρ : Rs} {S : St} (hρ : Ok ρ) (h : CALLi g d mX12_is [.ref 80] ρ ρ S (fun v1 S1 => if v1 = 0 then Q (-2) S1 else CALLl g d mX12_tablesOf [.ref 80] ρ ρ S1 (fun v2 S2 => ¬ v2 = (0 : Int64) ∧ (Q ((1073741824 / v2).toInt32) S2)))) : CALLi g (d + 1) mX12_evenly [.ref 80] ρ ρ S Q := by
  refine CALL.of mdX12_evenly.2.2.2.2 (Nat.le_of_ble_eq_true rfl) (Nat.le_refl _) (Nat.le_refl _) ?_
  show AW g ρ (QI Q) (d + 1) mX12_evenly 0 [(0, .ref 80)] [] ρ S
  refine AW_aload_n 0 (n := 0) rfl dX12_evenly_0 rfl ?_
  refine AW_callVi (M := mX12_evenly) (pc := 1) (As := []) (ρ1 := ρ) (st := []) dX12_evenly_1 mdX12_is rfl mlX12_265 imX12_is seX12_is (rcv_of (q := (RX12, TX12, 40)) (Nat.le_of_ble_eq_true rfl) (okn hρ (Nat.le_of_ble_eq_true rfl)) rfl rfl) ⟨rfl, npX12_is⟩ (Nat.le_of_ble_eq_true rfl) (Nat.le_refl _) (Nat.le_refl _) rfl (CALLi.mono h (fun v1 S1 _ h => ?_))
  refine AW_if_eq dX12_evenly_4 rfl (iteM h (fun h => ?_) (fun h => ?_))
  · refine AW_bipush (v := (-2)) dX12_evenly_19 rfl ?_
    exact AW_reti dX12_evenly_21 rfl h
  · refine AW_ldc2 (v := 1073741824) dX12_evenly_7 kcX12_405 ?_
    refine AW_aload_n 0 (n := 0) rfl dX12_evenly_10 rfl ?_
    refine AW_callVl (M := mX12_evenly) (pc := 11) (As := []) (ρ1 := ρ) (st := [.long 1073741824]) dX12_evenly_11 mdX12_tablesOf rfl mlX12_269 imX12_tablesOf seX12_tablesOf (rcv_of (q := (RX12, TX12, 40)) (Nat.le_of_ble_eq_true rfl) (okn hρ (Nat.le_of_ble_eq_true rfl)) rfl rfl) ⟨rfl, npX12_tablesOf⟩ (Nat.le_of_ble_eq_true rfl) (Nat.le_refl _) (Nat.le_refl _) rfl (CALLl.mono h (fun v2 S2 _ h => ?_))
    refine AW_ldiv dX12_evenly_14 h.1 ?_
    replace h := h.2
    refine AW_l2i dX12_evenly_15 ?_
    refine AW_goto (tgt := 21) dX12_evenly_16 rfl ?_
    exact AW_reti dX12_evenly_21 rfl h
set_option maxRecDepth 20000 in
theorem eX12_keeps_2 {g : GX} {Q : St → Prop} {d : Nat} {ρ : Rs} {S : St} (hρ : Ok ρ) {x1 : Int32} (hF : ∀ k ∈ ([81, 83] : List Nat), gF g k) (h : if (16 : Int32) ≤ x1 then Q (setI S 81 4 ((S.1 81 4) + 1)) else vp_in (5 + x1) 21 ∧ (vp_in ((16 * (S.1 81 4)) + x1) 320 ∧ (AW g ρ (QV Q) d mX12_keeps 2 [(0, .ref 80), (1, .int (x1 + 1))] [] ρ (setI S 83 (((16 * (S.1 81 4)) + x1).toNatClampNeg) (S.1 81 ((5 + x1).toNatClampNeg)))))) : AW g ρ (QV Q) d mX12_keeps 2 [(0, .ref 80), (1, .int x1)] [] ρ S := by
  refine AW_iload_n 1 (n := 1) rfl dX12_keeps_2 rfl ?_
  refine AW_bipush (v := 16) dX12_keeps_3 rfl ?_
  refine AW_icmp_ge dX12_keeps_5 rfl (iteM h (fun h => ?_) (fun h => ?_))
  · refine AW_aload_n 0 (n := 0) rfl dX12_keeps_38 rfl ?_
    refine AW_get dX12_keeps_39 flX12_9 (Nat.le_of_ble_eq_true rfl) (okn hρ (Nat.le_of_ble_eq_true rfl)) rfl (v := .ref 81) (fvR (okR hρ 51 rfl)) ?_
    refine AW_iconst (v := 4) dX12_keeps_42 rfl ?_
    refine AW_dup2_11 dX12_keeps_43 rfl rfl ?_
    refine AW_iaload dX12_keeps_44 (Nat.le_of_ble_eq_true rfl) (okn hρ (Nat.le_of_ble_eq_true rfl)) rfl (show ¬ (_ ∨ _) by decide) (v := S.1 81 4) rfl ?_
    refine AW_iconst (v := 1) dX12_keeps_45 rfl ?_
    refine AW_iadd dX12_keeps_46 ?_
    refine AW_iastore dX12_keeps_47 (Nat.le_of_ble_eq_true rfl) (okn hρ (Nat.le_of_ble_eq_true rfl)) rfl (show ¬ (_ ∨ _) by decide) (hF _ (List.mem_of_getElem? (i := 0) rfl)) (jx := 4) rfl ?_
    exact AW_retv dX12_keeps_48 rfl h
  · refine AW_aload_n 0 (n := 0) rfl dX12_keeps_8 rfl ?_
    refine AW_get dX12_keeps_9 flX12_16 (Nat.le_of_ble_eq_true rfl) (okn hρ (Nat.le_of_ble_eq_true rfl)) rfl (v := .ref 83) (fvR (okR hρ 53 rfl)) ?_
    refine AW_bipush (v := 16) dX12_keeps_12 rfl ?_
    refine AW_aload_n 0 (n := 0) rfl dX12_keeps_14 rfl ?_
    refine AW_get dX12_keeps_15 flX12_9 (Nat.le_of_ble_eq_true rfl) (okn hρ (Nat.le_of_ble_eq_true rfl)) rfl (v := .ref 81) (fvR (okR hρ 51 rfl)) ?_
    refine AW_iconst (v := 4) dX12_keeps_18 rfl ?_
    refine AW_iaload dX12_keeps_19 (Nat.le_of_ble_eq_true rfl) (okn hρ (Nat.le_of_ble_eq_true rfl)) rfl (show ¬ (_ ∨ _) by decide) (v := S.1 81 4) rfl ?_
    refine AW_imul dX12_keeps_20 ?_
    refine AW_iload_n 1 (n := 1) rfl dX12_keeps_21 rfl ?_
    refine AW_iadd dX12_keeps_22 ?_
    refine AW_aload_n 0 (n := 0) rfl dX12_keeps_23 rfl ?_
    refine AW_get dX12_keeps_24 flX12_9 (Nat.le_of_ble_eq_true rfl) (okn hρ (Nat.le_of_ble_eq_true rfl)) rfl (v := .ref 81) (fvR (okR hρ 51 rfl)) ?_
    refine AW_iconst (v := 5) dX12_keeps_27 rfl ?_
    refine AW_iload_n 1 (n := 1) rfl dX12_keeps_28 rfl ?_
    refine AW_iadd dX12_keeps_29 ?_
    refine AW_iaload dX12_keeps_30 (Nat.le_of_ble_eq_true rfl) (okn hρ (Nat.le_of_ble_eq_true rfl)) rfl h.1 (v := S.1 81 ((5 + x1).toNatClampNeg)) rfl ?_
    replace h := h.2
    refine AW_iastore dX12_keeps_31 (Nat.le_of_ble_eq_true rfl) (okn hρ (Nat.le_of_ble_eq_true rfl)) rfl h.1 (hF _ (List.mem_of_getElem? (i := 1) rfl)) (jx := ((16 * (S.1 81 4)) + x1).toNatClampNeg) rfl ?_
    replace h := h.2
    refine AW_iinc 1 (v := x1 + 1) dX12_keeps_32 rfl rfl (Nat.le_of_ble_eq_true rfl) rfl ?_
    refine AW_goto (tgt := 2) dX12_keeps_35 rfl ?_
    exact AW.sub [1, 0] rfl h
set_option maxRecDepth 20000 in
theorem eX12_keeps {g : GX} {Q : St → Prop} {d : Nat} {ρ : Rs} {S : St} (hρ : Ok ρ) (h : AW g ρ (QV Q) d mX12_keeps 2 [(0, .ref 80), (1, .int 0)] [] ρ S) : CALLv g d mX12_keeps [.ref 80] ρ ρ S Q := by
  refine CALL.of mdX12_keeps.2.2.2.2 (Nat.le_of_ble_eq_true rfl) (Nat.le_refl _) (Nat.le_refl _) ?_
  show AW g ρ (QV Q) d mX12_keeps 0 [(0, .ref 80)] [] ρ S
  refine AW_iconst (v := 0) dX12_keeps_0 rfl ?_
  refine AW_istore_n (n := 1) (i := 1) rfl dX12_keeps_1 (Nat.le_of_ble_eq_true rfl) rfl ?_
  exact AW.sub [1, 0] rfl h
set_option maxRecDepth 20000 in
theorem eX12_goesBack_9 {g : GX} {Q : St → Prop} {d : Nat} {ρ : Rs} {S : St} (hρ : Ok ρ) {x1 : Int32} {x2 : Int32} (hF : ∀ k ∈ ([81] : List Nat), gF g k) (h : if (16 : Int32) ≤ x2 then Q S else vp_in ((16 * x1) + x2) 320 ∧ (vp_in (5 + x2) 21 ∧ (AW g ρ (QV Q) d mX12_goesBack 9 [(0, .ref 80), (1, .int x1), (2, .int (x2 + 1))] [] ρ (setI S 81 ((5 + x2).toNatClampNeg) (S.1 83 (((16 * x1) + x2).toNatClampNeg)))))) : AW g ρ (QV Q) d mX12_goesBack 9 [(0, .ref 80), (1, .int x1), (2, .int x2)] [] ρ S := by
  refine AW_iload_n 2 (n := 2) rfl dX12_goesBack_9 rfl ?_
  refine AW_bipush (v := 16) dX12_goesBack_10 rfl ?_
  refine AW_icmp_ge dX12_goesBack_12 rfl (iteM h (fun h => ?_) (fun h => ?_))
  · exact AW_retv dX12_goesBack_40 rfl h
  · refine AW_aload_n 0 (n := 0) rfl dX12_goesBack_15 rfl ?_
    refine AW_get dX12_goesBack_16 flX12_9 (Nat.le_of_ble_eq_true rfl) (okn hρ (Nat.le_of_ble_eq_true rfl)) rfl (v := .ref 81) (fvR (okR hρ 51 rfl)) ?_
    refine AW_iconst (v := 5) dX12_goesBack_19 rfl ?_
    refine AW_iload_n 2 (n := 2) rfl dX12_goesBack_20 rfl ?_
    refine AW_iadd dX12_goesBack_21 ?_
    refine AW_aload_n 0 (n := 0) rfl dX12_goesBack_22 rfl ?_
    refine AW_get dX12_goesBack_23 flX12_16 (Nat.le_of_ble_eq_true rfl) (okn hρ (Nat.le_of_ble_eq_true rfl)) rfl (v := .ref 83) (fvR (okR hρ 53 rfl)) ?_
    refine AW_bipush (v := 16) dX12_goesBack_26 rfl ?_
    refine AW_iload_n 1 (n := 1) rfl dX12_goesBack_28 rfl ?_
    refine AW_imul dX12_goesBack_29 ?_
    refine AW_iload_n 2 (n := 2) rfl dX12_goesBack_30 rfl ?_
    refine AW_iadd dX12_goesBack_31 ?_
    refine AW_iaload dX12_goesBack_32 (Nat.le_of_ble_eq_true rfl) (okn hρ (Nat.le_of_ble_eq_true rfl)) rfl h.1 (v := S.1 83 (((16 * x1) + x2).toNatClampNeg)) rfl ?_
    replace h := h.2
    refine AW_iastore dX12_goesBack_33 (Nat.le_of_ble_eq_true rfl) (okn hρ (Nat.le_of_ble_eq_true rfl)) rfl h.1 (hF _ (List.mem_of_getElem? (i := 0) rfl)) (jx := (5 + x2).toNatClampNeg) rfl ?_
    replace h := h.2
    refine AW_iinc 2 (v := x2 + 1) dX12_goesBack_34 rfl rfl (Nat.le_of_ble_eq_true rfl) rfl ?_
    refine AW_goto (tgt := 9) dX12_goesBack_37 rfl ?_
    exact AW.sub [1, 2, 0] rfl h
set_option maxRecDepth 20000 in
theorem eX12_goesBack {g : GX} {Q : St → Prop} {d : Nat} {ρ : Rs} {S : St} (hρ : Ok ρ) {x1 : Int32} (hF : ∀ k ∈ ([81] : List Nat), gF g k) (h : AW g ρ (QV Q) d mX12_goesBack 9 [(0, .ref 80), (1, .int x1), (2, .int 0)] [] ρ (setI S 81 4 x1)) : CALLv g d mX12_goesBack [.ref 80, .int x1] ρ ρ S Q := by
  refine CALL.of mdX12_goesBack.2.2.2.2 (Nat.le_of_ble_eq_true rfl) (Nat.le_refl _) (Nat.le_refl _) ?_
  show AW g ρ (QV Q) d mX12_goesBack 0 [(0, .ref 80), (1, .int x1)] [] ρ S
  refine AW_aload_n 0 (n := 0) rfl dX12_goesBack_0 rfl ?_
  refine AW_get dX12_goesBack_1 flX12_9 (Nat.le_of_ble_eq_true rfl) (okn hρ (Nat.le_of_ble_eq_true rfl)) rfl (v := .ref 81) (fvR (okR hρ 51 rfl)) ?_
  refine AW_iconst (v := 4) dX12_goesBack_4 rfl ?_
  refine AW_iload_n 1 (n := 1) rfl dX12_goesBack_5 rfl ?_
  refine AW_iastore dX12_goesBack_6 (Nat.le_of_ble_eq_true rfl) (okn hρ (Nat.le_of_ble_eq_true rfl)) rfl (show ¬ (_ ∨ _) by decide) (hF _ (List.mem_of_getElem? (i := 0) rfl)) (jx := 4) rfl ?_
  refine AW_iconst (v := 0) dX12_goesBack_7 rfl ?_
  refine AW_istore_n (n := 2) (i := 2) rfl dX12_goesBack_8 (Nat.le_of_ble_eq_true rfl) rfl ?_
  exact AW.sub [1, 2, 0] rfl h
set_option maxRecDepth 20000 in
theorem eX12_swap {g : GX} {Q : Int32 → St → Prop} {d : Nat} {ρ : Rs} {S : St} (hρ : Ok ρ) {x1 : Int32} {x2 : Int32} {x3 : Int32} {x4 : Int32} (h : CALLi g d mX12_isCell [.ref 80, .int x1, .int x3] ρ ρ S (fun v1 S1 => if v1 = 0 then Q (-2) S1 else CALLi g d mX12_isCell [.ref 80, .int x2, .int x4] ρ ρ S1 (fun v2 S2 => if v2 = 0 then Q (-2) S2 else if x1 = x2 then Q (-2) S2 else if x3 = x4 then Q (-2) S2 else CALLi g d mX12_two [.ref 80, .int x1, .int x3, .int x2, .int x4] ρ ρ S2 (fun v3 S3 => CALLi g d mX12_two [.ref 80, .int x1, .int x4, .int x2, .int x3] ρ ρ S3 (fun v4 S4 => if (S4.1 81 4) = 20 then Q (-5) S4 else CALLi g d mX12_canGo [.ref 80, .ref 81, .int 5, .int v3, .int v4] ρ ρ S4 (fun v5 S5 => if v5 = 0 then Q (-5) S5 else CALLv g d mX12_keeps [.ref 80] ρ ρ S5 (fun S6 => CALLv g d mX12_changes [.ref 80, .ref 81, .int 5, .int v3, .int v4] ρ ρ S6 (fun S7 => Q 0 S7)))))))) : CALLi g (d + 1) mX12_swap [.ref 80, .int x1, .int x2, .int x3, .int x4] ρ ρ S Q := by
  refine CALL.of mdX12_swap.2.2.2.2 (Nat.le_of_ble_eq_true rfl) (Nat.le_refl _) (Nat.le_refl _) ?_
  show AW g ρ (QI Q) (d + 1) mX12_swap 0 [(0, .ref 80), (1, .int x1), (2, .int x2), (3, .int x3), (4, .int x4)] [] ρ S
  refine AW_aload_n 0 (n := 0) rfl dX12_swap_0 rfl ?_
  refine AW_iload_n 1 (n := 1) rfl dX12_swap_1 rfl ?_
  refine AW_iload_n 3 (n := 3) rfl dX12_swap_2 rfl ?_
  refine AW_callVi (M := mX12_swap) (pc := 3) (As := [.int x1, .int x3]) (ρ1 := ρ) (st := []) dX12_swap_3 mdX12_isCell rfl mlX12_160 imX12_isCell seX12_isCell (rcv_of (q := (RX12, TX12, 40)) (Nat.le_of_ble_eq_true rfl) (okn hρ (Nat.le_of_ble_eq_true rfl)) rfl rfl) ⟨rfl, npX12_isCell⟩ (Nat.le_of_ble_eq_true rfl) (Nat.le_refl _) (Nat.le_refl _) rfl (CALLi.mono h (fun v1 S1 _ h => ?_))
  refine AW_if_eq dX12_swap_6 rfl (iteM h (fun h => ?_) (fun h => ?_))
  · refine AW_bipush (v := (-2)) dX12_swap_30 rfl ?_
    exact AW_reti dX12_swap_32 rfl h
  · refine AW_aload_n 0 (n := 0) rfl dX12_swap_9 rfl ?_
    refine AW_iload_n 2 (n := 2) rfl dX12_swap_10 rfl ?_
    refine AW_iload 4 dX12_swap_11 rfl ?_
    refine AW_callVi (M := mX12_swap) (pc := 13) (As := [.int x2, .int x4]) (ρ1 := ρ) (st := []) dX12_swap_13 mdX12_isCell rfl mlX12_160 imX12_isCell seX12_isCell (rcv_of (q := (RX12, TX12, 40)) (Nat.le_of_ble_eq_true rfl) (okn hρ (Nat.le_of_ble_eq_true rfl)) rfl rfl) ⟨rfl, npX12_isCell⟩ (Nat.le_of_ble_eq_true rfl) (Nat.le_refl _) (Nat.le_refl _) rfl (CALLi.mono h (fun v2 S2 _ h => ?_))
    refine AW_if_eq dX12_swap_16 rfl (iteM h (fun h => ?_) (fun h => ?_))
    · refine AW_bipush (v := (-2)) dX12_swap_30 rfl ?_
      exact AW_reti dX12_swap_32 rfl h
    · refine AW_iload_n 1 (n := 1) rfl dX12_swap_19 rfl ?_
      refine AW_iload_n 2 (n := 2) rfl dX12_swap_20 rfl ?_
      refine AW_icmp_eq dX12_swap_21 rfl (iteM h (fun h => ?_) (fun h => ?_))
      · refine AW_bipush (v := (-2)) dX12_swap_30 rfl ?_
        exact AW_reti dX12_swap_32 rfl h
      · refine AW_iload_n 3 (n := 3) rfl dX12_swap_24 rfl ?_
        refine AW_iload 4 dX12_swap_25 rfl ?_
        refine AW_icmp_ne dX12_swap_27 rfl (iteM h (fun h => ?_) (fun h => ?_))
        · refine AW_bipush (v := (-2)) dX12_swap_30 rfl ?_
          exact AW_reti dX12_swap_32 rfl h
        · refine AW_aload_n 0 (n := 0) rfl dX12_swap_33 rfl ?_
          refine AW_iload_n 1 (n := 1) rfl dX12_swap_34 rfl ?_
          refine AW_iload_n 3 (n := 3) rfl dX12_swap_35 rfl ?_
          refine AW_iload_n 2 (n := 2) rfl dX12_swap_36 rfl ?_
          refine AW_iload 4 dX12_swap_37 rfl ?_
          refine AW_callVi (M := mX12_swap) (pc := 39) (As := [.int x1, .int x3, .int x2, .int x4]) (ρ1 := ρ) (st := []) dX12_swap_39 mdX12_two rfl mlX12_320 imX12_two seX12_two (rcv_of (q := (RX12, TX12, 40)) (Nat.le_of_ble_eq_true rfl) (okn hρ (Nat.le_of_ble_eq_true rfl)) rfl rfl) ⟨rfl, npX12_two⟩ (Nat.le_of_ble_eq_true rfl) (Nat.le_refl _) (Nat.le_refl _) rfl (CALLi.mono h (fun v3 S3 _ h => ?_))
          refine AW_istore dX12_swap_42 (Nat.le_of_ble_eq_true rfl) rfl ?_
          refine AW_aload_n 1 (n := 0) rfl dX12_swap_44 rfl ?_
          refine AW_iload_n 2 (n := 1) rfl dX12_swap_45 rfl ?_
          refine AW_iload 5 dX12_swap_46 rfl ?_
          refine AW_iload_n 3 (n := 2) rfl dX12_swap_48 rfl ?_
          refine AW_iload_n 4 (n := 3) rfl dX12_swap_49 rfl ?_
          refine AW_callVi (M := mX12_swap) (pc := 50) (As := [.int x1, .int x4, .int x2, .int x3]) (ρ1 := ρ) (st := []) dX12_swap_50 mdX12_two rfl mlX12_320 imX12_two seX12_two (rcv_of (q := (RX12, TX12, 40)) (Nat.le_of_ble_eq_true rfl) (okn hρ (Nat.le_of_ble_eq_true rfl)) rfl rfl) ⟨rfl, npX12_two⟩ (Nat.le_of_ble_eq_true rfl) (Nat.le_refl _) (Nat.le_refl _) rfl (CALLi.mono h (fun v4 S4 _ h => ?_))
          refine AW_istore dX12_swap_53 (Nat.le_of_ble_eq_true rfl) rfl ?_
          refine AW_aload_n 2 (n := 0) rfl dX12_swap_55 rfl ?_
          refine AW_get dX12_swap_56 flX12_9 (Nat.le_of_ble_eq_true rfl) (okn hρ (Nat.le_of_ble_eq_true rfl)) rfl (v := .ref 81) (fvR (okR hρ 51 rfl)) ?_
          refine AW_iconst (v := 4) dX12_swap_59 rfl ?_
          refine AW_iaload dX12_swap_60 (Nat.le_of_ble_eq_true rfl) (okn hρ (Nat.le_of_ble_eq_true rfl)) rfl (show ¬ (_ ∨ _) by decide) (v := S4.1 81 4) rfl ?_
          refine AW_bipush (v := 20) dX12_swap_61 rfl ?_
          refine AW_icmp_eq dX12_swap_63 rfl (iteM h (fun h => ?_) (fun h => ?_))
          · refine AW_bipush (v := (-5)) dX12_swap_82 rfl ?_
            exact AW_reti dX12_swap_84 rfl h
          · refine AW_aload_n 2 (n := 0) rfl dX12_swap_66 rfl ?_
            refine AW_aload_n 2 (n := 0) rfl dX12_swap_67 rfl ?_
            refine AW_get dX12_swap_68 flX12_9 (Nat.le_of_ble_eq_true rfl) (okn hρ (Nat.le_of_ble_eq_true rfl)) rfl (v := .ref 81) (fvR (okR hρ 51 rfl)) ?_
            refine AW_iconst (v := 5) dX12_swap_71 rfl ?_
            refine AW_iload 1 dX12_swap_72 rfl ?_
            refine AW_iload 0 dX12_swap_74 rfl ?_
            refine AW_callVi (M := mX12_swap) (pc := 76) (As := [.ref 81, .int 5, .int v3, .int v4]) (ρ1 := ρ) (st := []) dX12_swap_76 mdX12_canGo rfl mlX12_324 imX12_canGo seX12_canGo (rcv_of (q := (RX12, TX12, 40)) (Nat.le_of_ble_eq_true rfl) (okn hρ (Nat.le_of_ble_eq_true rfl)) rfl rfl) ⟨rfl, npX12_canGo⟩ (Nat.le_of_ble_eq_true rfl) (Nat.le_refl _) (Nat.le_refl _) rfl (CALLi.mono h (fun v5 S5 _ h => ?_))
            refine AW_if_ne dX12_swap_79 rfl (iteM h (fun h => ?_) (fun h => ?_))
            · refine AW_bipush (v := (-5)) dX12_swap_82 rfl ?_
              exact AW_reti dX12_swap_84 rfl h
            · refine AW_aload_n 2 (n := 0) rfl dX12_swap_85 rfl ?_
              refine AW_callVv (M := mX12_swap) (pc := 86) (As := []) (ρ1 := ρ) (st := []) dX12_swap_86 mdX12_keeps rfl mlX12_407 imX12_keeps seX12_keeps (rcv_of (q := (RX12, TX12, 40)) (Nat.le_of_ble_eq_true rfl) (okn hρ (Nat.le_of_ble_eq_true rfl)) rfl rfl) ⟨rfl, npX12_keeps⟩ (Nat.le_of_ble_eq_true rfl) (Nat.le_refl _) (Nat.le_refl _) rfl (CALLv.mono h (fun S6 _ h => ?_))
              refine AW_aload_n 2 (n := 0) rfl dX12_swap_89 rfl ?_
              refine AW_aload_n 2 (n := 0) rfl dX12_swap_90 rfl ?_
              refine AW_get dX12_swap_91 flX12_9 (Nat.le_of_ble_eq_true rfl) (okn hρ (Nat.le_of_ble_eq_true rfl)) rfl (v := .ref 81) (fvR (okR hρ 51 rfl)) ?_
              refine AW_iconst (v := 5) dX12_swap_94 rfl ?_
              refine AW_iload 1 dX12_swap_95 rfl ?_
              refine AW_iload 0 dX12_swap_97 rfl ?_
              refine AW_callVv (M := mX12_swap) (pc := 99) (As := [.ref 81, .int 5, .int v3, .int v4]) (ρ1 := ρ) (st := []) dX12_swap_99 mdX12_changes rfl mlX12_335 imX12_changes seX12_changes (rcv_of (q := (RX12, TX12, 40)) (Nat.le_of_ble_eq_true rfl) (okn hρ (Nat.le_of_ble_eq_true rfl)) rfl rfl) ⟨rfl, npX12_changes⟩ (Nat.le_of_ble_eq_true rfl) (Nat.le_refl _) (Nat.le_refl _) rfl (CALLv.mono h (fun S7 _ h => ?_))
              refine AW_iconst (v := 0) dX12_swap_102 rfl ?_
              exact AW_reti dX12_swap_103 rfl h
set_option maxRecDepth 20000 in
theorem eX12_draw {g : GX} {Q : Int32 → St → Prop} {d : Nat} {ρ : Rs} {S : St} (hρ : Ok ρ) {x1 : Int32} (hF : ∀ k ∈ ([80] : List Nat), gF g k) (h : ¬ x1.toInt64 = (0 : Int64) ∧ (Q ((((((1103515245 * (S.2 80 39)) + 12345) - ((1103515245 * (S.2 80 39)) + 12345) / 2147483648 * 2147483648) / 65536) - ((((1103515245 * (S.2 80 39)) + 12345) - ((1103515245 * (S.2 80 39)) + 12345) / 2147483648 * 2147483648) / 65536) / x1.toInt64 * x1.toInt64).toInt32) (setL S 80 39 (((1103515245 * (S.2 80 39)) + 12345) - ((1103515245 * (S.2 80 39)) + 12345) / 2147483648 * 2147483648)))) : CALLi g d mX12_draw [.ref 80, .int x1] ρ ρ S Q := by
  refine CALL.of mdX12_draw.2.2.2.2 (Nat.le_of_ble_eq_true rfl) (Nat.le_refl _) (Nat.le_refl _) ?_
  show AW g ρ (QI Q) d mX12_draw 0 [(0, .ref 80), (1, .int x1)] [] ρ S
  refine AW_aload_n 0 (n := 0) rfl dX12_draw_0 rfl ?_
  refine AW_ldc2 (v := 1103515245) dX12_draw_1 kcX12_410 ?_
  refine AW_aload_n 0 (n := 0) rfl dX12_draw_4 rfl ?_
  refine AW_get dX12_draw_5 flX12_412 (Nat.le_of_ble_eq_true rfl) (okn hρ (Nat.le_of_ble_eq_true rfl)) rfl (v := .long (S.2 80 39)) (fun _ => rfl) ?_
  refine AW_lmul dX12_draw_8 ?_
  refine AW_ldc2 (v := 12345) dX12_draw_9 kcX12_415 ?_
  refine AW_ladd dX12_draw_12 ?_
  refine AW_ldc2 (v := 2147483648) dX12_draw_13 kcX12_417 ?_
  refine AW_lrem dX12_draw_16 (by decide) ?_
  refine AW_put dX12_draw_17 flX12_412 fp_10_39 (Nat.le_of_ble_eq_true rfl) (okn hρ (Nat.le_of_ble_eq_true rfl)) rfl (fun _ => rfl) (fun _ => rfl) rfl rfl rfl rfl (Fr.setL _ _ _ rfl) (fun _ _ => rfl) (ρ2 := ρ) (S2 := setL S 80 39 (((1103515245 * (S.2 80 39)) + 12345) - ((1103515245 * (S.2 80 39)) + 12345) / 2147483648 * 2147483648)) (fun _ => rfl) (fun _ _ _ q1 _ => fvL_o q1) (hF _ (List.mem_of_getElem? (i := 0) rfl)) ?_
  refine AW_aload_n 0 (n := 0) rfl dX12_draw_20 rfl ?_
  refine AW_get dX12_draw_21 flX12_412 (Nat.le_of_ble_eq_true rfl) (okn hρ (Nat.le_of_ble_eq_true rfl)) rfl (v := .long (((1103515245 * (S.2 80 39)) + 12345) - ((1103515245 * (S.2 80 39)) + 12345) / 2147483648 * 2147483648)) (fun _ => rfl) ?_
  refine AW_ldc2 (v := 65536) dX12_draw_24 kcX12_419 ?_
  refine AW_ldiv dX12_draw_27 (by decide) ?_
  refine AW_iload_n 1 (n := 1) rfl dX12_draw_28 rfl ?_
  refine AW_i2l dX12_draw_29 ?_
  refine AW_lrem dX12_draw_30 h.1 ?_
  replace h := h.2
  refine AW_l2i dX12_draw_31 ?_
  exact AW_reti dX12_draw_32 rfl h
set_option maxRecDepth 20000 in
theorem eX12_drawOther {g : GX} {Q : Int32 → St → Prop} {d : Nat} {ρ : Rs} {S : St} (hρ : Ok ρ) {x1 : Int32} {x2 : Int32} (h : CALLi g d mX12_draw [.ref 80, .int (x1 - 1)] ρ ρ S (fun v1 S1 => if x2 ≤ v1 then Q (v1 + 1) S1 else Q v1 S1)) : CALLi g (d + 1) mX12_drawOther [.ref 80, .int x1, .int x2] ρ ρ S Q := by
  refine CALL.of mdX12_drawOther.2.2.2.2 (Nat.le_of_ble_eq_true rfl) (Nat.le_refl _) (Nat.le_refl _) ?_
  show AW g ρ (QI Q) (d + 1) mX12_drawOther 0 [(0, .ref 80), (1, .int x1), (2, .int x2)] [] ρ S
  refine AW_aload_n 0 (n := 0) rfl dX12_drawOther_0 rfl ?_
  refine AW_iload_n 1 (n := 1) rfl dX12_drawOther_1 rfl ?_
  refine AW_iconst (v := 1) dX12_drawOther_2 rfl ?_
  refine AW_isub dX12_drawOther_3 ?_
  refine AW_callVi (M := mX12_drawOther) (pc := 4) (As := [.int (x1 - 1)]) (ρ1 := ρ) (st := []) dX12_drawOther_4 mdX12_draw rfl mlX12_421 imX12_draw seX12_draw (rcv_of (q := (RX12, TX12, 40)) (Nat.le_of_ble_eq_true rfl) (okn hρ (Nat.le_of_ble_eq_true rfl)) rfl rfl) ⟨rfl, npX12_draw⟩ (Nat.le_of_ble_eq_true rfl) (Nat.le_refl _) (Nat.le_refl _) rfl (CALLi.mono h (fun v1 S1 _ h => ?_))
  refine AW_istore_n (n := 3) (i := 3) rfl dX12_drawOther_7 (Nat.le_of_ble_eq_true rfl) rfl ?_
  refine AW_iload_n 0 (n := 3) rfl dX12_drawOther_8 rfl ?_
  refine AW_iload_n 3 (n := 2) rfl dX12_drawOther_9 rfl ?_
  refine AW_icmp_ge dX12_drawOther_10 rfl (iteM h (fun h => ?_) (fun h => ?_))
  · refine AW_iload_n 0 (n := 3) rfl dX12_drawOther_17 rfl ?_
    refine AW_iconst (v := 1) dX12_drawOther_18 rfl ?_
    refine AW_iadd dX12_drawOther_19 ?_
    exact AW_reti dX12_drawOther_20 rfl h
  · refine AW_iload_n 0 (n := 3) rfl dX12_drawOther_13 rfl ?_
    refine AW_goto (tgt := 20) dX12_drawOther_14 rfl ?_
    exact AW_reti dX12_drawOther_20 rfl h
set_option maxRecDepth 20000 in
theorem eX12_walk_63 {g : GX} {Q : Int32 → St → Prop} {d : Nat} {ρ : Rs} {S : St} (hρ : Ok ρ) {x1 : Int32} {x3 : Int32} {x4 : Int32} (h : if x1 ≤ x4 then Q x3 S else CALLi g d mX12_draw [.ref 80, .int (S.1 81 0)] ρ ρ S (fun v1 S1 => CALLi g d mX12_drawOther [.ref 80, .int (S1.1 81 0), .int v1] ρ ρ S1 (fun v2 S2 => CALLi g d mX12_draw [.ref 80, .int (S2.1 81 1)] ρ ρ S2 (fun v3 S3 => CALLi g d mX12_drawOther [.ref 80, .int (S3.1 81 1), .int v3] ρ ρ S3 (fun v4 S4 => CALLi g d mX12_two [.ref 80, .int v1, .int v3, .int v2, .int v4] ρ ρ S4 (fun v5 S5 => CALLi g d mX12_two [.ref 80, .int v1, .int v4, .int v2, .int v3] ρ ρ S5 (fun v6 S6 => CALLi g d mX12_canGo [.ref 80, .ref 81, .int 5, .int v5, .int v6] ρ ρ S6 (fun v7 S7 => if v7 = 0 then AW g ρ (QI Q) (d + 1) mX12_walk 63 [(0, .ref 80), (1, .int x1), (3, .int x3), (4, .int (x4 + 1))] [] ρ S7 else CALLi g d mX12_two [.ref 80, .int v1, .int v3, .int v2, .int v4] ρ ρ S7 (fun v8 S8 => CALLi g d mX12_two [.ref 80, .int v1, .int v4, .int v2, .int v3] ρ ρ S8 (fun v9 S9 => CALLv g d mX12_changes [.ref 80, .ref 81, .int 5, .int v8, .int v9] ρ ρ S9 (fun S10 => AW g ρ (QI Q) (d + 1) mX12_walk 63 [(0, .ref 80), (1, .int x1), (3, .int (x3 + 1)), (4, .int (x4 + 1))] [] ρ S10))))))))))) : AW g ρ (QI Q) (d + 1) mX12_walk 63 [(0, .ref 80), (1, .int x1), (3, .int x3), (4, .int x4)] [] ρ S := by
  refine AW_iload 3 dX12_walk_63 rfl ?_
  refine AW_iload_n 1 (n := 1) rfl dX12_walk_65 rfl ?_
  refine AW_icmp_ge dX12_walk_66 rfl (iteM h (fun h => ?_) (fun h => ?_))
  · refine AW_iload_n 2 (n := 3) rfl dX12_walk_199 rfl ?_
    exact AW_reti dX12_walk_200 rfl h
  · refine AW_aload_n 0 (n := 0) rfl dX12_walk_69 rfl ?_
    refine AW_aload_n 0 (n := 0) rfl dX12_walk_70 rfl ?_
    refine AW_get dX12_walk_71 flX12_9 (Nat.le_of_ble_eq_true rfl) (okn hρ (Nat.le_of_ble_eq_true rfl)) rfl (v := .ref 81) (fvR (okR hρ 51 rfl)) ?_
    refine AW_iconst (v := 0) dX12_walk_74 rfl ?_
    refine AW_iaload dX12_walk_75 (Nat.le_of_ble_eq_true rfl) (okn hρ (Nat.le_of_ble_eq_true rfl)) rfl (show ¬ (_ ∨ _) by decide) (v := S.1 81 0) rfl ?_
    refine AW_callVi (M := mX12_walk) (pc := 76) (As := [.int (S.1 81 0)]) (ρ1 := ρ) (st := []) dX12_walk_76 mdX12_draw rfl mlX12_421 imX12_draw seX12_draw (rcv_of (q := (RX12, TX12, 40)) (Nat.le_of_ble_eq_true rfl) (okn hρ (Nat.le_of_ble_eq_true rfl)) rfl rfl) ⟨rfl, npX12_draw⟩ (Nat.le_of_ble_eq_true rfl) (Nat.le_refl _) (Nat.le_refl _) rfl (CALLi.mono h (fun v1 S1 _ h => ?_))
    refine AW_istore dX12_walk_79 (Nat.le_of_ble_eq_true rfl) rfl ?_
    refine AW_aload_n 1 (n := 0) rfl dX12_walk_81 rfl ?_
    refine AW_aload_n 1 (n := 0) rfl dX12_walk_82 rfl ?_
    refine AW_get dX12_walk_83 flX12_9 (Nat.le_of_ble_eq_true rfl) (okn hρ (Nat.le_of_ble_eq_true rfl)) rfl (v := .ref 81) (fvR (okR hρ 51 rfl)) ?_
    refine AW_iconst (v := 0) dX12_walk_86 rfl ?_
    refine AW_iaload dX12_walk_87 (Nat.le_of_ble_eq_true rfl) (okn hρ (Nat.le_of_ble_eq_true rfl)) rfl (show ¬ (_ ∨ _) by decide) (v := S1.1 81 0) rfl ?_
    refine AW_iload 0 dX12_walk_88 rfl ?_
    refine AW_callVi (M := mX12_walk) (pc := 90) (As := [.int (S1.1 81 0), .int v1]) (ρ1 := ρ) (st := []) dX12_walk_90 mdX12_drawOther rfl mlX12_426 imX12_drawOther seX12_drawOther (rcv_of (q := (RX12, TX12, 40)) (Nat.le_of_ble_eq_true rfl) (okn hρ (Nat.le_of_ble_eq_true rfl)) rfl rfl) ⟨rfl, npX12_drawOther⟩ (Nat.le_of_ble_eq_true rfl) (Nat.le_refl _) (Nat.le_refl _) rfl (CALLi.mono h (fun v2 S2 _ h => ?_))
    refine AW_istore dX12_walk_93 (Nat.le_of_ble_eq_true rfl) rfl ?_
    refine AW_aload_n 2 (n := 0) rfl dX12_walk_95 rfl ?_
    refine AW_aload_n 2 (n := 0) rfl dX12_walk_96 rfl ?_
    refine AW_get dX12_walk_97 flX12_9 (Nat.le_of_ble_eq_true rfl) (okn hρ (Nat.le_of_ble_eq_true rfl)) rfl (v := .ref 81) (fvR (okR hρ 51 rfl)) ?_
    refine AW_iconst (v := 1) dX12_walk_100 rfl ?_
    refine AW_iaload dX12_walk_101 (Nat.le_of_ble_eq_true rfl) (okn hρ (Nat.le_of_ble_eq_true rfl)) rfl (show ¬ (_ ∨ _) by decide) (v := S2.1 81 1) rfl ?_
    refine AW_callVi (M := mX12_walk) (pc := 102) (As := [.int (S2.1 81 1)]) (ρ1 := ρ) (st := []) dX12_walk_102 mdX12_draw rfl mlX12_421 imX12_draw seX12_draw (rcv_of (q := (RX12, TX12, 40)) (Nat.le_of_ble_eq_true rfl) (okn hρ (Nat.le_of_ble_eq_true rfl)) rfl rfl) ⟨rfl, npX12_draw⟩ (Nat.le_of_ble_eq_true rfl) (Nat.le_refl _) (Nat.le_refl _) rfl (CALLi.mono h (fun v3 S3 _ h => ?_))
    refine AW_istore dX12_walk_105 (Nat.le_of_ble_eq_true rfl) rfl ?_
    refine AW_aload_n 3 (n := 0) rfl dX12_walk_107 rfl ?_
    refine AW_aload_n 3 (n := 0) rfl dX12_walk_108 rfl ?_
    refine AW_get dX12_walk_109 flX12_9 (Nat.le_of_ble_eq_true rfl) (okn hρ (Nat.le_of_ble_eq_true rfl)) rfl (v := .ref 81) (fvR (okR hρ 51 rfl)) ?_
    refine AW_iconst (v := 1) dX12_walk_112 rfl ?_
    refine AW_iaload dX12_walk_113 (Nat.le_of_ble_eq_true rfl) (okn hρ (Nat.le_of_ble_eq_true rfl)) rfl (show ¬ (_ ∨ _) by decide) (v := S3.1 81 1) rfl ?_
    refine AW_iload 0 dX12_walk_114 rfl ?_
    refine AW_callVi (M := mX12_walk) (pc := 116) (As := [.int (S3.1 81 1), .int v3]) (ρ1 := ρ) (st := []) dX12_walk_116 mdX12_drawOther rfl mlX12_426 imX12_drawOther seX12_drawOther (rcv_of (q := (RX12, TX12, 40)) (Nat.le_of_ble_eq_true rfl) (okn hρ (Nat.le_of_ble_eq_true rfl)) rfl rfl) ⟨rfl, npX12_drawOther⟩ (Nat.le_of_ble_eq_true rfl) (Nat.le_refl _) (Nat.le_refl _) rfl (CALLi.mono h (fun v4 S4 _ h => ?_))
    refine AW_istore dX12_walk_119 (Nat.le_of_ble_eq_true rfl) rfl ?_
    refine AW_aload_n 4 (n := 0) rfl dX12_walk_121 rfl ?_
    refine AW_aload_n 4 (n := 0) rfl dX12_walk_122 rfl ?_
    refine AW_get dX12_walk_123 flX12_9 (Nat.le_of_ble_eq_true rfl) (okn hρ (Nat.le_of_ble_eq_true rfl)) rfl (v := .ref 81) (fvR (okR hρ 51 rfl)) ?_
    refine AW_iconst (v := 5) dX12_walk_126 rfl ?_
    refine AW_aload_n 4 (n := 0) rfl dX12_walk_127 rfl ?_
    refine AW_iload 3 dX12_walk_128 rfl ?_
    refine AW_iload 1 dX12_walk_130 rfl ?_
    refine AW_iload 2 dX12_walk_132 rfl ?_
    refine AW_iload 0 dX12_walk_134 rfl ?_
    refine AW_callVi (M := mX12_walk) (pc := 136) (As := [.int v1, .int v3, .int v2, .int v4]) (ρ1 := ρ) (st := [.int 5, .ref 81, .ref 80]) dX12_walk_136 mdX12_two rfl mlX12_320 imX12_two seX12_two (rcv_of (q := (RX12, TX12, 40)) (Nat.le_of_ble_eq_true rfl) (okn hρ (Nat.le_of_ble_eq_true rfl)) rfl rfl) ⟨rfl, npX12_two⟩ (Nat.le_of_ble_eq_true rfl) (Nat.le_refl _) (Nat.le_refl _) rfl (CALLi.mono h (fun v5 S5 _ h => ?_))
    refine AW_aload_n 4 (n := 0) rfl dX12_walk_139 rfl ?_
    refine AW_iload 3 dX12_walk_140 rfl ?_
    refine AW_iload 0 dX12_walk_142 rfl ?_
    refine AW_iload 2 dX12_walk_144 rfl ?_
    refine AW_iload 1 dX12_walk_146 rfl ?_
    refine AW_callVi (M := mX12_walk) (pc := 148) (As := [.int v1, .int v4, .int v2, .int v3]) (ρ1 := ρ) (st := [.int v5, .int 5, .ref 81, .ref 80]) dX12_walk_148 mdX12_two rfl mlX12_320 imX12_two seX12_two (rcv_of (q := (RX12, TX12, 40)) (Nat.le_of_ble_eq_true rfl) (okn hρ (Nat.le_of_ble_eq_true rfl)) rfl rfl) ⟨rfl, npX12_two⟩ (Nat.le_of_ble_eq_true rfl) (Nat.le_refl _) (Nat.le_refl _) rfl (CALLi.mono h (fun v6 S6 _ h => ?_))
    refine AW_callVi (M := mX12_walk) (pc := 151) (As := [.ref 81, .int 5, .int v5, .int v6]) (ρ1 := ρ) (st := []) dX12_walk_151 mdX12_canGo rfl mlX12_324 imX12_canGo seX12_canGo (rcv_of (q := (RX12, TX12, 40)) (Nat.le_of_ble_eq_true rfl) (okn hρ (Nat.le_of_ble_eq_true rfl)) rfl rfl) ⟨rfl, npX12_canGo⟩ (Nat.le_of_ble_eq_true rfl) (Nat.le_refl _) (Nat.le_refl _) rfl (CALLi.mono h (fun v7 S7 _ h => ?_))
    refine AW_if_eq dX12_walk_154 rfl (iteM h (fun h => ?_) (fun h => ?_))
    · refine AW_iinc 7 (v := x4 + 1) dX12_walk_193 rfl rfl (Nat.le_of_ble_eq_true rfl) rfl ?_
      refine AW_goto (tgt := 63) dX12_walk_196 rfl ?_
      exact AW.sub [5, 6, 7, 0] rfl h
    · refine AW_aload_n 4 (n := 0) rfl dX12_walk_157 rfl ?_
      refine AW_aload_n 4 (n := 0) rfl dX12_walk_158 rfl ?_
      refine AW_get dX12_walk_159 flX12_9 (Nat.le_of_ble_eq_true rfl) (okn hρ (Nat.le_of_ble_eq_true rfl)) rfl (v := .ref 81) (fvR (okR hρ 51 rfl)) ?_
      refine AW_iconst (v := 5) dX12_walk_162 rfl ?_
      refine AW_aload_n 4 (n := 0) rfl dX12_walk_163 rfl ?_
      refine AW_iload 3 dX12_walk_164 rfl ?_
      refine AW_iload 1 dX12_walk_166 rfl ?_
      refine AW_iload 2 dX12_walk_168 rfl ?_
      refine AW_iload 0 dX12_walk_170 rfl ?_
      refine AW_callVi (M := mX12_walk) (pc := 172) (As := [.int v1, .int v3, .int v2, .int v4]) (ρ1 := ρ) (st := [.int 5, .ref 81, .ref 80]) dX12_walk_172 mdX12_two rfl mlX12_320 imX12_two seX12_two (rcv_of (q := (RX12, TX12, 40)) (Nat.le_of_ble_eq_true rfl) (okn hρ (Nat.le_of_ble_eq_true rfl)) rfl rfl) ⟨rfl, npX12_two⟩ (Nat.le_of_ble_eq_true rfl) (Nat.le_refl _) (Nat.le_refl _) rfl (CALLi.mono h (fun v8 S8 _ h => ?_))
      refine AW_aload_n 4 (n := 0) rfl dX12_walk_175 rfl ?_
      refine AW_iload 3 dX12_walk_176 rfl ?_
      refine AW_iload 0 dX12_walk_178 rfl ?_
      refine AW_iload 2 dX12_walk_180 rfl ?_
      refine AW_iload 1 dX12_walk_182 rfl ?_
      refine AW_callVi (M := mX12_walk) (pc := 184) (As := [.int v1, .int v4, .int v2, .int v3]) (ρ1 := ρ) (st := [.int v8, .int 5, .ref 81, .ref 80]) dX12_walk_184 mdX12_two rfl mlX12_320 imX12_two seX12_two (rcv_of (q := (RX12, TX12, 40)) (Nat.le_of_ble_eq_true rfl) (okn hρ (Nat.le_of_ble_eq_true rfl)) rfl rfl) ⟨rfl, npX12_two⟩ (Nat.le_of_ble_eq_true rfl) (Nat.le_refl _) (Nat.le_refl _) rfl (CALLi.mono h (fun v9 S9 _ h => ?_))
      refine AW_callVv (M := mX12_walk) (pc := 187) (As := [.ref 81, .int 5, .int v8, .int v9]) (ρ1 := ρ) (st := []) dX12_walk_187 mdX12_changes rfl mlX12_335 imX12_changes seX12_changes (rcv_of (q := (RX12, TX12, 40)) (Nat.le_of_ble_eq_true rfl) (okn hρ (Nat.le_of_ble_eq_true rfl)) rfl rfl) ⟨rfl, npX12_changes⟩ (Nat.le_of_ble_eq_true rfl) (Nat.le_refl _) (Nat.le_refl _) rfl (CALLv.mono h (fun S10 _ h => ?_))
      refine AW_iinc 6 (v := x3 + 1) dX12_walk_190 rfl rfl (Nat.le_of_ble_eq_true rfl) rfl ?_
      refine AW_iinc 7 (v := x4 + 1) dX12_walk_193 rfl rfl (Nat.le_of_ble_eq_true rfl) rfl ?_
      refine AW_goto (tgt := 63) dX12_walk_196 rfl ?_
      exact AW.sub [6, 7, 1, 0] rfl h
set_option maxRecDepth 20000 in
theorem eX12_walk {g : GX} {Q : Int32 → St → Prop} {d : Nat} {ρ : Rs} {S : St} (hρ : Ok ρ) {x1 : Int32} {x2 : Int32} (hF : ∀ k ∈ ([80] : List Nat), gF g k) (h : CALLi g d mX12_is [.ref 80] ρ ρ S (fun v1 S1 => if v1 = 0 then Q (-2) S1 else CALLi g d mX12_in [.long x1.toInt64, .long 1, .long 1000] ρ ρ S1 (fun v2 S2 => if v2 = 0 then Q (-2) S2 else CALLi g d mX12_in [.long x2.toInt64, .long 0, .long 2000000000] ρ ρ S2 (fun v3 S3 => if v3 = 0 then Q (-2) S3 else if (S3.1 81 4) = 20 then Q (-5) S3 else CALLv g d mX12_keeps [.ref 80] ρ ρ S3 (fun S4 => AW g ρ (QI Q) (d + 1) mX12_walk 63 [(0, .ref 80), (1, .int x1), (3, .int 0), (4, .int 0)] [] ρ (setL S4 80 39 x2.toInt64)))))) : CALLi g (d + 1) mX12_walk [.ref 80, .int x1, .int x2] ρ ρ S Q := by
  refine CALL.of mdX12_walk.2.2.2.2 (Nat.le_of_ble_eq_true rfl) (Nat.le_refl _) (Nat.le_refl _) ?_
  show AW g ρ (QI Q) (d + 1) mX12_walk 0 [(0, .ref 80), (1, .int x1), (2, .int x2)] [] ρ S
  refine AW_aload_n 0 (n := 0) rfl dX12_walk_0 rfl ?_
  refine AW_callVi (M := mX12_walk) (pc := 1) (As := []) (ρ1 := ρ) (st := []) dX12_walk_1 mdX12_is rfl mlX12_265 imX12_is seX12_is (rcv_of (q := (RX12, TX12, 40)) (Nat.le_of_ble_eq_true rfl) (okn hρ (Nat.le_of_ble_eq_true rfl)) rfl rfl) ⟨rfl, npX12_is⟩ (Nat.le_of_ble_eq_true rfl) (Nat.le_refl _) (Nat.le_refl _) rfl (CALLi.mono h (fun v1 S1 _ h => ?_))
  refine AW_if_eq dX12_walk_4 rfl (iteM h (fun h => ?_) (fun h => ?_))
  · refine AW_bipush (v := (-2)) dX12_walk_31 rfl ?_
    exact AW_reti dX12_walk_33 rfl h
  · refine AW_iload_n 1 (n := 1) rfl dX12_walk_7 rfl ?_
    refine AW_i2l dX12_walk_8 ?_
    refine AW_lconst (v := 1) dX12_walk_9 rfl ?_
    refine AW_ldc2 (v := 1000) dX12_walk_10 kcX12_247 ?_
    refine AW_callSi (M := mX12_walk) (pc := 13) (As := [.long x1.toInt64, .long 1, .long 1000]) (ρ1 := ρ) (st := []) dX12_walk_13 mdX12_in mlX12_60 smX12_in ⟨rfl, npX12_in⟩ (Nat.le_of_ble_eq_true rfl) (Nat.le_refl _) (Nat.le_refl _) rfl (CALLi.mono h (fun v2 S2 _ h => ?_))
    refine AW_if_eq dX12_walk_16 rfl (iteM h (fun h => ?_) (fun h => ?_))
    · refine AW_bipush (v := (-2)) dX12_walk_31 rfl ?_
      exact AW_reti dX12_walk_33 rfl h
    · refine AW_iload_n 2 (n := 2) rfl dX12_walk_19 rfl ?_
      refine AW_i2l dX12_walk_20 ?_
      refine AW_lconst (v := 0) dX12_walk_21 rfl ?_
      refine AW_ldc2 (v := 2000000000) dX12_walk_22 kcX12_424 ?_
      refine AW_callSi (M := mX12_walk) (pc := 25) (As := [.long x2.toInt64, .long 0, .long 2000000000]) (ρ1 := ρ) (st := []) dX12_walk_25 mdX12_in mlX12_60 smX12_in ⟨rfl, npX12_in⟩ (Nat.le_of_ble_eq_true rfl) (Nat.le_refl _) (Nat.le_refl _) rfl (CALLi.mono h (fun v3 S3 _ h => ?_))
      refine AW_if_ne dX12_walk_28 rfl (iteM h (fun h => ?_) (fun h => ?_))
      · refine AW_bipush (v := (-2)) dX12_walk_31 rfl ?_
        exact AW_reti dX12_walk_33 rfl h
      · refine AW_aload_n 0 (n := 0) rfl dX12_walk_34 rfl ?_
        refine AW_get dX12_walk_35 flX12_9 (Nat.le_of_ble_eq_true rfl) (okn hρ (Nat.le_of_ble_eq_true rfl)) rfl (v := .ref 81) (fvR (okR hρ 51 rfl)) ?_
        refine AW_iconst (v := 4) dX12_walk_38 rfl ?_
        refine AW_iaload dX12_walk_39 (Nat.le_of_ble_eq_true rfl) (okn hρ (Nat.le_of_ble_eq_true rfl)) rfl (show ¬ (_ ∨ _) by decide) (v := S3.1 81 4) rfl ?_
        refine AW_bipush (v := 20) dX12_walk_40 rfl ?_
        refine AW_icmp_ne dX12_walk_42 rfl (iteM h (fun h => ?_) (fun h => ?_))
        · refine AW_bipush (v := (-5)) dX12_walk_45 rfl ?_
          exact AW_reti dX12_walk_47 rfl h
        · refine AW_aload_n 0 (n := 0) rfl dX12_walk_48 rfl ?_
          refine AW_callVv (M := mX12_walk) (pc := 49) (As := []) (ρ1 := ρ) (st := []) dX12_walk_49 mdX12_keeps rfl mlX12_407 imX12_keeps seX12_keeps (rcv_of (q := (RX12, TX12, 40)) (Nat.le_of_ble_eq_true rfl) (okn hρ (Nat.le_of_ble_eq_true rfl)) rfl rfl) ⟨rfl, npX12_keeps⟩ (Nat.le_of_ble_eq_true rfl) (Nat.le_refl _) (Nat.le_refl _) rfl (CALLv.mono h (fun S4 _ h => ?_))
          refine AW_aload_n 0 (n := 0) rfl dX12_walk_52 rfl ?_
          refine AW_iload_n 2 (n := 2) rfl dX12_walk_53 rfl ?_
          refine AW_i2l dX12_walk_54 ?_
          refine AW_put dX12_walk_55 flX12_412 fp_10_39 (Nat.le_of_ble_eq_true rfl) (okn hρ (Nat.le_of_ble_eq_true rfl)) rfl (fun _ => rfl) (fun _ => rfl) rfl rfl rfl rfl (Fr.setL _ _ _ rfl) (fun _ _ => rfl) (ρ2 := ρ) (S2 := setL S4 80 39 x2.toInt64) (fun _ => rfl) (fun _ _ _ q1 _ => fvL_o q1) (hF _ (List.mem_of_getElem? (i := 0) rfl)) ?_
          refine AW_iconst (v := 0) dX12_walk_58 rfl ?_
          refine AW_istore_n (n := 3) (i := 3) rfl dX12_walk_59 (Nat.le_of_ble_eq_true rfl) rfl ?_
          refine AW_iconst (v := 0) dX12_walk_60 rfl ?_
          refine AW_istore dX12_walk_61 (Nat.le_of_ble_eq_true rfl) rfl ?_
          exact AW.sub [2, 3, 1, 0] rfl h
set_option maxRecDepth 20000 in
theorem eX12_undo {g : GX} {Q : Int32 → St → Prop} {d : Nat} {ρ : Rs} {S : St} (hρ : Ok ρ) (h : CALLi g d mX12_is [.ref 80] ρ ρ S (fun v1 S1 => if v1 = 0 then Q (-2) S1 else if (S1.1 81 4) = 0 then Q (-5) S1 else CALLv g d mX12_goesBack [.ref 80, .int ((S1.1 81 4) - 1)] ρ ρ S1 (fun S2 => Q (S2.1 81 4) S2))) : CALLi g (d + 1) mX12_undo [.ref 80] ρ ρ S Q := by
  refine CALL.of mdX12_undo.2.2.2.2 (Nat.le_of_ble_eq_true rfl) (Nat.le_refl _) (Nat.le_refl _) ?_
  show AW g ρ (QI Q) (d + 1) mX12_undo 0 [(0, .ref 80)] [] ρ S
  refine AW_aload_n 0 (n := 0) rfl dX12_undo_0 rfl ?_
  refine AW_callVi (M := mX12_undo) (pc := 1) (As := []) (ρ1 := ρ) (st := []) dX12_undo_1 mdX12_is rfl mlX12_265 imX12_is seX12_is (rcv_of (q := (RX12, TX12, 40)) (Nat.le_of_ble_eq_true rfl) (okn hρ (Nat.le_of_ble_eq_true rfl)) rfl rfl) ⟨rfl, npX12_is⟩ (Nat.le_of_ble_eq_true rfl) (Nat.le_refl _) (Nat.le_refl _) rfl (CALLi.mono h (fun v1 S1 _ h => ?_))
  refine AW_if_ne dX12_undo_4 rfl (iteM h (fun h => ?_) (fun h => ?_))
  · refine AW_bipush (v := (-2)) dX12_undo_7 rfl ?_
    exact AW_reti dX12_undo_9 rfl h
  · refine AW_aload_n 0 (n := 0) rfl dX12_undo_10 rfl ?_
    refine AW_get dX12_undo_11 flX12_9 (Nat.le_of_ble_eq_true rfl) (okn hρ (Nat.le_of_ble_eq_true rfl)) rfl (v := .ref 81) (fvR (okR hρ 51 rfl)) ?_
    refine AW_iconst (v := 4) dX12_undo_14 rfl ?_
    refine AW_iaload dX12_undo_15 (Nat.le_of_ble_eq_true rfl) (okn hρ (Nat.le_of_ble_eq_true rfl)) rfl (show ¬ (_ ∨ _) by decide) (v := S1.1 81 4) rfl ?_
    refine AW_if_ne dX12_undo_16 rfl (iteM h (fun h => ?_) (fun h => ?_))
    · refine AW_bipush (v := (-5)) dX12_undo_19 rfl ?_
      exact AW_reti dX12_undo_21 rfl h
    · refine AW_aload_n 0 (n := 0) rfl dX12_undo_22 rfl ?_
      refine AW_aload_n 0 (n := 0) rfl dX12_undo_23 rfl ?_
      refine AW_get dX12_undo_24 flX12_9 (Nat.le_of_ble_eq_true rfl) (okn hρ (Nat.le_of_ble_eq_true rfl)) rfl (v := .ref 81) (fvR (okR hρ 51 rfl)) ?_
      refine AW_iconst (v := 4) dX12_undo_27 rfl ?_
      refine AW_iaload dX12_undo_28 (Nat.le_of_ble_eq_true rfl) (okn hρ (Nat.le_of_ble_eq_true rfl)) rfl (show ¬ (_ ∨ _) by decide) (v := S1.1 81 4) rfl ?_
      refine AW_iconst (v := 1) dX12_undo_29 rfl ?_
      refine AW_isub dX12_undo_30 ?_
      refine AW_callVv (M := mX12_undo) (pc := 31) (As := [.int ((S1.1 81 4) - 1)]) (ρ1 := ρ) (st := []) dX12_undo_31 mdX12_goesBack rfl mlX12_429 imX12_goesBack seX12_goesBack (rcv_of (q := (RX12, TX12, 40)) (Nat.le_of_ble_eq_true rfl) (okn hρ (Nat.le_of_ble_eq_true rfl)) rfl rfl) ⟨rfl, npX12_goesBack⟩ (Nat.le_of_ble_eq_true rfl) (Nat.le_refl _) (Nat.le_refl _) rfl (CALLv.mono h (fun S2 _ h => ?_))
      refine AW_aload_n 0 (n := 0) rfl dX12_undo_34 rfl ?_
      refine AW_get dX12_undo_35 flX12_9 (Nat.le_of_ble_eq_true rfl) (okn hρ (Nat.le_of_ble_eq_true rfl)) rfl (v := .ref 81) (fvR (okR hρ 51 rfl)) ?_
      refine AW_iconst (v := 4) dX12_undo_38 rfl ?_
      refine AW_iaload dX12_undo_39 (Nat.le_of_ble_eq_true rfl) (okn hρ (Nat.le_of_ble_eq_true rfl)) rfl (show ¬ (_ ∨ _) by decide) (v := S2.1 81 4) rfl ?_
      exact AW_reti dX12_undo_40 rfl h
set_option maxRecDepth 20000 in
theorem eX12_anew {g : GX} {Q : Int32 → St → Prop} {d : Nat} {ρ : Rs} {S : St} (hρ : Ok ρ) (h : CALLi g d mX12_is [.ref 80] ρ ρ S (fun v1 S1 => if v1 = 0 then Q (-2) S1 else if (S1.1 81 4) ≤ 0 then Q (S1.1 81 4) S1 else CALLv g d mX12_goesBack [.ref 80, .int 0] ρ ρ S1 (fun S2 => Q (S1.1 81 4) S2))) : CALLi g (d + 1) mX12_anew [.ref 80] ρ ρ S Q := by
  refine CALL.of mdX12_anew.2.2.2.2 (Nat.le_of_ble_eq_true rfl) (Nat.le_refl _) (Nat.le_refl _) ?_
  show AW g ρ (QI Q) (d + 1) mX12_anew 0 [(0, .ref 80)] [] ρ S
  refine AW_aload_n 0 (n := 0) rfl dX12_anew_0 rfl ?_
  refine AW_callVi (M := mX12_anew) (pc := 1) (As := []) (ρ1 := ρ) (st := []) dX12_anew_1 mdX12_is rfl mlX12_265 imX12_is seX12_is (rcv_of (q := (RX12, TX12, 40)) (Nat.le_of_ble_eq_true rfl) (okn hρ (Nat.le_of_ble_eq_true rfl)) rfl rfl) ⟨rfl, npX12_is⟩ (Nat.le_of_ble_eq_true rfl) (Nat.le_refl _) (Nat.le_refl _) rfl (CALLi.mono h (fun v1 S1 _ h => ?_))
  refine AW_if_ne dX12_anew_4 rfl (iteM h (fun h => ?_) (fun h => ?_))
  · refine AW_bipush (v := (-2)) dX12_anew_7 rfl ?_
    exact AW_reti dX12_anew_9 rfl h
  · refine AW_aload_n 0 (n := 0) rfl dX12_anew_10 rfl ?_
    refine AW_get dX12_anew_11 flX12_9 (Nat.le_of_ble_eq_true rfl) (okn hρ (Nat.le_of_ble_eq_true rfl)) rfl (v := .ref 81) (fvR (okR hρ 51 rfl)) ?_
    refine AW_iconst (v := 4) dX12_anew_14 rfl ?_
    refine AW_iaload dX12_anew_15 (Nat.le_of_ble_eq_true rfl) (okn hρ (Nat.le_of_ble_eq_true rfl)) rfl (show ¬ (_ ∨ _) by decide) (v := S1.1 81 4) rfl ?_
    refine AW_istore_n (n := 1) (i := 1) rfl dX12_anew_16 (Nat.le_of_ble_eq_true rfl) rfl ?_
    refine AW_iload_n 0 (n := 1) rfl dX12_anew_17 rfl ?_
    refine AW_if_le dX12_anew_18 rfl (iteM h (fun h => ?_) (fun h => ?_))
    · refine AW_iload_n 0 (n := 1) rfl dX12_anew_26 rfl ?_
      exact AW_reti dX12_anew_27 rfl h
    · refine AW_aload_n 1 (n := 0) rfl dX12_anew_21 rfl ?_
      refine AW_iconst (v := 0) dX12_anew_22 rfl ?_
      refine AW_callVv (M := mX12_anew) (pc := 23) (As := [.int 0]) (ρ1 := ρ) (st := []) dX12_anew_23 mdX12_goesBack rfl mlX12_429 imX12_goesBack seX12_goesBack (rcv_of (q := (RX12, TX12, 40)) (Nat.le_of_ble_eq_true rfl) (okn hρ (Nat.le_of_ble_eq_true rfl)) rfl rfl) ⟨rfl, npX12_goesBack⟩ (Nat.le_of_ble_eq_true rfl) (Nat.le_refl _) (Nat.le_refl _) rfl (CALLv.mono h (fun S2 _ h => ?_))
      refine AW_iload_n 0 (n := 1) rfl dX12_anew_26 rfl ?_
      exact AW_reti dX12_anew_27 rfl h
