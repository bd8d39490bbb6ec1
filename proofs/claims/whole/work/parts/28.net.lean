set_option maxRecDepth 20000 in
theorem eX6_forget {g : GX} {Q : St → Prop} {d : Nat} {ρ : Rs} {S : St} (hρ : Ok ρ) (hF : ∀ k ∈ ([70] : List Nat), gF g k) (h : Q (setI S 70 2 0)) : CALLv g d mX6_forget [.ref 70] ρ ρ S Q := by
  refine CALL.of mdX6_forget.2.2.2.2 (Nat.le_of_ble_eq_true rfl) (Nat.le_refl _) (Nat.le_refl _) ?_
  show AW g ρ (QV Q) d mX6_forget 0 [(0, .ref 70)] [] ρ S
  refine AW_aload_n 0 (n := 0) rfl dX6_forget_0 rfl ?_
  refine AW_iconst (v := 0) dX6_forget_1 rfl ?_
  refine AW_put dX6_forget_2 flX6_50 fp_5_2 (Nat.le_of_ble_eq_true rfl) (okn hρ (Nat.le_of_ble_eq_true rfl)) rfl (fun _ => Bz.nar Bz0) (fun _ => Bz.fits Bz0) rfl rfl rfl rfl (Fr.setI _ _ _ rfl) (fun _ _ => rfl) (ρ2 := ρ) (S2 := setI S 70 2 0) (fun _ => rfl) (fun _ _ _ q1 _ => fvI_o q1) (hF _ (List.mem_of_getElem? (i := 0) rfl)) ?_
  exact AW_retv dX6_forget_5 rfl h
set_option maxRecDepth 20000 in
theorem eX6_prepare_79 {g : GX} {Q : St → Prop} {d : Nat} {ρ ρ' : Rs} {S : St} (hρ : Ok ρ) {ρ2 : Rs} (hρ2 : Ok ρ2) (hcl2 : rc ρ2 ≤ rc ρ') (hul2 : ru ρ2 ≤ ru ρ') (hcle : rc ρ ≤ rc ρ') (hule : ru ρ ≤ ru ρ') {x1 : Int32} (hF : ∀ k ∈ ([72] : List Nat), gF g k) (h : if (S.1 70 3) ≤ x1 then vp_in (S.1 70 3) 1001 ∧ (CALLv g d mX6_splitIntoClasses [.ref 70] ρ ρ (setI S 72 ((S.1 70 3).toNatClampNeg) (S.1 70 7)) (fun S1 => ρ = ρ' ∧ (Q S1))) else vp_in x1 1001 ∧ (CALLv g d mX6_linkSwaps [.ref 70, .int x1] ρ ρ2 (setI S 72 x1.toNatClampNeg (S.1 70 7)) (fun S2 => AW g ρ' (QV Q) (d + 1) mX6_prepare 79 [(0, .ref 70), (1, .int (x1 + 1))] [] ρ2 S2))) : AW g ρ' (QV Q) (d + 1) mX6_prepare 79 [(0, .ref 70), (1, .int x1)] [] ρ S := by
  refine AW_iload_n 1 (n := 1) rfl dX6_prepare_79 rfl ?_
  refine AW_aload_n 0 (n := 0) rfl dX6_prepare_80 rfl ?_
  refine AW_get dX6_prepare_81 flX6_75 (Nat.le_of_ble_eq_true rfl) (okn hρ (Nat.le_of_ble_eq_true rfl)) rfl (v := .int (S.1 70 3)) (fun _ => rfl) ?_
  refine AW_icmp_ge dX6_prepare_84 rfl (iteM h (fun h => ?_) (fun h => ?_))
  · refine AW_aload_n 0 (n := 0) rfl dX6_prepare_108 rfl ?_
    refine AW_get dX6_prepare_109 flX6_17 (Nat.le_of_ble_eq_true rfl) (okn hρ (Nat.le_of_ble_eq_true rfl)) rfl (v := .ref 72) (fvR (okR hρ 58 rfl)) ?_
    refine AW_aload_n 0 (n := 0) rfl dX6_prepare_112 rfl ?_
    refine AW_get dX6_prepare_113 flX6_75 (Nat.le_of_ble_eq_true rfl) (okn hρ (Nat.le_of_ble_eq_true rfl)) rfl (v := .int (S.1 70 3)) (fun _ => rfl) ?_
    refine AW_aload_n 0 (n := 0) rfl dX6_prepare_116 rfl ?_
    refine AW_get dX6_prepare_117 flX6_81 (Nat.le_of_ble_eq_true rfl) (okn hρ (Nat.le_of_ble_eq_true rfl)) rfl (v := .int (S.1 70 7)) (fun _ => rfl) ?_
    refine AW_iastore dX6_prepare_120 (Nat.le_of_ble_eq_true rfl) (okn hρ (Nat.le_of_ble_eq_true rfl)) rfl h.1 (hF _ (List.mem_of_getElem? (i := 0) rfl)) (jx := (S.1 70 3).toNatClampNeg) rfl ?_
    replace h := h.2
    refine AW_aload_n 0 (n := 0) rfl dX6_prepare_121 rfl ?_
    refine AW_callVv (M := mX6_prepare) (pc := 122) (As := []) (ρ1 := ρ) (st := []) dX6_prepare_122 mdX6_splitIntoClasses rfl mlX6_88 imX6_splitIntoClasses seX6_splitIntoClasses (rcv_of (q := (RX6, TX6, 18)) (Nat.le_of_ble_eq_true rfl) (okn hρ (Nat.le_of_ble_eq_true rfl)) rfl rfl) ⟨rfl, npX6_splitIntoClasses⟩ (Nat.le_of_ble_eq_true rfl) hcle hule rfl (CALLv.mono h (fun S1 _ h => ?_))
    refine AW.rhoE h.1 ?_
    replace h := h.2
    exact AW_retv dX6_prepare_125 rfl h
  · refine AW_aload_n 0 (n := 0) rfl dX6_prepare_87 rfl ?_
    refine AW_get dX6_prepare_88 flX6_17 (Nat.le_of_ble_eq_true rfl) (okn hρ (Nat.le_of_ble_eq_true rfl)) rfl (v := .ref 72) (fvR (okR hρ 58 rfl)) ?_
    refine AW_iload_n 1 (n := 1) rfl dX6_prepare_91 rfl ?_
    refine AW_aload_n 0 (n := 0) rfl dX6_prepare_92 rfl ?_
    refine AW_get dX6_prepare_93 flX6_81 (Nat.le_of_ble_eq_true rfl) (okn hρ (Nat.le_of_ble_eq_true rfl)) rfl (v := .int (S.1 70 7)) (fun _ => rfl) ?_
    refine AW_iastore dX6_prepare_96 (Nat.le_of_ble_eq_true rfl) (okn hρ (Nat.le_of_ble_eq_true rfl)) rfl h.1 (hF _ (List.mem_of_getElem? (i := 0) rfl)) (jx := x1.toNatClampNeg) rfl ?_
    replace h := h.2
    refine AW_aload_n 0 (n := 0) rfl dX6_prepare_97 rfl ?_
    refine AW_iload_n 1 (n := 1) rfl dX6_prepare_98 rfl ?_
    refine AW_callVv (M := mX6_prepare) (pc := 99) (As := [.int x1]) (ρ1 := ρ2) (st := []) dX6_prepare_99 mdX6_linkSwaps rfl mlX6_84 imX6_linkSwaps seX6_linkSwaps (rcv_of (q := (RX6, TX6, 18)) (Nat.le_of_ble_eq_true rfl) (okn hρ (Nat.le_of_ble_eq_true rfl)) rfl rfl) ⟨rfl, npX6_linkSwaps⟩ (Nat.le_of_ble_eq_true rfl) hcl2 hul2 rfl (CALLv.mono h (fun S2 _ h => ?_))
    refine AW_iinc 1 (v := x1 + 1) dX6_prepare_102 rfl rfl (Nat.le_of_ble_eq_true rfl) rfl ?_
    refine AW_goto (tgt := 79) dX6_prepare_105 rfl ?_
    exact AW.sub [1, 0] rfl h
set_option maxRecDepth 20000 in
theorem eX6_prepare_43 {g : GX} {Q : St → Prop} {d : Nat} {ρ ρ' : Rs} {S : St} (hρ : Ok ρ) (hcle : rc ρ ≤ rc ρ') (hule : ru ρ ≤ ru ρ') {x1 : Int32} (hF : ∀ k ∈ ([70, 71] : List Nat), gF g k) (h : if (S.1 70 3) ≤ x1 then AW g ρ' (QV Q) (d + 1) mX6_prepare 79 [(0, .ref 70), (1, .int 0)] [] ρ (setI S 70 7 0) else CALLl g d mX1_cellsOf [.ref 31, .long x1.toInt64] ρ ρ S (fun v1 S1 => vp_in x1 1000 ∧ (AW g ρ' (QV Q) (d + 1) mX6_prepare 43 [(0, .ref 70), (1, .int (x1 + 1))] [] ρ (setL S1 71 x1.toNatClampNeg v1)))) : AW g ρ' (QV Q) (d + 1) mX6_prepare 43 [(0, .ref 70), (1, .int x1)] [] ρ S := by
  refine AW_iload_n 1 (n := 1) rfl dX6_prepare_43 rfl ?_
  refine AW_aload_n 0 (n := 0) rfl dX6_prepare_44 rfl ?_
  refine AW_get dX6_prepare_45 flX6_75 (Nat.le_of_ble_eq_true rfl) (okn hρ (Nat.le_of_ble_eq_true rfl)) rfl (v := .int (S.1 70 3)) (fun _ => rfl) ?_
  refine AW_icmp_ge dX6_prepare_48 rfl (iteM h (fun h => ?_) (fun h => ?_))
  · refine AW_aload_n 0 (n := 0) rfl dX6_prepare_72 rfl ?_
    refine AW_iconst (v := 0) dX6_prepare_73 rfl ?_
    refine AW_put dX6_prepare_74 flX6_81 fp_5_7 (Nat.le_of_ble_eq_true rfl) (okn hρ (Nat.le_of_ble_eq_true rfl)) rfl (fun _ => rfl) (fun _ => rfl) rfl rfl rfl rfl (Fr.setI _ _ _ rfl) (fun _ _ => rfl) (ρ2 := ρ) (S2 := setI S 70 7 0) (fun _ => rfl) (fun _ _ _ q1 _ => fvI_o q1) (hF _ (List.mem_of_getElem? (i := 0) rfl)) ?_
    refine AW_iconst (v := 0) dX6_prepare_77 rfl ?_
    refine AW_istore_n (n := 1) (i := 1) rfl dX6_prepare_78 (Nat.le_of_ble_eq_true rfl) rfl ?_
    exact AW.sub [1, 0] rfl h
  · refine AW_aload_n 0 (n := 0) rfl dX6_prepare_51 rfl ?_
    refine AW_get dX6_prepare_52 flX6_11 (Nat.le_of_ble_eq_true rfl) (okn hρ (Nat.le_of_ble_eq_true rfl)) rfl (v := .ref 71) (fvR (okR hρ 57 rfl)) ?_
    refine AW_iload_n 1 (n := 1) rfl dX6_prepare_55 rfl ?_
    refine AW_aload_n 0 (n := 0) rfl dX6_prepare_56 rfl ?_
    refine AW_get dX6_prepare_57 flX6_42 (Nat.le_of_ble_eq_true rfl) (okn hρ (Nat.le_of_ble_eq_true rfl)) rfl (v := .ref 31) (fvR (okR hρ 55 rfl)) ?_
    refine AW_iload_n 1 (n := 1) rfl dX6_prepare_60 rfl ?_
    refine AW_i2l dX6_prepare_61 ?_
    refine AW_callVl (M := mX6_prepare) (pc := 62) (As := [.long x1.toInt64]) (ρ1 := ρ) (st := [.int x1, .ref 71]) dX6_prepare_62 mdX1_cellsOf rfl mlX6_77 imX1_cellsOf seX1_cellsOf (rcv_of (q := (RX1, TX1, 15)) (Nat.le_of_ble_eq_true rfl) (okn hρ (Nat.le_of_ble_eq_true rfl)) rfl rfl) ⟨rfl, npX1_cellsOf⟩ (Nat.le_of_ble_eq_true rfl) hcle hule rfl (CALLl.mono h (fun v1 S1 _ h => ?_))
    refine AW_lastore dX6_prepare_65 (Nat.le_of_ble_eq_true rfl) (okn hρ (Nat.le_of_ble_eq_true rfl)) rfl h.1 (hF _ (List.mem_of_getElem? (i := 1) rfl)) (jx := x1.toNatClampNeg) rfl ?_
    replace h := h.2
    refine AW_iinc 1 (v := x1 + 1) dX6_prepare_66 rfl rfl (Nat.le_of_ble_eq_true rfl) rfl ?_
    refine AW_goto (tgt := 43) dX6_prepare_69 rfl ?_
    exact AW.sub [1, 0] rfl h
set_option maxRecDepth 20000 in
theorem eX6_prepare {g : GX} {Q : St → Prop} {d : Nat} {ρ ρ' : Rs} {S : St} (hρ : Ok ρ) (hcle : rc ρ ≤ rc ρ') (hule : ru ρ ≤ ru ρ') (hF : ∀ k ∈ ([70] : List Nat), gF g k) (h : if (S.1 70 2) = 0 then CALLl g d mX1_size [.ref 31] ρ ρ (setI (setI (setI S 70 2 1) 70 13 (-1)) 70 11 (-1)) (fun v1 S1 => AW g ρ' (QV Q) (d + 1) mX6_prepare 43 [(0, .ref 70), (1, .int 0)] [] ρ (setI S1 70 3 ((if v1 < 1000 then v1 else 1000).toInt32))) else ρ = ρ' ∧ (Q S)) : CALLv g (d + 1) mX6_prepare [.ref 70] ρ ρ' S Q := by
  refine CALL.of mdX6_prepare.2.2.2.2 (Nat.le_of_ble_eq_true rfl) hcle hule ?_
  show AW g ρ' (QV Q) (d + 1) mX6_prepare 0 [(0, .ref 70)] [] ρ S
  refine AW_aload_n 0 (n := 0) rfl dX6_prepare_0 rfl ?_
  refine AW_get dX6_prepare_1 flX6_50 (Nat.le_of_ble_eq_true rfl) (okn hρ (Nat.le_of_ble_eq_true rfl)) rfl (v := .int (S.1 70 2)) (fun _ => rfl) ?_
  refine AW_if_eq dX6_prepare_4 rfl (iteM h (fun h => ?_) (fun h => ?_))
  · refine AW_aload_n 0 (n := 0) rfl dX6_prepare_8 rfl ?_
    refine AW_iconst (v := 1) dX6_prepare_9 rfl ?_
    refine AW_put dX6_prepare_10 flX6_50 fp_5_2 (Nat.le_of_ble_eq_true rfl) (okn hρ (Nat.le_of_ble_eq_true rfl)) rfl (fun _ => Bz.nar Bz1) (fun _ => Bz.fits Bz1) rfl rfl rfl rfl (Fr.setI _ _ _ rfl) (fun _ _ => rfl) (ρ2 := ρ) (S2 := setI S 70 2 1) (fun _ => rfl) (fun _ _ _ q1 _ => fvI_o q1) (hF _ (List.mem_of_getElem? (i := 0) rfl)) ?_
    refine AW_aload_n 0 (n := 0) rfl dX6_prepare_13 rfl ?_
    refine AW_iconst (v := (-1)) dX6_prepare_14 rfl ?_
    refine AW_put dX6_prepare_15 flX6_54 fp_5_13 (Nat.le_of_ble_eq_true rfl) (okn hρ (Nat.le_of_ble_eq_true rfl)) rfl (fun _ => rfl) (fun _ => rfl) rfl rfl rfl rfl (Fr.setI _ _ _ rfl) (fun _ _ => rfl) (ρ2 := ρ) (S2 := setI (setI S 70 2 1) 70 13 (-1)) (fun _ => rfl) (fun _ _ _ q1 _ => fvI_o q1) (hF _ (List.mem_of_getElem? (i := 0) rfl)) ?_
    refine AW_aload_n 0 (n := 0) rfl dX6_prepare_18 rfl ?_
    refine AW_iconst (v := (-1)) dX6_prepare_19 rfl ?_
    refine AW_put dX6_prepare_20 flX6_58 fp_5_11 (Nat.le_of_ble_eq_true rfl) (okn hρ (Nat.le_of_ble_eq_true rfl)) rfl (fun _ => rfl) (fun _ => rfl) rfl rfl rfl rfl (Fr.setI _ _ _ rfl) (fun _ _ => rfl) (ρ2 := ρ) (S2 := setI (setI (setI S 70 2 1) 70 13 (-1)) 70 11 (-1)) (fun _ => rfl) (fun _ _ _ q1 _ => fvI_o q1) (hF _ (List.mem_of_getElem? (i := 0) rfl)) ?_
    refine AW_aload_n 0 (n := 0) rfl dX6_prepare_23 rfl ?_
    refine AW_ldc2 (v := 1000) dX6_prepare_24 kcX6_61 ?_
    refine AW_aload_n 0 (n := 0) rfl dX6_prepare_27 rfl ?_
    refine AW_get dX6_prepare_28 flX6_42 (Nat.le_of_ble_eq_true rfl) (okn hρ (Nat.le_of_ble_eq_true rfl)) rfl (v := .ref 31) (fvR (okR hρ 55 rfl)) ?_
    refine AW_callVl (M := mX6_prepare) (pc := 31) (As := []) (ρ1 := ρ) (st := [.long 1000, .ref 70]) dX6_prepare_31 mdX1_size rfl mlX6_63 imX1_size seX1_size (rcv_of (q := (RX1, TX1, 15)) (Nat.le_of_ble_eq_true rfl) (okn hρ (Nat.le_of_ble_eq_true rfl)) rfl rfl) ⟨rfl, npX1_size⟩ (Nat.le_of_ble_eq_true rfl) hcle hule rfl (CALLl.mono h (fun v1 S1 _ h => ?_))
    refine AW_mminL (M := mX6_prepare) (pc := 34) dX6_prepare_34 mlX6_69 wmminLS wMath wmminLC (Nat.le_of_ble_eq_true rfl) ?_ hcle hule
    refine AW_l2i dX6_prepare_37 ?_
    refine AW_put dX6_prepare_38 flX6_75 fp_5_3 (Nat.le_of_ble_eq_true rfl) (okn hρ (Nat.le_of_ble_eq_true rfl)) rfl (fun _ => rfl) (fun _ => rfl) rfl rfl rfl rfl (Fr.setI _ _ _ rfl) (fun _ _ => rfl) (ρ2 := ρ) (S2 := setI S1 70 3 ((if v1 < 1000 then v1 else 1000).toInt32)) (fun _ => rfl) (fun _ _ _ q1 _ => fvI_o q1) (hF _ (List.mem_of_getElem? (i := 0) rfl)) ?_
    refine AW_iconst (v := 0) dX6_prepare_41 rfl ?_
    refine AW_istore_n (n := 1) (i := 1) rfl dX6_prepare_42 (Nat.le_of_ble_eq_true rfl) rfl ?_
    exact AW.sub [1, 0] rfl h
  · refine AW.rhoE h.1 ?_
    replace h := h.2
    exact AW_retv dX6_prepare_7 rfl h
set_option maxRecDepth 20000 in
theorem eX6_linkSwaps_74 {g : GX} {Q : St → Prop} {d : Nat} {ρ ρ' : Rs} {S : St} (hρ : Ok ρ) {kn nn : Nat} (hR_kn : rR ρ 70 6 = some kn) (h16_kn : 16 ≤ kn) (hn_kn : kn < rn ρ) (hs_kn : shp ρ kn = .inr (0, nn)) (hcle : rc ρ ≤ rc ρ') (hule : ru ρ ≤ ru ρ') {x1 : Int32} {x2 : Int32} (hF : ∀ k ∈ ([70] : List Nat), gF g k) (hF_kn : gF g kn) (h : vp_in x1 1000 ∧ (vp_in x2 264 ∧ (CALLi g d mX6_find [.ref 70, .long ((S.2 71 x1.toNatClampNeg) + (S.2 27 x2.toNatClampNeg))] ρ ρ S (fun v1 S1 => vp_in (S.1 70 7) nn ∧ (AW g ρ' (QV Q) (d + 1) mX6_linkSwaps 2 [(0, .ref 70), (1, .int x1), (2, .int (x2 + 1))] [] ρ (setI (setI S1 kn ((S.1 70 7).toNatClampNeg) v1) 70 7 (((setI S1 kn ((S.1 70 7).toNatClampNeg) v1).1 70 7) + 1))))))) : AW g ρ' (QV Q) (d + 1) mX6_linkSwaps 74 [(0, .ref 70), (1, .int x1), (2, .int x2)] [] ρ S := by
  refine AW_aload_n 0 (n := 0) rfl dX6_linkSwaps_74 rfl ?_
  refine AW_get dX6_linkSwaps_75 flX6_21 (Nat.le_of_ble_eq_true rfl) (okn hρ (Nat.le_of_ble_eq_true rfl)) rfl (v := .ref kn) (fvR hR_kn) ?_
  refine AW_aload_n 0 (n := 0) rfl dX6_linkSwaps_78 rfl ?_
  refine AW_get dX6_linkSwaps_79 flX6_81 (Nat.le_of_ble_eq_true rfl) (okn hρ (Nat.le_of_ble_eq_true rfl)) rfl (v := .int (S.1 70 7)) (fun _ => rfl) ?_
  refine AW_aload_n 0 (n := 0) rfl dX6_linkSwaps_82 rfl ?_
  refine AW_aload_n 0 (n := 0) rfl dX6_linkSwaps_83 rfl ?_
  refine AW_get dX6_linkSwaps_84 flX6_11 (Nat.le_of_ble_eq_true rfl) (okn hρ (Nat.le_of_ble_eq_true rfl)) rfl (v := .ref 71) (fvR (okR hρ 57 rfl)) ?_
  refine AW_iload_n 1 (n := 1) rfl dX6_linkSwaps_87 rfl ?_
  refine AW_laload dX6_linkSwaps_88 (Nat.le_of_ble_eq_true rfl) (okn hρ (Nat.le_of_ble_eq_true rfl)) rfl h.1 (v := S.2 71 x1.toNatClampNeg) rfl ?_
  replace h := h.2
  refine AW_aload_n 0 (n := 0) rfl dX6_linkSwaps_89 rfl ?_
  refine AW_get dX6_linkSwaps_90 flX6_46 (Nat.le_of_ble_eq_true rfl) (okn hρ (Nat.le_of_ble_eq_true rfl)) rfl (v := .ref 26) (fvR (okR hρ 56 rfl)) ?_
  refine AW_get dX6_linkSwaps_93 flX6_108 (Nat.le_of_ble_eq_true rfl) (okn hρ (Nat.le_of_ble_eq_true rfl)) rfl (v := .ref 27) (fvR (okR hρ 13 rfl)) ?_
  refine AW_iload_n 2 (n := 2) rfl dX6_linkSwaps_96 rfl ?_
  refine AW_laload dX6_linkSwaps_97 (Nat.le_of_ble_eq_true rfl) (okn hρ (Nat.le_of_ble_eq_true rfl)) rfl h.1 (v := S.2 27 x2.toNatClampNeg) rfl ?_
  replace h := h.2
  refine AW_ladd dX6_linkSwaps_98 ?_
  refine AW_callVi (M := mX6_linkSwaps) (pc := 99) (As := [.long ((S.2 71 x1.toNatClampNeg) + (S.2 27 x2.toNatClampNeg))]) (ρ1 := ρ) (st := [.int (S.1 70 7), .ref kn]) dX6_linkSwaps_99 mdX6_find rfl mlX6_111 imX6_find seX6_find (rcv_of (q := (RX6, TX6, 18)) (Nat.le_of_ble_eq_true rfl) (okn hρ (Nat.le_of_ble_eq_true rfl)) rfl rfl) ⟨rfl, npX6_find⟩ (Nat.le_of_ble_eq_true rfl) hcle hule rfl (CALLi.mono h (fun v1 S1 _ h => ?_))
  refine AW_iastore dX6_linkSwaps_102 h16_kn hn_kn hs_kn h.1 hF_kn (jx := (S.1 70 7).toNatClampNeg) rfl ?_
  replace h := h.2
  refine AW_aload_n 0 (n := 0) rfl dX6_linkSwaps_103 rfl ?_
  refine AW_dup dX6_linkSwaps_104 rfl ?_
  refine AW_get dX6_linkSwaps_105 flX6_81 (Nat.le_of_ble_eq_true rfl) (okn hρ (Nat.le_of_ble_eq_true rfl)) rfl (v := .int ((setI S1 kn ((S.1 70 7).toNatClampNeg) v1).1 70 7)) (fun _ => rfl) ?_
  refine AW_iconst (v := 1) dX6_linkSwaps_108 rfl ?_
  refine AW_iadd dX6_linkSwaps_109 ?_
  refine AW_put dX6_linkSwaps_110 flX6_81 fp_5_7 (Nat.le_of_ble_eq_true rfl) (okn hρ (Nat.le_of_ble_eq_true rfl)) rfl (fun _ => rfl) (fun _ => rfl) rfl rfl rfl rfl (Fr.setI _ _ _ rfl) (fun _ _ => rfl) (ρ2 := ρ) (S2 := setI (setI S1 kn ((S.1 70 7).toNatClampNeg) v1) 70 7 (((setI S1 kn ((S.1 70 7).toNatClampNeg) v1).1 70 7) + 1)) (fun _ => rfl) (fun _ _ _ q1 _ => fvI_o q1) (hF _ (List.mem_of_getElem? (i := 0) rfl)) ?_
  refine AW_iinc 2 (v := x2 + 1) dX6_linkSwaps_113 rfl rfl (Nat.le_of_ble_eq_true rfl) rfl ?_
  refine AW_goto (tgt := 2) dX6_linkSwaps_116 rfl ?_
  exact AW.sub [1, 2, 0] rfl h
set_option maxRecDepth 20000 in
theorem eX6_linkSwaps_2 {g : GX} {Q : St → Prop} {d : Nat} {ρ ρ' : Rs} {S : St} (hρ : Ok ρ) {kn nn : Nat} (hR_kn : rR ρ 70 6 = some kn) (h16_kn : 16 ≤ kn) (hn_kn : kn < rn ρ) (hs_kn : shp ρ kn = .inr (0, nn)) {ρ2 : Rs} (hρ2 : Ok ρ2) (hcl2 : rc ρ2 ≤ rc ρ') (hul2 : ru ρ2 ≤ ru ρ') {l2 : Nat} (hcle : rc ρ ≤ rc ρ') (hule : ru ρ ≤ ru ρ') {x1 : Int32} {x2 : Int32} (hF : ∀ k ∈ ([70] : List Nat), gF g k) (h : if (S.1 26 0) ≤ x2 then ρ = ρ' ∧ (Q S) else vp_in x1 1000 ∧ (CALLi g d mX5_can [.ref 26, .long (S.2 71 x1.toNatClampNeg), .int x2] ρ ρ S (fun v1 S1 => if v1 = 0 then AW g ρ' (QV Q) (d + 1) mX6_linkSwaps 2 [(0, .ref 70), (1, .int x1), (2, .int (x2 + 1))] [] ρ S1 else if (72000 : Int32) ≤ (S1.1 70 7) then AW g ρ' (QV Q) (d + 1) mX6_linkSwaps 2 [(0, .ref 70), (1, .int x1), (2, .int (x2 + 1))] [] ρ S1 else if (S1.1 70 7) < (Int32.ofNat nn) then AW g ρ' (QV Q) (d + 1) mX6_linkSwaps 74 [(0, .ref 70), (1, .int x1), (2, .int x2)] [] ρ S1 else CALLa g d mJ7_copyOf_59c91 [.ref kn, .int (if (2 * (Int32.ofNat nn)) < 72000 then (2 * (Int32.ofNat nn)) else 72000)] ρ ρ2 S1 (fun v2 S2 => 16 ≤ v2 ∧ v2 < rn ρ2 ∧ shp ρ2 v2 = .inr (0, l2) ∧ gF g v2 ∧ (AW g ρ' (QV Q) (d + 1) mX6_linkSwaps 74 [(0, .ref 70), (1, .int x1), (2, .int x2)] [] (setR ρ2 70 6 (some v2)) S2))))) : AW g ρ' (QV Q) (d + 1) mX6_linkSwaps 2 [(0, .ref 70), (1, .int x1), (2, .int x2)] [] ρ S := by
  refine AW_iload_n 2 (n := 2) rfl dX6_linkSwaps_2 rfl ?_
  refine AW_aload_n 0 (n := 0) rfl dX6_linkSwaps_3 rfl ?_
  refine AW_get dX6_linkSwaps_4 flX6_46 (Nat.le_of_ble_eq_true rfl) (okn hρ (Nat.le_of_ble_eq_true rfl)) rfl (v := .ref 26) (fvR (okR hρ 56 rfl)) ?_
  refine AW_get dX6_linkSwaps_7 flX6_91 (Nat.le_of_ble_eq_true rfl) (okn hρ (Nat.le_of_ble_eq_true rfl)) rfl (v := .int (S.1 26 0)) (fun _ => rfl) ?_
  refine AW_icmp_ge dX6_linkSwaps_10 rfl (iteM h (fun h => ?_) (fun h => ?_))
  · refine AW.rhoE h.1 ?_
    replace h := h.2
    exact AW_retv dX6_linkSwaps_119 rfl h
  · refine AW_aload_n 0 (n := 0) rfl dX6_linkSwaps_13 rfl ?_
    refine AW_get dX6_linkSwaps_14 flX6_46 (Nat.le_of_ble_eq_true rfl) (okn hρ (Nat.le_of_ble_eq_true rfl)) rfl (v := .ref 26) (fvR (okR hρ 56 rfl)) ?_
    refine AW_aload_n 0 (n := 0) rfl dX6_linkSwaps_17 rfl ?_
    refine AW_get dX6_linkSwaps_18 flX6_11 (Nat.le_of_ble_eq_true rfl) (okn hρ (Nat.le_of_ble_eq_true rfl)) rfl (v := .ref 71) (fvR (okR hρ 57 rfl)) ?_
    refine AW_iload_n 1 (n := 1) rfl dX6_linkSwaps_21 rfl ?_
    refine AW_laload dX6_linkSwaps_22 (Nat.le_of_ble_eq_true rfl) (okn hρ (Nat.le_of_ble_eq_true rfl)) rfl h.1 (v := S.2 71 x1.toNatClampNeg) rfl ?_
    replace h := h.2
    refine AW_iload_n 2 (n := 2) rfl dX6_linkSwaps_23 rfl ?_
    refine AW_callVi (M := mX6_linkSwaps) (pc := 24) (As := [.long (S.2 71 x1.toNatClampNeg), .int x2]) (ρ1 := ρ) (st := []) dX6_linkSwaps_24 mdX5_can rfl mlX6_94 imX5_can seX5_can (rcv_of (q := (RX5, TX5, 7)) (Nat.le_of_ble_eq_true rfl) (okn hρ (Nat.le_of_ble_eq_true rfl)) rfl rfl) ⟨rfl, npX5_can⟩ (Nat.le_of_ble_eq_true rfl) hcle hule rfl (CALLi.mono h (fun v1 S1 _ h => ?_))
    refine AW_if_eq dX6_linkSwaps_27 rfl (iteM h (fun h => ?_) (fun h => ?_))
    · refine AW_iinc 2 (v := x2 + 1) dX6_linkSwaps_113 rfl rfl (Nat.le_of_ble_eq_true rfl) rfl ?_
      refine AW_goto (tgt := 2) dX6_linkSwaps_116 rfl ?_
      exact AW.sub [1, 2, 0] rfl h
    · refine AW_aload_n 0 (n := 0) rfl dX6_linkSwaps_30 rfl ?_
      refine AW_get dX6_linkSwaps_31 flX6_81 (Nat.le_of_ble_eq_true rfl) (okn hρ (Nat.le_of_ble_eq_true rfl)) rfl (v := .int (S1.1 70 7)) (fun _ => rfl) ?_
      refine AW_ldc (v := 72000) dX6_linkSwaps_34 kcX6_98 ?_
      refine AW_icmp_ge dX6_linkSwaps_36 rfl (iteM h (fun h => ?_) (fun h => ?_))
      · refine AW_iinc 2 (v := x2 + 1) dX6_linkSwaps_113 rfl rfl (Nat.le_of_ble_eq_true rfl) rfl ?_
        refine AW_goto (tgt := 2) dX6_linkSwaps_116 rfl ?_
        exact AW.sub [1, 2, 0] rfl h
      · refine AW_aload_n 0 (n := 0) rfl dX6_linkSwaps_39 rfl ?_
        refine AW_get dX6_linkSwaps_40 flX6_81 (Nat.le_of_ble_eq_true rfl) (okn hρ (Nat.le_of_ble_eq_true rfl)) rfl (v := .int (S1.1 70 7)) (fun _ => rfl) ?_
        refine AW_aload_n 0 (n := 0) rfl dX6_linkSwaps_43 rfl ?_
        refine AW_get dX6_linkSwaps_44 flX6_21 (Nat.le_of_ble_eq_true rfl) (okn hρ (Nat.le_of_ble_eq_true rfl)) rfl (v := .ref kn) (fvR hR_kn) ?_
        refine AW_alen (v := Int32.ofNat nn) dX6_linkSwaps_47 h16_kn hn_kn (by decide) hs_kn rfl ?_
        refine AW_icmp_lt dX6_linkSwaps_48 rfl (iteM h (fun h => ?_) (fun h => ?_))
        · exact AW.sub [0, 1, 2] rfl h
        · refine AW_aload_n 0 (n := 0) rfl dX6_linkSwaps_51 rfl ?_
          refine AW_aload_n 0 (n := 0) rfl dX6_linkSwaps_52 rfl ?_
          refine AW_get dX6_linkSwaps_53 flX6_21 (Nat.le_of_ble_eq_true rfl) (okn hρ (Nat.le_of_ble_eq_true rfl)) rfl (v := .ref kn) (fvR hR_kn) ?_
          refine AW_ldc (v := 72000) dX6_linkSwaps_56 kcX6_98 ?_
          refine AW_iconst (v := 2) dX6_linkSwaps_58 rfl ?_
          refine AW_aload_n 0 (n := 0) rfl dX6_linkSwaps_59 rfl ?_
          refine AW_get dX6_linkSwaps_60 flX6_21 (Nat.le_of_ble_eq_true rfl) (okn hρ (Nat.le_of_ble_eq_true rfl)) rfl (v := .ref kn) (fvR hR_kn) ?_
          refine AW_alen (v := Int32.ofNat nn) dX6_linkSwaps_63 h16_kn hn_kn (by decide) hs_kn rfl ?_
          refine AW_imul dX6_linkSwaps_64 ?_
          refine AW_mminI (M := mX6_linkSwaps) (pc := 65) dX6_linkSwaps_65 mlX6_99 wmminIS wMath wmminIC (Nat.le_of_ble_eq_true rfl) ?_ hcle hule
          refine AW_callSa (M := mX6_linkSwaps) (pc := 68) (As := [.ref kn, .int (if (2 * (Int32.ofNat nn)) < 72000 then (2 * (Int32.ofNat nn)) else 72000)]) (ρ1 := ρ2) (st := [.ref 70]) dX6_linkSwaps_68 mdJ7_copyOf_59c91 mlX6_102 smJ7_copyOf_59c91 ⟨rfl, npJ7_copyOf_59c91⟩ (Nat.le_of_ble_eq_true rfl) hcl2 hul2 rfl (CALLa.mono h (fun v2 S2 _ h => ?_))
          obtain ⟨h16_v2, hn_v2, hs_v2, hF_v2, h⟩ := h
          refine AW_put dX6_linkSwaps_71 flX6_21 fp_5_6 (Nat.le_of_ble_eq_true rfl) (okn hρ2 (Nat.le_of_ble_eq_true rfl)) rfl (fun _ => rfl) (fun _ => rfl) rfl rfl rfl rfl (Fr.rf _) (fun _ q => setR_ne _ _ _ q) (ρ2 := setR ρ2 70 6 (some v2)) (S2 := S2) (fvR (setR_eq _ _ _ _)) (fun _ _ _ q1 _ => fvR_o q1) (hF _ (List.mem_of_getElem? (i := 0) rfl)) ?_
          exact AW.sub [0, 1, 2] rfl h
set_option maxRecDepth 20000 in
theorem eX6_linkSwaps {g : GX} {Q : St → Prop} {d : Nat} {ρ ρ' : Rs} {S : St} (hρ : Ok ρ) {x1 : Int32} (hcle : rc ρ ≤ rc ρ') (hule : ru ρ ≤ ru ρ') (h : AW g ρ' (QV Q) (d + 1) mX6_linkSwaps 2 [(0, .ref 70), (1, .int x1), (2, .int 0)] [] ρ S) : CALLv g (d + 1) mX6_linkSwaps [.ref 70, .int x1] ρ ρ' S Q := by
  refine CALL.of mdX6_linkSwaps.2.2.2.2 (Nat.le_of_ble_eq_true rfl) hcle hule ?_
  show AW g ρ' (QV Q) (d + 1) mX6_linkSwaps 0 [(0, .ref 70), (1, .int x1)] [] ρ S
  refine AW_iconst (v := 0) dX6_linkSwaps_0 rfl ?_
  refine AW_istore_n (n := 2) (i := 2) rfl dX6_linkSwaps_1 (Nat.le_of_ble_eq_true rfl) rfl ?_
  exact AW.sub [1, 2, 0] rfl h
set_option maxRecDepth 20000 in
theorem eX6_find_7 {g : GX} {Q : Int32 → St → Prop} {d : Nat} {ρ : Rs} {S : St} (hρ : Ok ρ) {x1 : Int64} {x3 : Int32} {x4 : Int32} (h : if x4 ≤ 0 then Q x3 S else if (S.1 70 3) ≤ (x3 + x4) then AW g ρ (QI Q) d mX6_find 7 [(0, .ref 70), (1, .long x1), (3, .int x3), (4, .int (x4 >>> (1 &&& 31)))] [] ρ S else vp_in (x3 + x4) 1000 ∧ (if (x1 ^^^ (-9223372036854775808)) < ((S.2 71 ((x3 + x4).toNatClampNeg)) ^^^ (-9223372036854775808)) then AW g ρ (QI Q) d mX6_find 7 [(0, .ref 70), (1, .long x1), (3, .int x3), (4, .int (x4 >>> (1 &&& 31)))] [] ρ S else AW g ρ (QI Q) d mX6_find 7 [(0, .ref 70), (1, .long x1), (3, .int (x3 + x4)), (4, .int (x4 >>> (1 &&& 31)))] [] ρ S)) : AW g ρ (QI Q) d mX6_find 7 [(0, .ref 70), (1, .long x1), (3, .int x3), (4, .int x4)] [] ρ S := by
  refine AW_iload 3 dX6_find_7 rfl ?_
  refine AW_if_le dX6_find_9 rfl (iteM h (fun h => ?_) (fun h => ?_))
  · refine AW_iload_n 2 (n := 3) rfl dX6_find_59 rfl ?_
    exact AW_reti dX6_find_60 rfl h
  · refine AW_iload_n 2 (n := 3) rfl dX6_find_12 rfl ?_
    refine AW_iload 3 dX6_find_13 rfl ?_
    refine AW_iadd dX6_find_15 ?_
    refine AW_aload_n 0 (n := 0) rfl dX6_find_16 rfl ?_
    refine AW_get dX6_find_17 flX6_75 (Nat.le_of_ble_eq_true rfl) (okn hρ (Nat.le_of_ble_eq_true rfl)) rfl (v := .int (S.1 70 3)) (fun _ => rfl) ?_
    refine AW_icmp_ge dX6_find_20 rfl (iteM h (fun h => ?_) (fun h => ?_))
    · refine AW_iload 3 dX6_find_50 rfl ?_
      refine AW_iconst (v := 1) dX6_find_52 rfl ?_
      refine AW_ishr dX6_find_53 ?_
      refine AW_istore dX6_find_54 (Nat.le_of_ble_eq_true rfl) rfl ?_
      refine AW_goto (tgt := 7) dX6_find_56 rfl ?_
      exact AW.sub [1, 2, 3, 0] rfl h
    · refine AW_aload_n 0 (n := 0) rfl dX6_find_23 rfl ?_
      refine AW_get dX6_find_24 flX6_11 (Nat.le_of_ble_eq_true rfl) (okn hρ (Nat.le_of_ble_eq_true rfl)) rfl (v := .ref 71) (fvR (okR hρ 57 rfl)) ?_
      refine AW_iload_n 2 (n := 3) rfl dX6_find_27 rfl ?_
      refine AW_iload 3 dX6_find_28 rfl ?_
      refine AW_iadd dX6_find_30 ?_
      refine AW_laload dX6_find_31 (Nat.le_of_ble_eq_true rfl) (okn hρ (Nat.le_of_ble_eq_true rfl)) rfl h.1 (v := S.2 71 ((x3 + x4).toNatClampNeg)) rfl ?_
      replace h := h.2
      refine AW_ldc2 (v := (-9223372036854775808)) dX6_find_32 kcX6_115 ?_
      refine AW_lxor dX6_find_35 ?_
      refine AW_lload_n 1 (n := 1) rfl dX6_find_36 rfl ?_
      refine AW_ldc2 (v := (-9223372036854775808)) dX6_find_37 kcX6_115 ?_
      refine AW_lxor dX6_find_40 ?_
      refine AW_lc_gt dX6_find_41 dX6_find_42 rfl (iteM h (fun h => ?_) (fun h => ?_))
      · refine AW_iload 3 dX6_find_50 rfl ?_
        refine AW_iconst (v := 1) dX6_find_52 rfl ?_
        refine AW_ishr dX6_find_53 ?_
        refine AW_istore dX6_find_54 (Nat.le_of_ble_eq_true rfl) rfl ?_
        refine AW_goto (tgt := 7) dX6_find_56 rfl ?_
        exact AW.sub [1, 2, 3, 0] rfl h
      · refine AW_iload_n 2 (n := 3) rfl dX6_find_45 rfl ?_
        refine AW_iload 3 dX6_find_46 rfl ?_
        refine AW_iadd dX6_find_48 ?_
        refine AW_istore_n (n := 3) (i := 3) rfl dX6_find_49 (Nat.le_of_ble_eq_true rfl) rfl ?_
        refine AW_iload 3 dX6_find_50 rfl ?_
        refine AW_iconst (v := 1) dX6_find_52 rfl ?_
        refine AW_ishr dX6_find_53 ?_
        refine AW_istore dX6_find_54 (Nat.le_of_ble_eq_true rfl) rfl ?_
        refine AW_goto (tgt := 7) dX6_find_56 rfl ?_
        exact AW.sub [2, 3, 1, 0] rfl h
set_option maxRecDepth 20000 in
theorem eX6_find {g : GX} {Q : Int32 → St → Prop} {d : Nat} {ρ : Rs} {S : St} (hρ : Ok ρ) {x1 : Int64} (h : AW g ρ (QI Q) d mX6_find 7 [(0, .ref 70), (1, .long x1), (3, .int 0), (4, .int 512)] [] ρ S) : CALLi g d mX6_find [.ref 70, .long x1] ρ ρ S Q := by
  refine CALL.of mdX6_find.2.2.2.2 (Nat.le_of_ble_eq_true rfl) (Nat.le_refl _) (Nat.le_refl _) ?_
  show AW g ρ (QI Q) d mX6_find 0 [(0, .ref 70), (1, .long x1)] [] ρ S
  refine AW_iconst (v := 0) dX6_find_0 rfl ?_
  refine AW_istore_n (n := 3) (i := 3) rfl dX6_find_1 (Nat.le_of_ble_eq_true rfl) rfl ?_
  refine AW_sipush (v := 512) dX6_find_2 rfl ?_
  refine AW_istore dX6_find_5 (Nat.le_of_ble_eq_true rfl) rfl ?_
  exact AW.sub [2, 3, 1, 0] rfl h
set_option maxRecDepth 20000 in
theorem eX6_splitIntoClasses_15 {g : GX} {Q : St → Prop} {d : Nat} {ρ : Rs} {S : St} (hρ : Ok ρ) {x1 : Int32} (hF : ∀ k ∈ ([70, 75] : List Nat), gF g k) (h : if (S.1 70 3) ≤ x1 then Q S else vp_in x1 1000 ∧ (if (S.1 74 x1.toNatClampNeg) = (-1) then CALLv g d mX6_spread [.ref 70, .ref 74, .int x1, .int x1, .int 0] ρ ρ (setI S 70 10 ((S.1 70 10) + 1)) (fun S1 => vp_in x1 1000 ∧ (AW g ρ (QV Q) (d + 1) mX6_splitIntoClasses 15 [(0, .ref 70), (1, .int (x1 + 1))] [] ρ (setI S1 75 x1.toNatClampNeg (S1.1 70 15)))) else AW g ρ (QV Q) (d + 1) mX6_splitIntoClasses 15 [(0, .ref 70), (1, .int (x1 + 1))] [] ρ S)) : AW g ρ (QV Q) (d + 1) mX6_splitIntoClasses 15 [(0, .ref 70), (1, .int x1)] [] ρ S := by
  refine AW_iload_n 1 (n := 1) rfl dX6_splitIntoClasses_15 rfl ?_
  refine AW_aload_n 0 (n := 0) rfl dX6_splitIntoClasses_16 rfl ?_
  refine AW_get dX6_splitIntoClasses_17 flX6_75 (Nat.le_of_ble_eq_true rfl) (okn hρ (Nat.le_of_ble_eq_true rfl)) rfl (v := .int (S.1 70 3)) (fun _ => rfl) ?_
  refine AW_icmp_ge dX6_splitIntoClasses_20 rfl (iteM h (fun h => ?_) (fun h => ?_))
  · exact AW_retv dX6_splitIntoClasses_70 rfl h
  · refine AW_aload_n 0 (n := 0) rfl dX6_splitIntoClasses_23 rfl ?_
    refine AW_get dX6_splitIntoClasses_24 flX6_24 (Nat.le_of_ble_eq_true rfl) (okn hρ (Nat.le_of_ble_eq_true rfl)) rfl (v := .ref 74) (fvR (okR hρ 59 rfl)) ?_
    refine AW_iload_n 1 (n := 1) rfl dX6_splitIntoClasses_27 rfl ?_
    refine AW_iaload dX6_splitIntoClasses_28 (Nat.le_of_ble_eq_true rfl) (okn hρ (Nat.le_of_ble_eq_true rfl)) rfl h.1 (v := S.1 74 x1.toNatClampNeg) rfl ?_
    replace h := h.2
    refine AW_iconst (v := (-1)) dX6_splitIntoClasses_29 rfl ?_
    refine AW_icmp_ne dX6_splitIntoClasses_30 rfl (iteM h (fun h => ?_) (fun h => ?_))
    · refine AW_aload_n 0 (n := 0) rfl dX6_splitIntoClasses_33 rfl ?_
      refine AW_dup dX6_splitIntoClasses_34 rfl ?_
      refine AW_get dX6_splitIntoClasses_35 flX6_121 (Nat.le_of_ble_eq_true rfl) (okn hρ (Nat.le_of_ble_eq_true rfl)) rfl (v := .int (S.1 70 10)) (fun _ => rfl) ?_
      refine AW_iconst (v := 1) dX6_splitIntoClasses_38 rfl ?_
      refine AW_iadd dX6_splitIntoClasses_39 ?_
      refine AW_put dX6_splitIntoClasses_40 flX6_121 fp_5_10 (Nat.le_of_ble_eq_true rfl) (okn hρ (Nat.le_of_ble_eq_true rfl)) rfl (fun _ => rfl) (fun _ => rfl) rfl rfl rfl rfl (Fr.setI _ _ _ rfl) (fun _ _ => rfl) (ρ2 := ρ) (S2 := setI S 70 10 ((S.1 70 10) + 1)) (fun _ => rfl) (fun _ _ _ q1 _ => fvI_o q1) (hF _ (List.mem_of_getElem? (i := 0) rfl)) ?_
      refine AW_aload_n 0 (n := 0) rfl dX6_splitIntoClasses_43 rfl ?_
      refine AW_aload_n 0 (n := 0) rfl dX6_splitIntoClasses_44 rfl ?_
      refine AW_get dX6_splitIntoClasses_45 flX6_24 (Nat.le_of_ble_eq_true rfl) (okn hρ (Nat.le_of_ble_eq_true rfl)) rfl (v := .ref 74) (fvR (okR hρ 59 rfl)) ?_
      refine AW_iload_n 1 (n := 1) rfl dX6_splitIntoClasses_48 rfl ?_
      refine AW_iload_n 1 (n := 1) rfl dX6_splitIntoClasses_49 rfl ?_
      refine AW_iconst (v := 0) dX6_splitIntoClasses_50 rfl ?_
      refine AW_callVv (M := mX6_splitIntoClasses) (pc := 51) (As := [.ref 74, .int x1, .int x1, .int 0]) (ρ1 := ρ) (st := []) dX6_splitIntoClasses_51 mdX6_spread rfl mlX6_124 imX6_spread seX6_spread (rcv_of (q := (RX6, TX6, 18)) (Nat.le_of_ble_eq_true rfl) (okn hρ (Nat.le_of_ble_eq_true rfl)) rfl rfl) ⟨rfl, npX6_spread⟩ (Nat.le_of_ble_eq_true rfl) (Nat.le_refl _) (Nat.le_refl _) rfl (CALLv.mono h (fun S1 _ h => ?_))
      refine AW_aload_n 0 (n := 0) rfl dX6_splitIntoClasses_54 rfl ?_
      refine AW_get dX6_splitIntoClasses_55 flX6_27 (Nat.le_of_ble_eq_true rfl) (okn hρ (Nat.le_of_ble_eq_true rfl)) rfl (v := .ref 75) (fvR (okR hρ 60 rfl)) ?_
      refine AW_iload_n 1 (n := 1) rfl dX6_splitIntoClasses_58 rfl ?_
      refine AW_aload_n 0 (n := 0) rfl dX6_splitIntoClasses_59 rfl ?_
      refine AW_get dX6_splitIntoClasses_60 flX6_128 (Nat.le_of_ble_eq_true rfl) (okn hρ (Nat.le_of_ble_eq_true rfl)) rfl (v := .int (S1.1 70 15)) (fun _ => rfl) ?_
      refine AW_iastore dX6_splitIntoClasses_63 (Nat.le_of_ble_eq_true rfl) (okn hρ (Nat.le_of_ble_eq_true rfl)) rfl h.1 (hF _ (List.mem_of_getElem? (i := 1) rfl)) (jx := x1.toNatClampNeg) rfl ?_
      replace h := h.2
      refine AW_iinc 1 (v := x1 + 1) dX6_splitIntoClasses_64 rfl rfl (Nat.le_of_ble_eq_true rfl) rfl ?_
      refine AW_goto (tgt := 15) dX6_splitIntoClasses_67 rfl ?_
      exact AW.sub [1, 0] rfl h
    · refine AW_iinc 1 (v := x1 + 1) dX6_splitIntoClasses_64 rfl rfl (Nat.le_of_ble_eq_true rfl) rfl ?_
      refine AW_goto (tgt := 15) dX6_splitIntoClasses_67 rfl ?_
      exact AW.sub [1, 0] rfl h
set_option maxRecDepth 20000 in
theorem eX6_splitIntoClasses {g : GX} {Q : St → Prop} {d : Nat} {ρ : Rs} {S : St} (hρ : Ok ρ) (hF : ∀ k ∈ ([70] : List Nat), gF g k) (h : CALLv g d mJ7_fill_53178 [.ref 74, .int (-1)] ρ ρ S (fun S1 => AW g ρ (QV Q) (d + 1) mX6_splitIntoClasses 15 [(0, .ref 70), (1, .int 0)] [] ρ (setI S1 70 10 0))) : CALLv g (d + 1) mX6_splitIntoClasses [.ref 70] ρ ρ S Q := by
  refine CALL.of mdX6_splitIntoClasses.2.2.2.2 (Nat.le_of_ble_eq_true rfl) (Nat.le_refl _) (Nat.le_refl _) ?_
  show AW g ρ (QV Q) (d + 1) mX6_splitIntoClasses 0 [(0, .ref 70)] [] ρ S
  refine AW_aload_n 0 (n := 0) rfl dX6_splitIntoClasses_0 rfl ?_
  refine AW_get dX6_splitIntoClasses_1 flX6_24 (Nat.le_of_ble_eq_true rfl) (okn hρ (Nat.le_of_ble_eq_true rfl)) rfl (v := .ref 74) (fvR (okR hρ 59 rfl)) ?_
  refine AW_iconst (v := (-1)) dX6_splitIntoClasses_4 rfl ?_
  refine AW_callSv (M := mX6_splitIntoClasses) (pc := 5) (As := [.ref 74, .int (-1)]) (ρ1 := ρ) (st := []) dX6_splitIntoClasses_5 mdJ7_fill_53178 mlX6_117 smJ7_fill_53178 ⟨rfl, npJ7_fill_53178⟩ (Nat.le_of_ble_eq_true rfl) (Nat.le_refl _) (Nat.le_refl _) rfl (CALLv.mono h (fun S1 _ h => ?_))
  refine AW_aload_n 0 (n := 0) rfl dX6_splitIntoClasses_8 rfl ?_
  refine AW_iconst (v := 0) dX6_splitIntoClasses_9 rfl ?_
  refine AW_put dX6_splitIntoClasses_10 flX6_121 fp_5_10 (Nat.le_of_ble_eq_true rfl) (okn hρ (Nat.le_of_ble_eq_true rfl)) rfl (fun _ => rfl) (fun _ => rfl) rfl rfl rfl rfl (Fr.setI _ _ _ rfl) (fun _ _ => rfl) (ρ2 := ρ) (S2 := setI S1 70 10 0) (fun _ => rfl) (fun _ _ _ q1 _ => fvI_o q1) (hF _ (List.mem_of_getElem? (i := 0) rfl)) ?_
  refine AW_iconst (v := 0) dX6_splitIntoClasses_13 rfl ?_
  refine AW_istore_n (n := 1) (i := 1) rfl dX6_splitIntoClasses_14 (Nat.le_of_ble_eq_true rfl) rfl ?_
  exact AW.sub [1, 0] rfl h
set_option maxRecDepth 20000 in
theorem eX6_spread_51 {g : GX} {Q : St → Prop} {d : Nat} {ρ : Rs} {S : St} (hρ : Ok ρ) {k1 n1 : Nat} (h16_1 : 16 ≤ k1) (hn_1 : k1 < rn ρ) (hs_1 : shp ρ k1 = .inr (0, n1)) {kn nn : Nat} (hR_kn : rR ρ 70 6 = some kn) (h16_kn : 16 ≤ kn) (hn_kn : kn < rn ρ) (hs_kn : shp ρ kn = .inr (0, nn)) {x4 : Int32} {x5 : Int32} {x6 : Int32} {x7 : Int32} (h : vp_in (x6 + 1) 1001 ∧ (if (S.1 72 ((x6 + 1).toNatClampNeg)) ≤ x7 then AW g ρ (QV Q) (d + 1) mX6_spread 15 [(0, .ref 70), (1, .ref k1), (4, .int x4), (5, .int (x5 + 1))] [] ρ S else vp_in x7 nn ∧ (vp_in x6 n1 ∧ (CALLv g d mX6_reach [.ref 70, .ref k1, .int (S.1 kn x7.toNatClampNeg), .int ((S.1 k1 x6.toNatClampNeg) + x4)] ρ ρ S (fun S1 => AW g ρ (QV Q) (d + 1) mX6_spread 51 [(0, .ref 70), (1, .ref k1), (4, .int x4), (5, .int x5), (6, .int x6), (7, .int (x7 + 1))] [] ρ S1))))) : AW g ρ (QV Q) (d + 1) mX6_spread 51 [(0, .ref 70), (1, .ref k1), (4, .int x4), (5, .int x5), (6, .int x6), (7, .int x7)] [] ρ S := by
  refine AW_iload 5 dX6_spread_51 rfl ?_
  refine AW_aload_n 0 (n := 0) rfl dX6_spread_53 rfl ?_
  refine AW_get dX6_spread_54 flX6_17 (Nat.le_of_ble_eq_true rfl) (okn hρ (Nat.le_of_ble_eq_true rfl)) rfl (v := .ref 72) (fvR (okR hρ 58 rfl)) ?_
  refine AW_iload 4 dX6_spread_57 rfl ?_
  refine AW_iconst (v := 1) dX6_spread_59 rfl ?_
  refine AW_iadd dX6_spread_60 ?_
  refine AW_iaload dX6_spread_61 (Nat.le_of_ble_eq_true rfl) (okn hρ (Nat.le_of_ble_eq_true rfl)) rfl h.1 (v := S.1 72 ((x6 + 1).toNatClampNeg)) rfl ?_
  replace h := h.2
  refine AW_icmp_ge dX6_spread_62 rfl (iteM h (fun h => ?_) (fun h => ?_))
  · refine AW_iinc 3 (v := x5 + 1) dX6_spread_90 rfl rfl (Nat.le_of_ble_eq_true rfl) rfl ?_
    refine AW_goto (tgt := 15) dX6_spread_93 rfl ?_
    exact AW.sub [1, 2, 3, 0] rfl h
  · refine AW_aload_n 0 (n := 0) rfl dX6_spread_65 rfl ?_
    refine AW_aload_n 1 (n := 1) rfl dX6_spread_66 rfl ?_
    refine AW_aload_n 0 (n := 0) rfl dX6_spread_67 rfl ?_
    refine AW_get dX6_spread_68 flX6_21 (Nat.le_of_ble_eq_true rfl) (okn hρ (Nat.le_of_ble_eq_true rfl)) rfl (v := .ref kn) (fvR hR_kn) ?_
    refine AW_iload 5 dX6_spread_71 rfl ?_
    refine AW_iaload dX6_spread_73 h16_kn hn_kn hs_kn h.1 (v := S.1 kn x7.toNatClampNeg) rfl ?_
    replace h := h.2
    refine AW_aload_n 1 (n := 1) rfl dX6_spread_74 rfl ?_
    refine AW_iload 4 dX6_spread_75 rfl ?_
    refine AW_iaload dX6_spread_77 h16_1 hn_1 hs_1 h.1 (v := S.1 k1 x6.toNatClampNeg) rfl ?_
    replace h := h.2
    refine AW_iload 2 dX6_spread_78 rfl ?_
    refine AW_iadd dX6_spread_80 ?_
    refine AW_callVv (M := mX6_spread) (pc := 81) (As := [.ref k1, .int (S.1 kn x7.toNatClampNeg), .int ((S.1 k1 x6.toNatClampNeg) + x4)]) (ρ1 := ρ) (st := []) dX6_spread_81 mdX6_reach rfl mlX6_131 imX6_reach seX6_reach (rcv_of (q := (RX6, TX6, 18)) (Nat.le_of_ble_eq_true rfl) (okn hρ (Nat.le_of_ble_eq_true rfl)) rfl rfl) ⟨rfl, npX6_reach⟩ (Nat.le_of_ble_eq_true rfl) (Nat.le_refl _) (Nat.le_refl _) rfl (CALLv.mono h (fun S1 _ h => ?_))
    refine AW_iinc 5 (v := x7 + 1) dX6_spread_84 rfl rfl (Nat.le_of_ble_eq_true rfl) rfl ?_
    refine AW_goto (tgt := 51) dX6_spread_87 rfl ?_
    exact AW.sub [1, 2, 3, 4, 5, 0] rfl h
set_option maxRecDepth 20000 in
theorem eX6_spread_15 {g : GX} {Q : St → Prop} {d : Nat} {ρ : Rs} {S : St} (hρ : Ok ρ) {k1 n1 : Nat} (h16_1 : 16 ≤ k1) (hn_1 : k1 < rn ρ) (hs_1 : shp ρ k1 = .inr (0, n1)) {x4 : Int32} {x5 : Int32} (h : if (S.1 70 15) ≤ x5 then Q S else if (S.1 70 3) ≤ x5 then Q S else vp_in x5 1000 ∧ (vp_in (S.1 77 x5.toNatClampNeg) 1001 ∧ (AW g ρ (QV Q) (d + 1) mX6_spread 51 [(0, .ref 70), (1, .ref k1), (4, .int x4), (5, .int x5), (6, .int (S.1 77 x5.toNatClampNeg)), (7, .int (S.1 72 ((S.1 77 x5.toNatClampNeg).toNatClampNeg)))] [] ρ S))) : AW g ρ (QV Q) (d + 1) mX6_spread 15 [(0, .ref 70), (1, .ref k1), (4, .int x4), (5, .int x5)] [] ρ S := by
  refine AW_iload 3 dX6_spread_15 rfl ?_
  refine AW_aload_n 0 (n := 0) rfl dX6_spread_17 rfl ?_
  refine AW_get dX6_spread_18 flX6_128 (Nat.le_of_ble_eq_true rfl) (okn hρ (Nat.le_of_ble_eq_true rfl)) rfl (v := .int (S.1 70 15)) (fun _ => rfl) ?_
  refine AW_icmp_ge dX6_spread_21 rfl (iteM h (fun h => ?_) (fun h => ?_))
  · exact AW_retv dX6_spread_96 rfl h
  · refine AW_iload 3 dX6_spread_24 rfl ?_
    refine AW_aload_n 0 (n := 0) rfl dX6_spread_26 rfl ?_
    refine AW_get dX6_spread_27 flX6_75 (Nat.le_of_ble_eq_true rfl) (okn hρ (Nat.le_of_ble_eq_true rfl)) rfl (v := .int (S.1 70 3)) (fun _ => rfl) ?_
    refine AW_icmp_ge dX6_spread_30 rfl (iteM h (fun h => ?_) (fun h => ?_))
    · exact AW_retv dX6_spread_96 rfl h
    · refine AW_aload_n 0 (n := 0) rfl dX6_spread_33 rfl ?_
      refine AW_get dX6_spread_34 flX6_33 (Nat.le_of_ble_eq_true rfl) (okn hρ (Nat.le_of_ble_eq_true rfl)) rfl (v := .ref 77) (fvR (okR hρ 62 rfl)) ?_
      refine AW_iload 3 dX6_spread_37 rfl ?_
      refine AW_iaload dX6_spread_39 (Nat.le_of_ble_eq_true rfl) (okn hρ (Nat.le_of_ble_eq_true rfl)) rfl h.1 (v := S.1 77 x5.toNatClampNeg) rfl ?_
      replace h := h.2
      refine AW_istore dX6_spread_40 (Nat.le_of_ble_eq_true rfl) rfl ?_
      refine AW_aload_n 1 (n := 0) rfl dX6_spread_42 rfl ?_
      refine AW_get dX6_spread_43 flX6_17 (Nat.le_of_ble_eq_true rfl) (okn hρ (Nat.le_of_ble_eq_true rfl)) rfl (v := .ref 72) (fvR (okR hρ 58 rfl)) ?_
      refine AW_iload 0 dX6_spread_46 rfl ?_
      refine AW_iaload dX6_spread_48 (Nat.le_of_ble_eq_true rfl) (okn hρ (Nat.le_of_ble_eq_true rfl)) rfl h.1 (v := S.1 72 ((S.1 77 x5.toNatClampNeg).toNatClampNeg)) rfl ?_
      replace h := h.2
      refine AW_istore dX6_spread_49 (Nat.le_of_ble_eq_true rfl) rfl ?_
      exact AW.sub [2, 3, 4, 5, 1, 0] rfl h
set_option maxRecDepth 20000 in
theorem eX6_spread {g : GX} {Q : St → Prop} {d : Nat} {ρ : Rs} {S : St} (hρ : Ok ρ) {k1 n1 : Nat} (h16_1 : 16 ≤ k1) (hn_1 : k1 < rn ρ) (hs_1 : shp ρ k1 = .inr (0, n1)) {x2 : Int32} {x3 : Int32} {x4 : Int32} (hF : ∀ k ∈ ([70] : List Nat), gF g k) (h : CALLv g d mX6_reach [.ref 70, .ref k1, .int x2, .int x3] ρ ρ (setI S 70 15 0) (fun S1 => AW g ρ (QV Q) (d + 1) mX6_spread 15 [(0, .ref 70), (1, .ref k1), (4, .int x4), (5, .int 0)] [] ρ S1)) : CALLv g (d + 1) mX6_spread [.ref 70, .ref k1, .int x2, .int x3, .int x4] ρ ρ S Q := by
  refine CALL.of mdX6_spread.2.2.2.2 (Nat.le_of_ble_eq_true rfl) (Nat.le_refl _) (Nat.le_refl _) ?_
  show AW g ρ (QV Q) (d + 1) mX6_spread 0 [(0, .ref 70), (1, .ref k1), (2, .int x2), (3, .int x3), (4, .int x4)] [] ρ S
  refine AW_aload_n 0 (n := 0) rfl dX6_spread_0 rfl ?_
  refine AW_iconst (v := 0) dX6_spread_1 rfl ?_
  refine AW_put dX6_spread_2 flX6_128 fp_5_15 (Nat.le_of_ble_eq_true rfl) (okn hρ (Nat.le_of_ble_eq_true rfl)) rfl (fun _ => rfl) (fun _ => rfl) rfl rfl rfl rfl (Fr.setI _ _ _ rfl) (fun _ _ => rfl) (ρ2 := ρ) (S2 := setI S 70 15 0) (fun _ => rfl) (fun _ _ _ q1 _ => fvI_o q1) (hF _ (List.mem_of_getElem? (i := 0) rfl)) ?_
  refine AW_aload_n 0 (n := 0) rfl dX6_spread_5 rfl ?_
  refine AW_aload_n 1 (n := 1) rfl dX6_spread_6 rfl ?_
  refine AW_iload_n 2 (n := 2) rfl dX6_spread_7 rfl ?_
  refine AW_iload_n 3 (n := 3) rfl dX6_spread_8 rfl ?_
  refine AW_callVv (M := mX6_spread) (pc := 9) (As := [.ref k1, .int x2, .int x3]) (ρ1 := ρ) (st := []) dX6_spread_9 mdX6_reach rfl mlX6_131 imX6_reach seX6_reach (rcv_of (q := (RX6, TX6, 18)) (Nat.le_of_ble_eq_true rfl) (okn hρ (Nat.le_of_ble_eq_true rfl)) rfl rfl) ⟨rfl, npX6_reach⟩ (Nat.le_of_ble_eq_true rfl) (Nat.le_refl _) (Nat.le_refl _) rfl (CALLv.mono h (fun S1 _ h => ?_))
  refine AW_iconst (v := 0) dX6_spread_12 rfl ?_
  refine AW_istore dX6_spread_13 (Nat.le_of_ble_eq_true rfl) rfl ?_
  exact AW.sub [1, 2, 5, 0] rfl h
set_option maxRecDepth 20000 in
theorem eX6_reach {g : GX} {Q : St → Prop} {d : Nat} {ρ : Rs} {S : St} (hρ : Ok ρ) {k1 n1 : Nat} (h16_1 : 16 ≤ k1) (hn_1 : k1 < rn ρ) (hs_1 : shp ρ k1 = .inr (0, n1)) {x2 : Int32} {x3 : Int32} (hF : ∀ k ∈ ([77, 70] : List Nat), gF g k) (hF_1 : gF g k1) (h : vp_in x2 n1 ∧ (if (S.1 k1 x2.toNatClampNeg) = (-1) then if (1000 : Int32) ≤ (S.1 70 15) then Q S else vp_in x2 n1 ∧ (vp_in ((setI S k1 x2.toNatClampNeg x3).1 70 15) 1000 ∧ (Q (setI (setI (setI S k1 x2.toNatClampNeg x3) 77 (((setI S k1 x2.toNatClampNeg x3).1 70 15).toNatClampNeg) x2) 70 15 (((setI S k1 x2.toNatClampNeg x3).1 70 15) + 1)))) else Q S)) : CALLv g d mX6_reach [.ref 70, .ref k1, .int x2, .int x3] ρ ρ S Q := by
  refine CALL.of mdX6_reach.2.2.2.2 (Nat.le_of_ble_eq_true rfl) (Nat.le_refl _) (Nat.le_refl _) ?_
  show AW g ρ (QV Q) d mX6_reach 0 [(0, .ref 70), (1, .ref k1), (2, .int x2), (3, .int x3)] [] ρ S
  refine AW_aload_n 1 (n := 1) rfl dX6_reach_0 rfl ?_
  refine AW_iload_n 2 (n := 2) rfl dX6_reach_1 rfl ?_
  refine AW_iaload dX6_reach_2 h16_1 hn_1 hs_1 h.1 (v := S.1 k1 x2.toNatClampNeg) rfl ?_
  replace h := h.2
  refine AW_iconst (v := (-1)) dX6_reach_3 rfl ?_
  refine AW_icmp_ne dX6_reach_4 rfl (iteM h (fun h => ?_) (fun h => ?_))
  · refine AW_aload_n 0 (n := 0) rfl dX6_reach_7 rfl ?_
    refine AW_get dX6_reach_8 flX6_128 (Nat.le_of_ble_eq_true rfl) (okn hρ (Nat.le_of_ble_eq_true rfl)) rfl (v := .int (S.1 70 15)) (fun _ => rfl) ?_
    refine AW_sipush (v := 1000) dX6_reach_11 rfl ?_
    refine AW_icmp_ge dX6_reach_14 rfl (iteM h (fun h => ?_) (fun h => ?_))
    · exact AW_retv dX6_reach_41 rfl h
    · refine AW_aload_n 1 (n := 1) rfl dX6_reach_17 rfl ?_
      refine AW_iload_n 2 (n := 2) rfl dX6_reach_18 rfl ?_
      refine AW_iload_n 3 (n := 3) rfl dX6_reach_19 rfl ?_
      refine AW_iastore dX6_reach_20 h16_1 hn_1 hs_1 h.1 hF_1 (jx := x2.toNatClampNeg) rfl ?_
      replace h := h.2
      refine AW_aload_n 0 (n := 0) rfl dX6_reach_21 rfl ?_
      refine AW_get dX6_reach_22 flX6_33 (Nat.le_of_ble_eq_true rfl) (okn hρ (Nat.le_of_ble_eq_true rfl)) rfl (v := .ref 77) (fvR (okR hρ 62 rfl)) ?_
      refine AW_aload_n 0 (n := 0) rfl dX6_reach_25 rfl ?_
      refine AW_get dX6_reach_26 flX6_128 (Nat.le_of_ble_eq_true rfl) (okn hρ (Nat.le_of_ble_eq_true rfl)) rfl (v := .int ((setI S k1 x2.toNatClampNeg x3).1 70 15)) (fun _ => rfl) ?_
      refine AW_iload_n 2 (n := 2) rfl dX6_reach_29 rfl ?_
      refine AW_iastore dX6_reach_30 (Nat.le_of_ble_eq_true rfl) (okn hρ (Nat.le_of_ble_eq_true rfl)) rfl h.1 (hF _ (List.mem_of_getElem? (i := 0) rfl)) (jx := ((setI S k1 x2.toNatClampNeg x3).1 70 15).toNatClampNeg) rfl ?_
      replace h := h.2
      refine AW_aload_n 0 (n := 0) rfl dX6_reach_31 rfl ?_
      refine AW_dup dX6_reach_32 rfl ?_
      refine AW_get dX6_reach_33 flX6_128 (Nat.le_of_ble_eq_true rfl) (okn hρ (Nat.le_of_ble_eq_true rfl)) rfl (v := .int ((setI S k1 x2.toNatClampNeg x3).1 70 15)) (fun _ => rfl) ?_
      refine AW_iconst (v := 1) dX6_reach_36 rfl ?_
      refine AW_iadd dX6_reach_37 ?_
      refine AW_put dX6_reach_38 flX6_128 fp_5_15 (Nat.le_of_ble_eq_true rfl) (okn hρ (Nat.le_of_ble_eq_true rfl)) rfl (fun _ => rfl) (fun _ => rfl) rfl rfl rfl rfl (Fr.setI _ _ _ rfl) (fun _ _ => rfl) (ρ2 := ρ) (S2 := setI (setI (setI S k1 x2.toNatClampNeg x3) 77 (((setI S k1 x2.toNatClampNeg x3).1 70 15).toNatClampNeg) x2) 70 15 (((setI S k1 x2.toNatClampNeg x3).1 70 15) + 1)) (fun _ => rfl) (fun _ _ _ q1 _ => fvI_o q1) (hF _ (List.mem_of_getElem? (i := 1) rfl)) ?_
      exact AW_retv dX6_reach_41 rfl h
  · exact AW_retv dX6_reach_41 rfl h
set_option maxRecDepth 20000 in
theorem eX6_measureFrom {g : GX} {Q : St → Prop} {d : Nat} {ρ : Rs} {S : St} (hρ : Ok ρ) {x1 : Int32} (hF : ∀ k ∈ ([70] : List Nat), gF g k) (h : if (S.1 70 13) = x1 then Q S else CALLv g d mJ7_fill_53178 [.ref 76, .int (-1)] ρ ρ S (fun S1 => CALLv g d mX6_spread [.ref 70, .ref 76, .int x1, .int 0, .int 1] ρ ρ S1 (fun S2 => Q (setI S2 70 13 x1)))) : CALLv g (d + 1) mX6_measureFrom [.ref 70, .int x1] ρ ρ S Q := by
  refine CALL.of mdX6_measureFrom.2.2.2.2 (Nat.le_of_ble_eq_true rfl) (Nat.le_refl _) (Nat.le_refl _) ?_
  show AW g ρ (QV Q) (d + 1) mX6_measureFrom 0 [(0, .ref 70), (1, .int x1)] [] ρ S
  refine AW_aload_n 0 (n := 0) rfl dX6_measureFrom_0 rfl ?_
  refine AW_get dX6_measureFrom_1 flX6_54 (Nat.le_of_ble_eq_true rfl) (okn hρ (Nat.le_of_ble_eq_true rfl)) rfl (v := .int (S.1 70 13)) (fun _ => rfl) ?_
  refine AW_iload_n 1 (n := 1) rfl dX6_measureFrom_4 rfl ?_
  refine AW_icmp_eq dX6_measureFrom_5 rfl (iteM h (fun h => ?_) (fun h => ?_))
  · exact AW_retv dX6_measureFrom_32 rfl h
  · refine AW_aload_n 0 (n := 0) rfl dX6_measureFrom_8 rfl ?_
    refine AW_get dX6_measureFrom_9 flX6_30 (Nat.le_of_ble_eq_true rfl) (okn hρ (Nat.le_of_ble_eq_true rfl)) rfl (v := .ref 76) (fvR (okR hρ 61 rfl)) ?_
    refine AW_iconst (v := (-1)) dX6_measureFrom_12 rfl ?_
    refine AW_callSv (M := mX6_measureFrom) (pc := 13) (As := [.ref 76, .int (-1)]) (ρ1 := ρ) (st := []) dX6_measureFrom_13 mdJ7_fill_53178 mlX6_117 smJ7_fill_53178 ⟨rfl, npJ7_fill_53178⟩ (Nat.le_of_ble_eq_true rfl) (Nat.le_refl _) (Nat.le_refl _) rfl (CALLv.mono h (fun S1 _ h => ?_))
    refine AW_aload_n 0 (n := 0) rfl dX6_measureFrom_16 rfl ?_
    refine AW_aload_n 0 (n := 0) rfl dX6_measureFrom_17 rfl ?_
    refine AW_get dX6_measureFrom_18 flX6_30 (Nat.le_of_ble_eq_true rfl) (okn hρ (Nat.le_of_ble_eq_true rfl)) rfl (v := .ref 76) (fvR (okR hρ 61 rfl)) ?_
    refine AW_iload_n 1 (n := 1) rfl dX6_measureFrom_21 rfl ?_
    refine AW_iconst (v := 0) dX6_measureFrom_22 rfl ?_
    refine AW_iconst (v := 1) dX6_measureFrom_23 rfl ?_
    refine AW_callVv (M := mX6_measureFrom) (pc := 24) (As := [.ref 76, .int x1, .int 0, .int 1]) (ρ1 := ρ) (st := []) dX6_measureFrom_24 mdX6_spread rfl mlX6_124 imX6_spread seX6_spread (rcv_of (q := (RX6, TX6, 18)) (Nat.le_of_ble_eq_true rfl) (okn hρ (Nat.le_of_ble_eq_true rfl)) rfl rfl) ⟨rfl, npX6_spread⟩ (Nat.le_of_ble_eq_true rfl) (Nat.le_refl _) (Nat.le_refl _) rfl (CALLv.mono h (fun S2 _ h => ?_))
    refine AW_aload_n 0 (n := 0) rfl dX6_measureFrom_27 rfl ?_
    refine AW_iload_n 1 (n := 1) rfl dX6_measureFrom_28 rfl ?_
    refine AW_put dX6_measureFrom_29 flX6_54 fp_5_13 (Nat.le_of_ble_eq_true rfl) (okn hρ (Nat.le_of_ble_eq_true rfl)) rfl (fun _ => rfl) (fun _ => rfl) rfl rfl rfl rfl (Fr.setI _ _ _ rfl) (fun _ _ => rfl) (ρ2 := ρ) (S2 := setI S2 70 13 x1) (fun _ => rfl) (fun _ _ _ q1 _ => fvI_o q1) (hF _ (List.mem_of_getElem? (i := 0) rfl)) ?_
    exact AW_retv dX6_measureFrom_32 rfl h
set_option maxRecDepth 20000 in
theorem eX6_classTotal {g : GX} {Q : Int32 → St → Prop} {d : Nat} {ρ : Rs} {S : St} (hρ : Ok ρ) (h : Q (S.1 70 10) S) : CALLi g d mX6_classTotal [.ref 70] ρ ρ S Q := by
  refine CALL.of mdX6_classTotal.2.2.2.2 (Nat.le_of_ble_eq_true rfl) (Nat.le_refl _) (Nat.le_refl _) ?_
  show AW g ρ (QI Q) d mX6_classTotal 0 [(0, .ref 70)] [] ρ S
  refine AW_aload_n 0 (n := 0) rfl dX6_classTotal_0 rfl ?_
  refine AW_get dX6_classTotal_1 flX6_121 (Nat.le_of_ble_eq_true rfl) (okn hρ (Nat.le_of_ble_eq_true rfl)) rfl (v := .int (S.1 70 10)) (fun _ => rfl) ?_
  exact AW_reti dX6_classTotal_4 rfl h
set_option maxRecDepth 20000 in
theorem eX6_headOf {g : GX} {Q : Int32 → St → Prop} {d : Nat} {ρ : Rs} {S : St} (hρ : Ok ρ) {x1 : Int32} (h : if x1 < 0 then Q (-2) S else if (S.1 70 3) ≤ x1 then Q (-2) S else vp_in x1 1000 ∧ (Q (S.1 74 x1.toNatClampNeg) S)) : CALLi g d mX6_headOf [.ref 70, .int x1] ρ ρ S Q := by
  refine CALL.of mdX6_headOf.2.2.2.2 (Nat.le_of_ble_eq_true rfl) (Nat.le_refl _) (Nat.le_refl _) ?_
  show AW g ρ (QI Q) d mX6_headOf 0 [(0, .ref 70), (1, .int x1)] [] ρ S
  refine AW_iload_n 1 (n := 1) rfl dX6_headOf_0 rfl ?_
  refine AW_if_lt dX6_headOf_1 rfl (iteM h (fun h => ?_) (fun h => ?_))
  · refine AW_bipush (v := (-2)) dX6_headOf_21 rfl ?_
    exact AW_reti dX6_headOf_23 rfl h
  · refine AW_iload_n 1 (n := 1) rfl dX6_headOf_4 rfl ?_
    refine AW_aload_n 0 (n := 0) rfl dX6_headOf_5 rfl ?_
    refine AW_get dX6_headOf_6 flX6_75 (Nat.le_of_ble_eq_true rfl) (okn hρ (Nat.le_of_ble_eq_true rfl)) rfl (v := .int (S.1 70 3)) (fun _ => rfl) ?_
    refine AW_icmp_ge dX6_headOf_9 rfl (iteM h (fun h => ?_) (fun h => ?_))
    · refine AW_bipush (v := (-2)) dX6_headOf_21 rfl ?_
      exact AW_reti dX6_headOf_23 rfl h
    · refine AW_aload_n 0 (n := 0) rfl dX6_headOf_12 rfl ?_
      refine AW_get dX6_headOf_13 flX6_24 (Nat.le_of_ble_eq_true rfl) (okn hρ (Nat.le_of_ble_eq_true rfl)) rfl (v := .ref 74) (fvR (okR hρ 59 rfl)) ?_
      refine AW_iload_n 1 (n := 1) rfl dX6_headOf_16 rfl ?_
      refine AW_iaload dX6_headOf_17 (Nat.le_of_ble_eq_true rfl) (okn hρ (Nat.le_of_ble_eq_true rfl)) rfl h.1 (v := S.1 74 x1.toNatClampNeg) rfl ?_
      replace h := h.2
      refine AW_goto (tgt := 23) dX6_headOf_18 rfl ?_
      exact AW_reti dX6_headOf_23 rfl h
set_option maxRecDepth 20000 in
theorem eX6_classSize {g : GX} {Q : Int32 → St → Prop} {d : Nat} {ρ : Rs} {S : St} (hρ : Ok ρ) {x1 : Int32} (h : CALLi g d mX6_headOf [.ref 70, .int x1] ρ ρ S (fun v1 S1 => if v1 < 0 then Q (-2) S1 else if (S1.1 70 3) ≤ v1 then Q (-2) S1 else vp_in v1 1000 ∧ (Q (S1.1 75 v1.toNatClampNeg) S1))) : CALLi g (d + 1) mX6_classSize [.ref 70, .int x1] ρ ρ S Q := by
  refine CALL.of mdX6_classSize.2.2.2.2 (Nat.le_of_ble_eq_true rfl) (Nat.le_refl _) (Nat.le_refl _) ?_
  show AW g ρ (QI Q) (d + 1) mX6_classSize 0 [(0, .ref 70), (1, .int x1)] [] ρ S
  refine AW_aload_n 0 (n := 0) rfl dX6_classSize_0 rfl ?_
  refine AW_iload_n 1 (n := 1) rfl dX6_classSize_1 rfl ?_
  refine AW_callVi (M := mX6_classSize) (pc := 2) (As := [.int x1]) (ρ1 := ρ) (st := []) dX6_classSize_2 mdX6_headOf rfl mlX6_135 imX6_headOf seX6_headOf (rcv_of (q := (RX6, TX6, 18)) (Nat.le_of_ble_eq_true rfl) (okn hρ (Nat.le_of_ble_eq_true rfl)) rfl rfl) ⟨rfl, npX6_headOf⟩ (Nat.le_of_ble_eq_true rfl) (Nat.le_refl _) (Nat.le_refl _) rfl (CALLi.mono h (fun v1 S1 _ h => ?_))
  refine AW_istore_n (n := 2) (i := 2) rfl dX6_classSize_5 (Nat.le_of_ble_eq_true rfl) rfl ?_
  refine AW_iload_n 0 (n := 2) rfl dX6_classSize_6 rfl ?_
  refine AW_if_lt dX6_classSize_7 rfl (iteM h (fun h => ?_) (fun h => ?_))
  · refine AW_bipush (v := (-2)) dX6_classSize_27 rfl ?_
    exact AW_reti dX6_classSize_29 rfl h
  · refine AW_iload_n 0 (n := 2) rfl dX6_classSize_10 rfl ?_
    refine AW_aload_n 1 (n := 0) rfl dX6_classSize_11 rfl ?_
    refine AW_get dX6_classSize_12 flX6_75 (Nat.le_of_ble_eq_true rfl) (okn hρ (Nat.le_of_ble_eq_true rfl)) rfl (v := .int (S1.1 70 3)) (fun _ => rfl) ?_
    refine AW_icmp_ge dX6_classSize_15 rfl (iteM h (fun h => ?_) (fun h => ?_))
    · refine AW_bipush (v := (-2)) dX6_classSize_27 rfl ?_
      exact AW_reti dX6_classSize_29 rfl h
    · refine AW_aload_n 1 (n := 0) rfl dX6_classSize_18 rfl ?_
      refine AW_get dX6_classSize_19 flX6_27 (Nat.le_of_ble_eq_true rfl) (okn hρ (Nat.le_of_ble_eq_true rfl)) rfl (v := .ref 75) (fvR (okR hρ 60 rfl)) ?_
      refine AW_iload_n 0 (n := 2) rfl dX6_classSize_22 rfl ?_
      refine AW_iaload dX6_classSize_23 (Nat.le_of_ble_eq_true rfl) (okn hρ (Nat.le_of_ble_eq_true rfl)) rfl h.1 (v := S1.1 75 v1.toNatClampNeg) rfl ?_
      replace h := h.2
      refine AW_goto (tgt := 29) dX6_classSize_24 rfl ?_
      exact AW_reti dX6_classSize_29 rfl h
set_option maxRecDepth 20000 in
theorem eX6_joinedTotal {g : GX} {Q : Int32 → St → Prop} {d : Nat} {ρ : Rs} {S : St} (hρ : Ok ρ) (hF : ∀ k ∈ ([70] : List Nat), gF g k) (h : if (S.1 70 11) = (-1) then if (S.1 70 10) ≤ 1 then Q (S.1 70 10) (setI S 70 11 (S.1 70 10)) else CALLi g d mX6_countJoined [.ref 70] ρ ρ S (fun v1 S1 => Q v1 (setI S1 70 11 v1)) else Q (S.1 70 11) S) : CALLi g (d + 1) mX6_joinedTotal [.ref 70] ρ ρ S Q := by
  refine CALL.of mdX6_joinedTotal.2.2.2.2 (Nat.le_of_ble_eq_true rfl) (Nat.le_refl _) (Nat.le_refl _) ?_
  show AW g ρ (QI Q) (d + 1) mX6_joinedTotal 0 [(0, .ref 70)] [] ρ S
  refine AW_aload_n 0 (n := 0) rfl dX6_joinedTotal_0 rfl ?_
  refine AW_get dX6_joinedTotal_1 flX6_58 (Nat.le_of_ble_eq_true rfl) (okn hρ (Nat.le_of_ble_eq_true rfl)) rfl (v := .int (S.1 70 11)) (fun _ => rfl) ?_
  refine AW_iconst (v := (-1)) dX6_joinedTotal_4 rfl ?_
  refine AW_icmp_ne dX6_joinedTotal_5 rfl (iteM h (fun h => ?_) (fun h => ?_))
  · refine AW_aload_n 0 (n := 0) rfl dX6_joinedTotal_8 rfl ?_
    refine AW_aload_n 0 (n := 0) rfl dX6_joinedTotal_9 rfl ?_
    refine AW_get dX6_joinedTotal_10 flX6_121 (Nat.le_of_ble_eq_true rfl) (okn hρ (Nat.le_of_ble_eq_true rfl)) rfl (v := .int (S.1 70 10)) (fun _ => rfl) ?_
    refine AW_iconst (v := 1) dX6_joinedTotal_13 rfl ?_
    refine AW_icmp_le dX6_joinedTotal_14 rfl (iteM h (fun h => ?_) (fun h => ?_))
    · refine AW_aload_n 0 (n := 0) rfl dX6_joinedTotal_24 rfl ?_
      refine AW_get dX6_joinedTotal_25 flX6_121 (Nat.le_of_ble_eq_true rfl) (okn hρ (Nat.le_of_ble_eq_true rfl)) rfl (v := .int (S.1 70 10)) (fun _ => rfl) ?_
      refine AW_put dX6_joinedTotal_28 flX6_58 fp_5_11 (Nat.le_of_ble_eq_true rfl) (okn hρ (Nat.le_of_ble_eq_true rfl)) rfl (fun _ => rfl) (fun _ => rfl) rfl rfl rfl rfl (Fr.setI _ _ _ rfl) (fun _ _ => rfl) (ρ2 := ρ) (S2 := setI S 70 11 (S.1 70 10)) (fun _ => rfl) (fun _ _ _ q1 _ => fvI_o q1) (hF _ (List.mem_of_getElem? (i := 0) rfl)) ?_
      refine AW_aload_n 0 (n := 0) rfl dX6_joinedTotal_31 rfl ?_
      refine AW_get dX6_joinedTotal_32 flX6_58 (Nat.le_of_ble_eq_true rfl) (okn hρ (Nat.le_of_ble_eq_true rfl)) rfl (v := .int (S.1 70 10)) (fun _ => rfl) ?_
      exact AW_reti dX6_joinedTotal_35 rfl h
    · refine AW_aload_n 0 (n := 0) rfl dX6_joinedTotal_17 rfl ?_
      refine AW_callVi (M := mX6_joinedTotal) (pc := 18) (As := []) (ρ1 := ρ) (st := [.ref 70]) dX6_joinedTotal_18 mdX6_countJoined rfl mlX6_139 imX6_countJoined seX6_countJoined (rcv_of (q := (RX6, TX6, 18)) (Nat.le_of_ble_eq_true rfl) (okn hρ (Nat.le_of_ble_eq_true rfl)) rfl rfl) ⟨rfl, npX6_countJoined⟩ (Nat.le_of_ble_eq_true rfl) (Nat.le_refl _) (Nat.le_refl _) rfl (CALLi.mono h (fun v1 S1 _ h => ?_))
      refine AW_goto (tgt := 28) dX6_joinedTotal_21 rfl ?_
      refine AW_put dX6_joinedTotal_28 flX6_58 fp_5_11 (Nat.le_of_ble_eq_true rfl) (okn hρ (Nat.le_of_ble_eq_true rfl)) rfl (fun _ => rfl) (fun _ => rfl) rfl rfl rfl rfl (Fr.setI _ _ _ rfl) (fun _ _ => rfl) (ρ2 := ρ) (S2 := setI S1 70 11 v1) (fun _ => rfl) (fun _ _ _ q1 _ => fvI_o q1) (hF _ (List.mem_of_getElem? (i := 0) rfl)) ?_
      refine AW_aload_n 0 (n := 0) rfl dX6_joinedTotal_31 rfl ?_
      refine AW_get dX6_joinedTotal_32 flX6_58 (Nat.le_of_ble_eq_true rfl) (okn hρ (Nat.le_of_ble_eq_true rfl)) rfl (v := .int v1) (fun _ => rfl) ?_
      exact AW_reti dX6_joinedTotal_35 rfl h
  · refine AW_aload_n 0 (n := 0) rfl dX6_joinedTotal_31 rfl ?_
    refine AW_get dX6_joinedTotal_32 flX6_58 (Nat.le_of_ble_eq_true rfl) (okn hρ (Nat.le_of_ble_eq_true rfl)) rfl (v := .int (S.1 70 11)) (fun _ => rfl) ?_
    exact AW_reti dX6_joinedTotal_35 rfl h
set_option maxRecDepth 20000 in
theorem eX6_countJoined_17 {g : GX} {Q : Int32 → St → Prop} {d : Nat} {ρ : Rs} {S : St} (hρ : Ok ρ) {x1 : Int32} {x2 : Int32} (h : if (S.1 70 3) ≤ x2 then Q x1 S else vp_in x2 1000 ∧ (if (S.1 76 x2.toNatClampNeg) = (-1) then CALLv g d mX6_spreadByAll [.ref 70, .int x2] ρ ρ S (fun S1 => AW g ρ (QI Q) (d + 1) mX6_countJoined 17 [(0, .ref 70), (1, .int (x1 + 1)), (2, .int (x2 + 1))] [] ρ S1) else AW g ρ (QI Q) (d + 1) mX6_countJoined 17 [(0, .ref 70), (1, .int x1), (2, .int (x2 + 1))] [] ρ S)) : AW g ρ (QI Q) (d + 1) mX6_countJoined 17 [(0, .ref 70), (1, .int x1), (2, .int x2)] [] ρ S := by
  refine AW_iload_n 2 (n := 2) rfl dX6_countJoined_17 rfl ?_
  refine AW_aload_n 0 (n := 0) rfl dX6_countJoined_18 rfl ?_
  refine AW_get dX6_countJoined_19 flX6_75 (Nat.le_of_ble_eq_true rfl) (okn hρ (Nat.le_of_ble_eq_true rfl)) rfl (v := .int (S.1 70 3)) (fun _ => rfl) ?_
  refine AW_icmp_ge dX6_countJoined_22 rfl (iteM h (fun h => ?_) (fun h => ?_))
  · refine AW_iload_n 1 (n := 1) rfl dX6_countJoined_49 rfl ?_
    exact AW_reti dX6_countJoined_50 rfl h
  · refine AW_aload_n 0 (n := 0) rfl dX6_countJoined_25 rfl ?_
    refine AW_get dX6_countJoined_26 flX6_30 (Nat.le_of_ble_eq_true rfl) (okn hρ (Nat.le_of_ble_eq_true rfl)) rfl (v := .ref 76) (fvR (okR hρ 61 rfl)) ?_
    refine AW_iload_n 2 (n := 2) rfl dX6_countJoined_29 rfl ?_
    refine AW_iaload dX6_countJoined_30 (Nat.le_of_ble_eq_true rfl) (okn hρ (Nat.le_of_ble_eq_true rfl)) rfl h.1 (v := S.1 76 x2.toNatClampNeg) rfl ?_
    replace h := h.2
    refine AW_iconst (v := (-1)) dX6_countJoined_31 rfl ?_
    refine AW_icmp_ne dX6_countJoined_32 rfl (iteM h (fun h => ?_) (fun h => ?_))
    · refine AW_iinc 1 (v := x1 + 1) dX6_countJoined_35 rfl rfl (Nat.le_of_ble_eq_true rfl) rfl ?_
      refine AW_aload_n 1 (n := 0) rfl dX6_countJoined_38 rfl ?_
      refine AW_iload_n 2 (n := 2) rfl dX6_countJoined_39 rfl ?_
      refine AW_callVv (M := mX6_countJoined) (pc := 40) (As := [.int x2]) (ρ1 := ρ) (st := []) dX6_countJoined_40 mdX6_spreadByAll rfl mlX6_143 imX6_spreadByAll seX6_spreadByAll (rcv_of (q := (RX6, TX6, 18)) (Nat.le_of_ble_eq_true rfl) (okn hρ (Nat.le_of_ble_eq_true rfl)) rfl rfl) ⟨rfl, npX6_spreadByAll⟩ (Nat.le_of_ble_eq_true rfl) (Nat.le_refl _) (Nat.le_refl _) rfl (CALLv.mono h (fun S1 _ h => ?_))
      refine AW_iinc 2 (v := x2 + 1) dX6_countJoined_43 rfl rfl (Nat.le_of_ble_eq_true rfl) rfl ?_
      refine AW_goto (tgt := 17) dX6_countJoined_46 rfl ?_
      exact AW.sub [2, 1, 0] rfl h
    · refine AW_iinc 2 (v := x2 + 1) dX6_countJoined_43 rfl rfl (Nat.le_of_ble_eq_true rfl) rfl ?_
      refine AW_goto (tgt := 17) dX6_countJoined_46 rfl ?_
      exact AW.sub [1, 2, 0] rfl h
set_option maxRecDepth 20000 in
theorem eX6_countJoined {g : GX} {Q : Int32 → St → Prop} {d : Nat} {ρ : Rs} {S : St} (hρ : Ok ρ) (hF : ∀ k ∈ ([70] : List Nat), gF g k) (h : CALLv g d mJ7_fill_53178 [.ref 76, .int (-1)] ρ ρ (setI S 70 13 (-1)) (fun S1 => AW g ρ (QI Q) (d + 1) mX6_countJoined 17 [(0, .ref 70), (1, .int 0), (2, .int 0)] [] ρ S1)) : CALLi g (d + 1) mX6_countJoined [.ref 70] ρ ρ S Q := by
  refine CALL.of mdX6_countJoined.2.2.2.2 (Nat.le_of_ble_eq_true rfl) (Nat.le_refl _) (Nat.le_refl _) ?_
  show AW g ρ (QI Q) (d + 1) mX6_countJoined 0 [(0, .ref 70)] [] ρ S
  refine AW_aload_n 0 (n := 0) rfl dX6_countJoined_0 rfl ?_
  refine AW_iconst (v := (-1)) dX6_countJoined_1 rfl ?_
  refine AW_put dX6_countJoined_2 flX6_54 fp_5_13 (Nat.le_of_ble_eq_true rfl) (okn hρ (Nat.le_of_ble_eq_true rfl)) rfl (fun _ => rfl) (fun _ => rfl) rfl rfl rfl rfl (Fr.setI _ _ _ rfl) (fun _ _ => rfl) (ρ2 := ρ) (S2 := setI S 70 13 (-1)) (fun _ => rfl) (fun _ _ _ q1 _ => fvI_o q1) (hF _ (List.mem_of_getElem? (i := 0) rfl)) ?_
  refine AW_aload_n 0 (n := 0) rfl dX6_countJoined_5 rfl ?_
  refine AW_get dX6_countJoined_6 flX6_30 (Nat.le_of_ble_eq_true rfl) (okn hρ (Nat.le_of_ble_eq_true rfl)) rfl (v := .ref 76) (fvR (okR hρ 61 rfl)) ?_
  refine AW_iconst (v := (-1)) dX6_countJoined_9 rfl ?_
  refine AW_callSv (M := mX6_countJoined) (pc := 10) (As := [.ref 76, .int (-1)]) (ρ1 := ρ) (st := []) dX6_countJoined_10 mdJ7_fill_53178 mlX6_117 smJ7_fill_53178 ⟨rfl, npJ7_fill_53178⟩ (Nat.le_of_ble_eq_true rfl) (Nat.le_refl _) (Nat.le_refl _) rfl (CALLv.mono h (fun S1 _ h => ?_))
  refine AW_iconst (v := 0) dX6_countJoined_13 rfl ?_
  refine AW_istore_n (n := 1) (i := 1) rfl dX6_countJoined_14 (Nat.le_of_ble_eq_true rfl) rfl ?_
  refine AW_iconst (v := 0) dX6_countJoined_15 rfl ?_
  refine AW_istore_n (n := 2) (i := 2) rfl dX6_countJoined_16 (Nat.le_of_ble_eq_true rfl) rfl ?_
  exact AW.sub [2, 1, 0] rfl h
set_option maxRecDepth 20000 in
theorem eX6_spreadByAll_43 {g : GX} {Q : St → Prop} {d : Nat} {ρ : Rs} {S : St} (hρ : Ok ρ) {x2 : Int32} {x3 : Int32} {x4 : Int32} (h : if (S.1 26 1) ≤ x4 then AW g ρ (QV Q) (d + 1) mX6_spreadByAll 17 [(0, .ref 70), (2, .int (x2 + 1))] [] ρ S else vp_in x3 1000 ∧ (CALLi g d mX5_can [.ref 26, .long (S.2 71 x3.toNatClampNeg), .int x4] ρ ρ S (fun v1 S1 => if v1 = 0 then AW g ρ (QV Q) (d + 1) mX6_spreadByAll 43 [(0, .ref 70), (2, .int x2), (3, .int x3), (4, .int (x4 + 1))] [] ρ S1 else vp_in x3 1000 ∧ (vp_in x4 264 ∧ (CALLi g d mX6_find [.ref 70, .long ((S1.2 71 x3.toNatClampNeg) + (S1.2 27 x4.toNatClampNeg))] ρ ρ S1 (fun v2 S2 => CALLv g d mX6_reach [.ref 70, .ref 76, .int v2, .int 0] ρ ρ S2 (fun S3 => AW g ρ (QV Q) (d + 1) mX6_spreadByAll 43 [(0, .ref 70), (2, .int x2), (3, .int x3), (4, .int (x4 + 1))] [] ρ S3))))))) : AW g ρ (QV Q) (d + 1) mX6_spreadByAll 43 [(0, .ref 70), (2, .int x2), (3, .int x3), (4, .int x4)] [] ρ S := by
  refine AW_iload 3 dX6_spreadByAll_43 rfl ?_
  refine AW_aload_n 0 (n := 0) rfl dX6_spreadByAll_45 rfl ?_
  refine AW_get dX6_spreadByAll_46 flX6_46 (Nat.le_of_ble_eq_true rfl) (okn hρ (Nat.le_of_ble_eq_true rfl)) rfl (v := .ref 26) (fvR (okR hρ 56 rfl)) ?_
  refine AW_get dX6_spreadByAll_49 flX6_146 (Nat.le_of_ble_eq_true rfl) (okn hρ (Nat.le_of_ble_eq_true rfl)) rfl (v := .int (S.1 26 1)) (fun _ => rfl) ?_
  refine AW_icmp_ge dX6_spreadByAll_52 rfl (iteM h (fun h => ?_) (fun h => ?_))
  · refine AW_iinc 1 (v := x2 + 1) dX6_spreadByAll_109 rfl rfl (Nat.le_of_ble_eq_true rfl) rfl ?_
    refine AW_goto (tgt := 17) dX6_spreadByAll_112 rfl ?_
    exact AW.sub [1, 0] rfl h
  · refine AW_aload_n 0 (n := 0) rfl dX6_spreadByAll_55 rfl ?_
    refine AW_get dX6_spreadByAll_56 flX6_46 (Nat.le_of_ble_eq_true rfl) (okn hρ (Nat.le_of_ble_eq_true rfl)) rfl (v := .ref 26) (fvR (okR hρ 56 rfl)) ?_
    refine AW_aload_n 0 (n := 0) rfl dX6_spreadByAll_59 rfl ?_
    refine AW_get dX6_spreadByAll_60 flX6_11 (Nat.le_of_ble_eq_true rfl) (okn hρ (Nat.le_of_ble_eq_true rfl)) rfl (v := .ref 71) (fvR (okR hρ 57 rfl)) ?_
    refine AW_iload_n 2 (n := 3) rfl dX6_spreadByAll_63 rfl ?_
    refine AW_laload dX6_spreadByAll_64 (Nat.le_of_ble_eq_true rfl) (okn hρ (Nat.le_of_ble_eq_true rfl)) rfl h.1 (v := S.2 71 x3.toNatClampNeg) rfl ?_
    replace h := h.2
    refine AW_iload 3 dX6_spreadByAll_65 rfl ?_
    refine AW_callVi (M := mX6_spreadByAll) (pc := 67) (As := [.long (S.2 71 x3.toNatClampNeg), .int x4]) (ρ1 := ρ) (st := []) dX6_spreadByAll_67 mdX5_can rfl mlX6_94 imX5_can seX5_can (rcv_of (q := (RX5, TX5, 7)) (Nat.le_of_ble_eq_true rfl) (okn hρ (Nat.le_of_ble_eq_true rfl)) rfl rfl) ⟨rfl, npX5_can⟩ (Nat.le_of_ble_eq_true rfl) (Nat.le_refl _) (Nat.le_refl _) rfl (CALLi.mono h (fun v1 S1 _ h => ?_))
    refine AW_if_eq dX6_spreadByAll_70 rfl (iteM h (fun h => ?_) (fun h => ?_))
    · refine AW_iinc 3 (v := x4 + 1) dX6_spreadByAll_103 rfl rfl (Nat.le_of_ble_eq_true rfl) rfl ?_
      refine AW_goto (tgt := 43) dX6_spreadByAll_106 rfl ?_
      exact AW.sub [1, 2, 3, 0] rfl h
    · refine AW_aload_n 0 (n := 0) rfl dX6_spreadByAll_73 rfl ?_
      refine AW_aload_n 0 (n := 0) rfl dX6_spreadByAll_74 rfl ?_
      refine AW_get dX6_spreadByAll_75 flX6_30 (Nat.le_of_ble_eq_true rfl) (okn hρ (Nat.le_of_ble_eq_true rfl)) rfl (v := .ref 76) (fvR (okR hρ 61 rfl)) ?_
      refine AW_aload_n 0 (n := 0) rfl dX6_spreadByAll_78 rfl ?_
      refine AW_aload_n 0 (n := 0) rfl dX6_spreadByAll_79 rfl ?_
      refine AW_get dX6_spreadByAll_80 flX6_11 (Nat.le_of_ble_eq_true rfl) (okn hρ (Nat.le_of_ble_eq_true rfl)) rfl (v := .ref 71) (fvR (okR hρ 57 rfl)) ?_
      refine AW_iload_n 2 (n := 3) rfl dX6_spreadByAll_83 rfl ?_
      refine AW_laload dX6_spreadByAll_84 (Nat.le_of_ble_eq_true rfl) (okn hρ (Nat.le_of_ble_eq_true rfl)) rfl h.1 (v := S1.2 71 x3.toNatClampNeg) rfl ?_
      replace h := h.2
      refine AW_aload_n 0 (n := 0) rfl dX6_spreadByAll_85 rfl ?_
      refine AW_get dX6_spreadByAll_86 flX6_46 (Nat.le_of_ble_eq_true rfl) (okn hρ (Nat.le_of_ble_eq_true rfl)) rfl (v := .ref 26) (fvR (okR hρ 56 rfl)) ?_
      refine AW_get dX6_spreadByAll_89 flX6_108 (Nat.le_of_ble_eq_true rfl) (okn hρ (Nat.le_of_ble_eq_true rfl)) rfl (v := .ref 27) (fvR (okR hρ 13 rfl)) ?_
      refine AW_iload 3 dX6_spreadByAll_92 rfl ?_
      refine AW_laload dX6_spreadByAll_94 (Nat.le_of_ble_eq_true rfl) (okn hρ (Nat.le_of_ble_eq_true rfl)) rfl h.1 (v := S1.2 27 x4.toNatClampNeg) rfl ?_
      replace h := h.2
      refine AW_ladd dX6_spreadByAll_95 ?_
      refine AW_callVi (M := mX6_spreadByAll) (pc := 96) (As := [.long ((S1.2 71 x3.toNatClampNeg) + (S1.2 27 x4.toNatClampNeg))]) (ρ1 := ρ) (st := [.ref 76, .ref 70]) dX6_spreadByAll_96 mdX6_find rfl mlX6_111 imX6_find seX6_find (rcv_of (q := (RX6, TX6, 18)) (Nat.le_of_ble_eq_true rfl) (okn hρ (Nat.le_of_ble_eq_true rfl)) rfl rfl) ⟨rfl, npX6_find⟩ (Nat.le_of_ble_eq_true rfl) (Nat.le_refl _) (Nat.le_refl _) rfl (CALLi.mono h (fun v2 S2 _ h => ?_))
      refine AW_iconst (v := 0) dX6_spreadByAll_99 rfl ?_
      refine AW_callVv (M := mX6_spreadByAll) (pc := 100) (As := [.ref 76, .int v2, .int 0]) (ρ1 := ρ) (st := []) dX6_spreadByAll_100 mdX6_reach rfl mlX6_131 imX6_reach seX6_reach (rcv_of (q := (RX6, TX6, 18)) (Nat.le_of_ble_eq_true rfl) (okn hρ (Nat.le_of_ble_eq_true rfl)) rfl rfl) ⟨rfl, npX6_reach⟩ (Nat.le_of_ble_eq_true rfl) (Nat.le_refl _) (Nat.le_refl _) rfl (CALLv.mono h (fun S3 _ h => ?_))
      refine AW_iinc 3 (v := x4 + 1) dX6_spreadByAll_103 rfl rfl (Nat.le_of_ble_eq_true rfl) rfl ?_
      refine AW_goto (tgt := 43) dX6_spreadByAll_106 rfl ?_
      exact AW.sub [1, 2, 3, 0] rfl h
set_option maxRecDepth 20000 in
theorem eX6_spreadByAll_17 {g : GX} {Q : St → Prop} {d : Nat} {ρ : Rs} {S : St} (hρ : Ok ρ) {x2 : Int32} (h : if (S.1 70 15) ≤ x2 then Q S else if (S.1 70 3) ≤ x2 then Q S else vp_in x2 1000 ∧ (AW g ρ (QV Q) (d + 1) mX6_spreadByAll 43 [(0, .ref 70), (2, .int x2), (3, .int (S.1 77 x2.toNatClampNeg)), (4, .int 0)] [] ρ S)) : AW g ρ (QV Q) (d + 1) mX6_spreadByAll 17 [(0, .ref 70), (2, .int x2)] [] ρ S := by
  refine AW_iload_n 1 (n := 2) rfl dX6_spreadByAll_17 rfl ?_
  refine AW_aload_n 0 (n := 0) rfl dX6_spreadByAll_18 rfl ?_
  refine AW_get dX6_spreadByAll_19 flX6_128 (Nat.le_of_ble_eq_true rfl) (okn hρ (Nat.le_of_ble_eq_true rfl)) rfl (v := .int (S.1 70 15)) (fun _ => rfl) ?_
  refine AW_icmp_ge dX6_spreadByAll_22 rfl (iteM h (fun h => ?_) (fun h => ?_))
  · exact AW_retv dX6_spreadByAll_115 rfl h
  · refine AW_iload_n 1 (n := 2) rfl dX6_spreadByAll_25 rfl ?_
    refine AW_aload_n 0 (n := 0) rfl dX6_spreadByAll_26 rfl ?_
    refine AW_get dX6_spreadByAll_27 flX6_75 (Nat.le_of_ble_eq_true rfl) (okn hρ (Nat.le_of_ble_eq_true rfl)) rfl (v := .int (S.1 70 3)) (fun _ => rfl) ?_
    refine AW_icmp_ge dX6_spreadByAll_30 rfl (iteM h (fun h => ?_) (fun h => ?_))
    · exact AW_retv dX6_spreadByAll_115 rfl h
    · refine AW_aload_n 0 (n := 0) rfl dX6_spreadByAll_33 rfl ?_
      refine AW_get dX6_spreadByAll_34 flX6_33 (Nat.le_of_ble_eq_true rfl) (okn hρ (Nat.le_of_ble_eq_true rfl)) rfl (v := .ref 77) (fvR (okR hρ 62 rfl)) ?_
      refine AW_iload_n 1 (n := 2) rfl dX6_spreadByAll_37 rfl ?_
      refine AW_iaload dX6_spreadByAll_38 (Nat.le_of_ble_eq_true rfl) (okn hρ (Nat.le_of_ble_eq_true rfl)) rfl h.1 (v := S.1 77 x2.toNatClampNeg) rfl ?_
      replace h := h.2
      refine AW_istore_n (n := 3) (i := 3) rfl dX6_spreadByAll_39 (Nat.le_of_ble_eq_true rfl) rfl ?_
      refine AW_iconst (v := 0) dX6_spreadByAll_40 rfl ?_
      refine AW_istore dX6_spreadByAll_41 (Nat.le_of_ble_eq_true rfl) rfl ?_
      exact AW.sub [2, 3, 1, 0] rfl h
set_option maxRecDepth 20000 in
theorem eX6_spreadByAll {g : GX} {Q : St → Prop} {d : Nat} {ρ : Rs} {S : St} (hρ : Ok ρ) {x1 : Int32} (hF : ∀ k ∈ ([70] : List Nat), gF g k) (h : CALLv g d mX6_reach [.ref 70, .ref 76, .int x1, .int 0] ρ ρ (setI S 70 15 0) (fun S1 => AW g ρ (QV Q) (d + 1) mX6_spreadByAll 17 [(0, .ref 70), (2, .int 0)] [] ρ S1)) : CALLv g (d + 1) mX6_spreadByAll [.ref 70, .int x1] ρ ρ S Q := by
  refine CALL.of mdX6_spreadByAll.2.2.2.2 (Nat.le_of_ble_eq_true rfl) (Nat.le_refl _) (Nat.le_refl _) ?_
  show AW g ρ (QV Q) (d + 1) mX6_spreadByAll 0 [(0, .ref 70), (1, .int x1)] [] ρ S
  refine AW_aload_n 0 (n := 0) rfl dX6_spreadByAll_0 rfl ?_
  refine AW_iconst (v := 0) dX6_spreadByAll_1 rfl ?_
  refine AW_put dX6_spreadByAll_2 flX6_128 fp_5_15 (Nat.le_of_ble_eq_true rfl) (okn hρ (Nat.le_of_ble_eq_true rfl)) rfl (fun _ => rfl) (fun _ => rfl) rfl rfl rfl rfl (Fr.setI _ _ _ rfl) (fun _ _ => rfl) (ρ2 := ρ) (S2 := setI S 70 15 0) (fun _ => rfl) (fun _ _ _ q1 _ => fvI_o q1) (hF _ (List.mem_of_getElem? (i := 0) rfl)) ?_
  refine AW_aload_n 0 (n := 0) rfl dX6_spreadByAll_5 rfl ?_
  refine AW_aload_n 0 (n := 0) rfl dX6_spreadByAll_6 rfl ?_
  refine AW_get dX6_spreadByAll_7 flX6_30 (Nat.le_of_ble_eq_true rfl) (okn hρ (Nat.le_of_ble_eq_true rfl)) rfl (v := .ref 76) (fvR (okR hρ 61 rfl)) ?_
  refine AW_iload_n 1 (n := 1) rfl dX6_spreadByAll_10 rfl ?_
  refine AW_iconst (v := 0) dX6_spreadByAll_11 rfl ?_
  refine AW_callVv (M := mX6_spreadByAll) (pc := 12) (As := [.ref 76, .int x1, .int 0]) (ρ1 := ρ) (st := []) dX6_spreadByAll_12 mdX6_reach rfl mlX6_131 imX6_reach seX6_reach (rcv_of (q := (RX6, TX6, 18)) (Nat.le_of_ble_eq_true rfl) (okn hρ (Nat.le_of_ble_eq_true rfl)) rfl rfl) ⟨rfl, npX6_reach⟩ (Nat.le_of_ble_eq_true rfl) (Nat.le_refl _) (Nat.le_refl _) rfl (CALLv.mono h (fun S1 _ h => ?_))
  refine AW_iconst (v := 0) dX6_spreadByAll_15 rfl ?_
  refine AW_istore_n (n := 2) (i := 2) rfl dX6_spreadByAll_16 (Nat.le_of_ble_eq_true rfl) rfl ?_
  exact AW.sub [1, 0] rfl h
set_option maxRecDepth 20000 in
theorem eX6_distance {g : GX} {Q : Int32 → St → Prop} {d : Nat} {ρ : Rs} {S : St} (hρ : Ok ρ) {x1 : Int32} {x2 : Int32} (h : if x1 < 0 then Q (-2) S else if (S.1 70 3) ≤ x1 then Q (-2) S else if x2 < 0 then Q (-2) S else if x2 < (S.1 70 3) then if (S.1 70 13) = x2 then vp_in x1 1000 ∧ (Q (S.1 76 x1.toNatClampNeg) S) else CALLv g d mX6_measureFrom [.ref 70, .int x1] ρ ρ S (fun S1 => vp_in x2 1000 ∧ (Q (S1.1 76 x2.toNatClampNeg) S1)) else Q (-2) S) : CALLi g (d + 1) mX6_distance [.ref 70, .int x1, .int x2] ρ ρ S Q := by
  refine CALL.of mdX6_distance.2.2.2.2 (Nat.le_of_ble_eq_true rfl) (Nat.le_refl _) (Nat.le_refl _) ?_
  show AW g ρ (QI Q) (d + 1) mX6_distance 0 [(0, .ref 70), (1, .int x1), (2, .int x2)] [] ρ S
  refine AW_iload_n 1 (n := 1) rfl dX6_distance_0 rfl ?_
  refine AW_if_lt dX6_distance_1 rfl (iteM h (fun h => ?_) (fun h => ?_))
  · refine AW_bipush (v := (-2)) dX6_distance_24 rfl ?_
    exact AW_reti dX6_distance_26 rfl h
  · refine AW_iload_n 1 (n := 1) rfl dX6_distance_4 rfl ?_
    refine AW_aload_n 0 (n := 0) rfl dX6_distance_5 rfl ?_
    refine AW_get dX6_distance_6 flX6_75 (Nat.le_of_ble_eq_true rfl) (okn hρ (Nat.le_of_ble_eq_true rfl)) rfl (v := .int (S.1 70 3)) (fun _ => rfl) ?_
    refine AW_icmp_ge dX6_distance_9 rfl (iteM h (fun h => ?_) (fun h => ?_))
    · refine AW_bipush (v := (-2)) dX6_distance_24 rfl ?_
      exact AW_reti dX6_distance_26 rfl h
    · refine AW_iload_n 2 (n := 2) rfl dX6_distance_12 rfl ?_
      refine AW_if_lt dX6_distance_13 rfl (iteM h (fun h => ?_) (fun h => ?_))
      · refine AW_bipush (v := (-2)) dX6_distance_24 rfl ?_
        exact AW_reti dX6_distance_26 rfl h
      · refine AW_iload_n 2 (n := 2) rfl dX6_distance_16 rfl ?_
        refine AW_aload_n 0 (n := 0) rfl dX6_distance_17 rfl ?_
        refine AW_get dX6_distance_18 flX6_75 (Nat.le_of_ble_eq_true rfl) (okn hρ (Nat.le_of_ble_eq_true rfl)) rfl (v := .int (S.1 70 3)) (fun _ => rfl) ?_
        refine AW_icmp_lt dX6_distance_21 rfl (iteM h (fun h => ?_) (fun h => ?_))
        · refine AW_aload_n 0 (n := 0) rfl dX6_distance_27 rfl ?_
          refine AW_get dX6_distance_28 flX6_54 (Nat.le_of_ble_eq_true rfl) (okn hρ (Nat.le_of_ble_eq_true rfl)) rfl (v := .int (S.1 70 13)) (fun _ => rfl) ?_
          refine AW_iload_n 2 (n := 2) rfl dX6_distance_31 rfl ?_
          refine AW_icmp_ne dX6_distance_32 rfl (iteM h (fun h => ?_) (fun h => ?_))
          · refine AW_aload_n 0 (n := 0) rfl dX6_distance_35 rfl ?_
            refine AW_get dX6_distance_36 flX6_30 (Nat.le_of_ble_eq_true rfl) (okn hρ (Nat.le_of_ble_eq_true rfl)) rfl (v := .ref 76) (fvR (okR hρ 61 rfl)) ?_
            refine AW_iload_n 1 (n := 1) rfl dX6_distance_39 rfl ?_
            refine AW_iaload dX6_distance_40 (Nat.le_of_ble_eq_true rfl) (okn hρ (Nat.le_of_ble_eq_true rfl)) rfl h.1 (v := S.1 76 x1.toNatClampNeg) rfl ?_
            replace h := h.2
            exact AW_reti dX6_distance_41 rfl h
          · refine AW_aload_n 0 (n := 0) rfl dX6_distance_42 rfl ?_
            refine AW_iload_n 1 (n := 1) rfl dX6_distance_43 rfl ?_
            refine AW_callVv (M := mX6_distance) (pc := 44) (As := [.int x1]) (ρ1 := ρ) (st := []) dX6_distance_44 mdX6_measureFrom rfl mlX6_149 imX6_measureFrom seX6_measureFrom (rcv_of (q := (RX6, TX6, 18)) (Nat.le_of_ble_eq_true rfl) (okn hρ (Nat.le_of_ble_eq_true rfl)) rfl rfl) ⟨rfl, npX6_measureFrom⟩ (Nat.le_of_ble_eq_true rfl) (Nat.le_refl _) (Nat.le_refl _) rfl (CALLv.mono h (fun S1 _ h => ?_))
            refine AW_aload_n 0 (n := 0) rfl dX6_distance_47 rfl ?_
            refine AW_get dX6_distance_48 flX6_30 (Nat.le_of_ble_eq_true rfl) (okn hρ (Nat.le_of_ble_eq_true rfl)) rfl (v := .ref 76) (fvR (okR hρ 61 rfl)) ?_
            refine AW_iload_n 2 (n := 2) rfl dX6_distance_51 rfl ?_
            refine AW_iaload dX6_distance_52 (Nat.le_of_ble_eq_true rfl) (okn hρ (Nat.le_of_ble_eq_true rfl)) rfl h.1 (v := S1.1 76 x2.toNatClampNeg) rfl ?_
            replace h := h.2
            exact AW_reti dX6_distance_53 rfl h
        · refine AW_bipush (v := (-2)) dX6_distance_24 rfl ?_
          exact AW_reti dX6_distance_26 rfl h
set_option maxRecDepth 20000 in
theorem eX6_greatestDistance {g : GX} {Q : Int32 → St → Prop} {d : Nat} {ρ : Rs} {S : St} (hρ : Ok ρ) {x1 : Int32} (h : CALLi g d mX6_firstAtGreatest [.ref 70, .int x1] ρ ρ S (fun v1 S1 => if v1 < 0 then Q (-2) S1 else if (S1.1 70 3) ≤ v1 then Q (-2) S1 else vp_in v1 1000 ∧ (Q (S1.1 76 v1.toNatClampNeg) S1))) : CALLi g (d + 1) mX6_greatestDistance [.ref 70, .int x1] ρ ρ S Q := by
  refine CALL.of mdX6_greatestDistance.2.2.2.2 (Nat.le_of_ble_eq_true rfl) (Nat.le_refl _) (Nat.le_refl _) ?_
  show AW g ρ (QI Q) (d + 1) mX6_greatestDistance 0 [(0, .ref 70), (1, .int x1)] [] ρ S
  refine AW_aload_n 0 (n := 0) rfl dX6_greatestDistance_0 rfl ?_
  refine AW_iload_n 1 (n := 1) rfl dX6_greatestDistance_1 rfl ?_
  refine AW_callVi (M := mX6_greatestDistance) (pc := 2) (As := [.int x1]) (ρ1 := ρ) (st := []) dX6_greatestDistance_2 mdX6_firstAtGreatest rfl mlX6_152 imX6_firstAtGreatest seX6_firstAtGreatest (rcv_of (q := (RX6, TX6, 18)) (Nat.le_of_ble_eq_true rfl) (okn hρ (Nat.le_of_ble_eq_true rfl)) rfl rfl) ⟨rfl, npX6_firstAtGreatest⟩ (Nat.le_of_ble_eq_true rfl) (Nat.le_refl _) (Nat.le_refl _) rfl (CALLi.mono h (fun v1 S1 _ h => ?_))
  refine AW_istore_n (n := 2) (i := 2) rfl dX6_greatestDistance_5 (Nat.le_of_ble_eq_true rfl) rfl ?_
  refine AW_iload_n 0 (n := 2) rfl dX6_greatestDistance_6 rfl ?_
  refine AW_if_lt dX6_greatestDistance_7 rfl (iteM h (fun h => ?_) (fun h => ?_))
  · refine AW_bipush (v := (-2)) dX6_greatestDistance_27 rfl ?_
    exact AW_reti dX6_greatestDistance_29 rfl h
  · refine AW_iload_n 0 (n := 2) rfl dX6_greatestDistance_10 rfl ?_
    refine AW_aload_n 1 (n := 0) rfl dX6_greatestDistance_11 rfl ?_
    refine AW_get dX6_greatestDistance_12 flX6_75 (Nat.le_of_ble_eq_true rfl) (okn hρ (Nat.le_of_ble_eq_true rfl)) rfl (v := .int (S1.1 70 3)) (fun _ => rfl) ?_
    refine AW_icmp_ge dX6_greatestDistance_15 rfl (iteM h (fun h => ?_) (fun h => ?_))
    · refine AW_bipush (v := (-2)) dX6_greatestDistance_27 rfl ?_
      exact AW_reti dX6_greatestDistance_29 rfl h
    · refine AW_aload_n 1 (n := 0) rfl dX6_greatestDistance_18 rfl ?_
      refine AW_get dX6_greatestDistance_19 flX6_30 (Nat.le_of_ble_eq_true rfl) (okn hρ (Nat.le_of_ble_eq_true rfl)) rfl (v := .ref 76) (fvR (okR hρ 61 rfl)) ?_
      refine AW_iload_n 0 (n := 2) rfl dX6_greatestDistance_22 rfl ?_
      refine AW_iaload dX6_greatestDistance_23 (Nat.le_of_ble_eq_true rfl) (okn hρ (Nat.le_of_ble_eq_true rfl)) rfl h.1 (v := S1.1 76 v1.toNatClampNeg) rfl ?_
      replace h := h.2
      refine AW_goto (tgt := 29) dX6_greatestDistance_24 rfl ?_
      exact AW_reti dX6_greatestDistance_29 rfl h
set_option maxRecDepth 20000 in
theorem eX6_firstAtGreatest_24 {g : GX} {Q : Int32 → St → Prop} {d : Nat} {ρ : Rs} {S : St} (hρ : Ok ρ) {x2 : Int32} {x3 : Int32} (h : if (S.1 70 3) ≤ x3 then Q x2 S else vp_in x3 1000 ∧ (vp_in x2 1000 ∧ (if (S.1 76 x3.toNatClampNeg) ≤ (S.1 76 x2.toNatClampNeg) then AW g ρ (QI Q) (d + 1) mX6_firstAtGreatest 24 [(0, .ref 70), (2, .int x2), (3, .int (x3 + 1))] [] ρ S else AW g ρ (QI Q) (d + 1) mX6_firstAtGreatest 24 [(0, .ref 70), (2, .int x3), (3, .int (x3 + 1))] [] ρ S))) : AW g ρ (QI Q) (d + 1) mX6_firstAtGreatest 24 [(0, .ref 70), (2, .int x2), (3, .int x3)] [] ρ S := by
  refine AW_iload_n 2 (n := 3) rfl dX6_firstAtGreatest_24 rfl ?_
  refine AW_aload_n 0 (n := 0) rfl dX6_firstAtGreatest_25 rfl ?_
  refine AW_get dX6_firstAtGreatest_26 flX6_75 (Nat.le_of_ble_eq_true rfl) (okn hρ (Nat.le_of_ble_eq_true rfl)) rfl (v := .int (S.1 70 3)) (fun _ => rfl) ?_
  refine AW_icmp_ge dX6_firstAtGreatest_29 rfl (iteM h (fun h => ?_) (fun h => ?_))
  · refine AW_iload_n 1 (n := 2) rfl dX6_firstAtGreatest_55 rfl ?_
    exact AW_reti dX6_firstAtGreatest_56 rfl h
  · refine AW_aload_n 0 (n := 0) rfl dX6_firstAtGreatest_32 rfl ?_
    refine AW_get dX6_firstAtGreatest_33 flX6_30 (Nat.le_of_ble_eq_true rfl) (okn hρ (Nat.le_of_ble_eq_true rfl)) rfl (v := .ref 76) (fvR (okR hρ 61 rfl)) ?_
    refine AW_iload_n 2 (n := 3) rfl dX6_firstAtGreatest_36 rfl ?_
    refine AW_iaload dX6_firstAtGreatest_37 (Nat.le_of_ble_eq_true rfl) (okn hρ (Nat.le_of_ble_eq_true rfl)) rfl h.1 (v := S.1 76 x3.toNatClampNeg) rfl ?_
    replace h := h.2
    refine AW_aload_n 0 (n := 0) rfl dX6_firstAtGreatest_38 rfl ?_
    refine AW_get dX6_firstAtGreatest_39 flX6_30 (Nat.le_of_ble_eq_true rfl) (okn hρ (Nat.le_of_ble_eq_true rfl)) rfl (v := .ref 76) (fvR (okR hρ 61 rfl)) ?_
    refine AW_iload_n 1 (n := 2) rfl dX6_firstAtGreatest_42 rfl ?_
    refine AW_iaload dX6_firstAtGreatest_43 (Nat.le_of_ble_eq_true rfl) (okn hρ (Nat.le_of_ble_eq_true rfl)) rfl h.1 (v := S.1 76 x2.toNatClampNeg) rfl ?_
    replace h := h.2
    refine AW_icmp_le dX6_firstAtGreatest_44 rfl (iteM h (fun h => ?_) (fun h => ?_))
    · refine AW_iinc 2 (v := x3 + 1) dX6_firstAtGreatest_49 rfl rfl (Nat.le_of_ble_eq_true rfl) rfl ?_
      refine AW_goto (tgt := 24) dX6_firstAtGreatest_52 rfl ?_
      exact AW.sub [1, 2, 0] rfl h
    · refine AW_iload_n 2 (n := 3) rfl dX6_firstAtGreatest_47 rfl ?_
      refine AW_istore_n (n := 2) (i := 2) rfl dX6_firstAtGreatest_48 (Nat.le_of_ble_eq_true rfl) rfl ?_
      refine AW_iinc 2 (v := x3 + 1) dX6_firstAtGreatest_49 rfl rfl (Nat.le_of_ble_eq_true rfl) rfl ?_
      refine AW_goto (tgt := 24) dX6_firstAtGreatest_52 rfl ?_
      exact AW.sub [2, 1, 0] rfl h
set_option maxRecDepth 20000 in
theorem eX6_firstAtGreatest {g : GX} {Q : Int32 → St → Prop} {d : Nat} {ρ : Rs} {S : St} (hρ : Ok ρ) {x1 : Int32} (h : if x1 < 0 then Q (-2) S else if x1 < (S.1 70 3) then CALLv g d mX6_measureFrom [.ref 70, .int x1] ρ ρ S (fun S1 => AW g ρ (QI Q) (d + 1) mX6_firstAtGreatest 24 [(0, .ref 70), (2, .int x1), (3, .int 0)] [] ρ S1) else Q (-2) S) : CALLi g (d + 1) mX6_firstAtGreatest [.ref 70, .int x1] ρ ρ S Q := by
  refine CALL.of mdX6_firstAtGreatest.2.2.2.2 (Nat.le_of_ble_eq_true rfl) (Nat.le_refl _) (Nat.le_refl _) ?_
  show AW g ρ (QI Q) (d + 1) mX6_firstAtGreatest 0 [(0, .ref 70), (1, .int x1)] [] ρ S
  refine AW_iload_n 1 (n := 1) rfl dX6_firstAtGreatest_0 rfl ?_
  refine AW_if_lt dX6_firstAtGreatest_1 rfl (iteM h (fun h => ?_) (fun h => ?_))
  · refine AW_bipush (v := (-2)) dX6_firstAtGreatest_12 rfl ?_
    exact AW_reti dX6_firstAtGreatest_14 rfl h
  · refine AW_iload_n 1 (n := 1) rfl dX6_firstAtGreatest_4 rfl ?_
    refine AW_aload_n 0 (n := 0) rfl dX6_firstAtGreatest_5 rfl ?_
    refine AW_get dX6_firstAtGreatest_6 flX6_75 (Nat.le_of_ble_eq_true rfl) (okn hρ (Nat.le_of_ble_eq_true rfl)) rfl (v := .int (S.1 70 3)) (fun _ => rfl) ?_
    refine AW_icmp_lt dX6_firstAtGreatest_9 rfl (iteM h (fun h => ?_) (fun h => ?_))
    · refine AW_aload_n 0 (n := 0) rfl dX6_firstAtGreatest_15 rfl ?_
      refine AW_iload_n 1 (n := 1) rfl dX6_firstAtGreatest_16 rfl ?_
      refine AW_callVv (M := mX6_firstAtGreatest) (pc := 17) (As := [.int x1]) (ρ1 := ρ) (st := []) dX6_firstAtGreatest_17 mdX6_measureFrom rfl mlX6_149 imX6_measureFrom seX6_measureFrom (rcv_of (q := (RX6, TX6, 18)) (Nat.le_of_ble_eq_true rfl) (okn hρ (Nat.le_of_ble_eq_true rfl)) rfl rfl) ⟨rfl, npX6_measureFrom⟩ (Nat.le_of_ble_eq_true rfl) (Nat.le_refl _) (Nat.le_refl _) rfl (CALLv.mono h (fun S1 _ h => ?_))
      refine AW_iload_n 1 (n := 1) rfl dX6_firstAtGreatest_20 rfl ?_
      refine AW_istore_n (n := 2) (i := 2) rfl dX6_firstAtGreatest_21 (Nat.le_of_ble_eq_true rfl) rfl ?_
      refine AW_iconst (v := 0) dX6_firstAtGreatest_22 rfl ?_
      refine AW_istore_n (n := 3) (i := 3) rfl dX6_firstAtGreatest_23 (Nat.le_of_ble_eq_true rfl) rfl ?_
      exact AW.sub [2, 1, 0] rfl h
    · refine AW_bipush (v := (-2)) dX6_firstAtGreatest_12 rfl ?_
      exact AW_reti dX6_firstAtGreatest_14 rfl h
set_option maxRecDepth 20000 in
theorem eX6_reached_25 {g : GX} {Q : Int32 → St → Prop} {d : Nat} {ρ : Rs} {S : St} (hρ : Ok ρ) {x2 : Int32} {x3 : Int32} {x4 : Int32} (h : if (S.1 70 3) ≤ x4 then Q x3 S else vp_in x4 1000 ∧ (if (S.1 76 x4.toNatClampNeg) = (-1) then AW g ρ (QI Q) (d + 1) mX6_reached 25 [(0, .ref 70), (2, .int x2), (3, .int x3), (4, .int (x4 + 1))] [] ρ S else vp_in x4 1000 ∧ (if x2 < (S.1 76 x4.toNatClampNeg) then AW g ρ (QI Q) (d + 1) mX6_reached 25 [(0, .ref 70), (2, .int x2), (3, .int x3), (4, .int (x4 + 1))] [] ρ S else AW g ρ (QI Q) (d + 1) mX6_reached 25 [(0, .ref 70), (2, .int x2), (3, .int (x3 + 1)), (4, .int (x4 + 1))] [] ρ S))) : AW g ρ (QI Q) (d + 1) mX6_reached 25 [(0, .ref 70), (2, .int x2), (3, .int x3), (4, .int x4)] [] ρ S := by
  refine AW_iload 3 dX6_reached_25 rfl ?_
  refine AW_aload_n 0 (n := 0) rfl dX6_reached_27 rfl ?_
  refine AW_get dX6_reached_28 flX6_75 (Nat.le_of_ble_eq_true rfl) (okn hρ (Nat.le_of_ble_eq_true rfl)) rfl (v := .int (S.1 70 3)) (fun _ => rfl) ?_
  refine AW_icmp_ge dX6_reached_31 rfl (iteM h (fun h => ?_) (fun h => ?_))
  · refine AW_iload_n 2 (n := 3) rfl dX6_reached_65 rfl ?_
    exact AW_reti dX6_reached_66 rfl h
  · refine AW_aload_n 0 (n := 0) rfl dX6_reached_34 rfl ?_
    refine AW_get dX6_reached_35 flX6_30 (Nat.le_of_ble_eq_true rfl) (okn hρ (Nat.le_of_ble_eq_true rfl)) rfl (v := .ref 76) (fvR (okR hρ 61 rfl)) ?_
    refine AW_iload 3 dX6_reached_38 rfl ?_
    refine AW_iaload dX6_reached_40 (Nat.le_of_ble_eq_true rfl) (okn hρ (Nat.le_of_ble_eq_true rfl)) rfl h.1 (v := S.1 76 x4.toNatClampNeg) rfl ?_
    replace h := h.2
    refine AW_iconst (v := (-1)) dX6_reached_41 rfl ?_
    refine AW_icmp_eq dX6_reached_42 rfl (iteM h (fun h => ?_) (fun h => ?_))
    · refine AW_iinc 3 (v := x4 + 1) dX6_reached_59 rfl rfl (Nat.le_of_ble_eq_true rfl) rfl ?_
      refine AW_goto (tgt := 25) dX6_reached_62 rfl ?_
      exact AW.sub [1, 2, 3, 0] rfl h
    · refine AW_aload_n 0 (n := 0) rfl dX6_reached_45 rfl ?_
      refine AW_get dX6_reached_46 flX6_30 (Nat.le_of_ble_eq_true rfl) (okn hρ (Nat.le_of_ble_eq_true rfl)) rfl (v := .ref 76) (fvR (okR hρ 61 rfl)) ?_
      refine AW_iload 3 dX6_reached_49 rfl ?_
      refine AW_iaload dX6_reached_51 (Nat.le_of_ble_eq_true rfl) (okn hρ (Nat.le_of_ble_eq_true rfl)) rfl h.1 (v := S.1 76 x4.toNatClampNeg) rfl ?_
      replace h := h.2
      refine AW_iload_n 1 (n := 2) rfl dX6_reached_52 rfl ?_
      refine AW_icmp_gt dX6_reached_53 rfl (iteM h (fun h => ?_) (fun h => ?_))
      · refine AW_iinc 3 (v := x4 + 1) dX6_reached_59 rfl rfl (Nat.le_of_ble_eq_true rfl) rfl ?_
        refine AW_goto (tgt := 25) dX6_reached_62 rfl ?_
        exact AW.sub [1, 2, 3, 0] rfl h
      · refine AW_iinc 2 (v := x3 + 1) dX6_reached_56 rfl rfl (Nat.le_of_ble_eq_true rfl) rfl ?_
        refine AW_iinc 3 (v := x4 + 1) dX6_reached_59 rfl rfl (Nat.le_of_ble_eq_true rfl) rfl ?_
        refine AW_goto (tgt := 25) dX6_reached_62 rfl ?_
        exact AW.sub [2, 3, 1, 0] rfl h
set_option maxRecDepth 20000 in
theorem eX6_reached {g : GX} {Q : Int32 → St → Prop} {d : Nat} {ρ : Rs} {S : St} (hρ : Ok ρ) {x1 : Int32} {x2 : Int32} (h : if x1 < 0 then Q (-2) S else if x1 < (S.1 70 3) then CALLv g d mX6_measureFrom [.ref 70, .int x1] ρ ρ S (fun S1 => AW g ρ (QI Q) (d + 1) mX6_reached 25 [(0, .ref 70), (2, .int x2), (3, .int 0), (4, .int 0)] [] ρ S1) else Q (-2) S) : CALLi g (d + 1) mX6_reached [.ref 70, .int x1, .int x2] ρ ρ S Q := by
  refine CALL.of mdX6_reached.2.2.2.2 (Nat.le_of_ble_eq_true rfl) (Nat.le_refl _) (Nat.le_refl _) ?_
  show AW g ρ (QI Q) (d + 1) mX6_reached 0 [(0, .ref 70), (1, .int x1), (2, .int x2)] [] ρ S
  refine AW_iload_n 1 (n := 1) rfl dX6_reached_0 rfl ?_
  refine AW_if_lt dX6_reached_1 rfl (iteM h (fun h => ?_) (fun h => ?_))
  · refine AW_bipush (v := (-2)) dX6_reached_12 rfl ?_
    exact AW_reti dX6_reached_14 rfl h
  · refine AW_iload_n 1 (n := 1) rfl dX6_reached_4 rfl ?_
    refine AW_aload_n 0 (n := 0) rfl dX6_reached_5 rfl ?_
    refine AW_get dX6_reached_6 flX6_75 (Nat.le_of_ble_eq_true rfl) (okn hρ (Nat.le_of_ble_eq_true rfl)) rfl (v := .int (S.1 70 3)) (fun _ => rfl) ?_
    refine AW_icmp_lt dX6_reached_9 rfl (iteM h (fun h => ?_) (fun h => ?_))
    · refine AW_aload_n 0 (n := 0) rfl dX6_reached_15 rfl ?_
      refine AW_iload_n 1 (n := 1) rfl dX6_reached_16 rfl ?_
      refine AW_callVv (M := mX6_reached) (pc := 17) (As := [.int x1]) (ρ1 := ρ) (st := []) dX6_reached_17 mdX6_measureFrom rfl mlX6_149 imX6_measureFrom seX6_measureFrom (rcv_of (q := (RX6, TX6, 18)) (Nat.le_of_ble_eq_true rfl) (okn hρ (Nat.le_of_ble_eq_true rfl)) rfl rfl) ⟨rfl, npX6_measureFrom⟩ (Nat.le_of_ble_eq_true rfl) (Nat.le_refl _) (Nat.le_refl _) rfl (CALLv.mono h (fun S1 _ h => ?_))
      refine AW_iconst (v := 0) dX6_reached_20 rfl ?_
      refine AW_istore_n (n := 3) (i := 3) rfl dX6_reached_21 (Nat.le_of_ble_eq_true rfl) rfl ?_
      refine AW_iconst (v := 0) dX6_reached_22 rfl ?_
      refine AW_istore dX6_reached_23 (Nat.le_of_ble_eq_true rfl) rfl ?_
      exact AW.sub [2, 4, 1, 0] rfl h
    · refine AW_bipush (v := (-2)) dX6_reached_12 rfl ?_
      exact AW_reti dX6_reached_14 rfl h
set_option maxRecDepth 20000 in
theorem eX6_choiceRows_115 {g : GX} {Q : Int64 → St → Prop} {d : Nat} {ρ ρ' : Rs} {S : St} (hρ : Ok ρ) {kb : Nat} (hR_kb : rR ρ 70 17 = some kb) (h16_kb : 16 ≤ kb) (hn_kb : kb < rn ρ) (hs_kb : shp ρ kb = .inr (1, 1000)) {ka : Nat} (hR_ka : rR ρ 70 16 = some ka) (h16_ka : 16 ≤ ka) (hn_ka : ka < rn ρ) (hs_ka : shp ρ ka = .inr (1, 1000)) {kn nn : Nat} (hR_kn : rR ρ 70 6 = some kn) (h16_kn : 16 ≤ kn) (hn_kn : kn < rn ρ) (hs_kn : shp ρ kn = .inr (0, nn)) (hcle : rc ρ ≤ rc ρ') (hule : ru ρ ≤ ru ρ') {x2 : Int32} {x3 : Int32} {x4 : Int32} {x5 : Int32} {x7 : Int64} {x9 : Int32} (hF_kb : gF g kb) (h : vp_in (x5 + 1) 1001 ∧ (if (S.1 72 ((x5 + 1).toNatClampNeg)) ≤ x9 then vp_in x5 1000 ∧ (AW g ρ' (QJ Q) (d + 1) mX6_choiceRows 55 [(0, .ref 70), (2, .int x2), (3, .int x3), (4, .int x4), (5, .int (x5 + 1))] [] ρ (setL S kb x5.toNatClampNeg x7)) else vp_in x9 nn ∧ (vp_in (S.1 kn x9.toNatClampNeg) 1000 ∧ (AW g ρ' (QJ Q) (d + 1) mX6_choiceRows 115 [(0, .ref 70), (2, .int x2), (3, .int x3), (4, .int x4), (5, .int x5), (7, .long (x7 + (2 * (S.2 ka ((S.1 kn x9.toNatClampNeg).toNatClampNeg))))), (9, .int (x9 + 1))] [] ρ S)))) : AW g ρ' (QJ Q) (d + 1) mX6_choiceRows 115 [(0, .ref 70), (2, .int x2), (3, .int x3), (4, .int x4), (5, .int x5), (7, .long x7), (9, .int x9)] [] ρ S := by
  refine AW_iload 6 dX6_choiceRows_115 rfl ?_
  refine AW_aload_n 0 (n := 0) rfl dX6_choiceRows_117 rfl ?_
  refine AW_get dX6_choiceRows_118 flX6_17 (Nat.le_of_ble_eq_true rfl) (okn hρ (Nat.le_of_ble_eq_true rfl)) rfl (v := .ref 72) (fvR (okR hρ 58 rfl)) ?_
  refine AW_iload 4 dX6_choiceRows_121 rfl ?_
  refine AW_iconst (v := 1) dX6_choiceRows_123 rfl ?_
  refine AW_iadd dX6_choiceRows_124 ?_
  refine AW_iaload dX6_choiceRows_125 (Nat.le_of_ble_eq_true rfl) (okn hρ (Nat.le_of_ble_eq_true rfl)) rfl h.1 (v := S.1 72 ((x5 + 1).toNatClampNeg)) rfl ?_
  replace h := h.2
  refine AW_icmp_ge dX6_choiceRows_126 rfl (iteM h (fun h => ?_) (fun h => ?_))
  · refine AW_aload_n 0 (n := 0) rfl dX6_choiceRows_156 rfl ?_
    refine AW_get dX6_choiceRows_157 flX6_39 (Nat.le_of_ble_eq_true rfl) (okn hρ (Nat.le_of_ble_eq_true rfl)) rfl (v := .ref kb) (fvR hR_kb) ?_
    refine AW_iload 4 dX6_choiceRows_160 rfl ?_
    refine AW_lload 5 dX6_choiceRows_162 rfl ?_
    refine AW_lastore dX6_choiceRows_164 h16_kb hn_kb hs_kb h.1 hF_kb (jx := x5.toNatClampNeg) rfl ?_
    replace h := h.2
    refine AW_iinc 4 (v := x5 + 1) dX6_choiceRows_165 rfl rfl (Nat.le_of_ble_eq_true rfl) rfl ?_
    refine AW_goto (tgt := 55) dX6_choiceRows_168 rfl ?_
    exact AW.sub [1, 2, 3, 4, 0] rfl h
  · refine AW_lload 5 dX6_choiceRows_129 rfl ?_
    refine AW_ldc2 (v := 2) dX6_choiceRows_131 kcX6_163 ?_
    refine AW_aload_n 0 (n := 0) rfl dX6_choiceRows_134 rfl ?_
    refine AW_get dX6_choiceRows_135 flX6_36 (Nat.le_of_ble_eq_true rfl) (okn hρ (Nat.le_of_ble_eq_true rfl)) rfl (v := .ref ka) (fvR hR_ka) ?_
    refine AW_aload_n 0 (n := 0) rfl dX6_choiceRows_138 rfl ?_
    refine AW_get dX6_choiceRows_139 flX6_21 (Nat.le_of_ble_eq_true rfl) (okn hρ (Nat.le_of_ble_eq_true rfl)) rfl (v := .ref kn) (fvR hR_kn) ?_
    refine AW_iload 6 dX6_choiceRows_142 rfl ?_
    refine AW_iaload dX6_choiceRows_144 h16_kn hn_kn hs_kn h.1 (v := S.1 kn x9.toNatClampNeg) rfl ?_
    replace h := h.2
    refine AW_laload dX6_choiceRows_145 h16_ka hn_ka hs_ka h.1 (v := S.2 ka ((S.1 kn x9.toNatClampNeg).toNatClampNeg)) rfl ?_
    replace h := h.2
    refine AW_lmul dX6_choiceRows_146 ?_
    refine AW_ladd dX6_choiceRows_147 ?_
    refine AW_lstore dX6_choiceRows_148 (Nat.le_of_ble_eq_true rfl) rfl ?_
    refine AW_iinc 6 (v := x9 + 1) dX6_choiceRows_150 rfl rfl (Nat.le_of_ble_eq_true rfl) rfl ?_
    refine AW_goto (tgt := 115) dX6_choiceRows_153 rfl ?_
    exact AW.sub [2, 3, 4, 5, 6, 1, 0] rfl h
set_option maxRecDepth 20000 in
theorem eX6_choiceRows_55 {g : GX} {Q : Int64 → St → Prop} {d : Nat} {ρ ρ' : Rs} {S : St} (hρ : Ok ρ) {ka : Nat} (hR_ka : rR ρ 70 16 = some ka) (h16_ka : 16 ≤ ka) (hn_ka : ka < rn ρ) (hs_ka : shp ρ ka = .inr (1, 1000)) {kb : Nat} (hR_kb : rR ρ 70 17 = some kb) (h16_kb : 16 ≤ kb) (hn_kb : kb < rn ρ) (hs_kb : shp ρ kb = .inr (1, 1000)) (hcle : rc ρ ≤ rc ρ') (hule : ru ρ ≤ ru ρ') {x2 : Int32} {x3 : Int32} {x4 : Int32} {x5 : Int32} (hF : ∀ k ∈ ([70] : List Nat), gF g k) (h : if (S.1 70 3) ≤ x5 then AW g ρ' (QJ Q) (d + 1) mX6_choiceRows 46 [(0, .ref 70), (2, .int x2), (3, .int x3), (4, .int (x4 + 1))] [] (setR (setR ρ 70 16 (some kb)) 70 17 (some ka)) S else vp_in (x5 + 1) 1001 ∧ (vp_in x5 1001 ∧ (vp_in x5 1000 ∧ (vp_in x5 1001 ∧ (AW g ρ' (QJ Q) (d + 1) mX6_choiceRows 115 [(0, .ref 70), (2, .int x2), (3, .int x3), (4, .int x4), (5, .int x5), (7, .long ((S.2 ka x5.toNatClampNeg) * (((S.1 26 2) - (2 * ((S.1 72 ((x5 + 1).toNatClampNeg)) - (S.1 72 x5.toNatClampNeg)))).toInt64))), (9, .int (S.1 72 x5.toNatClampNeg))] [] ρ S))))) : AW g ρ' (QJ Q) (d + 1) mX6_choiceRows 55 [(0, .ref 70), (2, .int x2), (3, .int x3), (4, .int x4), (5, .int x5)] [] ρ S := by
  refine AW_iload 4 dX6_choiceRows_55 rfl ?_
  refine AW_aload_n 0 (n := 0) rfl dX6_choiceRows_57 rfl ?_
  refine AW_get dX6_choiceRows_58 flX6_75 (Nat.le_of_ble_eq_true rfl) (okn hρ (Nat.le_of_ble_eq_true rfl)) rfl (v := .int (S.1 70 3)) (fun _ => rfl) ?_
  refine AW_icmp_ge dX6_choiceRows_61 rfl (iteM h (fun h => ?_) (fun h => ?_))
  · refine AW_aload_n 0 (n := 0) rfl dX6_choiceRows_171 rfl ?_
    refine AW_get dX6_choiceRows_172 flX6_36 (Nat.le_of_ble_eq_true rfl) (okn hρ (Nat.le_of_ble_eq_true rfl)) rfl (v := .ref ka) (fvR hR_ka) ?_
    refine AW_astore dX6_choiceRows_175 (Nat.le_of_ble_eq_true rfl) rfl ?_
    refine AW_aload_n 1 (n := 0) rfl dX6_choiceRows_177 rfl ?_
    refine AW_aload_n 1 (n := 0) rfl dX6_choiceRows_178 rfl ?_
    refine AW_get dX6_choiceRows_179 flX6_39 (Nat.le_of_ble_eq_true rfl) (okn hρ (Nat.le_of_ble_eq_true rfl)) rfl (v := .ref kb) (fvR hR_kb) ?_
    refine AW_put dX6_choiceRows_182 flX6_36 fp_5_16 (Nat.le_of_ble_eq_true rfl) (okn hρ (Nat.le_of_ble_eq_true rfl)) rfl (fun _ => rfl) (fun _ => rfl) rfl rfl rfl rfl (Fr.rf _) (fun _ q => setR_ne _ _ _ q) (ρ2 := setR ρ 70 16 (some kb)) (S2 := S) (fvR (setR_eq _ _ _ _)) (fun _ _ _ q1 _ => fvR_o q1) (hF _ (List.mem_of_getElem? (i := 0) rfl)) ?_
    refine AW_aload_n 1 (n := 0) rfl dX6_choiceRows_185 rfl ?_
    refine AW_aload 0 dX6_choiceRows_186 rfl ?_
    refine AW_put dX6_choiceRows_188 flX6_39 fp_5_17 (Nat.le_of_ble_eq_true rfl) (okn (Ok.setR hρ (by decide +kernel)) (Nat.le_of_ble_eq_true rfl)) rfl (fun _ => rfl) (fun _ => rfl) rfl rfl rfl rfl (Fr.rf _) (fun _ q => setR_ne _ _ _ q) (ρ2 := setR (setR ρ 70 16 (some kb)) 70 17 (some ka)) (S2 := S) (fvR (setR_eq _ _ _ _)) (fun _ _ _ q1 _ => fvR_o q1) (hF _ (List.mem_of_getElem? (i := 0) rfl)) ?_
    refine AW_iinc 4 (v := x4 + 1) dX6_choiceRows_191 rfl rfl (Nat.le_of_ble_eq_true rfl) rfl ?_
    refine AW_goto (tgt := 46) dX6_choiceRows_194 rfl ?_
    exact AW.sub [2, 3, 4, 0] rfl h
  · refine AW_aload_n 0 (n := 0) rfl dX6_choiceRows_64 rfl ?_
    refine AW_get dX6_choiceRows_65 flX6_17 (Nat.le_of_ble_eq_true rfl) (okn hρ (Nat.le_of_ble_eq_true rfl)) rfl (v := .ref 72) (fvR (okR hρ 58 rfl)) ?_
    refine AW_iload 4 dX6_choiceRows_68 rfl ?_
    refine AW_iconst (v := 1) dX6_choiceRows_70 rfl ?_
    refine AW_iadd dX6_choiceRows_71 ?_
    refine AW_iaload dX6_choiceRows_72 (Nat.le_of_ble_eq_true rfl) (okn hρ (Nat.le_of_ble_eq_true rfl)) rfl h.1 (v := S.1 72 ((x5 + 1).toNatClampNeg)) rfl ?_
    replace h := h.2
    refine AW_aload_n 0 (n := 0) rfl dX6_choiceRows_73 rfl ?_
    refine AW_get dX6_choiceRows_74 flX6_17 (Nat.le_of_ble_eq_true rfl) (okn hρ (Nat.le_of_ble_eq_true rfl)) rfl (v := .ref 72) (fvR (okR hρ 58 rfl)) ?_
    refine AW_iload 4 dX6_choiceRows_77 rfl ?_
    refine AW_iaload dX6_choiceRows_79 (Nat.le_of_ble_eq_true rfl) (okn hρ (Nat.le_of_ble_eq_true rfl)) rfl h.1 (v := S.1 72 x5.toNatClampNeg) rfl ?_
    replace h := h.2
    refine AW_isub dX6_choiceRows_80 ?_
    refine AW_istore dX6_choiceRows_81 (Nat.le_of_ble_eq_true rfl) rfl ?_
    refine AW_aload_n 1 (n := 0) rfl dX6_choiceRows_83 rfl ?_
    refine AW_get dX6_choiceRows_84 flX6_36 (Nat.le_of_ble_eq_true rfl) (okn hρ (Nat.le_of_ble_eq_true rfl)) rfl (v := .ref ka) (fvR hR_ka) ?_
    refine AW_iload 5 dX6_choiceRows_87 rfl ?_
    refine AW_laload dX6_choiceRows_89 h16_ka hn_ka hs_ka h.1 (v := S.2 ka x5.toNatClampNeg) rfl ?_
    replace h := h.2
    refine AW_aload_n 1 (n := 0) rfl dX6_choiceRows_90 rfl ?_
    refine AW_get dX6_choiceRows_91 flX6_46 (Nat.le_of_ble_eq_true rfl) (okn hρ (Nat.le_of_ble_eq_true rfl)) rfl (v := .ref 26) (fvR (okR hρ 56 rfl)) ?_
    refine AW_get dX6_choiceRows_94 flX6_160 (Nat.le_of_ble_eq_true rfl) (okn hρ (Nat.le_of_ble_eq_true rfl)) rfl (v := .int (S.1 26 2)) (fun _ => rfl) ?_
    refine AW_iconst (v := 2) dX6_choiceRows_97 rfl ?_
    refine AW_iload 0 dX6_choiceRows_98 rfl ?_
    refine AW_imul dX6_choiceRows_100 ?_
    refine AW_isub dX6_choiceRows_101 ?_
    refine AW_i2l dX6_choiceRows_102 ?_
    refine AW_lmul dX6_choiceRows_103 ?_
    refine AW_lstore dX6_choiceRows_104 (Nat.le_of_ble_eq_true rfl) rfl ?_
    refine AW_aload_n 2 (n := 0) rfl dX6_choiceRows_106 rfl ?_
    refine AW_get dX6_choiceRows_107 flX6_17 (Nat.le_of_ble_eq_true rfl) (okn hρ (Nat.le_of_ble_eq_true rfl)) rfl (v := .ref 72) (fvR (okR hρ 58 rfl)) ?_
    refine AW_iload 6 dX6_choiceRows_110 rfl ?_
    refine AW_iaload dX6_choiceRows_112 (Nat.le_of_ble_eq_true rfl) (okn hρ (Nat.le_of_ble_eq_true rfl)) rfl h.1 (v := S.1 72 x5.toNatClampNeg) rfl ?_
    replace h := h.2
    refine AW_istore dX6_choiceRows_113 (Nat.le_of_ble_eq_true rfl) rfl ?_
    exact AW.sub [3, 4, 5, 6, 7, 1, 0] rfl h
set_option maxRecDepth 20000 in
theorem eX6_choiceRows_46 {g : GX} {Q : Int64 → St → Prop} {d : Nat} {ρ ρ' : Rs} {S : St} (hρ : Ok ρ) {ka : Nat} (hR_ka : rR ρ 70 16 = some ka) (h16_ka : 16 ≤ ka) (hn_ka : ka < rn ρ) (hs_ka : shp ρ ka = .inr (1, 1000)) (hcle : rc ρ ≤ rc ρ') (hule : ru ρ ≤ ru ρ') {x2 : Int32} {x3 : Int32} {x4 : Int32} (h : if x2 ≤ x4 then vp_in x3 1000 ∧ (ρ = ρ' ∧ (Q (S.2 ka x3.toNatClampNeg) S)) else AW g ρ' (QJ Q) (d + 1) mX6_choiceRows 55 [(0, .ref 70), (2, .int x2), (3, .int x3), (4, .int x4), (5, .int 0)] [] ρ S) : AW g ρ' (QJ Q) (d + 1) mX6_choiceRows 46 [(0, .ref 70), (2, .int x2), (3, .int x3), (4, .int x4)] [] ρ S := by
  refine AW_iload 3 dX6_choiceRows_46 rfl ?_
  refine AW_iload_n 1 (n := 2) rfl dX6_choiceRows_48 rfl ?_
  refine AW_icmp_ge dX6_choiceRows_49 rfl (iteM h (fun h => ?_) (fun h => ?_))
  · refine AW_aload_n 0 (n := 0) rfl dX6_choiceRows_197 rfl ?_
    refine AW_get dX6_choiceRows_198 flX6_36 (Nat.le_of_ble_eq_true rfl) (okn hρ (Nat.le_of_ble_eq_true rfl)) rfl (v := .ref ka) (fvR hR_ka) ?_
    refine AW_iload_n 2 (n := 3) rfl dX6_choiceRows_201 rfl ?_
    refine AW_laload dX6_choiceRows_202 h16_ka hn_ka hs_ka h.1 (v := S.2 ka x3.toNatClampNeg) rfl ?_
    replace h := h.2
    refine AW.rhoE h.1 ?_
    replace h := h.2
    exact AW_retl dX6_choiceRows_203 rfl h
  · refine AW_iconst (v := 0) dX6_choiceRows_52 rfl ?_
    refine AW_istore dX6_choiceRows_53 (Nat.le_of_ble_eq_true rfl) rfl ?_
    exact AW.sub [1, 2, 3, 4, 0] rfl h
set_option maxRecDepth 20000 in
theorem eX6_choiceRows {g : GX} {Q : Int64 → St → Prop} {d : Nat} {ρ ρ' : Rs} {S : St} (hρ : Ok ρ) {x1 : Int32} {x2 : Int32} {x3 : Int32} {ka : Nat} (hR_ka : rR ρ 70 16 = some ka) (h16_ka : 16 ≤ ka) (hn_ka : ka < rn ρ) (hs_ka : shp ρ ka = .inr (1, 1000)) (hcle : rc ρ ≤ rc ρ') (hule : ru ρ ≤ ru ρ') (hF_ka : gF g ka) (h : if x1 < 0 then ρ = ρ' ∧ (Q (-2) S) else if (S.1 70 3) ≤ x1 then ρ = ρ' ∧ (Q (-2) S) else if x3 < 0 then ρ = ρ' ∧ (Q (-2) S) else if x3 < (S.1 70 3) then CALLv g d mJ7_fill_d0a16 [.ref ka, .long 0] ρ ρ S (fun S1 => vp_in x1 1000 ∧ (AW g ρ' (QJ Q) (d + 1) mX6_choiceRows 46 [(0, .ref 70), (2, .int x2), (3, .int x3), (4, .int 0)] [] ρ (setL S1 ka x1.toNatClampNeg 1))) else ρ = ρ' ∧ (Q (-2) S)) : CALLl g (d + 1) mX6_choiceRows [.ref 70, .int x1, .int x2, .int x3] ρ ρ' S Q := by
  refine CALL.of mdX6_choiceRows.2.2.2.2 (Nat.le_of_ble_eq_true rfl) hcle hule ?_
  show AW g ρ' (QJ Q) (d + 1) mX6_choiceRows 0 [(0, .ref 70), (1, .int x1), (2, .int x2), (3, .int x3)] [] ρ S
  refine AW_iload_n 1 (n := 1) rfl dX6_choiceRows_0 rfl ?_
  refine AW_if_lt dX6_choiceRows_1 rfl (iteM h (fun h => ?_) (fun h => ?_))
  · refine AW_ldc2 (v := (-2)) dX6_choiceRows_24 kcX6_155 ?_
    refine AW.rhoE h.1 ?_
    replace h := h.2
    exact AW_retl dX6_choiceRows_27 rfl h
  · refine AW_iload_n 1 (n := 1) rfl dX6_choiceRows_4 rfl ?_
    refine AW_aload_n 0 (n := 0) rfl dX6_choiceRows_5 rfl ?_
    refine AW_get dX6_choiceRows_6 flX6_75 (Nat.le_of_ble_eq_true rfl) (okn hρ (Nat.le_of_ble_eq_true rfl)) rfl (v := .int (S.1 70 3)) (fun _ => rfl) ?_
    refine AW_icmp_ge dX6_choiceRows_9 rfl (iteM h (fun h => ?_) (fun h => ?_))
    · refine AW_ldc2 (v := (-2)) dX6_choiceRows_24 kcX6_155 ?_
      refine AW.rhoE h.1 ?_
      replace h := h.2
      exact AW_retl dX6_choiceRows_27 rfl h
    · refine AW_iload_n 3 (n := 3) rfl dX6_choiceRows_12 rfl ?_
      refine AW_if_lt dX6_choiceRows_13 rfl (iteM h (fun h => ?_) (fun h => ?_))
      · refine AW_ldc2 (v := (-2)) dX6_choiceRows_24 kcX6_155 ?_
        refine AW.rhoE h.1 ?_
        replace h := h.2
        exact AW_retl dX6_choiceRows_27 rfl h
      · refine AW_iload_n 3 (n := 3) rfl dX6_choiceRows_16 rfl ?_
        refine AW_aload_n 0 (n := 0) rfl dX6_choiceRows_17 rfl ?_
        refine AW_get dX6_choiceRows_18 flX6_75 (Nat.le_of_ble_eq_true rfl) (okn hρ (Nat.le_of_ble_eq_true rfl)) rfl (v := .int (S.1 70 3)) (fun _ => rfl) ?_
        refine AW_icmp_lt dX6_choiceRows_21 rfl (iteM h (fun h => ?_) (fun h => ?_))
        · refine AW_aload_n 0 (n := 0) rfl dX6_choiceRows_28 rfl ?_
          refine AW_get dX6_choiceRows_29 flX6_36 (Nat.le_of_ble_eq_true rfl) (okn hρ (Nat.le_of_ble_eq_true rfl)) rfl (v := .ref ka) (fvR hR_ka) ?_
          refine AW_lconst (v := 0) dX6_choiceRows_32 rfl ?_
          refine AW_callSv (M := mX6_choiceRows) (pc := 33) (As := [.ref ka, .long 0]) (ρ1 := ρ) (st := []) dX6_choiceRows_33 mdJ7_fill_d0a16 mlX6_157 smJ7_fill_d0a16 ⟨rfl, npJ7_fill_d0a16⟩ (Nat.le_of_ble_eq_true rfl) hcle hule rfl (CALLv.mono h (fun S1 _ h => ?_))
          refine AW_aload_n 0 (n := 0) rfl dX6_choiceRows_36 rfl ?_
          refine AW_get dX6_choiceRows_37 flX6_36 (Nat.le_of_ble_eq_true rfl) (okn hρ (Nat.le_of_ble_eq_true rfl)) rfl (v := .ref ka) (fvR hR_ka) ?_
          refine AW_iload_n 1 (n := 1) rfl dX6_choiceRows_40 rfl ?_
          refine AW_lconst (v := 1) dX6_choiceRows_41 rfl ?_
          refine AW_lastore dX6_choiceRows_42 h16_ka hn_ka hs_ka h.1 hF_ka (jx := x1.toNatClampNeg) rfl ?_
          replace h := h.2
          refine AW_iconst (v := 0) dX6_choiceRows_43 rfl ?_
          refine AW_istore dX6_choiceRows_44 (Nat.le_of_ble_eq_true rfl) rfl ?_
          exact AW.sub [1, 3, 4, 0] rfl h
        · refine AW_ldc2 (v := (-2)) dX6_choiceRows_24 kcX6_155 ?_
          refine AW.rhoE h.1 ?_
          replace h := h.2
          exact AW_retl dX6_choiceRows_27 rfl h
