set_option maxRecDepth 20000 in
theorem eX9_rowSum {g : GX} {Q : Int32 → St → Prop} {d : Nat} {ρ : Rs} {S : St} (hρ : Ok ρ) {x1 : Int32} (h : vp_in x1 4 ∧ (Q (S.1 22 x1.toNatClampNeg) S)) : CALLi g (d + 1) mX9_rowSum [.ref 21, .int x1] ρ ρ S Q := by
  refine CALL.of mdX9_rowSum.2.2.2.2 (Nat.le_of_ble_eq_true rfl) (Nat.le_refl _) (Nat.le_refl _) ?_
  show AW g ρ (QI Q) (d + 1) mX9_rowSum 0 [(0, .ref 21), (1, .int x1)] [] ρ S
  refine AW_aload_n 0 (n := 0) rfl dX9_rowSum_0 rfl ?_
  refine AW_get dX9_rowSum_1 flX9_9 (Nat.le_of_ble_eq_true rfl) (okn hρ (Nat.le_of_ble_eq_true rfl)) rfl (v := .ref 22) (fvR (okR hρ 10 rfl)) ?_
  refine AW_iload_n 1 (n := 1) rfl dX9_rowSum_4 rfl ?_
  refine AW_callSi (M := mX9_rowSum) (pc := 5) (As := [.ref 22, .int x1]) (ρ1 := ρ) (st := []) dX9_rowSum_5 mdX7_get mlX9_70 smX7_get ⟨rfl, npX7_get⟩ (Nat.le_of_ble_eq_true rfl) (Nat.le_refl _) (Nat.le_refl _) rfl (iX7_get hρ (Nat.le_of_ble_eq_true rfl) (okn hρ (Nat.le_of_ble_eq_true rfl)) rfl (by decide) h.1 (v := (S.1 22 x1.toNatClampNeg)) rfl ?_)
  replace h := h.2
  exact AW_reti dX9_rowSum_8 rfl h
set_option maxRecDepth 20000 in
theorem eX9_columnSum {g : GX} {Q : Int32 → St → Prop} {d : Nat} {ρ : Rs} {S : St} (hρ : Ok ρ) {x1 : Int32} (h : vp_in x1 4 ∧ (Q (S.1 23 x1.toNatClampNeg) S)) : CALLi g (d + 1) mX9_columnSum [.ref 21, .int x1] ρ ρ S Q := by
  refine CALL.of mdX9_columnSum.2.2.2.2 (Nat.le_of_ble_eq_true rfl) (Nat.le_refl _) (Nat.le_refl _) ?_
  show AW g ρ (QI Q) (d + 1) mX9_columnSum 0 [(0, .ref 21), (1, .int x1)] [] ρ S
  refine AW_aload_n 0 (n := 0) rfl dX9_columnSum_0 rfl ?_
  refine AW_get dX9_columnSum_1 flX9_15 (Nat.le_of_ble_eq_true rfl) (okn hρ (Nat.le_of_ble_eq_true rfl)) rfl (v := .ref 23) (fvR (okR hρ 11 rfl)) ?_
  refine AW_iload_n 1 (n := 1) rfl dX9_columnSum_4 rfl ?_
  refine AW_callSi (M := mX9_columnSum) (pc := 5) (As := [.ref 23, .int x1]) (ρ1 := ρ) (st := []) dX9_columnSum_5 mdX7_get mlX9_70 smX7_get ⟨rfl, npX7_get⟩ (Nat.le_of_ble_eq_true rfl) (Nat.le_refl _) (Nat.le_refl _) rfl (iX7_get hρ (Nat.le_of_ble_eq_true rfl) (okn hρ (Nat.le_of_ble_eq_true rfl)) rfl (by decide) h.1 (v := (S.1 23 x1.toNatClampNeg)) rfl ?_)
  replace h := h.2
  exact AW_reti dX9_columnSum_8 rfl h
set_option maxRecDepth 20000 in
theorem eX8_countAt {g : GX} {Q : Int32 → St → Prop} {d : Nat} {ρ : Rs} {S : St} (hρ : Ok ρ) {x1 : Int32} {x2 : Int32} (h : vp_in ((4 * x1) + x2) 16 ∧ (Q (S.1 20 (((4 * x1) + x2).toNatClampNeg)) S)) : CALLi g (d + 1) mX8_countAt [.ref 19, .int x1, .int x2] ρ ρ S Q := by
  refine CALL.of mdX8_countAt.2.2.2.2 (Nat.le_of_ble_eq_true rfl) (Nat.le_refl _) (Nat.le_refl _) ?_
  show AW g ρ (QI Q) (d + 1) mX8_countAt 0 [(0, .ref 19), (1, .int x1), (2, .int x2)] [] ρ S
  refine AW_aload_n 0 (n := 0) rfl dX8_countAt_0 rfl ?_
  refine AW_get dX8_countAt_1 flX8_15 (Nat.le_of_ble_eq_true rfl) (okn hρ (Nat.le_of_ble_eq_true rfl)) rfl (v := .ref 20) (fvR (okR hρ 9 rfl)) ?_
  refine AW_iconst (v := 4) dX8_countAt_4 rfl ?_
  refine AW_iload_n 1 (n := 1) rfl dX8_countAt_5 rfl ?_
  refine AW_imul dX8_countAt_6 ?_
  refine AW_iload_n 2 (n := 2) rfl dX8_countAt_7 rfl ?_
  refine AW_iadd dX8_countAt_8 ?_
  refine AW_callSi (M := mX8_countAt) (pc := 9) (As := [.ref 20, .int ((4 * x1) + x2)]) (ρ1 := ρ) (st := []) dX8_countAt_9 mdX7_get mlX8_64 smX7_get ⟨rfl, npX7_get⟩ (Nat.le_of_ble_eq_true rfl) (Nat.le_refl _) (Nat.le_refl _) rfl (iX7_get hρ (Nat.le_of_ble_eq_true rfl) (okn hρ (Nat.le_of_ble_eq_true rfl)) rfl (by decide) h.1 (v := (S.1 20 (((4 * x1) + x2).toNatClampNeg))) rfl ?_)
  replace h := h.2
  exact AW_reti dX8_countAt_12 rfl h
set_option maxRecDepth 20000 in
theorem eX2_firstOf {g : GX} {Q : Int32 → St → Prop} {d : Nat} {ρ : Rs} {S : St} (hρ : Ok ρ) {x1 : Int32} (h : vp_in x1 5 ∧ (¬ (S.1 33 x1.toNatClampNeg) < 0 ∧ (¬ 320 < (S.1 33 x1.toNatClampNeg) ∧ (Q (S.1 33 x1.toNatClampNeg) S)))) : CALLi g (d + 1) mX2_firstOf [.ref 32, .int x1] ρ ρ S Q := by
  refine CALL.of mdX2_firstOf.2.2.2.2 (Nat.le_of_ble_eq_true rfl) (Nat.le_refl _) (Nat.le_refl _) ?_
  show AW g ρ (QI Q) (d + 1) mX2_firstOf 0 [(0, .ref 32), (1, .int x1)] [] ρ S
  refine AW_aload_n 0 (n := 0) rfl dX2_firstOf_0 rfl ?_
  refine AW_get dX2_firstOf_1 flX2_9 (Nat.le_of_ble_eq_true rfl) (okn hρ (Nat.le_of_ble_eq_true rfl)) rfl (v := .ref 33) (fvR (okR hρ 29 rfl)) ?_
  refine AW_iload_n 1 (n := 1) rfl dX2_firstOf_4 rfl ?_
  refine AW_callSi (M := mX2_firstOf) (pc := 5) (As := [.ref 33, .int x1]) (ρ1 := ρ) (st := []) dX2_firstOf_5 mdX7_get mlX2_55 smX7_get ⟨rfl, npX7_get⟩ (Nat.le_of_ble_eq_true rfl) (Nat.le_refl _) (Nat.le_refl _) rfl (iX7_get hρ (Nat.le_of_ble_eq_true rfl) (okn hρ (Nat.le_of_ble_eq_true rfl)) rfl (by decide) h.1 (v := (S.1 33 x1.toNatClampNeg)) rfl ?_)
  replace h := h.2
  refine AW_sipush (v := 320) dX2_firstOf_8 rfl ?_
  refine AW_callSi (M := mX2_firstOf) (pc := 11) (As := [.int (S.1 33 x1.toNatClampNeg), .int 320]) (ρ1 := ρ) (st := []) dX2_firstOf_11 mdX7_cut mlX2_61 smX7_cut ⟨rfl, npX7_cut⟩ (Nat.le_of_ble_eq_true rfl) (Nat.le_refl _) (Nat.le_refl _) rfl (iX7_cut hρ h.1 h.2.1 (v := (S.1 33 x1.toNatClampNeg)) rfl ?_)
  replace h := h.2.2
  exact AW_reti dX2_firstOf_14 rfl h
set_option maxRecDepth 20000 in
theorem eX1_firstNode {g : GX} {Q : Int32 → St → Prop} {d : Nat} {ρ : Rs} {S : St} (hρ : Ok ρ) {x1 : Int32} (h : vp_in x1 5 ∧ (¬ (S.1 43 x1.toNatClampNeg) < 0 ∧ (¬ 480 < (S.1 43 x1.toNatClampNeg) ∧ (Q (S.1 43 x1.toNatClampNeg) S)))) : CALLi g (d + 1) mX1_firstNode [.ref 31, .int x1] ρ ρ S Q := by
  refine CALL.of mdX1_firstNode.2.2.2.2 (Nat.le_of_ble_eq_true rfl) (Nat.le_refl _) (Nat.le_refl _) ?_
  show AW g ρ (QI Q) (d + 1) mX1_firstNode 0 [(0, .ref 31), (1, .int x1)] [] ρ S
  refine AW_aload_n 0 (n := 0) rfl dX1_firstNode_0 rfl ?_
  refine AW_get dX1_firstNode_1 flX1_18 (Nat.le_of_ble_eq_true rfl) (okn hρ (Nat.le_of_ble_eq_true rfl)) rfl (v := .ref 43) (fvR (okR hρ 18 rfl)) ?_
  refine AW_iload_n 1 (n := 1) rfl dX1_firstNode_4 rfl ?_
  refine AW_callSi (M := mX1_firstNode) (pc := 5) (As := [.ref 43, .int x1]) (ρ1 := ρ) (st := []) dX1_firstNode_5 mdX7_get mlX1_110 smX7_get ⟨rfl, npX7_get⟩ (Nat.le_of_ble_eq_true rfl) (Nat.le_refl _) (Nat.le_refl _) rfl (iX7_get hρ (Nat.le_of_ble_eq_true rfl) (okn hρ (Nat.le_of_ble_eq_true rfl)) rfl (by decide) h.1 (v := (S.1 43 x1.toNatClampNeg)) rfl ?_)
  replace h := h.2
  refine AW_sipush (v := 480) dX1_firstNode_8 rfl ?_
  refine AW_callSi (M := mX1_firstNode) (pc := 11) (As := [.int (S.1 43 x1.toNatClampNeg), .int 480]) (ρ1 := ρ) (st := []) dX1_firstNode_11 mdX7_cut mlX1_130 smX7_cut ⟨rfl, npX7_cut⟩ (Nat.le_of_ble_eq_true rfl) (Nat.le_refl _) (Nat.le_refl _) rfl (iX7_cut hρ h.1 h.2.1 (v := (S.1 43 x1.toNatClampNeg)) rfl ?_)
  replace h := h.2.2
  exact AW_reti dX1_firstNode_14 rfl h
set_option maxRecDepth 20000 in
theorem eX1_firstLinkOf {g : GX} {Q : Int32 → St → Prop} {d : Nat} {ρ : Rs} {S : St} (hρ : Ok ρ) {x1 : Int32} (h : vp_in x1 481 ∧ (¬ (S.1 44 x1.toNatClampNeg) < 0 ∧ (¬ 4800 < (S.1 44 x1.toNatClampNeg) ∧ (Q (S.1 44 x1.toNatClampNeg) S)))) : CALLi g (d + 1) mX1_firstLinkOf [.ref 31, .int x1] ρ ρ S Q := by
  refine CALL.of mdX1_firstLinkOf.2.2.2.2 (Nat.le_of_ble_eq_true rfl) (Nat.le_refl _) (Nat.le_refl _) ?_
  show AW g ρ (QI Q) (d + 1) mX1_firstLinkOf 0 [(0, .ref 31), (1, .int x1)] [] ρ S
  refine AW_aload_n 0 (n := 0) rfl dX1_firstLinkOf_0 rfl ?_
  refine AW_get dX1_firstLinkOf_1 flX1_22 (Nat.le_of_ble_eq_true rfl) (okn hρ (Nat.le_of_ble_eq_true rfl)) rfl (v := .ref 44) (fvR (okR hρ 19 rfl)) ?_
  refine AW_iload_n 1 (n := 1) rfl dX1_firstLinkOf_4 rfl ?_
  refine AW_callSi (M := mX1_firstLinkOf) (pc := 5) (As := [.ref 44, .int x1]) (ρ1 := ρ) (st := []) dX1_firstLinkOf_5 mdX7_get mlX1_110 smX7_get ⟨rfl, npX7_get⟩ (Nat.le_of_ble_eq_true rfl) (Nat.le_refl _) (Nat.le_refl _) rfl (iX7_get hρ (Nat.le_of_ble_eq_true rfl) (okn hρ (Nat.le_of_ble_eq_true rfl)) rfl (by decide) h.1 (v := (S.1 44 x1.toNatClampNeg)) rfl ?_)
  replace h := h.2
  refine AW_sipush (v := 4800) dX1_firstLinkOf_8 rfl ?_
  refine AW_callSi (M := mX1_firstLinkOf) (pc := 11) (As := [.int (S.1 44 x1.toNatClampNeg), .int 4800]) (ρ1 := ρ) (st := []) dX1_firstLinkOf_11 mdX7_cut mlX1_130 smX7_cut ⟨rfl, npX7_cut⟩ (Nat.le_of_ble_eq_true rfl) (Nat.le_refl _) (Nat.le_refl _) rfl (iX7_cut hρ h.1 h.2.1 (v := (S.1 44 x1.toNatClampNeg)) rfl ?_)
  replace h := h.2.2
  exact AW_reti dX1_firstLinkOf_14 rfl h
set_option maxRecDepth 20000 in
theorem eX1_nodeBy {g : GX} {Q : Int32 → St → Prop} {d : Nat} {ρ : Rs} {S : St} (hρ : Ok ρ) {x1 : Int32} (h : vp_in x1 4800 ∧ (Q (S.1 46 x1.toNatClampNeg) S)) : CALLi g (d + 1) mX1_nodeBy [.ref 31, .int x1] ρ ρ S Q := by
  refine CALL.of mdX1_nodeBy.2.2.2.2 (Nat.le_of_ble_eq_true rfl) (Nat.le_refl _) (Nat.le_refl _) ?_
  show AW g ρ (QI Q) (d + 1) mX1_nodeBy 0 [(0, .ref 31), (1, .int x1)] [] ρ S
  refine AW_aload_n 0 (n := 0) rfl dX1_nodeBy_0 rfl ?_
  refine AW_get dX1_nodeBy_1 flX1_28 (Nat.le_of_ble_eq_true rfl) (okn hρ (Nat.le_of_ble_eq_true rfl)) rfl (v := .ref 46) (fvR (okR hρ 21 rfl)) ?_
  refine AW_iload_n 1 (n := 1) rfl dX1_nodeBy_4 rfl ?_
  refine AW_callSi (M := mX1_nodeBy) (pc := 5) (As := [.ref 46, .int x1]) (ρ1 := ρ) (st := []) dX1_nodeBy_5 mdX7_get mlX1_110 smX7_get ⟨rfl, npX7_get⟩ (Nat.le_of_ble_eq_true rfl) (Nat.le_refl _) (Nat.le_refl _) rfl (iX7_get hρ (Nat.le_of_ble_eq_true rfl) (okn hρ (Nat.le_of_ble_eq_true rfl)) rfl (by decide) h.1 (v := (S.1 46 x1.toNatClampNeg)) rfl ?_)
  replace h := h.2
  exact AW_reti dX1_nodeBy_8 rfl h
set_option maxRecDepth 20000 in
theorem eX1_lineBy {g : GX} {Q : Int32 → St → Prop} {d : Nat} {ρ : Rs} {S : St} (hρ : Ok ρ) {x1 : Int32} (h : vp_in x1 4800 ∧ (vp_in (S.1 45 x1.toNatClampNeg) 320 ∧ (Q (S.1 34 ((S.1 45 x1.toNatClampNeg).toNatClampNeg)) S))) : CALLi g (d + 1) mX1_lineBy [.ref 31, .int x1] ρ ρ S Q := by
  refine CALL.of mdX1_lineBy.2.2.2.2 (Nat.le_of_ble_eq_true rfl) (Nat.le_refl _) (Nat.le_refl _) ?_
  show AW g ρ (QI Q) (d + 1) mX1_lineBy 0 [(0, .ref 31), (1, .int x1)] [] ρ S
  refine AW_aload_n 0 (n := 0) rfl dX1_lineBy_0 rfl ?_
  refine AW_get dX1_lineBy_1 flX1_12 (Nat.le_of_ble_eq_true rfl) (okn hρ (Nat.le_of_ble_eq_true rfl)) rfl (v := .ref 32) (fvR (okR hρ 17 rfl)) ?_
  refine AW_get dX1_lineBy_4 flX1_172 (Nat.le_of_ble_eq_true rfl) (okn hρ (Nat.le_of_ble_eq_true rfl)) rfl (v := .ref 34) (fvR (okR hρ 30 rfl)) ?_
  refine AW_aload_n 0 (n := 0) rfl dX1_lineBy_7 rfl ?_
  refine AW_get dX1_lineBy_8 flX1_25 (Nat.le_of_ble_eq_true rfl) (okn hρ (Nat.le_of_ble_eq_true rfl)) rfl (v := .ref 45) (fvR (okR hρ 20 rfl)) ?_
  refine AW_iload_n 1 (n := 1) rfl dX1_lineBy_11 rfl ?_
  refine AW_callSi (M := mX1_lineBy) (pc := 12) (As := [.ref 45, .int x1]) (ρ1 := ρ) (st := [.ref 34]) dX1_lineBy_12 mdX7_get mlX1_110 smX7_get ⟨rfl, npX7_get⟩ (Nat.le_of_ble_eq_true rfl) (Nat.le_refl _) (Nat.le_refl _) rfl (iX7_get hρ (Nat.le_of_ble_eq_true rfl) (okn hρ (Nat.le_of_ble_eq_true rfl)) rfl (by decide) h.1 (v := (S.1 45 x1.toNatClampNeg)) rfl ?_)
  replace h := h.2
  refine AW_callSi (M := mX1_lineBy) (pc := 15) (As := [.ref 34, .int (S.1 45 x1.toNatClampNeg)]) (ρ1 := ρ) (st := []) dX1_lineBy_15 mdX7_get mlX1_110 smX7_get ⟨rfl, npX7_get⟩ (Nat.le_of_ble_eq_true rfl) (Nat.le_refl _) (Nat.le_refl _) rfl (iX7_get hρ (Nat.le_of_ble_eq_true rfl) (okn hρ (Nat.le_of_ble_eq_true rfl)) rfl (by decide) h.1 (v := (S.1 34 ((S.1 45 x1.toNatClampNeg).toNatClampNeg))) rfl ?_)
  replace h := h.2
  exact AW_reti dX1_lineBy_18 rfl h
set_option maxRecDepth 20000 in
theorem eX1_partBy {g : GX} {Q : Int64 → St → Prop} {d : Nat} {ρ : Rs} {S : St} (hρ : Ok ρ) {x1 : Int32} {x2 : Int32} (h : if x2 < 0 then Q 0 S else if (4800 : Int32) ≤ x2 then Q 0 S else vp_in x2 4800 ∧ (vp_in x1 4 ∧ (vp_in (S.1 45 x2.toNatClampNeg) 320 ∧ (Q (S.2 (38 + x1.toNatClampNeg) ((S.1 45 x2.toNatClampNeg).toNatClampNeg)) S)))) : CALLl g (d + 1) mX1_partBy [.ref 31, .int x1, .int x2] ρ ρ S Q := by
  refine CALL.of mdX1_partBy.2.2.2.2 (Nat.le_of_ble_eq_true rfl) (Nat.le_refl _) (Nat.le_refl _) ?_
  show AW g ρ (QJ Q) (d + 1) mX1_partBy 0 [(0, .ref 31), (1, .int x1), (2, .int x2)] [] ρ S
  refine AW_iload_n 2 (n := 2) rfl dX1_partBy_0 rfl ?_
  refine AW_if_lt dX1_partBy_1 rfl (iteM h (fun h => ?_) (fun h => ?_))
  · refine AW_lconst (v := 0) dX1_partBy_28 rfl ?_
    exact AW_retl dX1_partBy_29 rfl h
  · refine AW_iload_n 2 (n := 2) rfl dX1_partBy_4 rfl ?_
    refine AW_sipush (v := 4800) dX1_partBy_5 rfl ?_
    refine AW_icmp_ge dX1_partBy_8 rfl (iteM h (fun h => ?_) (fun h => ?_))
    · refine AW_lconst (v := 0) dX1_partBy_28 rfl ?_
      exact AW_retl dX1_partBy_29 rfl h
    · refine AW_aload_n 0 (n := 0) rfl dX1_partBy_11 rfl ?_
      refine AW_get dX1_partBy_12 flX1_12 (Nat.le_of_ble_eq_true rfl) (okn hρ (Nat.le_of_ble_eq_true rfl)) rfl (v := .ref 32) (fvR (okR hρ 17 rfl)) ?_
      refine AW_iload_n 1 (n := 1) rfl dX1_partBy_15 rfl ?_
      refine AW_aload_n 0 (n := 0) rfl dX1_partBy_16 rfl ?_
      refine AW_get dX1_partBy_17 flX1_25 (Nat.le_of_ble_eq_true rfl) (okn hρ (Nat.le_of_ble_eq_true rfl)) rfl (v := .ref 45) (fvR (okR hρ 20 rfl)) ?_
      refine AW_iload_n 2 (n := 2) rfl dX1_partBy_20 rfl ?_
      refine AW_iaload dX1_partBy_21 (Nat.le_of_ble_eq_true rfl) (okn hρ (Nat.le_of_ble_eq_true rfl)) rfl h.1 (v := S.1 45 x2.toNatClampNeg) rfl ?_
      replace h := h.2
      refine AW_callVl (M := mX1_partBy) (pc := 22) (As := [.int x1, .int (S.1 45 x2.toNatClampNeg)]) (ρ1 := ρ) (st := []) dX1_partBy_22 mdX2_partOf rfl mlX1_145 imX2_partOf seX2_partOf (rcv_of (q := (RX2, TX2, 8)) (Nat.le_of_ble_eq_true rfl) (okn hρ (Nat.le_of_ble_eq_true rfl)) rfl rfl) ⟨rfl, npX2_partOf⟩ (Nat.le_of_ble_eq_true rfl) (Nat.le_refl _) (Nat.le_refl _) rfl (iX2_partOf hρ h.1 h.2.1 (v := (S.2 (38 + x1.toNatClampNeg) ((S.1 45 x2.toNatClampNeg).toNatClampNeg))) rfl ?_)
      replace h := h.2.2
      refine AW_goto (tgt := 29) dX1_partBy_25 rfl ?_
      exact AW_retl dX1_partBy_29 rfl h
set_option maxRecDepth 20000 in
theorem eX6_cellsAt {g : GX} {Q : Int64 → St → Prop} {d : Nat} {ρ : Rs} {S : St} (hρ : Ok ρ) {x1 : Int32} (h : vp_in x1 1000 ∧ (Q (S.2 71 x1.toNatClampNeg) S)) : CALLl g (d + 1) mX6_cellsAt [.ref 70, .int x1] ρ ρ S Q := by
  refine CALL.of mdX6_cellsAt.2.2.2.2 (Nat.le_of_ble_eq_true rfl) (Nat.le_refl _) (Nat.le_refl _) ?_
  show AW g ρ (QJ Q) (d + 1) mX6_cellsAt 0 [(0, .ref 70), (1, .int x1)] [] ρ S
  refine AW_aload_n 0 (n := 0) rfl dX6_cellsAt_0 rfl ?_
  refine AW_get dX6_cellsAt_1 flX6_11 (Nat.le_of_ble_eq_true rfl) (okn hρ (Nat.le_of_ble_eq_true rfl)) rfl (v := .ref 71) (fvR (okR hρ 45 rfl)) ?_
  refine AW_iload_n 1 (n := 1) rfl dX6_cellsAt_4 rfl ?_
  refine AW_callSl (M := mX6_cellsAt) (pc := 5) (As := [.ref 71, .int x1]) (ρ1 := ρ) (st := []) dX6_cellsAt_5 mdX7_get_ mlX6_133 smX7_get_ ⟨rfl, npX7_get_⟩ (Nat.le_of_ble_eq_true rfl) (Nat.le_refl _) (Nat.le_refl _) rfl (iX7_get_ hρ (Nat.le_of_ble_eq_true rfl) (okn hρ (Nat.le_of_ble_eq_true rfl)) rfl (by decide) h.1 (v := (S.2 71 x1.toNatClampNeg)) rfl ?_)
  replace h := h.2
  exact AW_retl dX6_cellsAt_8 rfl h
set_option maxRecDepth 20000 in
theorem eX6_distanceOf {g : GX} {Q : Int32 → St → Prop} {d : Nat} {ρ : Rs} {S : St} (hρ : Ok ρ) {x1 : Int32} (h : vp_in x1 1000 ∧ (Q (S.1 76 x1.toNatClampNeg) S)) : CALLi g (d + 1) mX6_distanceOf [.ref 70, .int x1] ρ ρ S Q := by
  refine CALL.of mdX6_distanceOf.2.2.2.2 (Nat.le_of_ble_eq_true rfl) (Nat.le_refl _) (Nat.le_refl _) ?_
  show AW g ρ (QI Q) (d + 1) mX6_distanceOf 0 [(0, .ref 70), (1, .int x1)] [] ρ S
  refine AW_aload_n 0 (n := 0) rfl dX6_distanceOf_0 rfl ?_
  refine AW_get dX6_distanceOf_1 flX6_30 (Nat.le_of_ble_eq_true rfl) (okn hρ (Nat.le_of_ble_eq_true rfl)) rfl (v := .ref 76) (fvR (okR hρ 49 rfl)) ?_
  refine AW_iload_n 1 (n := 1) rfl dX6_distanceOf_4 rfl ?_
  refine AW_callSi (M := mX6_distanceOf) (pc := 5) (As := [.ref 76, .int x1]) (ρ1 := ρ) (st := []) dX6_distanceOf_5 mdX7_get mlX6_146 smX7_get ⟨rfl, npX7_get⟩ (Nat.le_of_ble_eq_true rfl) (Nat.le_refl _) (Nat.le_refl _) rfl (iX7_get hρ (Nat.le_of_ble_eq_true rfl) (okn hρ (Nat.le_of_ble_eq_true rfl)) rfl (by decide) h.1 (v := (S.1 76 x1.toNatClampNeg)) rfl ?_)
  replace h := h.2
  exact AW_reti dX6_distanceOf_8 rfl h
