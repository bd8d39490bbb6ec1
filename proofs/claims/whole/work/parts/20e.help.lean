set_option maxRecDepth 20000 in
theorem eX1_isLast {g : GX} {Q : Int32 → St → Prop} {d : Nat} {ρ : Rs} {S : St} (hρ : Ok ρ) {x1 : Int32} (h : vp_in (S.1 31 1) 5 ∧ (¬ (S.1 43 ((S.1 31 1).toNatClampNeg)) < 0 ∧ (¬ 480 < (S.1 43 ((S.1 31 1).toNatClampNeg)) ∧ (if x1 < (S.1 43 ((S.1 31 1).toNatClampNeg)) then Q 0 S else Q 1 S)))) : CALLi g (d + 2) mX1_isLast [.ref 31, .int x1] ρ ρ S Q := by
  refine CALL.of mdX1_isLast.2.2.2.2 (Nat.le_of_ble_eq_true rfl) (Nat.le_refl _) (Nat.le_refl _) ?_
  show AW g ρ (QI Q) (d + 2) mX1_isLast 0 [(0, .ref 31), (1, .int x1)] [] ρ S
  refine AW_iload_n 1 (n := 1) rfl dX1_isLast_0 rfl ?_
  refine AW_aload_n 0 (n := 0) rfl dX1_isLast_1 rfl ?_
  refine AW_aload_n 0 (n := 0) rfl dX1_isLast_2 rfl ?_
  refine AW_get dX1_isLast_3 flX1_59 (Nat.le_of_ble_eq_true rfl) (okn hρ (Nat.le_of_ble_eq_true rfl)) rfl (v := .int (S.1 31 1)) (fun _ => rfl) ?_
  refine AW_callVi (M := mX1_isLast) (pc := 6) (As := [.int (S.1 31 1)]) (ρ1 := ρ) (st := [.int x1]) dX1_isLast_6 mdX1_firstNode rfl mlX1_85 imX1_firstNode seX1_firstNode (rcv_of (q := (RX1, TX1, 15)) (Nat.le_of_ble_eq_true rfl) (okn hρ (Nat.le_of_ble_eq_true rfl)) rfl rfl) ⟨rfl, npX1_firstNode⟩ (Nat.le_of_ble_eq_true rfl) (Nat.le_refl _) (Nat.le_refl _) rfl (iX1_firstNode hρ h.1 h.2.1 h.2.2.1 (v := (S.1 43 ((S.1 31 1).toNatClampNeg))) rfl ?_)
  replace h := h.2.2.2
  refine AW_icmp_lt dX1_isLast_9 rfl (iteM h (fun h => ?_) (fun h => ?_))
  · refine AW_iconst (v := 0) dX1_isLast_16 rfl ?_
    exact AW_retz dX1_isLast_17 rfl Bz0 h
  · refine AW_iconst (v := 1) dX1_isLast_12 rfl ?_
    refine AW_goto (tgt := 17) dX1_isLast_13 rfl ?_
    exact AW_retz dX1_isLast_17 rfl Bz1 h
