set_option maxRecDepth 20000 in
theorem eX4_forget_2 {g : GX} {Q : St → Prop} {d : Nat} {ρ : Rs} {S : St} (hρ : Ok ρ) {x1 : Int32} (hF : ∀ k ∈ ([65, 66] : List Nat), gF g k) (h : if (4 : Int32) ≤ x1 then Q S else vp_in x1 4 ∧ (vp_in x1 4 ∧ (AW g ρ (QV Q) d mX4_forget 2 [(0, .ref 54), (1, .int (x1 + 1))] [] ρ (setI (setI S 65 x1.toNatClampNeg 0) 66 x1.toNatClampNeg 0)))) : AW g ρ (QV Q) d mX4_forget 2 [(0, .ref 54), (1, .int x1)] [] ρ S := by
  refine AW_iload_n 1 (n := 1) rfl dX4_forget_2 rfl ?_
  refine AW_iconst (v := 4) dX4_forget_3 rfl ?_
  refine AW_icmp_ge dX4_forget_4 rfl (iteM h (fun h => ?_) (fun h => ?_))
  · exact AW_retv dX4_forget_27 rfl h
  · refine AW_aload_n 0 (n := 0) rfl dX4_forget_7 rfl ?_
    refine AW_get dX4_forget_8 flX4_20 (Nat.le_of_ble_eq_true rfl) (okn hρ (Nat.le_of_ble_eq_true rfl)) rfl (v := .ref 65) (fvR (okR hρ 38 rfl)) ?_
    refine AW_iload_n 1 (n := 1) rfl dX4_forget_11 rfl ?_
    refine AW_iconst (v := 0) dX4_forget_12 rfl ?_
    refine AW_zastore dX4_forget_13 (Nat.le_of_ble_eq_true rfl) (okn hρ (Nat.le_of_ble_eq_true rfl)) rfl h.1 (Bz.nar Bz0) (hF _ (List.mem_of_getElem? (i := 0) rfl)) (jx := x1.toNatClampNeg) rfl ?_
    replace h := h.2
    refine AW_aload_n 0 (n := 0) rfl dX4_forget_14 rfl ?_
    refine AW_get dX4_forget_15 flX4_24 (Nat.le_of_ble_eq_true rfl) (okn hρ (Nat.le_of_ble_eq_true rfl)) rfl (v := .ref 66) (fvR (okR hρ 39 rfl)) ?_
    refine AW_iload_n 1 (n := 1) rfl dX4_forget_18 rfl ?_
    refine AW_iconst (v := 0) dX4_forget_19 rfl ?_
    refine AW_zastore dX4_forget_20 (Nat.le_of_ble_eq_true rfl) (okn hρ (Nat.le_of_ble_eq_true rfl)) rfl h.1 (Bz.nar Bz0) (hF _ (List.mem_of_getElem? (i := 1) rfl)) (jx := x1.toNatClampNeg) rfl ?_
    replace h := h.2
    refine AW_iinc 1 (v := x1 + 1) dX4_forget_21 rfl rfl (Nat.le_of_ble_eq_true rfl) rfl ?_
    refine AW_goto (tgt := 2) dX4_forget_24 rfl ?_
    exact AW.sub [1, 0] rfl h
set_option maxRecDepth 20000 in
theorem eX4_forget {g : GX} {Q : St → Prop} {d : Nat} {ρ : Rs} {S : St} (hρ : Ok ρ) (h : AW g ρ (QV Q) d mX4_forget 2 [(0, .ref 54), (1, .int 0)] [] ρ S) : CALLv g d mX4_forget [.ref 54] ρ ρ S Q := by
  refine CALL.of mdX4_forget.2.2.2.2 (Nat.le_of_ble_eq_true rfl) (Nat.le_refl _) (Nat.le_refl _) ?_
  show AW g ρ (QV Q) d mX4_forget 0 [(0, .ref 54)] [] ρ S
  refine AW_iconst (v := 0) dX4_forget_0 rfl ?_
  refine AW_istore_n (n := 1) (i := 1) rfl dX4_forget_1 (Nat.le_of_ble_eq_true rfl) rfl ?_
  exact AW.sub [1, 0] rfl h
set_option maxRecDepth 20000 in
theorem eX4_valueOf_12 {g : GX} {Q : Int64 → St → Prop} {d : Nat} {ρ : Rs} {S : St} (hρ : Ok ρ) {x1 : Int32} {x2 : Int64} {x4 : Int64} {x6 : Int32} {x7 : Int32} (h : if (S.1 31 1) ≤ x7 then Q x4 S else CALLi g (d + 1) mX3_lineOf [.long x2, .int x7] ρ ρ S (fun v1 S1 => CALLi g (d + 1) mX1_linkBy [.ref 31, .int x6, .int v1] ρ ρ S1 (fun v2 S2 => if v2 = (-1) then Q (-2) S2 else vp_in x1 4 ∧ (vp_in v2 4800 ∧ (vp_in (S2.1 45 v2.toNatClampNeg) 320 ∧ (CALLl g (d + 1) mX4_join [.int x1, .long x4, .long (S2.2 (38 + x1.toNatClampNeg) ((S2.1 45 v2.toNatClampNeg).toNatClampNeg))] ρ ρ S2 (fun v3 S3 => vp_in v2 4800 ∧ (AW g ρ (QJ Q) (d + 2) mX4_valueOf 12 [(0, .ref 54), (1, .int x1), (2, .long x2), (4, .long v3), (6, .int (S3.1 46 v2.toNatClampNeg)), (7, .int (x7 + 1))] [] ρ S3)))))))) : AW g ρ (QJ Q) (d + 2) mX4_valueOf 12 [(0, .ref 54), (1, .int x1), (2, .long x2), (4, .long x4), (6, .int x6), (7, .int x7)] [] ρ S := by
  refine AW_iload 5 dX4_valueOf_12 rfl ?_
  refine AW_aload_n 0 (n := 0) rfl dX4_valueOf_14 rfl ?_
  refine AW_get dX4_valueOf_15 flX4_36 (Nat.le_of_ble_eq_true rfl) (okn hρ (Nat.le_of_ble_eq_true rfl)) rfl (v := .ref 31) (fvR (okR hρ 35 rfl)) ?_
  refine AW_get dX4_valueOf_18 flX4_44 (Nat.le_of_ble_eq_true rfl) (okn hρ (Nat.le_of_ble_eq_true rfl)) rfl (v := .int (S.1 31 1)) (fun _ => rfl) ?_
  refine AW_icmp_ge dX4_valueOf_21 rfl (iteM h (fun h => ?_) (fun h => ?_))
  · refine AW_lload 3 dX4_valueOf_86 rfl ?_
    exact AW_retl dX4_valueOf_88 rfl h
  · refine AW_aload_n 0 (n := 0) rfl dX4_valueOf_24 rfl ?_
    refine AW_get dX4_valueOf_25 flX4_36 (Nat.le_of_ble_eq_true rfl) (okn hρ (Nat.le_of_ble_eq_true rfl)) rfl (v := .ref 31) (fvR (okR hρ 35 rfl)) ?_
    refine AW_iload 4 dX4_valueOf_28 rfl ?_
    refine AW_lload_n 2 (n := 2) rfl dX4_valueOf_30 rfl ?_
    refine AW_iload 5 dX4_valueOf_31 rfl ?_
    refine AW_callSi (M := mX4_valueOf) (pc := 33) (As := [.long x2, .int x7]) (ρ1 := ρ) (st := [.int x6, .ref 31]) dX4_valueOf_33 mdX3_lineOf mlX4_48 smX3_lineOf ⟨rfl, npX3_lineOf⟩ (Nat.le_of_ble_eq_true rfl) (Nat.le_refl _) (Nat.le_refl _) rfl (CALLi.mono h (fun v1 S1 _ h => ?_))
    refine AW_callVi (M := mX4_valueOf) (pc := 36) (As := [.int x6, .int v1]) (ρ1 := ρ) (st := []) dX4_valueOf_36 mdX1_linkBy rfl mlX4_54 imX1_linkBy seX1_linkBy (rcv_of (q := (RX1, TX1, 15)) (Nat.le_of_ble_eq_true rfl) (okn hρ (Nat.le_of_ble_eq_true rfl)) rfl rfl) ⟨rfl, npX1_linkBy⟩ (Nat.le_of_ble_eq_true rfl) (Nat.le_refl _) (Nat.le_refl _) rfl (CALLi.mono h (fun v2 S2 _ h => ?_))
    refine AW_istore dX4_valueOf_39 (Nat.le_of_ble_eq_true rfl) rfl ?_
    refine AW_iload 0 dX4_valueOf_41 rfl ?_
    refine AW_iconst (v := (-1)) dX4_valueOf_43 rfl ?_
    refine AW_icmp_ne dX4_valueOf_44 rfl (iteM h (fun h => ?_) (fun h => ?_))
    · refine AW_ldc2 (v := (-2)) dX4_valueOf_47 kcX4_58 ?_
      exact AW_retl dX4_valueOf_50 rfl h
    · refine AW_iload_n 2 (n := 1) rfl dX4_valueOf_51 rfl ?_
      refine AW_lload 4 dX4_valueOf_52 rfl ?_
      refine AW_aload_n 1 (n := 0) rfl dX4_valueOf_54 rfl ?_
      refine AW_get dX4_valueOf_55 flX4_36 (Nat.le_of_ble_eq_true rfl) (okn hρ (Nat.le_of_ble_eq_true rfl)) rfl (v := .ref 31) (fvR (okR hρ 35 rfl)) ?_
      refine AW_iload_n 2 (n := 1) rfl dX4_valueOf_58 rfl ?_
      refine AW_iload 0 dX4_valueOf_59 rfl ?_
      refine AW_callVl (M := mX4_valueOf) (pc := 61) (As := [.int x1, .int v2]) (ρ1 := ρ) (st := [.long x4, .int x1]) dX4_valueOf_61 mdX1_partBy rfl mlX4_60 imX1_partBy seX1_partBy (rcv_of (q := (RX1, TX1, 15)) (Nat.le_of_ble_eq_true rfl) (okn hρ (Nat.le_of_ble_eq_true rfl)) rfl rfl) ⟨rfl, npX1_partBy⟩ (Nat.le_of_ble_eq_true rfl) (Nat.le_refl _) (Nat.le_refl _) rfl (iX1_partBy hρ h.1 h.2.1 h.2.2.1 (v := (S2.2 (38 + x1.toNatClampNeg) ((S2.1 45 v2.toNatClampNeg).toNatClampNeg))) rfl ?_)
      replace h := h.2.2.2
      refine AW_callSl (M := mX4_valueOf) (pc := 64) (As := [.int x1, .long x4, .long (S2.2 (38 + x1.toNatClampNeg) ((S2.1 45 v2.toNatClampNeg).toNatClampNeg))]) (ρ1 := ρ) (st := []) dX4_valueOf_64 mdX4_join mlX4_64 smX4_join ⟨rfl, npX4_join⟩ (Nat.le_of_ble_eq_true rfl) (Nat.le_refl _) (Nat.le_refl _) rfl (CALLl.mono h (fun v3 S3 _ h => ?_))
      refine AW_lstore dX4_valueOf_67 (Nat.le_of_ble_eq_true rfl) rfl ?_
      refine AW_aload_n 2 (n := 0) rfl dX4_valueOf_69 rfl ?_
      refine AW_get dX4_valueOf_70 flX4_36 (Nat.le_of_ble_eq_true rfl) (okn hρ (Nat.le_of_ble_eq_true rfl)) rfl (v := .ref 31) (fvR (okR hρ 35 rfl)) ?_
      refine AW_iload 1 dX4_valueOf_73 rfl ?_
      refine AW_callVi (M := mX4_valueOf) (pc := 75) (As := [.int v2]) (ρ1 := ρ) (st := []) dX4_valueOf_75 mdX1_nodeBy rfl mlX4_68 imX1_nodeBy seX1_nodeBy (rcv_of (q := (RX1, TX1, 15)) (Nat.le_of_ble_eq_true rfl) (okn hρ (Nat.le_of_ble_eq_true rfl)) rfl rfl) ⟨rfl, npX1_nodeBy⟩ (Nat.le_of_ble_eq_true rfl) (Nat.le_refl _) (Nat.le_refl _) rfl (iX1_nodeBy hρ h.1 (v := (S3.1 46 v2.toNatClampNeg)) rfl ?_)
      replace h := h.2
      refine AW_istore dX4_valueOf_78 (Nat.le_of_ble_eq_true rfl) rfl ?_
      refine AW_iinc 6 (v := x7 + 1) dX4_valueOf_80 rfl rfl (Nat.le_of_ble_eq_true rfl) rfl ?_
      refine AW_goto (tgt := 12) dX4_valueOf_83 rfl ?_
      exact AW.sub [4, 5, 6, 2, 1, 0] rfl h
set_option maxRecDepth 20000 in
theorem eX4_valueOf {g : GX} {Q : Int64 → St → Prop} {d : Nat} {ρ : Rs} {S : St} (hρ : Ok ρ) {x1 : Int32} {x2 : Int64} (h : CALLl g (d + 1) mX4_start [.int x1] ρ ρ S (fun v1 S1 => AW g ρ (QJ Q) (d + 2) mX4_valueOf 12 [(0, .ref 54), (1, .int x1), (2, .long x2), (4, .long v1), (6, .int 0), (7, .int 0)] [] ρ S1)) : CALLl g (d + 2) mX4_valueOf [.ref 54, .int x1, .long x2] ρ ρ S Q := by
  refine CALL.of mdX4_valueOf.2.2.2.2 (Nat.le_of_ble_eq_true rfl) (Nat.le_refl _) (Nat.le_refl _) ?_
  show AW g ρ (QJ Q) (d + 2) mX4_valueOf 0 [(0, .ref 54), (1, .int x1), (2, .long x2)] [] ρ S
  refine AW_iload_n 1 (n := 1) rfl dX4_valueOf_0 rfl ?_
  refine AW_callSl (M := mX4_valueOf) (pc := 1) (As := [.int x1]) (ρ1 := ρ) (st := []) dX4_valueOf_1 mdX4_start mlX4_40 smX4_start ⟨rfl, npX4_start⟩ (Nat.le_of_ble_eq_true rfl) (Nat.le_refl _) (Nat.le_refl _) rfl (CALLl.mono h (fun v1 S1 _ h => ?_))
  refine AW_lstore dX4_valueOf_4 (Nat.le_of_ble_eq_true rfl) rfl ?_
  refine AW_iconst (v := 0) dX4_valueOf_6 rfl ?_
  refine AW_istore dX4_valueOf_7 (Nat.le_of_ble_eq_true rfl) rfl ?_
  refine AW_iconst (v := 0) dX4_valueOf_9 rfl ?_
  refine AW_istore dX4_valueOf_10 (Nat.le_of_ble_eq_true rfl) rfl ?_
  exact AW.sub [3, 4, 5, 2, 1, 0] rfl h
set_option maxRecDepth 20000 in
theorem eX4_farOut {g : GX} {Q : Int64 → St → Prop} {d : Nat} {ρ : Rs} {S : St} (hρ : Ok ρ) {x1 : Int32} {x2 : Int64} (h : CALLl g d mX4_valueOf [.ref 54, .int x1, .long x2] ρ ρ S (fun v1 S1 => CALLv g d mX4_gatherAll [.ref 54, .int x1, .long v1] ρ ρ S1 (fun S2 => vp_in x1 4 ∧ (Q (S2.2 68 x1.toNatClampNeg) S2)))) : CALLl g (d + 1) mX4_farOut [.ref 54, .int x1, .long x2] ρ ρ S Q := by
  refine CALL.of mdX4_farOut.2.2.2.2 (Nat.le_of_ble_eq_true rfl) (Nat.le_refl _) (Nat.le_refl _) ?_
  show AW g ρ (QJ Q) (d + 1) mX4_farOut 0 [(0, .ref 54), (1, .int x1), (2, .long x2)] [] ρ S
  refine AW_aload_n 0 (n := 0) rfl dX4_farOut_0 rfl ?_
  refine AW_iload_n 1 (n := 1) rfl dX4_farOut_1 rfl ?_
  refine AW_aload_n 0 (n := 0) rfl dX4_farOut_2 rfl ?_
  refine AW_iload_n 1 (n := 1) rfl dX4_farOut_3 rfl ?_
  refine AW_lload_n 2 (n := 2) rfl dX4_farOut_4 rfl ?_
  refine AW_callVl (M := mX4_farOut) (pc := 5) (As := [.int x1, .long x2]) (ρ1 := ρ) (st := [.int x1, .ref 54]) dX4_farOut_5 mdX4_valueOf rfl mlX4_72 imX4_valueOf seX4_valueOf (rcv_of (q := (RX4, TX4, 11)) (Nat.le_of_ble_eq_true rfl) (okn hρ (Nat.le_of_ble_eq_true rfl)) rfl rfl) ⟨rfl, npX4_valueOf⟩ (Nat.le_of_ble_eq_true rfl) (Nat.le_refl _) (Nat.le_refl _) rfl (CALLl.mono h (fun v1 S1 _ h => ?_))
  refine AW_callVv (M := mX4_farOut) (pc := 8) (As := [.int x1, .long v1]) (ρ1 := ρ) (st := []) dX4_farOut_8 mdX4_gatherAll rfl mlX4_76 imX4_gatherAll seX4_gatherAll (rcv_of (q := (RX4, TX4, 11)) (Nat.le_of_ble_eq_true rfl) (okn hρ (Nat.le_of_ble_eq_true rfl)) rfl rfl) ⟨rfl, npX4_gatherAll⟩ (Nat.le_of_ble_eq_true rfl) (Nat.le_refl _) (Nat.le_refl _) rfl (CALLv.mono h (fun S2 _ h => ?_))
  refine AW_aload_n 0 (n := 0) rfl dX4_farOut_11 rfl ?_
  refine AW_get dX4_farOut_12 flX4_30 (Nat.le_of_ble_eq_true rfl) (okn hρ (Nat.le_of_ble_eq_true rfl)) rfl (v := .ref 68) (fvR (okR hρ 41 rfl)) ?_
  refine AW_iload_n 1 (n := 1) rfl dX4_farOut_15 rfl ?_
  refine AW_callSl (M := mX4_farOut) (pc := 16) (As := [.ref 68, .int x1]) (ρ1 := ρ) (st := []) dX4_farOut_16 mdX7_get_ mlX4_80 smX7_get_ ⟨rfl, npX7_get_⟩ (Nat.le_of_ble_eq_true rfl) (Nat.le_refl _) (Nat.le_refl _) rfl (iX7_get_ hρ (Nat.le_of_ble_eq_true rfl) (okn hρ (Nat.le_of_ble_eq_true rfl)) rfl (by decide) h.1 (v := (S2.2 68 x1.toNatClampNeg)) rfl ?_)
  replace h := h.2
  exact AW_retl dX4_farOut_19 rfl h
set_option maxRecDepth 20000 in
theorem eX4_farOutHeft {g : GX} {Q : Int64 → St → Prop} {d : Nat} {ρ : Rs} {S : St} (hρ : Ok ρ) {x1 : Int32} {x2 : Int64} (h : CALLl g d mX4_valueOf [.ref 54, .int x1, .long x2] ρ ρ S (fun v1 S1 => CALLv g d mX4_gatherAll [.ref 54, .int x1, .long v1] ρ ρ S1 (fun S2 => vp_in x1 4 ∧ (Q (S2.2 69 x1.toNatClampNeg) S2)))) : CALLl g (d + 1) mX4_farOutHeft [.ref 54, .int x1, .long x2] ρ ρ S Q := by
  refine CALL.of mdX4_farOutHeft.2.2.2.2 (Nat.le_of_ble_eq_true rfl) (Nat.le_refl _) (Nat.le_refl _) ?_
  show AW g ρ (QJ Q) (d + 1) mX4_farOutHeft 0 [(0, .ref 54), (1, .int x1), (2, .long x2)] [] ρ S
  refine AW_aload_n 0 (n := 0) rfl dX4_farOutHeft_0 rfl ?_
  refine AW_iload_n 1 (n := 1) rfl dX4_farOutHeft_1 rfl ?_
  refine AW_aload_n 0 (n := 0) rfl dX4_farOutHeft_2 rfl ?_
  refine AW_iload_n 1 (n := 1) rfl dX4_farOutHeft_3 rfl ?_
  refine AW_lload_n 2 (n := 2) rfl dX4_farOutHeft_4 rfl ?_
  refine AW_callVl (M := mX4_farOutHeft) (pc := 5) (As := [.int x1, .long x2]) (ρ1 := ρ) (st := [.int x1, .ref 54]) dX4_farOutHeft_5 mdX4_valueOf rfl mlX4_72 imX4_valueOf seX4_valueOf (rcv_of (q := (RX4, TX4, 11)) (Nat.le_of_ble_eq_true rfl) (okn hρ (Nat.le_of_ble_eq_true rfl)) rfl rfl) ⟨rfl, npX4_valueOf⟩ (Nat.le_of_ble_eq_true rfl) (Nat.le_refl _) (Nat.le_refl _) rfl (CALLl.mono h (fun v1 S1 _ h => ?_))
  refine AW_callVv (M := mX4_farOutHeft) (pc := 8) (As := [.int x1, .long v1]) (ρ1 := ρ) (st := []) dX4_farOutHeft_8 mdX4_gatherAll rfl mlX4_76 imX4_gatherAll seX4_gatherAll (rcv_of (q := (RX4, TX4, 11)) (Nat.le_of_ble_eq_true rfl) (okn hρ (Nat.le_of_ble_eq_true rfl)) rfl rfl) ⟨rfl, npX4_gatherAll⟩ (Nat.le_of_ble_eq_true rfl) (Nat.le_refl _) (Nat.le_refl _) rfl (CALLv.mono h (fun S2 _ h => ?_))
  refine AW_aload_n 0 (n := 0) rfl dX4_farOutHeft_11 rfl ?_
  refine AW_get dX4_farOutHeft_12 flX4_33 (Nat.le_of_ble_eq_true rfl) (okn hρ (Nat.le_of_ble_eq_true rfl)) rfl (v := .ref 69) (fvR (okR hρ 42 rfl)) ?_
  refine AW_iload_n 1 (n := 1) rfl dX4_farOutHeft_15 rfl ?_
  refine AW_callSl (M := mX4_farOutHeft) (pc := 16) (As := [.ref 69, .int x1]) (ρ1 := ρ) (st := []) dX4_farOutHeft_16 mdX7_get_ mlX4_80 smX7_get_ ⟨rfl, npX7_get_⟩ (Nat.le_of_ble_eq_true rfl) (Nat.le_refl _) (Nat.le_refl _) rfl (iX7_get_ hρ (Nat.le_of_ble_eq_true rfl) (okn hρ (Nat.le_of_ble_eq_true rfl)) rfl (by decide) h.1 (v := (S2.2 69 x1.toNatClampNeg)) rfl ?_)
  replace h := h.2
  exact AW_retl dX4_farOutHeft_19 rfl h
set_option maxRecDepth 20000 in
theorem eX4_firstHeaviest {g : GX} {Q : Int64 → St → Prop} {d : Nat} {ρ : Rs} {S : St} (hρ : Ok ρ) (h : CALLv g d mX4_bound [.ref 54, .int 0] ρ ρ S (fun S1 => CALLl g d mX4_firstWith [.ref 54, .ref 60] ρ ρ S1 (fun v2 S2 => Q v2 S2))) : CALLl g (d + 1) mX4_firstHeaviest [.ref 54] ρ ρ S Q := by
  refine CALL.of mdX4_firstHeaviest.2.2.2.2 (Nat.le_of_ble_eq_true rfl) (Nat.le_refl _) (Nat.le_refl _) ?_
  show AW g ρ (QJ Q) (d + 1) mX4_firstHeaviest 0 [(0, .ref 54)] [] ρ S
  refine AW_aload_n 0 (n := 0) rfl dX4_firstHeaviest_0 rfl ?_
  refine AW_iconst (v := 0) dX4_firstHeaviest_1 rfl ?_
  refine AW_callVv (M := mX4_firstHeaviest) (pc := 2) (As := [.int 0]) (ρ1 := ρ) (st := []) dX4_firstHeaviest_2 mdX4_bound rfl mlX4_86 imX4_bound seX4_bound (rcv_of (q := (RX4, TX4, 11)) (Nat.le_of_ble_eq_true rfl) (okn hρ (Nat.le_of_ble_eq_true rfl)) rfl rfl) ⟨rfl, npX4_bound⟩ (Nat.le_of_ble_eq_true rfl) (Nat.le_refl _) (Nat.le_refl _) rfl (CALLv.mono h (fun S1 _ h => ?_))
  refine AW_aload_n 0 (n := 0) rfl dX4_firstHeaviest_5 rfl ?_
  refine AW_aload_n 0 (n := 0) rfl dX4_firstHeaviest_6 rfl ?_
  refine AW_get dX4_firstHeaviest_7 flX4_17 (Nat.le_of_ble_eq_true rfl) (okn hρ (Nat.le_of_ble_eq_true rfl)) rfl (v := .ref 60) (fvR (okR hρ 37 rfl)) ?_
  refine AW_callVl (M := mX4_firstHeaviest) (pc := 10) (As := [.ref 60]) (ρ1 := ρ) (st := []) dX4_firstHeaviest_10 mdX4_firstWith rfl mlX4_90 imX4_firstWith seX4_firstWith (rcv_of (q := (RX4, TX4, 11)) (Nat.le_of_ble_eq_true rfl) (okn hρ (Nat.le_of_ble_eq_true rfl)) rfl rfl) ⟨rfl, npX4_firstWith⟩ (Nat.le_of_ble_eq_true rfl) (Nat.le_refl _) (Nat.le_refl _) rfl (CALLl.mono h (fun v2 S2 _ h => ?_))
  exact AW_retl dX4_firstHeaviest_13 rfl h
set_option maxRecDepth 20000 in
theorem eX4_firstLightest {g : GX} {Q : Int64 → St → Prop} {d : Nat} {ρ : Rs} {S : St} (hρ : Ok ρ) (h : CALLv g d mX4_bound [.ref 54, .int 0] ρ ρ S (fun S1 => CALLl g d mX4_firstWith [.ref 54, .ref 55] ρ ρ S1 (fun v2 S2 => Q v2 S2))) : CALLl g (d + 1) mX4_firstLightest [.ref 54] ρ ρ S Q := by
  refine CALL.of mdX4_firstLightest.2.2.2.2 (Nat.le_of_ble_eq_true rfl) (Nat.le_refl _) (Nat.le_refl _) ?_
  show AW g ρ (QJ Q) (d + 1) mX4_firstLightest 0 [(0, .ref 54)] [] ρ S
  refine AW_aload_n 0 (n := 0) rfl dX4_firstLightest_0 rfl ?_
  refine AW_iconst (v := 0) dX4_firstLightest_1 rfl ?_
  refine AW_callVv (M := mX4_firstLightest) (pc := 2) (As := [.int 0]) (ρ1 := ρ) (st := []) dX4_firstLightest_2 mdX4_bound rfl mlX4_86 imX4_bound seX4_bound (rcv_of (q := (RX4, TX4, 11)) (Nat.le_of_ble_eq_true rfl) (okn hρ (Nat.le_of_ble_eq_true rfl)) rfl rfl) ⟨rfl, npX4_bound⟩ (Nat.le_of_ble_eq_true rfl) (Nat.le_refl _) (Nat.le_refl _) rfl (CALLv.mono h (fun S1 _ h => ?_))
  refine AW_aload_n 0 (n := 0) rfl dX4_firstLightest_5 rfl ?_
  refine AW_aload_n 0 (n := 0) rfl dX4_firstLightest_6 rfl ?_
  refine AW_get dX4_firstLightest_7 flX4_13 (Nat.le_of_ble_eq_true rfl) (okn hρ (Nat.le_of_ble_eq_true rfl)) rfl (v := .ref 55) (fvR (okR hρ 36 rfl)) ?_
  refine AW_callVl (M := mX4_firstLightest) (pc := 10) (As := [.ref 55]) (ρ1 := ρ) (st := []) dX4_firstLightest_10 mdX4_firstWith rfl mlX4_90 imX4_firstWith seX4_firstWith (rcv_of (q := (RX4, TX4, 11)) (Nat.le_of_ble_eq_true rfl) (okn hρ (Nat.le_of_ble_eq_true rfl)) rfl rfl) ⟨rfl, npX4_firstWith⟩ (Nat.le_of_ble_eq_true rfl) (Nat.le_refl _) (Nat.le_refl _) rfl (CALLl.mono h (fun v2 S2 _ h => ?_))
  exact AW_retl dX4_firstLightest_13 rfl h
set_option maxRecDepth 20000 in
theorem eX4_firstWith_60 {g : GX} {Q : Int64 → St → Prop} {d : Nat} {ρ : Rs} {S : St} (hρ : Ok ρ) {k1 : Nat} (h16_1 : 16 ≤ k1) (hn_1 : k1 < rn ρ) (hs_1 : shp ρ k1 = .inr (3, 480)) {x2 : Int64} {x5 : Int32} {x6 : Int64} {x8 : Int32} {x9 : Int32} {x10 : Int32} (h : if x9 ≤ x10 then AW g ρ (QJ Q) (d + 2) mX4_firstWith 8 [(0, .ref 54), (1, .ref k1), (2, .long x2), (4, .int x8), (5, .int (x5 + 1))] [] ρ S else vp_in x10 4800 ∧ (vp_in x10 4800 ∧ (vp_in (S.1 45 x10.toNatClampNeg) 320 ∧ (vp_in (S.1 46 x10.toNatClampNeg) 480 ∧ (vp_in (S.1 46 x10.toNatClampNeg) 480 ∧ (if (S.2 47 ((S.1 46 x10.toNatClampNeg).toNatClampNeg)) ≤ 0 then vp_in (S.1 46 x10.toNatClampNeg) 480 ∧ (AW g ρ (QJ Q) (d + 2) mX4_firstWith 60 [(0, .ref 54), (1, .ref k1), (2, .long (x2 + (S.2 47 ((S.1 46 x10.toNatClampNeg).toNatClampNeg)))), (5, .int x5), (6, .long x6), (8, .int x8), (9, .int x9), (10, .int (x10 + 1))] [] ρ S) else if ((S.2 38 ((S.1 45 x10.toNatClampNeg).toNatClampNeg)) * (S.2 (k1 + 1) ((S.1 46 x10.toNatClampNeg).toNatClampNeg))) = x6 then AW g ρ (QJ Q) (d + 2) mX4_firstWith 8 [(0, .ref 54), (1, .ref k1), (2, .long x2), (4, .int (S.1 46 x10.toNatClampNeg)), (5, .int (x5 + 1))] [] ρ S else vp_in (S.1 46 x10.toNatClampNeg) 480 ∧ (AW g ρ (QJ Q) (d + 2) mX4_firstWith 60 [(0, .ref 54), (1, .ref k1), (2, .long (x2 + (S.2 47 ((S.1 46 x10.toNatClampNeg).toNatClampNeg)))), (5, .int x5), (6, .long x6), (8, .int x8), (9, .int x9), (10, .int (x10 + 1))] [] ρ S))))))) : AW g ρ (QJ Q) (d + 2) mX4_firstWith 60 [(0, .ref 54), (1, .ref k1), (2, .long x2), (5, .int x5), (6, .long x6), (8, .int x8), (9, .int x9), (10, .int x10)] [] ρ S := by
  refine AW_iload 7 dX4_firstWith_60 rfl ?_
  refine AW_iload 6 dX4_firstWith_62 rfl ?_
  refine AW_icmp_ge dX4_firstWith_64 rfl (iteM h (fun h => ?_) (fun h => ?_))
  · refine AW_iload 5 dX4_firstWith_148 rfl ?_
    refine AW_istore dX4_firstWith_150 (Nat.le_of_ble_eq_true rfl) rfl ?_
    refine AW_iinc 4 (v := x5 + 1) dX4_firstWith_152 rfl rfl (Nat.le_of_ble_eq_true rfl) rfl ?_
    refine AW_goto (tgt := 8) dX4_firstWith_155 rfl ?_
    exact AW.sub [2, 3, 4, 1, 0] rfl h
  · refine AW_aload_n 0 (n := 0) rfl dX4_firstWith_67 rfl ?_
    refine AW_get dX4_firstWith_68 flX4_36 (Nat.le_of_ble_eq_true rfl) (okn hρ (Nat.le_of_ble_eq_true rfl)) rfl (v := .ref 31) (fvR (okR hρ 35 rfl)) ?_
    refine AW_iload 7 dX4_firstWith_71 rfl ?_
    refine AW_callVi (M := mX4_firstWith) (pc := 73) (As := [.int x10]) (ρ1 := ρ) (st := []) dX4_firstWith_73 mdX1_nodeBy rfl mlX4_68 imX1_nodeBy seX1_nodeBy (rcv_of (q := (RX1, TX1, 15)) (Nat.le_of_ble_eq_true rfl) (okn hρ (Nat.le_of_ble_eq_true rfl)) rfl rfl) ⟨rfl, npX1_nodeBy⟩ (Nat.le_of_ble_eq_true rfl) (Nat.le_refl _) (Nat.le_refl _) rfl (iX1_nodeBy hρ h.1 (v := (S.1 46 x10.toNatClampNeg)) rfl ?_)
    replace h := h.2
    refine AW_istore dX4_firstWith_76 (Nat.le_of_ble_eq_true rfl) rfl ?_
    refine AW_aload_n 1 (n := 0) rfl dX4_firstWith_78 rfl ?_
    refine AW_get dX4_firstWith_79 flX4_36 (Nat.le_of_ble_eq_true rfl) (okn hρ (Nat.le_of_ble_eq_true rfl)) rfl (v := .ref 31) (fvR (okR hρ 35 rfl)) ?_
    refine AW_iconst (v := 0) dX4_firstWith_82 rfl ?_
    refine AW_iload 8 dX4_firstWith_83 rfl ?_
    refine AW_callVl (M := mX4_firstWith) (pc := 85) (As := [.int 0, .int x10]) (ρ1 := ρ) (st := []) dX4_firstWith_85 mdX1_partBy rfl mlX4_60 imX1_partBy seX1_partBy (rcv_of (q := (RX1, TX1, 15)) (Nat.le_of_ble_eq_true rfl) (okn hρ (Nat.le_of_ble_eq_true rfl)) rfl rfl) ⟨rfl, npX1_partBy⟩ (Nat.le_of_ble_eq_true rfl) (Nat.le_refl _) (Nat.le_refl _) rfl (iX1_partBy hρ (show ¬ (_ ∨ _) by decide) h.1 h.2.1 (v := (S.2 38 ((S.1 45 x10.toNatClampNeg).toNatClampNeg))) rfl ?_)
    replace h := h.2.2
    refine AW_aload_n 2 (n := 1) rfl dX4_firstWith_88 rfl ?_
    refine AW_iconst (v := 0) dX4_firstWith_89 rfl ?_
    refine AW_iload 0 dX4_firstWith_90 rfl ?_
    refine AW_callSi (M := mX4_firstWith) (pc := 92) (As := [.int 0, .int (S.1 46 x10.toNatClampNeg)]) (ρ1 := ρ) (st := [.ref k1, .long (S.2 38 ((S.1 45 x10.toNatClampNeg).toNatClampNeg))]) dX4_firstWith_92 mdX4_slot mlX4_94 smX4_slot ⟨rfl, npX4_slot⟩ (Nat.le_of_ble_eq_true rfl) (Nat.le_refl _) (Nat.le_refl _) rfl (iX4_slot hρ  (v := ((0 * 480) + (S.1 46 x10.toNatClampNeg))) rfl ?_)
    refine AW_callSl (M := mX4_firstWith) (pc := 95) (As := [.ref k1, .int ((0 * 480) + (S.1 46 x10.toNatClampNeg))]) (ρ1 := ρ) (st := [.long (S.2 38 ((S.1 45 x10.toNatClampNeg).toNatClampNeg))]) dX4_firstWith_95 mdX7_get_ mlX4_80 smX7_get_ ⟨rfl, npX7_get_⟩ (Nat.le_of_ble_eq_true rfl) (Nat.le_refl _) (Nat.le_refl _) rfl (iX7_getF hρ h16_1 hn_1 hs_1 (show ¬ (_ ∨ _) by decide) h.1 (v := (S.2 (k1 + 1) ((S.1 46 x10.toNatClampNeg).toNatClampNeg))) rfl ?_)
    replace h := h.2
    refine AW_lmul dX4_firstWith_98 ?_
    refine AW_lstore dX4_firstWith_99 (Nat.le_of_ble_eq_true rfl) rfl ?_
    refine AW_aload_n 2 (n := 0) rfl dX4_firstWith_101 rfl ?_
    refine AW_get dX4_firstWith_102 flX4_36 (Nat.le_of_ble_eq_true rfl) (okn hρ (Nat.le_of_ble_eq_true rfl)) rfl (v := .ref 31) (fvR (okR hρ 35 rfl)) ?_
    refine AW_iload 1 dX4_firstWith_105 rfl ?_
    refine AW_callVl (M := mX4_firstWith) (pc := 107) (As := [.int (S.1 46 x10.toNatClampNeg)]) (ρ1 := ρ) (st := []) dX4_firstWith_107 mdX1_aheadOf rfl mlX4_100 imX1_aheadOf seX1_aheadOf (rcv_of (q := (RX1, TX1, 15)) (Nat.le_of_ble_eq_true rfl) (okn hρ (Nat.le_of_ble_eq_true rfl)) rfl rfl) ⟨rfl, npX1_aheadOf⟩ (Nat.le_of_ble_eq_true rfl) (Nat.le_refl _) (Nat.le_refl _) rfl (iX1_aheadOf hρ h.1 (v := (S.2 47 ((S.1 46 x10.toNatClampNeg).toNatClampNeg))) rfl ?_)
    replace h := h.2
    refine AW_lconst (v := 0) dX4_firstWith_110 rfl ?_
    refine AW_lc_le dX4_firstWith_111 dX4_firstWith_112 rfl (iteM h (fun h => ?_) (fun h => ?_))
    · refine AW_lload_n 4 (n := 2) rfl dX4_firstWith_130 rfl ?_
      refine AW_aload_n 2 (n := 0) rfl dX4_firstWith_131 rfl ?_
      refine AW_get dX4_firstWith_132 flX4_36 (Nat.le_of_ble_eq_true rfl) (okn hρ (Nat.le_of_ble_eq_true rfl)) rfl (v := .ref 31) (fvR (okR hρ 35 rfl)) ?_
      refine AW_iload 1 dX4_firstWith_135 rfl ?_
      refine AW_callVl (M := mX4_firstWith) (pc := 137) (As := [.int (S.1 46 x10.toNatClampNeg)]) (ρ1 := ρ) (st := [.long x2]) dX4_firstWith_137 mdX1_aheadOf rfl mlX4_100 imX1_aheadOf seX1_aheadOf (rcv_of (q := (RX1, TX1, 15)) (Nat.le_of_ble_eq_true rfl) (okn hρ (Nat.le_of_ble_eq_true rfl)) rfl rfl) ⟨rfl, npX1_aheadOf⟩ (Nat.le_of_ble_eq_true rfl) (Nat.le_refl _) (Nat.le_refl _) rfl (iX1_aheadOf hρ h.1 (v := (S.2 47 ((S.1 46 x10.toNatClampNeg).toNatClampNeg))) rfl ?_)
      replace h := h.2
      refine AW_ladd dX4_firstWith_140 ?_
      refine AW_lstore_n (n := 2) (i := 2) rfl dX4_firstWith_141 (Nat.le_of_ble_eq_true rfl) rfl ?_
      refine AW_iinc 9 (v := x10 + 1) dX4_firstWith_142 rfl rfl (Nat.le_of_ble_eq_true rfl) rfl ?_
      refine AW_goto (tgt := 60) dX4_firstWith_145 rfl ?_
      exact AW.sub [4, 5, 1, 6, 7, 8, 9, 0] rfl h
    · refine AW_lload 0 dX4_firstWith_115 rfl ?_
      refine AW_lload 6 dX4_firstWith_117 rfl ?_
      refine AW_lc_ne dX4_firstWith_119 dX4_firstWith_120 rfl (iteM h (fun h => ?_) (fun h => ?_))
      · refine AW_iload 1 dX4_firstWith_123 rfl ?_
        refine AW_istore dX4_firstWith_125 (Nat.le_of_ble_eq_true rfl) rfl ?_
        refine AW_goto (tgt := 148) dX4_firstWith_127 rfl ?_
        refine AW_iload 0 dX4_firstWith_148 rfl ?_
        refine AW_istore dX4_firstWith_150 (Nat.le_of_ble_eq_true rfl) rfl ?_
        refine AW_iinc 7 (v := x5 + 1) dX4_firstWith_152 rfl rfl (Nat.le_of_ble_eq_true rfl) rfl ?_
        refine AW_goto (tgt := 8) dX4_firstWith_155 rfl ?_
        exact AW.sub [5, 6, 7, 1, 0] rfl h
      · refine AW_lload_n 4 (n := 2) rfl dX4_firstWith_130 rfl ?_
        refine AW_aload_n 2 (n := 0) rfl dX4_firstWith_131 rfl ?_
        refine AW_get dX4_firstWith_132 flX4_36 (Nat.le_of_ble_eq_true rfl) (okn hρ (Nat.le_of_ble_eq_true rfl)) rfl (v := .ref 31) (fvR (okR hρ 35 rfl)) ?_
        refine AW_iload 1 dX4_firstWith_135 rfl ?_
        refine AW_callVl (M := mX4_firstWith) (pc := 137) (As := [.int (S.1 46 x10.toNatClampNeg)]) (ρ1 := ρ) (st := [.long x2]) dX4_firstWith_137 mdX1_aheadOf rfl mlX4_100 imX1_aheadOf seX1_aheadOf (rcv_of (q := (RX1, TX1, 15)) (Nat.le_of_ble_eq_true rfl) (okn hρ (Nat.le_of_ble_eq_true rfl)) rfl rfl) ⟨rfl, npX1_aheadOf⟩ (Nat.le_of_ble_eq_true rfl) (Nat.le_refl _) (Nat.le_refl _) rfl (iX1_aheadOf hρ h.1 (v := (S.2 47 ((S.1 46 x10.toNatClampNeg).toNatClampNeg))) rfl ?_)
        replace h := h.2
        refine AW_ladd dX4_firstWith_140 ?_
        refine AW_lstore_n (n := 2) (i := 2) rfl dX4_firstWith_141 (Nat.le_of_ble_eq_true rfl) rfl ?_
        refine AW_iinc 9 (v := x10 + 1) dX4_firstWith_142 rfl rfl (Nat.le_of_ble_eq_true rfl) rfl ?_
        refine AW_goto (tgt := 60) dX4_firstWith_145 rfl ?_
        exact AW.sub [4, 5, 1, 6, 7, 8, 9, 0] rfl h
set_option maxRecDepth 20000 in
theorem eX4_firstWith_8 {g : GX} {Q : Int64 → St → Prop} {d : Nat} {ρ : Rs} {S : St} (hρ : Ok ρ) {k1 : Nat} (h16_1 : 16 ≤ k1) (hn_1 : k1 < rn ρ) (hs_1 : shp ρ k1 = .inr (3, 480)) {x2 : Int64} {x4 : Int32} {x5 : Int32} (h : if (S.1 31 1) ≤ x5 then Q x2 S else vp_in x4 480 ∧ (vp_in (x4 + 1) 481 ∧ (¬ (S.1 44 ((x4 + 1).toNatClampNeg)) < 0 ∧ (¬ 4800 < (S.1 44 ((x4 + 1).toNatClampNeg)) ∧ (vp_in x4 481 ∧ (¬ (S.1 44 x4.toNatClampNeg) < 0 ∧ (¬ 4800 < (S.1 44 x4.toNatClampNeg) ∧ (AW g ρ (QJ Q) (d + 2) mX4_firstWith 60 [(0, .ref 54), (1, .ref k1), (2, .long x2), (5, .int x5), (6, .long (S.2 (k1 + 1) x4.toNatClampNeg)), (8, .int x4), (9, .int (S.1 44 ((x4 + 1).toNatClampNeg))), (10, .int (S.1 44 x4.toNatClampNeg))] [] ρ S)))))))) : AW g ρ (QJ Q) (d + 2) mX4_firstWith 8 [(0, .ref 54), (1, .ref k1), (2, .long x2), (4, .int x4), (5, .int x5)] [] ρ S := by
  refine AW_iload 4 dX4_firstWith_8 rfl ?_
  refine AW_aload_n 0 (n := 0) rfl dX4_firstWith_10 rfl ?_
  refine AW_get dX4_firstWith_11 flX4_36 (Nat.le_of_ble_eq_true rfl) (okn hρ (Nat.le_of_ble_eq_true rfl)) rfl (v := .ref 31) (fvR (okR hρ 35 rfl)) ?_
  refine AW_get dX4_firstWith_14 flX4_44 (Nat.le_of_ble_eq_true rfl) (okn hρ (Nat.le_of_ble_eq_true rfl)) rfl (v := .int (S.1 31 1)) (fun _ => rfl) ?_
  refine AW_icmp_ge dX4_firstWith_17 rfl (iteM h (fun h => ?_) (fun h => ?_))
  · refine AW_lload_n 2 (n := 2) rfl dX4_firstWith_158 rfl ?_
    exact AW_retl dX4_firstWith_159 rfl h
  · refine AW_aload_n 1 (n := 1) rfl dX4_firstWith_20 rfl ?_
    refine AW_iconst (v := 0) dX4_firstWith_21 rfl ?_
    refine AW_iload 3 dX4_firstWith_22 rfl ?_
    refine AW_callSi (M := mX4_firstWith) (pc := 24) (As := [.int 0, .int x4]) (ρ1 := ρ) (st := [.ref k1]) dX4_firstWith_24 mdX4_slot mlX4_94 smX4_slot ⟨rfl, npX4_slot⟩ (Nat.le_of_ble_eq_true rfl) (Nat.le_refl _) (Nat.le_refl _) rfl (iX4_slot hρ  (v := ((0 * 480) + x4)) rfl ?_)
    refine AW_callSl (M := mX4_firstWith) (pc := 27) (As := [.ref k1, .int ((0 * 480) + x4)]) (ρ1 := ρ) (st := []) dX4_firstWith_27 mdX7_get_ mlX4_80 smX7_get_ ⟨rfl, npX7_get_⟩ (Nat.le_of_ble_eq_true rfl) (Nat.le_refl _) (Nat.le_refl _) rfl (iX7_getF hρ h16_1 hn_1 hs_1 (show ¬ (_ ∨ _) by decide) h.1 (v := (S.2 (k1 + 1) x4.toNatClampNeg)) rfl ?_)
    replace h := h.2
    refine AW_lstore dX4_firstWith_30 (Nat.le_of_ble_eq_true rfl) rfl ?_
    refine AW_iload 4 dX4_firstWith_32 rfl ?_
    refine AW_istore dX4_firstWith_34 (Nat.le_of_ble_eq_true rfl) rfl ?_
    refine AW_aload_n 2 (n := 0) rfl dX4_firstWith_36 rfl ?_
    refine AW_get dX4_firstWith_37 flX4_36 (Nat.le_of_ble_eq_true rfl) (okn hρ (Nat.le_of_ble_eq_true rfl)) rfl (v := .ref 31) (fvR (okR hρ 35 rfl)) ?_
    refine AW_iload 5 dX4_firstWith_40 rfl ?_
    refine AW_iconst (v := 1) dX4_firstWith_42 rfl ?_
    refine AW_iadd dX4_firstWith_43 ?_
    refine AW_callVi (M := mX4_firstWith) (pc := 44) (As := [.int (x4 + 1)]) (ρ1 := ρ) (st := []) dX4_firstWith_44 mdX1_firstLinkOf rfl mlX4_97 imX1_firstLinkOf seX1_firstLinkOf (rcv_of (q := (RX1, TX1, 15)) (Nat.le_of_ble_eq_true rfl) (okn hρ (Nat.le_of_ble_eq_true rfl)) rfl rfl) ⟨rfl, npX1_firstLinkOf⟩ (Nat.le_of_ble_eq_true rfl) (Nat.le_refl _) (Nat.le_refl _) rfl (iX1_firstLinkOf hρ h.1 h.2.1 h.2.2.1 (v := (S.1 44 ((x4 + 1).toNatClampNeg))) rfl ?_)
    replace h := h.2.2.2
    refine AW_istore dX4_firstWith_47 (Nat.le_of_ble_eq_true rfl) rfl ?_
    refine AW_aload_n 3 (n := 0) rfl dX4_firstWith_49 rfl ?_
    refine AW_get dX4_firstWith_50 flX4_36 (Nat.le_of_ble_eq_true rfl) (okn hρ (Nat.le_of_ble_eq_true rfl)) rfl (v := .ref 31) (fvR (okR hρ 35 rfl)) ?_
    refine AW_iload 6 dX4_firstWith_53 rfl ?_
    refine AW_callVi (M := mX4_firstWith) (pc := 55) (As := [.int x4]) (ρ1 := ρ) (st := []) dX4_firstWith_55 mdX1_firstLinkOf rfl mlX4_97 imX1_firstLinkOf seX1_firstLinkOf (rcv_of (q := (RX1, TX1, 15)) (Nat.le_of_ble_eq_true rfl) (okn hρ (Nat.le_of_ble_eq_true rfl)) rfl rfl) ⟨rfl, npX1_firstLinkOf⟩ (Nat.le_of_ble_eq_true rfl) (Nat.le_refl _) (Nat.le_refl _) rfl (iX1_firstLinkOf hρ h.1 h.2.1 h.2.2.1 (v := (S.1 44 x4.toNatClampNeg)) rfl ?_)
    replace h := h.2.2.2
    refine AW_istore dX4_firstWith_58 (Nat.le_of_ble_eq_true rfl) rfl ?_
    exact AW.sub [4, 5, 6, 8, 3, 2, 1, 0] rfl h
set_option maxRecDepth 20000 in
theorem eX4_firstWith {g : GX} {Q : Int64 → St → Prop} {d : Nat} {ρ : Rs} {S : St} (hρ : Ok ρ) {k1 : Nat} (h16_1 : 16 ≤ k1) (hn_1 : k1 < rn ρ) (hs_1 : shp ρ k1 = .inr (3, 480)) (h : AW g ρ (QJ Q) (d + 2) mX4_firstWith 8 [(0, .ref 54), (1, .ref k1), (2, .long 0), (4, .int 0), (5, .int 0)] [] ρ S) : CALLl g (d + 2) mX4_firstWith [.ref 54, .ref k1] ρ ρ S Q := by
  refine CALL.of mdX4_firstWith.2.2.2.2 (Nat.le_of_ble_eq_true rfl) (Nat.le_refl _) (Nat.le_refl _) ?_
  show AW g ρ (QJ Q) (d + 2) mX4_firstWith 0 [(0, .ref 54), (1, .ref k1)] [] ρ S
  refine AW_lconst (v := 0) dX4_firstWith_0 rfl ?_
  refine AW_lstore_n (n := 2) (i := 2) rfl dX4_firstWith_1 (Nat.le_of_ble_eq_true rfl) rfl ?_
  refine AW_iconst (v := 0) dX4_firstWith_2 rfl ?_
  refine AW_istore dX4_firstWith_3 (Nat.le_of_ble_eq_true rfl) rfl ?_
  refine AW_iconst (v := 0) dX4_firstWith_5 rfl ?_
  refine AW_istore dX4_firstWith_6 (Nat.le_of_ble_eq_true rfl) rfl ?_
  exact AW.sub [3, 4, 2, 1, 0] rfl h
set_option maxRecDepth 20000 in
theorem eX4_start {g : GX} {Q : Int64 → St → Prop} {d : Nat} {ρ : Rs} {S : St} (hρ : Ok ρ) {x0 : Int32} (h : if x0 = 0 then Q 1 S else Q 0 S) : CALLl g d mX4_start [.int x0] ρ ρ S Q := by
  refine CALL.of mdX4_start.2.2.2.2 (Nat.le_of_ble_eq_true rfl) (Nat.le_refl _) (Nat.le_refl _) ?_
  show AW g ρ (QJ Q) d mX4_start 0 [(0, .int x0)] [] ρ S
  refine AW_iload_n 0 (n := 0) rfl dX4_start_0 rfl ?_
  refine AW_if_ne dX4_start_1 rfl (iteM h (fun h => ?_) (fun h => ?_))
  · refine AW_lconst (v := 1) dX4_start_4 rfl ?_
    refine AW_goto (tgt := 9) dX4_start_5 rfl ?_
    exact AW_retl dX4_start_9 rfl h
  · refine AW_lconst (v := 0) dX4_start_8 rfl ?_
    exact AW_retl dX4_start_9 rfl h
set_option maxRecDepth 20000 in
theorem eX4_join {g : GX} {Q : Int64 → St → Prop} {d : Nat} {ρ : Rs} {S : St} (hρ : Ok ρ) {x0 : Int32} {x1 : Int64} {x3 : Int64} (h : if x0 = 0 then Q (x1 * x3) S else (if x0 = 3 then Q (if x3 < x1 then x1 else x3) S else (Q (x1 + x3) S))) : CALLl g (d + 1) mX4_join [.int x0, .long x1, .long x3] ρ ρ S Q := by
  refine CALL.of mdX4_join.2.2.2.2 (Nat.le_of_ble_eq_true rfl) (Nat.le_refl _) (Nat.le_refl _) ?_
  show AW g ρ (QJ Q) (d + 1) mX4_join 0 [(0, .int x0), (1, .long x1), (3, .long x3)] [] ρ S
  refine AW_iload_n 0 (n := 0) rfl dX4_join_0 rfl ?_
  by_cases hc : x0 = 0
  · rw [if_pos hc] at h
    refine AW_lsw (tgt := 28) dX4_join_1 (by decide) (by first | (rw [hc]; done) | (rw [hc]; rfl)) rfl ?_
    refine AW_lload_n 1 (n := 1) rfl dX4_join_28 rfl ?_
    refine AW_lload_n 2 (n := 3) rfl dX4_join_29 rfl ?_
    refine AW_lmul dX4_join_30 ?_
    exact AW_retl dX4_join_31 rfl h
  rw [if_neg hc] at h
  have hc0 := hc
  clear hc
  by_cases hc : x0 = 3
  · rw [if_pos hc] at h
    refine AW_lsw (tgt := 32) dX4_join_1 (by decide) (by first | (rw [hc]; done) | (rw [hc]; rfl)) rfl ?_
    refine AW_lload_n 1 (n := 1) rfl dX4_join_32 rfl ?_
    refine AW_lload_n 2 (n := 3) rfl dX4_join_33 rfl ?_
    refine AW_mmaxL (M := mX4_join) (pc := 34) dX4_join_34 mlX4_103 wmmaxLS wMath wmmaxLC (Nat.le_of_ble_eq_true rfl) ?_ (Nat.le_refl _) (Nat.le_refl _)
    exact AW_retl dX4_join_37 rfl h
  rw [if_neg hc] at h
  have hc3 := hc
  clear hc
  refine AW_lsw (tgt := 38) (off := 37) dX4_join_1 (by decide) (by have q0 := i32n hc0 (k := 0) rfl; have q3 := i32n hc3 (k := 3) rfl; simp [Op.lookupswitch.offset, Ne.symm q0, q0, Ne.symm q3, q3]) rfl ?_
  refine AW_lload_n 1 (n := 1) rfl dX4_join_38 rfl ?_
  refine AW_lload_n 2 (n := 3) rfl dX4_join_39 rfl ?_
  refine AW_ladd dX4_join_40 ?_
  exact AW_retl dX4_join_41 rfl h
set_option maxRecDepth 20000 in
theorem eX4_bound_31 {g : GX} {Q : St → Prop} {d : Nat} {ρ : Rs} {S : St} (hρ : Ok ρ) {x1 : Int32} {x2 : Int32} (hFr_56 : ∀ i, i < 4 → gF g (56 + i)) (hFr_61 : ∀ i, i < 4 → gF g (61 + i)) (h : if x2 < 0 then Q S else vp_in (S.1 31 1) 5 ∧ (¬ (S.1 43 ((S.1 31 1).toNatClampNeg)) < 0 ∧ (¬ 480 < (S.1 43 ((S.1 31 1).toNatClampNeg)) ∧ (if (S.1 43 ((S.1 31 1).toNatClampNeg)) ≤ x2 then CALLl g (d + 2) mX4_start [.int x1] ρ ρ S (fun v1 S1 => vp_in x1 4 ∧ (vp_in x2 480 ∧ (CALLl g (d + 2) mX4_start [.int x1] ρ ρ (setL S1 (56 + x1.toNatClampNeg) x2.toNatClampNeg v1) (fun v2 S2 => vp_in x1 4 ∧ (vp_in x2 480 ∧ (AW g ρ (QV Q) (d + 3) mX4_bound 31 [(0, .ref 54), (1, .int x1), (2, .int (x2 + (-1)))] [] ρ (setL S2 (61 + x1.toNatClampNeg) x2.toNatClampNeg v2))))))) else CALLv g (d + 2) mX4_boundNode [.ref 54, .int x1, .int x2] ρ ρ S (fun S3 => AW g ρ (QV Q) (d + 3) mX4_bound 31 [(0, .ref 54), (1, .int x1), (2, .int (x2 + (-1)))] [] ρ S3))))) : AW g ρ (QV Q) (d + 3) mX4_bound 31 [(0, .ref 54), (1, .int x1), (2, .int x2)] [] ρ S := by
  refine AW_iload_n 2 (n := 2) rfl dX4_bound_31 rfl ?_
  refine AW_if_lt dX4_bound_32 rfl (iteM h (fun h => ?_) (fun h => ?_))
  · exact AW_retv dX4_bound_93 rfl h
  · refine AW_aload_n 0 (n := 0) rfl dX4_bound_35 rfl ?_
    refine AW_get dX4_bound_36 flX4_36 (Nat.le_of_ble_eq_true rfl) (okn hρ (Nat.le_of_ble_eq_true rfl)) rfl (v := .ref 31) (fvR (okR hρ 35 rfl)) ?_
    refine AW_iload_n 2 (n := 2) rfl dX4_bound_39 rfl ?_
    refine AW_callVi (M := mX4_bound) (pc := 40) (As := [.int x2]) (ρ1 := ρ) (st := []) dX4_bound_40 mdX1_isLast rfl mlX4_119 imX1_isLast seX1_isLast (rcv_of (q := (RX1, TX1, 15)) (Nat.le_of_ble_eq_true rfl) (okn hρ (Nat.le_of_ble_eq_true rfl)) rfl rfl) ⟨rfl, npX1_isLast⟩ (Nat.le_of_ble_eq_true rfl) (Nat.le_refl _) (Nat.le_refl _) rfl (iX1_isLast hρ h.1 h.2.1 h.2.2.1 (v := (if (S.1 43 ((S.1 31 1).toNatClampNeg)) ≤ x2 then 1 else 0)) rfl ?_)
    replace h := h.2.2.2
    refine AW_if_eq dX4_bound_43 rfl (bzO (iteM h (fun h => ?_) (fun h => ?_)))
    · refine AW_aload_n 0 (n := 0) rfl dX4_bound_46 rfl ?_
      refine AW_get dX4_bound_47 flX4_13 (Nat.le_of_ble_eq_true rfl) (okn hρ (Nat.le_of_ble_eq_true rfl)) rfl (v := .ref 55) (fvR (okR hρ 36 rfl)) ?_
      refine AW_iload_n 1 (n := 1) rfl dX4_bound_50 rfl ?_
      refine AW_iload_n 2 (n := 2) rfl dX4_bound_51 rfl ?_
      refine AW_callSi (M := mX4_bound) (pc := 52) (As := [.int x1, .int x2]) (ρ1 := ρ) (st := [.ref 55]) dX4_bound_52 mdX4_slot mlX4_94 smX4_slot ⟨rfl, npX4_slot⟩ (Nat.le_of_ble_eq_true rfl) (Nat.le_refl _) (Nat.le_refl _) rfl (iX4_slot hρ  (v := ((x1 * 480) + x2)) rfl ?_)
      refine AW_iload_n 1 (n := 1) rfl dX4_bound_55 rfl ?_
      refine AW_callSl (M := mX4_bound) (pc := 56) (As := [.int x1]) (ρ1 := ρ) (st := [.int ((x1 * 480) + x2), .ref 55]) dX4_bound_56 mdX4_start mlX4_40 smX4_start ⟨rfl, npX4_start⟩ (Nat.le_of_ble_eq_true rfl) (Nat.le_refl _) (Nat.le_refl _) rfl (CALLl.mono h (fun v1 S1 _ h => ?_))
      refine AW_callSv (M := mX4_bound) (pc := 59) (As := [.ref 55, .int ((x1 * 480) + x2), .long v1]) (ρ1 := ρ) (st := []) dX4_bound_59 mdX7_put_ mlX4_123 smX7_put_ ⟨rfl, npX7_put_⟩ (Nat.le_of_ble_eq_true rfl) (Nat.le_refl _) (Nat.le_refl _) rfl (iX7_putF hρ (Nat.le_of_ble_eq_true rfl) (okn hρ (Nat.le_of_ble_eq_true rfl)) rfl hFr_56 h.1 h.2.1 ?_)
      replace h := h.2.2
      refine AW_aload_n 0 (n := 0) rfl dX4_bound_62 rfl ?_
      refine AW_get dX4_bound_63 flX4_17 (Nat.le_of_ble_eq_true rfl) (okn hρ (Nat.le_of_ble_eq_true rfl)) rfl (v := .ref 60) (fvR (okR hρ 37 rfl)) ?_
      refine AW_iload_n 1 (n := 1) rfl dX4_bound_66 rfl ?_
      refine AW_iload_n 2 (n := 2) rfl dX4_bound_67 rfl ?_
      refine AW_callSi (M := mX4_bound) (pc := 68) (As := [.int x1, .int x2]) (ρ1 := ρ) (st := [.ref 60]) dX4_bound_68 mdX4_slot mlX4_94 smX4_slot ⟨rfl, npX4_slot⟩ (Nat.le_of_ble_eq_true rfl) (Nat.le_refl _) (Nat.le_refl _) rfl (iX4_slot hρ  (v := ((x1 * 480) + x2)) rfl ?_)
      refine AW_iload_n 1 (n := 1) rfl dX4_bound_71 rfl ?_
      refine AW_callSl (M := mX4_bound) (pc := 72) (As := [.int x1]) (ρ1 := ρ) (st := [.int ((x1 * 480) + x2), .ref 60]) dX4_bound_72 mdX4_start mlX4_40 smX4_start ⟨rfl, npX4_start⟩ (Nat.le_of_ble_eq_true rfl) (Nat.le_refl _) (Nat.le_refl _) rfl (CALLl.mono h (fun v2 S2 _ h => ?_))
      refine AW_callSv (M := mX4_bound) (pc := 75) (As := [.ref 60, .int ((x1 * 480) + x2), .long v2]) (ρ1 := ρ) (st := []) dX4_bound_75 mdX7_put_ mlX4_123 smX7_put_ ⟨rfl, npX7_put_⟩ (Nat.le_of_ble_eq_true rfl) (Nat.le_refl _) (Nat.le_refl _) rfl (iX7_putF hρ (Nat.le_of_ble_eq_true rfl) (okn hρ (Nat.le_of_ble_eq_true rfl)) rfl hFr_61 h.1 h.2.1 ?_)
      replace h := h.2.2
      refine AW_goto (tgt := 87) dX4_bound_78 rfl ?_
      refine AW_iinc 2 (v := x2 + (-1)) dX4_bound_87 rfl rfl (Nat.le_of_ble_eq_true rfl) rfl ?_
      refine AW_goto (tgt := 31) dX4_bound_90 rfl ?_
      exact AW.sub [1, 2, 0] rfl h
    · refine AW_aload_n 0 (n := 0) rfl dX4_bound_81 rfl ?_
      refine AW_iload_n 1 (n := 1) rfl dX4_bound_82 rfl ?_
      refine AW_iload_n 2 (n := 2) rfl dX4_bound_83 rfl ?_
      refine AW_callVv (M := mX4_bound) (pc := 84) (As := [.int x1, .int x2]) (ρ1 := ρ) (st := []) dX4_bound_84 mdX4_boundNode rfl mlX4_126 imX4_boundNode seX4_boundNode (rcv_of (q := (RX4, TX4, 11)) (Nat.le_of_ble_eq_true rfl) (okn hρ (Nat.le_of_ble_eq_true rfl)) rfl rfl) ⟨rfl, npX4_boundNode⟩ (Nat.le_of_ble_eq_true rfl) (Nat.le_refl _) (Nat.le_refl _) rfl (CALLv.mono h (fun S3 _ h => ?_))
      refine AW_iinc 2 (v := x2 + (-1)) dX4_bound_87 rfl rfl (Nat.le_of_ble_eq_true rfl) rfl ?_
      refine AW_goto (tgt := 31) dX4_bound_90 rfl ?_
      exact AW.sub [1, 2, 0] rfl h
set_option maxRecDepth 20000 in
theorem eX4_bound {g : GX} {Q : St → Prop} {d : Nat} {ρ : Rs} {S : St} (hρ : Ok ρ) {x1 : Int32} (hF : ∀ k ∈ ([65] : List Nat), gF g k) (h : vp_in x1 4 ∧ (if S.1 65 x1.toNatClampNeg = 0 then vp_in x1 4 ∧ (AW g ρ (QV Q) (d + 3) mX4_bound 31 [(0, .ref 54), (1, .int x1), (2, .int ((S.1 31 2) - 1))] [] ρ (setI S 65 x1.toNatClampNeg 1)) else Q S)) : CALLv g (d + 3) mX4_bound [.ref 54, .int x1] ρ ρ S Q := by
  refine CALL.of mdX4_bound.2.2.2.2 (Nat.le_of_ble_eq_true rfl) (Nat.le_refl _) (Nat.le_refl _) ?_
  show AW g ρ (QV Q) (d + 3) mX4_bound 0 [(0, .ref 54), (1, .int x1)] [] ρ S
  refine AW_aload_n 0 (n := 0) rfl dX4_bound_0 rfl ?_
  refine AW_get dX4_bound_1 flX4_20 (Nat.le_of_ble_eq_true rfl) (okn hρ (Nat.le_of_ble_eq_true rfl)) rfl (v := .ref 65) (fvR (okR hρ 38 rfl)) ?_
  refine AW_iload_n 1 (n := 1) rfl dX4_bound_4 rfl ?_
  refine AW_callSi (M := mX4_bound) (pc := 5) (As := [.ref 65, .int x1]) (ρ1 := ρ) (st := []) dX4_bound_5 mdX7_get__ mlX4_109 smX7_get__ ⟨rfl, npX7_get__⟩ (Nat.le_of_ble_eq_true rfl) (Nat.le_refl _) (Nat.le_refl _) rfl (iX7_get__ hρ (Nat.le_of_ble_eq_true rfl) (okn hρ (Nat.le_of_ble_eq_true rfl)) rfl (by decide) h.1 (v := (if S.1 65 x1.toNatClampNeg = 0 then 0 else 1)) rfl ?_)
  replace h := h.2
  refine AW_if_eq dX4_bound_8 rfl (bzN (iteM h (fun h => ?_) (fun h => ?_)))
  · refine AW_aload_n 0 (n := 0) rfl dX4_bound_12 rfl ?_
    refine AW_get dX4_bound_13 flX4_20 (Nat.le_of_ble_eq_true rfl) (okn hρ (Nat.le_of_ble_eq_true rfl)) rfl (v := .ref 65) (fvR (okR hρ 38 rfl)) ?_
    refine AW_iload_n 1 (n := 1) rfl dX4_bound_16 rfl ?_
    refine AW_iconst (v := 1) dX4_bound_17 rfl ?_
    refine AW_callSv (M := mX4_bound) (pc := 18) (As := [.ref 65, .int x1, .int 1]) (ρ1 := ρ) (st := []) dX4_bound_18 mdX7_put__ mlX4_112 smX7_put__ ⟨rfl, npX7_put__⟩ (Nat.le_of_ble_eq_true rfl) (Nat.le_refl _) (Nat.le_refl _) rfl (iX7_put__ hρ (Nat.le_of_ble_eq_true rfl) (okn hρ (Nat.le_of_ble_eq_true rfl)) rfl (hF _ (List.mem_of_getElem? (i := 0) rfl)) (jx := x1.toNatClampNeg) rfl (by decide) h.1 Bz1 ?_)
    replace h := h.2
    refine AW_aload_n 0 (n := 0) rfl dX4_bound_21 rfl ?_
    refine AW_get dX4_bound_22 flX4_36 (Nat.le_of_ble_eq_true rfl) (okn hρ (Nat.le_of_ble_eq_true rfl)) rfl (v := .ref 31) (fvR (okR hρ 35 rfl)) ?_
    refine AW_get dX4_bound_25 flX4_116 (Nat.le_of_ble_eq_true rfl) (okn hρ (Nat.le_of_ble_eq_true rfl)) rfl (v := .int (S.1 31 2)) (fun _ => rfl) ?_
    refine AW_iconst (v := 1) dX4_bound_28 rfl ?_
    refine AW_isub dX4_bound_29 ?_
    refine AW_istore_n (n := 2) (i := 2) rfl dX4_bound_30 (Nat.le_of_ble_eq_true rfl) rfl ?_
    exact AW.sub [1, 2, 0] rfl h
  · exact AW_retv dX4_bound_11 rfl h
set_option maxRecDepth 20000 in
theorem eX4_boundNode_30 {g : GX} {Q : St → Prop} {d : Nat} {ρ : Rs} {S : St} (hρ : Ok ρ) {x1 : Int32} {x2 : Int32} {x3 : Int32} {x4 : Int64} {x6 : Int64} {x8 : Int32} {x9 : Int32} (hFr_56 : ∀ i, i < 4 → gF g (56 + i)) (hFr_61 : ∀ i, i < 4 → gF g (61 + i)) (h : if x8 ≤ x9 then vp_in x1 4 ∧ (vp_in x2 480 ∧ (vp_in x1 4 ∧ (vp_in x2 480 ∧ (Q (setL (setL S (56 + x1.toNatClampNeg) x2.toNatClampNeg x4) (61 + x1.toNatClampNeg) x2.toNatClampNeg x6))))) else vp_in x9 4800 ∧ (vp_in (S.1 46 x9.toNatClampNeg) 480 ∧ (if (S.2 47 ((S.1 46 x9.toNatClampNeg).toNatClampNeg)) ≤ 0 then AW g ρ (QV Q) (d + 2) mX4_boundNode 30 [(0, .ref 54), (1, .int x1), (2, .int x2), (3, .int x3), (4, .long x4), (6, .long x6), (8, .int x8), (9, .int (x9 + 1))] [] ρ S else vp_in x1 4 ∧ (vp_in x9 4800 ∧ (vp_in (S.1 45 x9.toNatClampNeg) 320 ∧ (vp_in x1 4 ∧ (vp_in (S.1 46 x9.toNatClampNeg) 480 ∧ (CALLl g (d + 1) mX4_join [.int x1, .long (S.2 (38 + x1.toNatClampNeg) ((S.1 45 x9.toNatClampNeg).toNatClampNeg)), .long (S.2 (56 + x1.toNatClampNeg) ((S.1 46 x9.toNatClampNeg).toNatClampNeg))] ρ ρ S (fun v1 S1 => vp_in x1 4 ∧ (vp_in (S.1 46 x9.toNatClampNeg) 480 ∧ (CALLl g (d + 1) mX4_join [.int x1, .long (S.2 (38 + x1.toNatClampNeg) ((S.1 45 x9.toNatClampNeg).toNatClampNeg)), .long (S1.2 (61 + x1.toNatClampNeg) ((S.1 46 x9.toNatClampNeg).toNatClampNeg))] ρ ρ S1 (fun v2 S2 => if x3 = 0 then if x3 = 0 then AW g ρ (QV Q) (d + 2) mX4_boundNode 30 [(0, .ref 54), (1, .int x1), (2, .int x2), (3, .int 0), (4, .long (if v1 < x4 then v1 else x4)), (6, .long (if v2 < x6 then x6 else v2)), (8, .int x8), (9, .int (x9 + 1))] [] ρ S2 else AW g ρ (QV Q) (d + 2) mX4_boundNode 30 [(0, .ref 54), (1, .int x1), (2, .int x2), (3, .int 0), (4, .long (if v1 < x4 then v1 else x4)), (6, .long v2), (8, .int x8), (9, .int (x9 + 1))] [] ρ S2 else if x3 = 0 then AW g ρ (QV Q) (d + 2) mX4_boundNode 30 [(0, .ref 54), (1, .int x1), (2, .int x2), (3, .int 0), (4, .long v1), (6, .long (if v2 < x6 then x6 else v2)), (8, .int x8), (9, .int (x9 + 1))] [] ρ S2 else AW g ρ (QV Q) (d + 2) mX4_boundNode 30 [(0, .ref 54), (1, .int x1), (2, .int x2), (3, .int 0), (4, .long v1), (6, .long v2), (8, .int x8), (9, .int (x9 + 1))] [] ρ S2)))))))))))) : AW g ρ (QV Q) (d + 2) mX4_boundNode 30 [(0, .ref 54), (1, .int x1), (2, .int x2), (3, .int x3), (4, .long x4), (6, .long x6), (8, .int x8), (9, .int x9)] [] ρ S := by
  refine AW_iload 7 dX4_boundNode_30 rfl ?_
  refine AW_iload 6 dX4_boundNode_32 rfl ?_
  refine AW_icmp_ge dX4_boundNode_34 rfl (iteM h (fun h => ?_) (fun h => ?_))
  · refine AW_aload_n 0 (n := 0) rfl dX4_boundNode_161 rfl ?_
    refine AW_get dX4_boundNode_162 flX4_13 (Nat.le_of_ble_eq_true rfl) (okn hρ (Nat.le_of_ble_eq_true rfl)) rfl (v := .ref 55) (fvR (okR hρ 36 rfl)) ?_
    refine AW_iload_n 1 (n := 1) rfl dX4_boundNode_165 rfl ?_
    refine AW_iload_n 2 (n := 2) rfl dX4_boundNode_166 rfl ?_
    refine AW_callSi (M := mX4_boundNode) (pc := 167) (As := [.int x1, .int x2]) (ρ1 := ρ) (st := [.ref 55]) dX4_boundNode_167 mdX4_slot mlX4_94 smX4_slot ⟨rfl, npX4_slot⟩ (Nat.le_of_ble_eq_true rfl) (Nat.le_refl _) (Nat.le_refl _) rfl (iX4_slot hρ  (v := ((x1 * 480) + x2)) rfl ?_)
    refine AW_lload 4 dX4_boundNode_170 rfl ?_
    refine AW_callSv (M := mX4_boundNode) (pc := 172) (As := [.ref 55, .int ((x1 * 480) + x2), .long x4]) (ρ1 := ρ) (st := []) dX4_boundNode_172 mdX7_put_ mlX4_123 smX7_put_ ⟨rfl, npX7_put_⟩ (Nat.le_of_ble_eq_true rfl) (Nat.le_refl _) (Nat.le_refl _) rfl (iX7_putF hρ (Nat.le_of_ble_eq_true rfl) (okn hρ (Nat.le_of_ble_eq_true rfl)) rfl hFr_56 h.1 h.2.1 ?_)
    replace h := h.2.2
    refine AW_aload_n 0 (n := 0) rfl dX4_boundNode_175 rfl ?_
    refine AW_get dX4_boundNode_176 flX4_17 (Nat.le_of_ble_eq_true rfl) (okn hρ (Nat.le_of_ble_eq_true rfl)) rfl (v := .ref 60) (fvR (okR hρ 37 rfl)) ?_
    refine AW_iload_n 1 (n := 1) rfl dX4_boundNode_179 rfl ?_
    refine AW_iload_n 2 (n := 2) rfl dX4_boundNode_180 rfl ?_
    refine AW_callSi (M := mX4_boundNode) (pc := 181) (As := [.int x1, .int x2]) (ρ1 := ρ) (st := [.ref 60]) dX4_boundNode_181 mdX4_slot mlX4_94 smX4_slot ⟨rfl, npX4_slot⟩ (Nat.le_of_ble_eq_true rfl) (Nat.le_refl _) (Nat.le_refl _) rfl (iX4_slot hρ  (v := ((x1 * 480) + x2)) rfl ?_)
    refine AW_lload 5 dX4_boundNode_184 rfl ?_
    refine AW_callSv (M := mX4_boundNode) (pc := 186) (As := [.ref 60, .int ((x1 * 480) + x2), .long x6]) (ρ1 := ρ) (st := []) dX4_boundNode_186 mdX7_put_ mlX4_123 smX7_put_ ⟨rfl, npX7_put_⟩ (Nat.le_of_ble_eq_true rfl) (Nat.le_refl _) (Nat.le_refl _) rfl (iX7_putF hρ (Nat.le_of_ble_eq_true rfl) (okn hρ (Nat.le_of_ble_eq_true rfl)) rfl hFr_61 h.1 h.2.1 ?_)
    replace h := h.2.2
    exact AW_retv dX4_boundNode_189 rfl h
  · refine AW_aload_n 0 (n := 0) rfl dX4_boundNode_37 rfl ?_
    refine AW_get dX4_boundNode_38 flX4_36 (Nat.le_of_ble_eq_true rfl) (okn hρ (Nat.le_of_ble_eq_true rfl)) rfl (v := .ref 31) (fvR (okR hρ 35 rfl)) ?_
    refine AW_get dX4_boundNode_41 flX4_130 (Nat.le_of_ble_eq_true rfl) (okn hρ (Nat.le_of_ble_eq_true rfl)) rfl (v := .ref 46) (fvR (okR hρ 21 rfl)) ?_
    refine AW_iload 7 dX4_boundNode_44 rfl ?_
    refine AW_iaload dX4_boundNode_46 (Nat.le_of_ble_eq_true rfl) (okn hρ (Nat.le_of_ble_eq_true rfl)) rfl h.1 (v := S.1 46 x9.toNatClampNeg) rfl ?_
    replace h := h.2
    refine AW_istore dX4_boundNode_47 (Nat.le_of_ble_eq_true rfl) rfl ?_
    refine AW_aload_n 1 (n := 0) rfl dX4_boundNode_49 rfl ?_
    refine AW_get dX4_boundNode_50 flX4_36 (Nat.le_of_ble_eq_true rfl) (okn hρ (Nat.le_of_ble_eq_true rfl)) rfl (v := .ref 31) (fvR (okR hρ 35 rfl)) ?_
    refine AW_iload 0 dX4_boundNode_53 rfl ?_
    refine AW_callVl (M := mX4_boundNode) (pc := 55) (As := [.int (S.1 46 x9.toNatClampNeg)]) (ρ1 := ρ) (st := []) dX4_boundNode_55 mdX1_aheadOf rfl mlX4_100 imX1_aheadOf seX1_aheadOf (rcv_of (q := (RX1, TX1, 15)) (Nat.le_of_ble_eq_true rfl) (okn hρ (Nat.le_of_ble_eq_true rfl)) rfl rfl) ⟨rfl, npX1_aheadOf⟩ (Nat.le_of_ble_eq_true rfl) (Nat.le_refl _) (Nat.le_refl _) rfl (iX1_aheadOf hρ h.1 (v := (S.2 47 ((S.1 46 x9.toNatClampNeg).toNatClampNeg))) rfl ?_)
    replace h := h.2
    refine AW_lconst (v := 0) dX4_boundNode_58 rfl ?_
    refine AW_lc_le dX4_boundNode_59 dX4_boundNode_60 rfl (iteM h (fun h => ?_) (fun h => ?_))
    · refine AW_iinc 8 (v := x9 + 1) dX4_boundNode_155 rfl rfl (Nat.le_of_ble_eq_true rfl) rfl ?_
      refine AW_goto (tgt := 30) dX4_boundNode_158 rfl ?_
      exact AW.sub [2, 3, 4, 5, 6, 7, 8, 0] rfl h
    · refine AW_aload_n 1 (n := 0) rfl dX4_boundNode_63 rfl ?_
      refine AW_get dX4_boundNode_64 flX4_36 (Nat.le_of_ble_eq_true rfl) (okn hρ (Nat.le_of_ble_eq_true rfl)) rfl (v := .ref 31) (fvR (okR hρ 35 rfl)) ?_
      refine AW_iload_n 2 (n := 1) rfl dX4_boundNode_67 rfl ?_
      refine AW_iload 8 dX4_boundNode_68 rfl ?_
      refine AW_callVl (M := mX4_boundNode) (pc := 70) (As := [.int x1, .int x9]) (ρ1 := ρ) (st := []) dX4_boundNode_70 mdX1_partBy rfl mlX4_60 imX1_partBy seX1_partBy (rcv_of (q := (RX1, TX1, 15)) (Nat.le_of_ble_eq_true rfl) (okn hρ (Nat.le_of_ble_eq_true rfl)) rfl rfl) ⟨rfl, npX1_partBy⟩ (Nat.le_of_ble_eq_true rfl) (Nat.le_refl _) (Nat.le_refl _) rfl (iX1_partBy hρ h.1 h.2.1 h.2.2.1 (v := (S.2 (38 + x1.toNatClampNeg) ((S.1 45 x9.toNatClampNeg).toNatClampNeg))) rfl ?_)
      replace h := h.2.2.2
      refine AW_lstore dX4_boundNode_73 (Nat.le_of_ble_eq_true rfl) rfl ?_
      refine AW_iload_n 3 (n := 1) rfl dX4_boundNode_75 rfl ?_
      refine AW_lload 0 dX4_boundNode_76 rfl ?_
      refine AW_aload_n 2 (n := 0) rfl dX4_boundNode_78 rfl ?_
      refine AW_get dX4_boundNode_79 flX4_13 (Nat.le_of_ble_eq_true rfl) (okn hρ (Nat.le_of_ble_eq_true rfl)) rfl (v := .ref 55) (fvR (okR hρ 36 rfl)) ?_
      refine AW_iload_n 3 (n := 1) rfl dX4_boundNode_82 rfl ?_
      refine AW_iload 1 dX4_boundNode_83 rfl ?_
      refine AW_callSi (M := mX4_boundNode) (pc := 85) (As := [.int x1, .int (S.1 46 x9.toNatClampNeg)]) (ρ1 := ρ) (st := [.ref 55, .long (S.2 (38 + x1.toNatClampNeg) ((S.1 45 x9.toNatClampNeg).toNatClampNeg)), .int x1]) dX4_boundNode_85 mdX4_slot mlX4_94 smX4_slot ⟨rfl, npX4_slot⟩ (Nat.le_of_ble_eq_true rfl) (Nat.le_refl _) (Nat.le_refl _) rfl (iX4_slot hρ  (v := ((x1 * 480) + (S.1 46 x9.toNatClampNeg))) rfl ?_)
      refine AW_callSl (M := mX4_boundNode) (pc := 88) (As := [.ref 55, .int ((x1 * 480) + (S.1 46 x9.toNatClampNeg))]) (ρ1 := ρ) (st := [.long (S.2 (38 + x1.toNatClampNeg) ((S.1 45 x9.toNatClampNeg).toNatClampNeg)), .int x1]) dX4_boundNode_88 mdX7_get_ mlX4_80 smX7_get_ ⟨rfl, npX7_get_⟩ (Nat.le_of_ble_eq_true rfl) (Nat.le_refl _) (Nat.le_refl _) rfl (iX7_getF hρ (Nat.le_of_ble_eq_true rfl) (okn hρ (Nat.le_of_ble_eq_true rfl)) rfl h.1 h.2.1 (v := (S.2 (56 + x1.toNatClampNeg) ((S.1 46 x9.toNatClampNeg).toNatClampNeg))) rfl ?_)
      replace h := h.2.2
      refine AW_callSl (M := mX4_boundNode) (pc := 91) (As := [.int x1, .long (S.2 (38 + x1.toNatClampNeg) ((S.1 45 x9.toNatClampNeg).toNatClampNeg)), .long (S.2 (56 + x1.toNatClampNeg) ((S.1 46 x9.toNatClampNeg).toNatClampNeg))]) (ρ1 := ρ) (st := []) dX4_boundNode_91 mdX4_join mlX4_64 smX4_join ⟨rfl, npX4_join⟩ (Nat.le_of_ble_eq_true rfl) (Nat.le_refl _) (Nat.le_refl _) rfl (CALLl.mono h (fun v1 S1 _ h => ?_))
      refine AW_lstore dX4_boundNode_94 (Nat.le_of_ble_eq_true rfl) rfl ?_
      refine AW_iload_n 4 (n := 1) rfl dX4_boundNode_96 rfl ?_
      refine AW_lload 1 dX4_boundNode_97 rfl ?_
      refine AW_aload_n 3 (n := 0) rfl dX4_boundNode_99 rfl ?_
      refine AW_get dX4_boundNode_100 flX4_17 (Nat.le_of_ble_eq_true rfl) (okn hρ (Nat.le_of_ble_eq_true rfl)) rfl (v := .ref 60) (fvR (okR hρ 37 rfl)) ?_
      refine AW_iload_n 4 (n := 1) rfl dX4_boundNode_103 rfl ?_
      refine AW_iload 2 dX4_boundNode_104 rfl ?_
      refine AW_callSi (M := mX4_boundNode) (pc := 106) (As := [.int x1, .int (S.1 46 x9.toNatClampNeg)]) (ρ1 := ρ) (st := [.ref 60, .long (S.2 (38 + x1.toNatClampNeg) ((S.1 45 x9.toNatClampNeg).toNatClampNeg)), .int x1]) dX4_boundNode_106 mdX4_slot mlX4_94 smX4_slot ⟨rfl, npX4_slot⟩ (Nat.le_of_ble_eq_true rfl) (Nat.le_refl _) (Nat.le_refl _) rfl (iX4_slot hρ  (v := ((x1 * 480) + (S.1 46 x9.toNatClampNeg))) rfl ?_)
      refine AW_callSl (M := mX4_boundNode) (pc := 109) (As := [.ref 60, .int ((x1 * 480) + (S.1 46 x9.toNatClampNeg))]) (ρ1 := ρ) (st := [.long (S.2 (38 + x1.toNatClampNeg) ((S.1 45 x9.toNatClampNeg).toNatClampNeg)), .int x1]) dX4_boundNode_109 mdX7_get_ mlX4_80 smX7_get_ ⟨rfl, npX7_get_⟩ (Nat.le_of_ble_eq_true rfl) (Nat.le_refl _) (Nat.le_refl _) rfl (iX7_getF hρ (Nat.le_of_ble_eq_true rfl) (okn hρ (Nat.le_of_ble_eq_true rfl)) rfl h.1 h.2.1 (v := (S1.2 (61 + x1.toNatClampNeg) ((S.1 46 x9.toNatClampNeg).toNatClampNeg))) rfl ?_)
      replace h := h.2.2
      refine AW_callSl (M := mX4_boundNode) (pc := 112) (As := [.int x1, .long (S.2 (38 + x1.toNatClampNeg) ((S.1 45 x9.toNatClampNeg).toNatClampNeg)), .long (S1.2 (61 + x1.toNatClampNeg) ((S.1 46 x9.toNatClampNeg).toNatClampNeg))]) (ρ1 := ρ) (st := []) dX4_boundNode_112 mdX4_join mlX4_64 smX4_join ⟨rfl, npX4_join⟩ (Nat.le_of_ble_eq_true rfl) (Nat.le_refl _) (Nat.le_refl _) rfl (CALLl.mono h (fun v2 S2 _ h => ?_))
      refine AW_lstore dX4_boundNode_115 (Nat.le_of_ble_eq_true rfl) rfl ?_
      refine AW_iload_n 7 (n := 3) rfl dX4_boundNode_117 rfl ?_
      refine AW_if_eq dX4_boundNode_118 rfl (iteM h (fun h => ?_) (fun h => ?_))
      · refine AW_lload 8 dX4_boundNode_126 rfl ?_
        refine AW_lload 1 dX4_boundNode_128 rfl ?_
        refine AW_mminL (M := mX4_boundNode) (pc := 130) dX4_boundNode_130 mlX4_134 wmminLS wMath wmminLC (Nat.le_of_ble_eq_true rfl) ?_ (Nat.le_refl _) (Nat.le_refl _)
        refine AW_lstore dX4_boundNode_133 (Nat.le_of_ble_eq_true rfl) rfl ?_
        refine AW_iload_n 8 (n := 3) rfl dX4_boundNode_135 rfl ?_
        refine AW_if_eq dX4_boundNode_136 rfl (iteM h (fun h => ?_) (fun h => ?_))
        · refine AW_lload 9 dX4_boundNode_144 rfl ?_
          refine AW_lload 1 dX4_boundNode_146 rfl ?_
          refine AW_mmaxL (M := mX4_boundNode) (pc := 148) dX4_boundNode_148 mlX4_103 wmmaxLS wMath wmmaxLC (Nat.le_of_ble_eq_true rfl) ?_ (Nat.le_refl _) (Nat.le_refl _)
          refine AW_lstore dX4_boundNode_151 (Nat.le_of_ble_eq_true rfl) rfl ?_
          refine AW_iconst (v := 0) dX4_boundNode_153 rfl ?_
          refine AW_istore_n (n := 3) (i := 3) rfl dX4_boundNode_154 (Nat.le_of_ble_eq_true rfl) rfl ?_
          refine AW_iinc 11 (v := x9 + 1) dX4_boundNode_155 rfl rfl (Nat.le_of_ble_eq_true rfl) rfl ?_
          refine AW_goto (tgt := 30) dX4_boundNode_158 rfl ?_
          exact AW.sub [8, 9, 10, 1, 3, 2, 11, 0] rfl h
        · refine AW_lload 1 dX4_boundNode_139 rfl ?_
          refine AW_goto (tgt := 151) dX4_boundNode_141 rfl ?_
          refine AW_lstore dX4_boundNode_151 (Nat.le_of_ble_eq_true rfl) rfl ?_
          refine AW_iconst (v := 0) dX4_boundNode_153 rfl ?_
          refine AW_istore_n (n := 3) (i := 3) rfl dX4_boundNode_154 (Nat.le_of_ble_eq_true rfl) rfl ?_
          refine AW_iinc 11 (v := x9 + 1) dX4_boundNode_155 rfl rfl (Nat.le_of_ble_eq_true rfl) rfl ?_
          refine AW_goto (tgt := 30) dX4_boundNode_158 rfl ?_
          exact AW.sub [8, 9, 10, 1, 3, 2, 11, 0] rfl h
      · refine AW_lload 1 dX4_boundNode_121 rfl ?_
        refine AW_goto (tgt := 133) dX4_boundNode_123 rfl ?_
        refine AW_lstore dX4_boundNode_133 (Nat.le_of_ble_eq_true rfl) rfl ?_
        refine AW_iload_n 8 (n := 3) rfl dX4_boundNode_135 rfl ?_
        refine AW_if_eq dX4_boundNode_136 rfl (iteM h (fun h => ?_) (fun h => ?_))
        · refine AW_lload 9 dX4_boundNode_144 rfl ?_
          refine AW_lload 1 dX4_boundNode_146 rfl ?_
          refine AW_mmaxL (M := mX4_boundNode) (pc := 148) dX4_boundNode_148 mlX4_103 wmmaxLS wMath wmmaxLC (Nat.le_of_ble_eq_true rfl) ?_ (Nat.le_refl _) (Nat.le_refl _)
          refine AW_lstore dX4_boundNode_151 (Nat.le_of_ble_eq_true rfl) rfl ?_
          refine AW_iconst (v := 0) dX4_boundNode_153 rfl ?_
          refine AW_istore_n (n := 3) (i := 3) rfl dX4_boundNode_154 (Nat.le_of_ble_eq_true rfl) rfl ?_
          refine AW_iinc 11 (v := x9 + 1) dX4_boundNode_155 rfl rfl (Nat.le_of_ble_eq_true rfl) rfl ?_
          refine AW_goto (tgt := 30) dX4_boundNode_158 rfl ?_
          exact AW.sub [8, 9, 10, 1, 3, 2, 11, 0] rfl h
        · refine AW_lload 1 dX4_boundNode_139 rfl ?_
          refine AW_goto (tgt := 151) dX4_boundNode_141 rfl ?_
          refine AW_lstore dX4_boundNode_151 (Nat.le_of_ble_eq_true rfl) rfl ?_
          refine AW_iconst (v := 0) dX4_boundNode_153 rfl ?_
          refine AW_istore_n (n := 3) (i := 3) rfl dX4_boundNode_154 (Nat.le_of_ble_eq_true rfl) rfl ?_
          refine AW_iinc 11 (v := x9 + 1) dX4_boundNode_155 rfl rfl (Nat.le_of_ble_eq_true rfl) rfl ?_
          refine AW_goto (tgt := 30) dX4_boundNode_158 rfl ?_
          exact AW.sub [8, 9, 10, 1, 3, 2, 11, 0] rfl h
set_option maxRecDepth 20000 in
theorem eX4_boundNode {g : GX} {Q : St → Prop} {d : Nat} {ρ : Rs} {S : St} (hρ : Ok ρ) {x1 : Int32} {x2 : Int32} (h : vp_in (x2 + 1) 481 ∧ (¬ (S.1 44 ((x2 + 1).toNatClampNeg)) < 0 ∧ (¬ 4800 < (S.1 44 ((x2 + 1).toNatClampNeg)) ∧ (vp_in x2 481 ∧ (¬ (S.1 44 x2.toNatClampNeg) < 0 ∧ (¬ 4800 < (S.1 44 x2.toNatClampNeg) ∧ (AW g ρ (QV Q) (d + 2) mX4_boundNode 30 [(0, .ref 54), (1, .int x1), (2, .int x2), (3, .int 1), (4, .long 0), (6, .long 0), (8, .int (S.1 44 ((x2 + 1).toNatClampNeg))), (9, .int (S.1 44 x2.toNatClampNeg))] [] ρ S))))))) : CALLv g (d + 2) mX4_boundNode [.ref 54, .int x1, .int x2] ρ ρ S Q := by
  refine CALL.of mdX4_boundNode.2.2.2.2 (Nat.le_of_ble_eq_true rfl) (Nat.le_refl _) (Nat.le_refl _) ?_
  show AW g ρ (QV Q) (d + 2) mX4_boundNode 0 [(0, .ref 54), (1, .int x1), (2, .int x2)] [] ρ S
  refine AW_iconst (v := 1) dX4_boundNode_0 rfl ?_
  refine AW_istore_n (n := 3) (i := 3) rfl dX4_boundNode_1 (Nat.le_of_ble_eq_true rfl) rfl ?_
  refine AW_lconst (v := 0) dX4_boundNode_2 rfl ?_
  refine AW_lstore dX4_boundNode_3 (Nat.le_of_ble_eq_true rfl) rfl ?_
  refine AW_lconst (v := 0) dX4_boundNode_5 rfl ?_
  refine AW_lstore dX4_boundNode_6 (Nat.le_of_ble_eq_true rfl) rfl ?_
  refine AW_aload_n 3 (n := 0) rfl dX4_boundNode_8 rfl ?_
  refine AW_get dX4_boundNode_9 flX4_36 (Nat.le_of_ble_eq_true rfl) (okn hρ (Nat.le_of_ble_eq_true rfl)) rfl (v := .ref 31) (fvR (okR hρ 35 rfl)) ?_
  refine AW_iload_n 5 (n := 2) rfl dX4_boundNode_12 rfl ?_
  refine AW_iconst (v := 1) dX4_boundNode_13 rfl ?_
  refine AW_iadd dX4_boundNode_14 ?_
  refine AW_callVi (M := mX4_boundNode) (pc := 15) (As := [.int (x2 + 1)]) (ρ1 := ρ) (st := []) dX4_boundNode_15 mdX1_firstLinkOf rfl mlX4_97 imX1_firstLinkOf seX1_firstLinkOf (rcv_of (q := (RX1, TX1, 15)) (Nat.le_of_ble_eq_true rfl) (okn hρ (Nat.le_of_ble_eq_true rfl)) rfl rfl) ⟨rfl, npX1_firstLinkOf⟩ (Nat.le_of_ble_eq_true rfl) (Nat.le_refl _) (Nat.le_refl _) rfl (iX1_firstLinkOf hρ h.1 h.2.1 h.2.2.1 (v := (S.1 44 ((x2 + 1).toNatClampNeg))) rfl ?_)
  replace h := h.2.2.2
  refine AW_istore dX4_boundNode_18 (Nat.le_of_ble_eq_true rfl) rfl ?_
  refine AW_aload_n 4 (n := 0) rfl dX4_boundNode_20 rfl ?_
  refine AW_get dX4_boundNode_21 flX4_36 (Nat.le_of_ble_eq_true rfl) (okn hρ (Nat.le_of_ble_eq_true rfl)) rfl (v := .ref 31) (fvR (okR hρ 35 rfl)) ?_
  refine AW_iload_n 6 (n := 2) rfl dX4_boundNode_24 rfl ?_
  refine AW_callVi (M := mX4_boundNode) (pc := 25) (As := [.int x2]) (ρ1 := ρ) (st := []) dX4_boundNode_25 mdX1_firstLinkOf rfl mlX4_97 imX1_firstLinkOf seX1_firstLinkOf (rcv_of (q := (RX1, TX1, 15)) (Nat.le_of_ble_eq_true rfl) (okn hρ (Nat.le_of_ble_eq_true rfl)) rfl rfl) ⟨rfl, npX1_firstLinkOf⟩ (Nat.le_of_ble_eq_true rfl) (Nat.le_refl _) (Nat.le_refl _) rfl (iX1_firstLinkOf hρ h.1 h.2.1 h.2.2.1 (v := (S.1 44 x2.toNatClampNeg)) rfl ?_)
  replace h := h.2.2.2
  refine AW_istore dX4_boundNode_28 (Nat.le_of_ble_eq_true rfl) rfl ?_
  exact AW.sub [5, 6, 7, 4, 3, 2, 1, 0] rfl h
set_option maxRecDepth 20000 in
theorem eX4_gatherAll_25 {g : GX} {Q : St → Prop} {d : Nat} {ρ : Rs} {S : St} (hρ : Ok ρ) {x1 : Int32} {x2 : Int64} (hF : ∀ k ∈ ([54, 66, 67, 68, 69] : List Nat), gF g k) (h : CALLv g d mX4_bound [.ref 54, .int x1] ρ ρ S (fun S1 => CALLl g d mX4_start [.int x1] ρ ρ (setL (setL (setL S1 54 8 x2) 54 9 0) 54 10 0) (fun v2 S2 => CALLv g d mX4_gather [.ref 54, .int x1, .int 0, .int 0, .long v2, .long 1] ρ ρ S2 (fun S3 => vp_in x1 4 ∧ (vp_in x1 4 ∧ (vp_in x1 4 ∧ (vp_in x1 4 ∧ (Q (setL (setL (setL (setI S3 66 x1.toNatClampNeg 1) 67 x1.toNatClampNeg x2) 68 x1.toNatClampNeg (S3.2 54 9)) 69 x1.toNatClampNeg (S3.2 54 10)))))))))) : AW g ρ (QV Q) (d + 1) mX4_gatherAll 25 [(0, .ref 54), (1, .int x1), (2, .long x2)] [] ρ S := by
  refine AW_aload_n 0 (n := 0) rfl dX4_gatherAll_25 rfl ?_
  refine AW_iload_n 1 (n := 1) rfl dX4_gatherAll_26 rfl ?_
  refine AW_callVv (M := mX4_gatherAll) (pc := 27) (As := [.int x1]) (ρ1 := ρ) (st := []) dX4_gatherAll_27 mdX4_bound rfl mlX4_86 imX4_bound seX4_bound (rcv_of (q := (RX4, TX4, 11)) (Nat.le_of_ble_eq_true rfl) (okn hρ (Nat.le_of_ble_eq_true rfl)) rfl rfl) ⟨rfl, npX4_bound⟩ (Nat.le_of_ble_eq_true rfl) (Nat.le_refl _) (Nat.le_refl _) rfl (CALLv.mono h (fun S1 _ h => ?_))
  refine AW_aload_n 0 (n := 0) rfl dX4_gatherAll_30 rfl ?_
  refine AW_lload_n 2 (n := 2) rfl dX4_gatherAll_31 rfl ?_
  refine AW_put dX4_gatherAll_32 flX4_137 fp_3_8 (Nat.le_of_ble_eq_true rfl) (okn hρ (Nat.le_of_ble_eq_true rfl)) rfl (fun _ => rfl) (fun _ => rfl) rfl rfl rfl rfl (Fr.setL _ _ _ rfl) (fun _ _ => rfl) (ρ2 := ρ) (S2 := setL S1 54 8 x2) (fun _ => rfl) (fun _ _ _ q1 _ => fvL_o q1) (hF _ (List.mem_of_getElem? (i := 0) rfl)) ?_
  refine AW_aload_n 0 (n := 0) rfl dX4_gatherAll_35 rfl ?_
  refine AW_lconst (v := 0) dX4_gatherAll_36 rfl ?_
  refine AW_put dX4_gatherAll_37 flX4_141 fp_3_9 (Nat.le_of_ble_eq_true rfl) (okn hρ (Nat.le_of_ble_eq_true rfl)) rfl (fun _ => rfl) (fun _ => rfl) rfl rfl rfl rfl (Fr.setL _ _ _ rfl) (fun _ _ => rfl) (ρ2 := ρ) (S2 := setL (setL S1 54 8 x2) 54 9 0) (fun _ => rfl) (fun _ _ _ q1 _ => fvL_o q1) (hF _ (List.mem_of_getElem? (i := 0) rfl)) ?_
  refine AW_aload_n 0 (n := 0) rfl dX4_gatherAll_40 rfl ?_
  refine AW_lconst (v := 0) dX4_gatherAll_41 rfl ?_
  refine AW_put dX4_gatherAll_42 flX4_144 fp_3_10 (Nat.le_of_ble_eq_true rfl) (okn hρ (Nat.le_of_ble_eq_true rfl)) rfl (fun _ => rfl) (fun _ => rfl) rfl rfl rfl rfl (Fr.setL _ _ _ rfl) (fun _ _ => rfl) (ρ2 := ρ) (S2 := setL (setL (setL S1 54 8 x2) 54 9 0) 54 10 0) (fun _ => rfl) (fun _ _ _ q1 _ => fvL_o q1) (hF _ (List.mem_of_getElem? (i := 0) rfl)) ?_
  refine AW_aload_n 0 (n := 0) rfl dX4_gatherAll_45 rfl ?_
  refine AW_iload_n 1 (n := 1) rfl dX4_gatherAll_46 rfl ?_
  refine AW_iconst (v := 0) dX4_gatherAll_47 rfl ?_
  refine AW_iconst (v := 0) dX4_gatherAll_48 rfl ?_
  refine AW_iload_n 1 (n := 1) rfl dX4_gatherAll_49 rfl ?_
  refine AW_callSl (M := mX4_gatherAll) (pc := 50) (As := [.int x1]) (ρ1 := ρ) (st := [.int 0, .int 0, .int x1, .ref 54]) dX4_gatherAll_50 mdX4_start mlX4_40 smX4_start ⟨rfl, npX4_start⟩ (Nat.le_of_ble_eq_true rfl) (Nat.le_refl _) (Nat.le_refl _) rfl (CALLl.mono h (fun v2 S2 _ h => ?_))
  refine AW_lconst (v := 1) dX4_gatherAll_53 rfl ?_
  refine AW_callSv (M := mX4_gatherAll) (pc := 54) (As := [.ref 54, .int x1, .int 0, .int 0, .long v2, .long 1]) (ρ1 := ρ) (st := []) dX4_gatherAll_54 mdX4_gather mlX4_147 smX4_gather ⟨rfl, npX4_gather⟩ (Nat.le_of_ble_eq_true rfl) (Nat.le_refl _) (Nat.le_refl _) rfl (CALLv.mono h (fun S3 _ h => ?_))
  refine AW_aload_n 0 (n := 0) rfl dX4_gatherAll_57 rfl ?_
  refine AW_get dX4_gatherAll_58 flX4_24 (Nat.le_of_ble_eq_true rfl) (okn hρ (Nat.le_of_ble_eq_true rfl)) rfl (v := .ref 66) (fvR (okR hρ 39 rfl)) ?_
  refine AW_iload_n 1 (n := 1) rfl dX4_gatherAll_61 rfl ?_
  refine AW_iconst (v := 1) dX4_gatherAll_62 rfl ?_
  refine AW_callSv (M := mX4_gatherAll) (pc := 63) (As := [.ref 66, .int x1, .int 1]) (ρ1 := ρ) (st := []) dX4_gatherAll_63 mdX7_put__ mlX4_112 smX7_put__ ⟨rfl, npX7_put__⟩ (Nat.le_of_ble_eq_true rfl) (Nat.le_refl _) (Nat.le_refl _) rfl (iX7_put__ hρ (Nat.le_of_ble_eq_true rfl) (okn hρ (Nat.le_of_ble_eq_true rfl)) rfl (hF _ (List.mem_of_getElem? (i := 1) rfl)) (jx := x1.toNatClampNeg) rfl (by decide) h.1 Bz1 ?_)
  replace h := h.2
  refine AW_aload_n 0 (n := 0) rfl dX4_gatherAll_66 rfl ?_
  refine AW_get dX4_gatherAll_67 flX4_27 (Nat.le_of_ble_eq_true rfl) (okn hρ (Nat.le_of_ble_eq_true rfl)) rfl (v := .ref 67) (fvR (okR hρ 40 rfl)) ?_
  refine AW_iload_n 1 (n := 1) rfl dX4_gatherAll_70 rfl ?_
  refine AW_lload_n 2 (n := 2) rfl dX4_gatherAll_71 rfl ?_
  refine AW_callSv (M := mX4_gatherAll) (pc := 72) (As := [.ref 67, .int x1, .long x2]) (ρ1 := ρ) (st := []) dX4_gatherAll_72 mdX7_put_ mlX4_123 smX7_put_ ⟨rfl, npX7_put_⟩ (Nat.le_of_ble_eq_true rfl) (Nat.le_refl _) (Nat.le_refl _) rfl (iX7_put_ hρ (Nat.le_of_ble_eq_true rfl) (okn hρ (Nat.le_of_ble_eq_true rfl)) rfl (hF _ (List.mem_of_getElem? (i := 2) rfl)) (jx := x1.toNatClampNeg) rfl (by decide) h.1 ?_)
  replace h := h.2
  refine AW_aload_n 0 (n := 0) rfl dX4_gatherAll_75 rfl ?_
  refine AW_get dX4_gatherAll_76 flX4_30 (Nat.le_of_ble_eq_true rfl) (okn hρ (Nat.le_of_ble_eq_true rfl)) rfl (v := .ref 68) (fvR (okR hρ 41 rfl)) ?_
  refine AW_iload_n 1 (n := 1) rfl dX4_gatherAll_79 rfl ?_
  refine AW_aload_n 0 (n := 0) rfl dX4_gatherAll_80 rfl ?_
  refine AW_get dX4_gatherAll_81 flX4_141 (Nat.le_of_ble_eq_true rfl) (okn hρ (Nat.le_of_ble_eq_true rfl)) rfl (v := .long (S3.2 54 9)) (fun _ => rfl) ?_
  refine AW_callSv (M := mX4_gatherAll) (pc := 84) (As := [.ref 68, .int x1, .long (S3.2 54 9)]) (ρ1 := ρ) (st := []) dX4_gatherAll_84 mdX7_put_ mlX4_123 smX7_put_ ⟨rfl, npX7_put_⟩ (Nat.le_of_ble_eq_true rfl) (Nat.le_refl _) (Nat.le_refl _) rfl (iX7_put_ hρ (Nat.le_of_ble_eq_true rfl) (okn hρ (Nat.le_of_ble_eq_true rfl)) rfl (hF _ (List.mem_of_getElem? (i := 3) rfl)) (jx := x1.toNatClampNeg) rfl (by decide) h.1 ?_)
  replace h := h.2
  refine AW_aload_n 0 (n := 0) rfl dX4_gatherAll_87 rfl ?_
  refine AW_get dX4_gatherAll_88 flX4_33 (Nat.le_of_ble_eq_true rfl) (okn hρ (Nat.le_of_ble_eq_true rfl)) rfl (v := .ref 69) (fvR (okR hρ 42 rfl)) ?_
  refine AW_iload_n 1 (n := 1) rfl dX4_gatherAll_91 rfl ?_
  refine AW_aload_n 0 (n := 0) rfl dX4_gatherAll_92 rfl ?_
  refine AW_get dX4_gatherAll_93 flX4_144 (Nat.le_of_ble_eq_true rfl) (okn hρ (Nat.le_of_ble_eq_true rfl)) rfl (v := .long (S3.2 54 10)) (fun _ => rfl) ?_
  refine AW_callSv (M := mX4_gatherAll) (pc := 96) (As := [.ref 69, .int x1, .long (S3.2 54 10)]) (ρ1 := ρ) (st := []) dX4_gatherAll_96 mdX7_put_ mlX4_123 smX7_put_ ⟨rfl, npX7_put_⟩ (Nat.le_of_ble_eq_true rfl) (Nat.le_refl _) (Nat.le_refl _) rfl (iX7_put_ hρ (Nat.le_of_ble_eq_true rfl) (okn hρ (Nat.le_of_ble_eq_true rfl)) rfl (hF _ (List.mem_of_getElem? (i := 4) rfl)) (jx := x1.toNatClampNeg) rfl (by decide) h.1 ?_)
  replace h := h.2
  exact AW_retv dX4_gatherAll_99 rfl h
set_option maxRecDepth 20000 in
theorem eX4_gatherAll {g : GX} {Q : St → Prop} {d : Nat} {ρ : Rs} {S : St} (hρ : Ok ρ) {x1 : Int32} {x2 : Int64} (h : vp_in x1 4 ∧ (if S.1 66 x1.toNatClampNeg = 0 then AW g ρ (QV Q) (d + 1) mX4_gatherAll 25 [(0, .ref 54), (1, .int x1), (2, .long x2)] [] ρ S else vp_in x1 4 ∧ (if (S.2 67 x1.toNatClampNeg) = x2 then Q S else AW g ρ (QV Q) (d + 1) mX4_gatherAll 25 [(0, .ref 54), (1, .int x1), (2, .long x2)] [] ρ S))) : CALLv g (d + 1) mX4_gatherAll [.ref 54, .int x1, .long x2] ρ ρ S Q := by
  refine CALL.of mdX4_gatherAll.2.2.2.2 (Nat.le_of_ble_eq_true rfl) (Nat.le_refl _) (Nat.le_refl _) ?_
  show AW g ρ (QV Q) (d + 1) mX4_gatherAll 0 [(0, .ref 54), (1, .int x1), (2, .long x2)] [] ρ S
  refine AW_aload_n 0 (n := 0) rfl dX4_gatherAll_0 rfl ?_
  refine AW_get dX4_gatherAll_1 flX4_24 (Nat.le_of_ble_eq_true rfl) (okn hρ (Nat.le_of_ble_eq_true rfl)) rfl (v := .ref 66) (fvR (okR hρ 39 rfl)) ?_
  refine AW_iload_n 1 (n := 1) rfl dX4_gatherAll_4 rfl ?_
  refine AW_callSi (M := mX4_gatherAll) (pc := 5) (As := [.ref 66, .int x1]) (ρ1 := ρ) (st := []) dX4_gatherAll_5 mdX7_get__ mlX4_109 smX7_get__ ⟨rfl, npX7_get__⟩ (Nat.le_of_ble_eq_true rfl) (Nat.le_refl _) (Nat.le_refl _) rfl (iX7_get__ hρ (Nat.le_of_ble_eq_true rfl) (okn hρ (Nat.le_of_ble_eq_true rfl)) rfl (by decide) h.1 (v := (if S.1 66 x1.toNatClampNeg = 0 then 0 else 1)) rfl ?_)
  replace h := h.2
  refine AW_if_eq dX4_gatherAll_8 rfl (bzN (iteM h (fun h => ?_) (fun h => ?_)))
  · exact AW.sub [0, 1, 2] rfl h
  · refine AW_aload_n 0 (n := 0) rfl dX4_gatherAll_11 rfl ?_
    refine AW_get dX4_gatherAll_12 flX4_27 (Nat.le_of_ble_eq_true rfl) (okn hρ (Nat.le_of_ble_eq_true rfl)) rfl (v := .ref 67) (fvR (okR hρ 40 rfl)) ?_
    refine AW_iload_n 1 (n := 1) rfl dX4_gatherAll_15 rfl ?_
    refine AW_callSl (M := mX4_gatherAll) (pc := 16) (As := [.ref 67, .int x1]) (ρ1 := ρ) (st := []) dX4_gatherAll_16 mdX7_get_ mlX4_80 smX7_get_ ⟨rfl, npX7_get_⟩ (Nat.le_of_ble_eq_true rfl) (Nat.le_refl _) (Nat.le_refl _) rfl (iX7_get_ hρ (Nat.le_of_ble_eq_true rfl) (okn hρ (Nat.le_of_ble_eq_true rfl)) rfl (by decide) h.1 (v := (S.2 67 x1.toNatClampNeg)) rfl ?_)
    replace h := h.2
    refine AW_lload_n 2 (n := 2) rfl dX4_gatherAll_19 rfl ?_
    refine AW_lc_ne dX4_gatherAll_20 dX4_gatherAll_21 rfl (iteM h (fun h => ?_) (fun h => ?_))
    · exact AW_retv dX4_gatherAll_24 rfl h
    · exact AW.sub [0, 1, 2] rfl h
set_option maxRecDepth 20000 in
theorem eX4_gather_143 {g : GX} {Q : St → Prop} {d : Nat} {ρ : Rs} {S : St} (hρ : Ok ρ) {x1 : Int32} {x2 : Int32} {x3 : Int32} {x4 : Int64} {x6 : Int64} {x13 : Int32} {s0 : Int32} (hF : ∀ k ∈ ([54] : List Nat), gF g k) (h : if x13 = 0 then if s0 = 0 then Q S else CALLv g d mX4_gatherBehind [.ref 54, .int x1, .int x2, .int x3, .long x4, .long x6] ρ ρ S (fun S1 => Q S1) else vp_in x2 480 ∧ (vp_in x2 480 ∧ (Q (setL (setL S 54 9 ((S.2 54 9) + (S.2 47 x2.toNatClampNeg))) 54 10 ((S.2 54 10) + (x6 * (S.2 48 x2.toNatClampNeg))))))) : AW g ρ (QV Q) (d + 1) mX4_gather 143 [(0, .ref 54), (1, .int x1), (2, .int x2), (3, .int x3), (4, .long x4), (6, .long x6), (13, .int x13)] [.int s0] ρ S := by
  refine AW_istore dX4_gather_143 (Nat.le_of_ble_eq_true rfl) rfl ?_
  refine AW_iload 7 dX4_gather_145 rfl ?_
  refine AW_if_eq dX4_gather_147 rfl (iteM h (fun h => ?_) (fun h => ?_))
  · refine AW_iload 0 dX4_gather_192 rfl ?_
    refine AW_if_eq dX4_gather_194 rfl (iteM h (fun h => ?_) (fun h => ?_))
    · exact AW_retv dX4_gather_208 rfl h
    · refine AW_aload_n 1 (n := 0) rfl dX4_gather_197 rfl ?_
      refine AW_iload_n 2 (n := 1) rfl dX4_gather_198 rfl ?_
      refine AW_iload_n 3 (n := 2) rfl dX4_gather_199 rfl ?_
      refine AW_iload_n 4 (n := 3) rfl dX4_gather_200 rfl ?_
      refine AW_lload 5 dX4_gather_201 rfl ?_
      refine AW_lload 6 dX4_gather_203 rfl ?_
      refine AW_callSv (M := mX4_gather) (pc := 205) (As := [.ref 54, .int x1, .int x2, .int x3, .long x4, .long x6]) (ρ1 := ρ) (st := []) dX4_gather_205 mdX4_gatherBehind mlX4_157 smX4_gatherBehind ⟨rfl, npX4_gatherBehind⟩ (Nat.le_of_ble_eq_true rfl) (Nat.le_refl _) (Nat.le_refl _) rfl (CALLv.mono h (fun S1 _ h => ?_))
      exact AW_retv dX4_gather_208 rfl h
  · refine AW_aload_n 1 (n := 0) rfl dX4_gather_150 rfl ?_
    refine AW_dup dX4_gather_151 rfl ?_
    refine AW_get dX4_gather_152 flX4_141 (Nat.le_of_ble_eq_true rfl) (okn hρ (Nat.le_of_ble_eq_true rfl)) rfl (v := .long (S.2 54 9)) (fun _ => rfl) ?_
    refine AW_aload_n 1 (n := 0) rfl dX4_gather_155 rfl ?_
    refine AW_get dX4_gather_156 flX4_36 (Nat.le_of_ble_eq_true rfl) (okn hρ (Nat.le_of_ble_eq_true rfl)) rfl (v := .ref 31) (fvR (okR hρ 35 rfl)) ?_
    refine AW_get dX4_gather_159 flX4_151 (Nat.le_of_ble_eq_true rfl) (okn hρ (Nat.le_of_ble_eq_true rfl)) rfl (v := .ref 47) (fvR (okR hρ 22 rfl)) ?_
    refine AW_iload_n 3 (n := 2) rfl dX4_gather_162 rfl ?_
    refine AW_laload dX4_gather_163 (Nat.le_of_ble_eq_true rfl) (okn hρ (Nat.le_of_ble_eq_true rfl)) rfl h.1 (v := S.2 47 x2.toNatClampNeg) rfl ?_
    replace h := h.2
    refine AW_ladd dX4_gather_164 ?_
    refine AW_put dX4_gather_165 flX4_141 fp_3_9 (Nat.le_of_ble_eq_true rfl) (okn hρ (Nat.le_of_ble_eq_true rfl)) rfl (fun _ => rfl) (fun _ => rfl) rfl rfl rfl rfl (Fr.setL _ _ _ rfl) (fun _ _ => rfl) (ρ2 := ρ) (S2 := setL S 54 9 ((S.2 54 9) + (S.2 47 x2.toNatClampNeg))) (fun _ => rfl) (fun _ _ _ q1 _ => fvL_o q1) (hF _ (List.mem_of_getElem? (i := 0) rfl)) ?_
    refine AW_aload_n 1 (n := 0) rfl dX4_gather_168 rfl ?_
    refine AW_dup dX4_gather_169 rfl ?_
    refine AW_get dX4_gather_170 flX4_144 (Nat.le_of_ble_eq_true rfl) (okn hρ (Nat.le_of_ble_eq_true rfl)) rfl (v := .long (S.2 54 10)) (fun _ => rfl) ?_
    refine AW_lload 6 dX4_gather_173 rfl ?_
    refine AW_aload_n 1 (n := 0) rfl dX4_gather_175 rfl ?_
    refine AW_get dX4_gather_176 flX4_36 (Nat.le_of_ble_eq_true rfl) (okn hρ (Nat.le_of_ble_eq_true rfl)) rfl (v := .ref 31) (fvR (okR hρ 35 rfl)) ?_
    refine AW_get dX4_gather_179 flX4_154 (Nat.le_of_ble_eq_true rfl) (okn hρ (Nat.le_of_ble_eq_true rfl)) rfl (v := .ref 48) (fvR (okR hρ 23 rfl)) ?_
    refine AW_iload_n 3 (n := 2) rfl dX4_gather_182 rfl ?_
    refine AW_laload dX4_gather_183 (Nat.le_of_ble_eq_true rfl) (okn hρ (Nat.le_of_ble_eq_true rfl)) rfl h.1 (v := S.2 48 x2.toNatClampNeg) rfl ?_
    replace h := h.2
    refine AW_lmul dX4_gather_184 ?_
    refine AW_ladd dX4_gather_185 ?_
    refine AW_put dX4_gather_186 flX4_144 fp_3_10 (Nat.le_of_ble_eq_true rfl) (okn hρ (Nat.le_of_ble_eq_true rfl)) rfl (fun _ => rfl) (fun _ => rfl) rfl rfl rfl rfl (Fr.setL _ _ _ rfl) (fun _ _ => rfl) (ρ2 := ρ) (S2 := setL (setL S 54 9 ((S.2 54 9) + (S.2 47 x2.toNatClampNeg))) 54 10 ((S.2 54 10) + (x6 * (S.2 48 x2.toNatClampNeg)))) (fun _ => rfl) (fun _ _ _ q1 _ => fvL_o q1) (hF _ (List.mem_of_getElem? (i := 0) rfl)) ?_
    refine AW_goto (tgt := 208) dX4_gather_189 rfl ?_
    exact AW_retv dX4_gather_208 rfl h
set_option maxRecDepth 20000 in
theorem eX4_gather_104 {g : GX} {Q : St → Prop} {d : Nat} {ρ : Rs} {S : St} (hρ : Ok ρ) {x1 : Int32} {x2 : Int32} {x3 : Int32} {x4 : Int64} {x6 : Int64} {x9 : Int64} {x11 : Int64} {s0 : Int32} (h : if x1 = 0 then if (S.2 54 8) < x9 then AW g ρ (QV Q) (d + 1) mX4_gather 143 [(0, .ref 54), (1, .int x1), (2, .int x2), (3, .int x3), (4, .long x4), (6, .long x6), (13, .int s0)] [.int 0] ρ S else AW g ρ (QV Q) (d + 1) mX4_gather 143 [(0, .ref 54), (1, .int x1), (2, .int x2), (3, .int x3), (4, .long x4), (6, .long x6), (13, .int s0)] [.int 1] ρ S else if x11 < (S.2 54 8) then AW g ρ (QV Q) (d + 1) mX4_gather 143 [(0, .ref 54), (1, .int x1), (2, .int x2), (3, .int x3), (4, .long x4), (6, .long x6), (13, .int s0)] [.int 0] ρ S else AW g ρ (QV Q) (d + 1) mX4_gather 143 [(0, .ref 54), (1, .int x1), (2, .int x2), (3, .int x3), (4, .long x4), (6, .long x6), (13, .int s0)] [.int 1] ρ S) : AW g ρ (QV Q) (d + 1) mX4_gather 104 [(0, .ref 54), (1, .int x1), (2, .int x2), (3, .int x3), (4, .long x4), (6, .long x6), (9, .long x9), (11, .long x11)] [.int s0] ρ S := by
  refine AW_istore dX4_gather_104 (Nat.le_of_ble_eq_true rfl) rfl ?_
  refine AW_iload_n 2 (n := 1) rfl dX4_gather_106 rfl ?_
  refine AW_if_ne dX4_gather_107 rfl (iteM h (fun h => ?_) (fun h => ?_))
  · refine AW_lload 7 dX4_gather_110 rfl ?_
    refine AW_aload_n 1 (n := 0) rfl dX4_gather_112 rfl ?_
    refine AW_get dX4_gather_113 flX4_137 (Nat.le_of_ble_eq_true rfl) (okn hρ (Nat.le_of_ble_eq_true rfl)) rfl (v := .long (S.2 54 8)) (fun _ => rfl) ?_
    refine AW_lc_gt dX4_gather_116 dX4_gather_117 rfl (iteM h (fun h => ?_) (fun h => ?_))
    · refine AW_iconst (v := 0) dX4_gather_124 rfl ?_
      refine AW_goto (tgt := 143) dX4_gather_125 rfl ?_
      exact AW.sub [1, 2, 3, 4, 5, 6, 0] rfl h
    · refine AW_iconst (v := 1) dX4_gather_120 rfl ?_
      refine AW_goto (tgt := 143) dX4_gather_121 rfl ?_
      exact AW.sub [1, 2, 3, 4, 5, 6, 0] rfl h
  · refine AW_lload 8 dX4_gather_128 rfl ?_
    refine AW_aload_n 1 (n := 0) rfl dX4_gather_130 rfl ?_
    refine AW_get dX4_gather_131 flX4_137 (Nat.le_of_ble_eq_true rfl) (okn hρ (Nat.le_of_ble_eq_true rfl)) rfl (v := .long (S.2 54 8)) (fun _ => rfl) ?_
    refine AW_lc_lt dX4_gather_134 dX4_gather_135 rfl (iteM h (fun h => ?_) (fun h => ?_))
    · refine AW_iconst (v := 0) dX4_gather_142 rfl ?_
      exact AW.sub [1, 2, 3, 4, 5, 6, 0] rfl h
    · refine AW_iconst (v := 1) dX4_gather_138 rfl ?_
      refine AW_goto (tgt := 143) dX4_gather_139 rfl ?_
      exact AW.sub [1, 2, 3, 4, 5, 6, 0] rfl h
set_option maxRecDepth 20000 in
theorem eX4_gather {g : GX} {Q : St → Prop} {d : Nat} {ρ : Rs} {S : St} (hρ : Ok ρ) {x1 : Int32} {x2 : Int32} {x3 : Int32} {x4 : Int64} {x6 : Int64} (h : if (4 : Int32) < x3 then Q S else if x2 < 0 then Q S else if (480 : Int32) ≤ x2 then Q S else if ((x1 * 480) + x2) < 0 then Q S else if ((x1 * 480) + x2) < 1920 then vp_in x1 4 ∧ (vp_in x2 480 ∧ (CALLl g d mX4_join [.int x1, .long x4, .long (S.2 (56 + x1.toNatClampNeg) x2.toNatClampNeg)] ρ ρ S (fun v1 S1 => vp_in x1 4 ∧ (vp_in x2 480 ∧ (CALLl g d mX4_join [.int x1, .long x4, .long (S1.2 (61 + x1.toNatClampNeg) x2.toNatClampNeg)] ρ ρ S1 (fun v2 S2 => if x1 = 0 then if (S2.2 54 8) < v2 then AW g ρ (QV Q) (d + 1) mX4_gather 104 [(0, .ref 54), (1, .int x1), (2, .int x2), (3, .int x3), (4, .long x4), (6, .long x6), (9, .long v1), (11, .long v2)] [.int 0] ρ S2 else AW g ρ (QV Q) (d + 1) mX4_gather 104 [(0, .ref 54), (1, .int x1), (2, .int x2), (3, .int x3), (4, .long x4), (6, .long x6), (9, .long v1), (11, .long v2)] [.int 1] ρ S2 else if v1 < (S2.2 54 8) then AW g ρ (QV Q) (d + 1) mX4_gather 104 [(0, .ref 54), (1, .int x1), (2, .int x2), (3, .int x3), (4, .long x4), (6, .long x6), (9, .long v1), (11, .long v2)] [.int 0] ρ S2 else AW g ρ (QV Q) (d + 1) mX4_gather 104 [(0, .ref 54), (1, .int x1), (2, .int x2), (3, .int x3), (4, .long x4), (6, .long x6), (9, .long v1), (11, .long v2)] [.int 1] ρ S2)))))) else Q S) : CALLv g (d + 1) mX4_gather [.ref 54, .int x1, .int x2, .int x3, .long x4, .long x6] ρ ρ S Q := by
  refine CALL.of mdX4_gather.2.2.2.2 (Nat.le_of_ble_eq_true rfl) (Nat.le_refl _) (Nat.le_refl _) ?_
  show AW g ρ (QV Q) (d + 1) mX4_gather 0 [(0, .ref 54), (1, .int x1), (2, .int x2), (3, .int x3), (4, .long x4), (6, .long x6)] [] ρ S
  refine AW_iload_n 1 (n := 1) rfl dX4_gather_0 rfl ?_
  refine AW_iload_n 2 (n := 2) rfl dX4_gather_1 rfl ?_
  refine AW_callSi (M := mX4_gather) (pc := 2) (As := [.int x1, .int x2]) (ρ1 := ρ) (st := []) dX4_gather_2 mdX4_slot mlX4_94 smX4_slot ⟨rfl, npX4_slot⟩ (Nat.le_of_ble_eq_true rfl) (Nat.le_refl _) (Nat.le_refl _) rfl (iX4_slot hρ  (v := ((x1 * 480) + x2)) rfl ?_)
  refine AW_istore dX4_gather_5 (Nat.le_of_ble_eq_true rfl) rfl ?_
  refine AW_iload_n 4 (n := 3) rfl dX4_gather_7 rfl ?_
  refine AW_iconst (v := 4) dX4_gather_8 rfl ?_
  refine AW_icmp_gt dX4_gather_9 rfl (iteM h (fun h => ?_) (fun h => ?_))
  · exact AW_retv dX4_gather_36 rfl h
  · refine AW_iload_n 3 (n := 2) rfl dX4_gather_12 rfl ?_
    refine AW_if_lt dX4_gather_13 rfl (iteM h (fun h => ?_) (fun h => ?_))
    · exact AW_retv dX4_gather_36 rfl h
    · refine AW_iload_n 3 (n := 2) rfl dX4_gather_16 rfl ?_
      refine AW_sipush (v := 480) dX4_gather_17 rfl ?_
      refine AW_icmp_ge dX4_gather_20 rfl (iteM h (fun h => ?_) (fun h => ?_))
      · exact AW_retv dX4_gather_36 rfl h
      · refine AW_iload 0 dX4_gather_23 rfl ?_
        refine AW_if_lt dX4_gather_25 rfl (iteM h (fun h => ?_) (fun h => ?_))
        · exact AW_retv dX4_gather_36 rfl h
        · refine AW_iload 0 dX4_gather_28 rfl ?_
          refine AW_sipush (v := 1920) dX4_gather_30 rfl ?_
          refine AW_icmp_lt dX4_gather_33 rfl (iteM h (fun h => ?_) (fun h => ?_))
          · refine AW_iload_n 2 (n := 1) rfl dX4_gather_37 rfl ?_
            refine AW_lload 5 dX4_gather_38 rfl ?_
            refine AW_aload_n 1 (n := 0) rfl dX4_gather_40 rfl ?_
            refine AW_get dX4_gather_41 flX4_13 (Nat.le_of_ble_eq_true rfl) (okn hρ (Nat.le_of_ble_eq_true rfl)) rfl (v := .ref 55) (fvR (okR hρ 36 rfl)) ?_
            refine AW_iload 0 dX4_gather_44 rfl ?_
            refine AW_flslot dX4_gather_46 (Nat.le_of_ble_eq_true rfl) (okn hρ (Nat.le_of_ble_eq_true rfl)) rfl h.1 h.2.1 (v := S.2 (56 + x1.toNatClampNeg) x2.toNatClampNeg) rfl ?_
            replace h := h.2.2
            refine AW_callSl (M := mX4_gather) (pc := 47) (As := [.int x1, .long x4, .long (S.2 (56 + x1.toNatClampNeg) x2.toNatClampNeg)]) (ρ1 := ρ) (st := []) dX4_gather_47 mdX4_join mlX4_64 smX4_join ⟨rfl, npX4_join⟩ (Nat.le_of_ble_eq_true rfl) (Nat.le_refl _) (Nat.le_refl _) rfl (CALLl.mono h (fun v1 S1 _ h => ?_))
            refine AW_lstore dX4_gather_50 (Nat.le_of_ble_eq_true rfl) rfl ?_
            refine AW_iload_n 3 (n := 1) rfl dX4_gather_52 rfl ?_
            refine AW_lload 6 dX4_gather_53 rfl ?_
            refine AW_aload_n 2 (n := 0) rfl dX4_gather_55 rfl ?_
            refine AW_get dX4_gather_56 flX4_17 (Nat.le_of_ble_eq_true rfl) (okn hρ (Nat.le_of_ble_eq_true rfl)) rfl (v := .ref 60) (fvR (okR hρ 37 rfl)) ?_
            refine AW_iload 1 dX4_gather_59 rfl ?_
            refine AW_flslot dX4_gather_61 (Nat.le_of_ble_eq_true rfl) (okn hρ (Nat.le_of_ble_eq_true rfl)) rfl h.1 h.2.1 (v := S1.2 (61 + x1.toNatClampNeg) x2.toNatClampNeg) rfl ?_
            replace h := h.2.2
            refine AW_callSl (M := mX4_gather) (pc := 62) (As := [.int x1, .long x4, .long (S1.2 (61 + x1.toNatClampNeg) x2.toNatClampNeg)]) (ρ1 := ρ) (st := []) dX4_gather_62 mdX4_join mlX4_64 smX4_join ⟨rfl, npX4_join⟩ (Nat.le_of_ble_eq_true rfl) (Nat.le_refl _) (Nat.le_refl _) rfl (CALLl.mono h (fun v2 S2 _ h => ?_))
            refine AW_lstore dX4_gather_65 (Nat.le_of_ble_eq_true rfl) rfl ?_
            refine AW_iload_n 4 (n := 1) rfl dX4_gather_67 rfl ?_
            refine AW_if_ne dX4_gather_68 rfl (iteM h (fun h => ?_) (fun h => ?_))
            · refine AW_lload 0 dX4_gather_71 rfl ?_
              refine AW_aload_n 3 (n := 0) rfl dX4_gather_73 rfl ?_
              refine AW_get dX4_gather_74 flX4_137 (Nat.le_of_ble_eq_true rfl) (okn hρ (Nat.le_of_ble_eq_true rfl)) rfl (v := .long (S2.2 54 8)) (fun _ => rfl) ?_
              refine AW_lc_gt dX4_gather_77 dX4_gather_78 rfl (iteM h (fun h => ?_) (fun h => ?_))
              · refine AW_iconst (v := 0) dX4_gather_85 rfl ?_
                refine AW_goto (tgt := 104) dX4_gather_86 rfl ?_
                exact AW.sub [3, 4, 5, 6, 7, 8, 1, 0] rfl h
              · refine AW_iconst (v := 1) dX4_gather_81 rfl ?_
                refine AW_goto (tgt := 104) dX4_gather_82 rfl ?_
                exact AW.sub [3, 4, 5, 6, 7, 8, 1, 0] rfl h
            · refine AW_lload 1 dX4_gather_89 rfl ?_
              refine AW_aload_n 3 (n := 0) rfl dX4_gather_91 rfl ?_
              refine AW_get dX4_gather_92 flX4_137 (Nat.le_of_ble_eq_true rfl) (okn hρ (Nat.le_of_ble_eq_true rfl)) rfl (v := .long (S2.2 54 8)) (fun _ => rfl) ?_
              refine AW_lc_lt dX4_gather_95 dX4_gather_96 rfl (iteM h (fun h => ?_) (fun h => ?_))
              · refine AW_iconst (v := 0) dX4_gather_103 rfl ?_
                exact AW.sub [3, 4, 5, 6, 7, 8, 1, 0] rfl h
              · refine AW_iconst (v := 1) dX4_gather_99 rfl ?_
                refine AW_goto (tgt := 104) dX4_gather_100 rfl ?_
                exact AW.sub [3, 4, 5, 6, 7, 8, 1, 0] rfl h
          · exact AW_retv dX4_gather_36 rfl h
set_option maxRecDepth 20000 in
theorem eX4_gatherBehind_86 {g : GX} {Q : St → Prop} {d : Nat} {ρ : Rs} {S : St} (hρ : Ok ρ) {x1 : Int32} {x2 : Int32} {x3 : Int32} {x4 : Int64} {x6 : Int64} {x9 : Int32} {x10 : Int32} {x11 : Int32} {x12 : Int64} {s0 : Int64} (h : CALLl g (d + 1) mX4_join [.int x1, .long x4, .long x12] ρ ρ S (fun v1 S1 => CALLv g (d + 1) mX4_gather [.ref 54, .int x1, .int x11, .int (x3 + 1), .long v1, .long (x6 * s0)] ρ ρ S1 (fun S2 => AW g ρ (QV Q) (d + 2) mX4_gatherBehind 24 [(0, .ref 54), (1, .int x1), (2, .int x2), (3, .int x3), (4, .long x4), (6, .long x6), (8, .ref 31), (9, .int x9), (10, .int (x10 + 1))] [] ρ S2))) : AW g ρ (QV Q) (d + 2) mX4_gatherBehind 86 [(0, .ref 54), (1, .int x1), (2, .int x2), (3, .int x3), (4, .long x4), (6, .long x6), (8, .ref 31), (9, .int x9), (10, .int x10), (11, .int x11), (12, .long x12)] [.long s0] ρ S := by
  refine AW_lstore dX4_gatherBehind_86 (Nat.le_of_ble_eq_true rfl) rfl ?_
  refine AW_aload_n 1 (n := 0) rfl dX4_gatherBehind_88 rfl ?_
  refine AW_iload_n 2 (n := 1) rfl dX4_gatherBehind_89 rfl ?_
  refine AW_iload 10 dX4_gatherBehind_90 rfl ?_
  refine AW_iload_n 4 (n := 3) rfl dX4_gatherBehind_92 rfl ?_
  refine AW_iconst (v := 1) dX4_gatherBehind_93 rfl ?_
  refine AW_iadd dX4_gatherBehind_94 ?_
  refine AW_iload_n 2 (n := 1) rfl dX4_gatherBehind_95 rfl ?_
  refine AW_lload 5 dX4_gatherBehind_96 rfl ?_
  refine AW_lload 11 dX4_gatherBehind_98 rfl ?_
  refine AW_callSl (M := mX4_gatherBehind) (pc := 100) (As := [.int x1, .long x4, .long x12]) (ρ1 := ρ) (st := [.int (x3 + 1), .int x11, .int x1, .ref 54]) dX4_gatherBehind_100 mdX4_join mlX4_64 smX4_join ⟨rfl, npX4_join⟩ (Nat.le_of_ble_eq_true rfl) (Nat.le_refl _) (Nat.le_refl _) rfl (CALLl.mono h (fun v1 S1 _ h => ?_))
  refine AW_lload 6 dX4_gatherBehind_103 rfl ?_
  refine AW_lload 0 dX4_gatherBehind_105 rfl ?_
  refine AW_lmul dX4_gatherBehind_107 ?_
  refine AW_callSv (M := mX4_gatherBehind) (pc := 108) (As := [.ref 54, .int x1, .int x11, .int (x3 + 1), .long v1, .long (x6 * s0)]) (ρ1 := ρ) (st := []) dX4_gatherBehind_108 mdX4_gather mlX4_147 smX4_gather ⟨rfl, npX4_gather⟩ (Nat.le_of_ble_eq_true rfl) (Nat.le_refl _) (Nat.le_refl _) rfl (CALLv.mono h (fun S2 _ h => ?_))
  refine AW_iinc 9 (v := x10 + 1) dX4_gatherBehind_111 rfl rfl (Nat.le_of_ble_eq_true rfl) rfl ?_
  refine AW_goto (tgt := 24) dX4_gatherBehind_114 rfl ?_
  exact AW.sub [2, 3, 4, 5, 6, 7, 8, 9, 0] rfl h
set_option maxRecDepth 20000 in
theorem eX4_gatherBehind_24 {g : GX} {Q : St → Prop} {d : Nat} {ρ : Rs} {S : St} (hρ : Ok ρ) {x1 : Int32} {x2 : Int32} {x3 : Int32} {x4 : Int64} {x6 : Int64} {x9 : Int32} {x10 : Int32} (h : if x9 ≤ x10 then Q S else vp_in x10 4800 ∧ (if (S.1 46 x10.toNatClampNeg) ≤ x2 then AW g ρ (QV Q) (d + 2) mX4_gatherBehind 24 [(0, .ref 54), (1, .int x1), (2, .int x2), (3, .int x3), (4, .long x4), (6, .long x6), (8, .ref 31), (9, .int x9), (10, .int (x10 + 1))] [] ρ S else vp_in (S.1 46 x10.toNatClampNeg) 480 ∧ (if (S.2 47 ((S.1 46 x10.toNatClampNeg).toNatClampNeg)) ≤ 0 then AW g ρ (QV Q) (d + 2) mX4_gatherBehind 24 [(0, .ref 54), (1, .int x1), (2, .int x2), (3, .int x3), (4, .long x4), (6, .long x6), (8, .ref 31), (9, .int x9), (10, .int (x10 + 1))] [] ρ S else vp_in x1 4 ∧ (vp_in x10 4800 ∧ (vp_in (S.1 45 x10.toNatClampNeg) 320 ∧ (if x1 = 0 then AW g ρ (QV Q) (d + 2) mX4_gatherBehind 86 [(0, .ref 54), (1, .int x1), (2, .int x2), (3, .int x3), (4, .long x4), (6, .long x6), (8, .ref 31), (9, .int x9), (10, .int x10), (11, .int (S.1 46 x10.toNatClampNeg)), (12, .long (S.2 (38 + x1.toNatClampNeg) ((S.1 45 x10.toNatClampNeg).toNatClampNeg)))] [.long (S.2 (38 + x1.toNatClampNeg) ((S.1 45 x10.toNatClampNeg).toNatClampNeg))] ρ S else vp_in x10 4800 ∧ (vp_in (S.1 45 x10.toNatClampNeg) 320 ∧ (AW g ρ (QV Q) (d + 2) mX4_gatherBehind 86 [(0, .ref 54), (1, .int x1), (2, .int x2), (3, .int x3), (4, .long x4), (6, .long x6), (8, .ref 31), (9, .int x9), (10, .int x10), (11, .int (S.1 46 x10.toNatClampNeg)), (12, .long (S.2 (38 + x1.toNatClampNeg) ((S.1 45 x10.toNatClampNeg).toNatClampNeg)))] [.long (S.2 38 ((S.1 45 x10.toNatClampNeg).toNatClampNeg))] ρ S)))))))) : AW g ρ (QV Q) (d + 2) mX4_gatherBehind 24 [(0, .ref 54), (1, .int x1), (2, .int x2), (3, .int x3), (4, .long x4), (6, .long x6), (8, .ref 31), (9, .int x9), (10, .int x10)] [] ρ S := by
  refine AW_iload 8 dX4_gatherBehind_24 rfl ?_
  refine AW_iload 7 dX4_gatherBehind_26 rfl ?_
  refine AW_icmp_ge dX4_gatherBehind_28 rfl (iteM h (fun h => ?_) (fun h => ?_))
  · exact AW_retv dX4_gatherBehind_117 rfl h
  · refine AW_aload 6 dX4_gatherBehind_31 rfl ?_
    refine AW_get dX4_gatherBehind_33 flX4_130 (Nat.le_of_ble_eq_true rfl) (okn hρ (Nat.le_of_ble_eq_true rfl)) rfl (v := .ref 46) (fvR (okR hρ 21 rfl)) ?_
    refine AW_iload 8 dX4_gatherBehind_36 rfl ?_
    refine AW_iaload dX4_gatherBehind_38 (Nat.le_of_ble_eq_true rfl) (okn hρ (Nat.le_of_ble_eq_true rfl)) rfl h.1 (v := S.1 46 x10.toNatClampNeg) rfl ?_
    replace h := h.2
    refine AW_istore dX4_gatherBehind_39 (Nat.le_of_ble_eq_true rfl) rfl ?_
    refine AW_iload 0 dX4_gatherBehind_41 rfl ?_
    refine AW_iload_n 3 (n := 2) rfl dX4_gatherBehind_43 rfl ?_
    refine AW_icmp_le dX4_gatherBehind_44 rfl (iteM h (fun h => ?_) (fun h => ?_))
    · refine AW_iinc 9 (v := x10 + 1) dX4_gatherBehind_111 rfl rfl (Nat.le_of_ble_eq_true rfl) rfl ?_
      refine AW_goto (tgt := 24) dX4_gatherBehind_114 rfl ?_
      exact AW.sub [2, 3, 4, 5, 6, 7, 8, 9, 0] rfl h
    · refine AW_aload 7 dX4_gatherBehind_47 rfl ?_
      refine AW_iload 0 dX4_gatherBehind_49 rfl ?_
      refine AW_callVl (M := mX4_gatherBehind) (pc := 51) (As := [.int (S.1 46 x10.toNatClampNeg)]) (ρ1 := ρ) (st := []) dX4_gatherBehind_51 mdX1_aheadOf rfl mlX4_100 imX1_aheadOf seX1_aheadOf (rcv_of (q := (RX1, TX1, 15)) (Nat.le_of_ble_eq_true rfl) (okn hρ (Nat.le_of_ble_eq_true rfl)) rfl rfl) ⟨rfl, npX1_aheadOf⟩ (Nat.le_of_ble_eq_true rfl) (Nat.le_refl _) (Nat.le_refl _) rfl (iX1_aheadOf hρ h.1 (v := (S.2 47 ((S.1 46 x10.toNatClampNeg).toNatClampNeg))) rfl ?_)
      replace h := h.2
      refine AW_lconst (v := 0) dX4_gatherBehind_54 rfl ?_
      refine AW_lc_le dX4_gatherBehind_55 dX4_gatherBehind_56 rfl (iteM h (fun h => ?_) (fun h => ?_))
      · refine AW_iinc 9 (v := x10 + 1) dX4_gatherBehind_111 rfl rfl (Nat.le_of_ble_eq_true rfl) rfl ?_
        refine AW_goto (tgt := 24) dX4_gatherBehind_114 rfl ?_
        exact AW.sub [2, 3, 4, 5, 6, 7, 8, 9, 0] rfl h
      · refine AW_aload 7 dX4_gatherBehind_59 rfl ?_
        refine AW_iload_n 2 (n := 1) rfl dX4_gatherBehind_61 rfl ?_
        refine AW_iload 9 dX4_gatherBehind_62 rfl ?_
        refine AW_callVl (M := mX4_gatherBehind) (pc := 64) (As := [.int x1, .int x10]) (ρ1 := ρ) (st := []) dX4_gatherBehind_64 mdX1_partBy rfl mlX4_60 imX1_partBy seX1_partBy (rcv_of (q := (RX1, TX1, 15)) (Nat.le_of_ble_eq_true rfl) (okn hρ (Nat.le_of_ble_eq_true rfl)) rfl rfl) ⟨rfl, npX1_partBy⟩ (Nat.le_of_ble_eq_true rfl) (Nat.le_refl _) (Nat.le_refl _) rfl (iX1_partBy hρ h.1 h.2.1 h.2.2.1 (v := (S.2 (38 + x1.toNatClampNeg) ((S.1 45 x10.toNatClampNeg).toNatClampNeg))) rfl ?_)
        replace h := h.2.2.2
        refine AW_lstore dX4_gatherBehind_67 (Nat.le_of_ble_eq_true rfl) rfl ?_
        refine AW_iload_n 3 (n := 1) rfl dX4_gatherBehind_69 rfl ?_
        refine AW_if_ne dX4_gatherBehind_70 rfl (iteM h (fun h => ?_) (fun h => ?_))
        · refine AW_lload 0 dX4_gatherBehind_73 rfl ?_
          refine AW_goto (tgt := 86) dX4_gatherBehind_75 rfl ?_
          exact AW.sub [2, 3, 4, 5, 6, 7, 8, 9, 10, 1, 0] rfl h
        · refine AW_aload 8 dX4_gatherBehind_78 rfl ?_
          refine AW_iconst (v := 0) dX4_gatherBehind_80 rfl ?_
          refine AW_iload 10 dX4_gatherBehind_81 rfl ?_
          refine AW_callVl (M := mX4_gatherBehind) (pc := 83) (As := [.int 0, .int x10]) (ρ1 := ρ) (st := []) dX4_gatherBehind_83 mdX1_partBy rfl mlX4_60 imX1_partBy seX1_partBy (rcv_of (q := (RX1, TX1, 15)) (Nat.le_of_ble_eq_true rfl) (okn hρ (Nat.le_of_ble_eq_true rfl)) rfl rfl) ⟨rfl, npX1_partBy⟩ (Nat.le_of_ble_eq_true rfl) (Nat.le_refl _) (Nat.le_refl _) rfl (iX1_partBy hρ (show ¬ (_ ∨ _) by decide) h.1 h.2.1 (v := (S.2 38 ((S.1 45 x10.toNatClampNeg).toNatClampNeg))) rfl ?_)
          replace h := h.2.2
          exact AW.sub [2, 3, 4, 5, 6, 7, 8, 9, 10, 1, 0] rfl h
set_option maxRecDepth 20000 in
theorem eX4_gatherBehind {g : GX} {Q : St → Prop} {d : Nat} {ρ : Rs} {S : St} (hρ : Ok ρ) {x1 : Int32} {x2 : Int32} {x3 : Int32} {x4 : Int64} {x6 : Int64} (h : vp_in (x2 + 1) 481 ∧ (¬ (S.1 44 ((x2 + 1).toNatClampNeg)) < 0 ∧ (¬ 4800 < (S.1 44 ((x2 + 1).toNatClampNeg)) ∧ (vp_in x2 481 ∧ (¬ (S.1 44 x2.toNatClampNeg) < 0 ∧ (¬ 4800 < (S.1 44 x2.toNatClampNeg) ∧ (AW g ρ (QV Q) (d + 2) mX4_gatherBehind 24 [(0, .ref 54), (1, .int x1), (2, .int x2), (3, .int x3), (4, .long x4), (6, .long x6), (8, .ref 31), (9, .int (S.1 44 ((x2 + 1).toNatClampNeg))), (10, .int (S.1 44 x2.toNatClampNeg))] [] ρ S))))))) : CALLv g (d + 2) mX4_gatherBehind [.ref 54, .int x1, .int x2, .int x3, .long x4, .long x6] ρ ρ S Q := by
  refine CALL.of mdX4_gatherBehind.2.2.2.2 (Nat.le_of_ble_eq_true rfl) (Nat.le_refl _) (Nat.le_refl _) ?_
  show AW g ρ (QV Q) (d + 2) mX4_gatherBehind 0 [(0, .ref 54), (1, .int x1), (2, .int x2), (3, .int x3), (4, .long x4), (6, .long x6)] [] ρ S
  refine AW_aload_n 0 (n := 0) rfl dX4_gatherBehind_0 rfl ?_
  refine AW_get dX4_gatherBehind_1 flX4_36 (Nat.le_of_ble_eq_true rfl) (okn hρ (Nat.le_of_ble_eq_true rfl)) rfl (v := .ref 31) (fvR (okR hρ 35 rfl)) ?_
  refine AW_astore dX4_gatherBehind_4 (Nat.le_of_ble_eq_true rfl) rfl ?_
  refine AW_aload 0 dX4_gatherBehind_6 rfl ?_
  refine AW_iload_n 3 (n := 2) rfl dX4_gatherBehind_8 rfl ?_
  refine AW_iconst (v := 1) dX4_gatherBehind_9 rfl ?_
  refine AW_iadd dX4_gatherBehind_10 ?_
  refine AW_callVi (M := mX4_gatherBehind) (pc := 11) (As := [.int (x2 + 1)]) (ρ1 := ρ) (st := []) dX4_gatherBehind_11 mdX1_firstLinkOf rfl mlX4_97 imX1_firstLinkOf seX1_firstLinkOf (rcv_of (q := (RX1, TX1, 15)) (Nat.le_of_ble_eq_true rfl) (okn hρ (Nat.le_of_ble_eq_true rfl)) rfl rfl) ⟨rfl, npX1_firstLinkOf⟩ (Nat.le_of_ble_eq_true rfl) (Nat.le_refl _) (Nat.le_refl _) rfl (iX1_firstLinkOf hρ h.1 h.2.1 h.2.2.1 (v := (S.1 44 ((x2 + 1).toNatClampNeg))) rfl ?_)
  replace h := h.2.2.2
  refine AW_istore dX4_gatherBehind_14 (Nat.le_of_ble_eq_true rfl) rfl ?_
  refine AW_aload 1 dX4_gatherBehind_16 rfl ?_
  refine AW_iload_n 4 (n := 2) rfl dX4_gatherBehind_18 rfl ?_
  refine AW_callVi (M := mX4_gatherBehind) (pc := 19) (As := [.int x2]) (ρ1 := ρ) (st := []) dX4_gatherBehind_19 mdX1_firstLinkOf rfl mlX4_97 imX1_firstLinkOf seX1_firstLinkOf (rcv_of (q := (RX1, TX1, 15)) (Nat.le_of_ble_eq_true rfl) (okn hρ (Nat.le_of_ble_eq_true rfl)) rfl rfl) ⟨rfl, npX1_firstLinkOf⟩ (Nat.le_of_ble_eq_true rfl) (Nat.le_refl _) (Nat.le_refl _) rfl (iX1_firstLinkOf hρ h.1 h.2.1 h.2.2.1 (v := (S.1 44 x2.toNatClampNeg)) rfl ?_)
  replace h := h.2.2.2
  refine AW_istore dX4_gatherBehind_22 (Nat.le_of_ble_eq_true rfl) rfl ?_
  exact AW.sub [3, 4, 5, 6, 7, 8, 2, 1, 0] rfl h
