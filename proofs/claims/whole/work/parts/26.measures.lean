set_option maxRecDepth 20000 in
theorem eX4_forget_2 {g : GX} {Q : St → Prop} {d : Nat} {ρ : Rs} {S : St} (hρ : Ok ρ) {x1 : Int32} (hF : ∀ k ∈ ([65, 66] : List Nat), gF g k) (h : if (4 : Int32) ≤ x1 then Q S else vp_in x1 4 ∧ (vp_in x1 4 ∧ (AW g ρ (QV Q) d mX4_forget 2 [(0, .ref 54), (1, .int (x1 + 1))] [] ρ (setI (setI S 65 x1.toNatClampNeg 0) 66 x1.toNatClampNeg 0)))) : AW g ρ (QV Q) d mX4_forget 2 [(0, .ref 54), (1, .int x1)] [] ρ S := by
  refine AW_iload_n 1 (n := 1) rfl dX4_forget_2 rfl ?_
  refine AW_iconst (v := 4) dX4_forget_3 rfl ?_
  refine AW_icmp_ge dX4_forget_4 rfl (iteM h (fun h => ?_) (fun h => ?_))
  · exact AW_retv dX4_forget_27 rfl h
  · refine AW_aload_n 0 (n := 0) rfl dX4_forget_7 rfl ?_
    refine AW_get dX4_forget_8 flX4_21 (Nat.le_of_ble_eq_true rfl) (okn hρ (Nat.le_of_ble_eq_true rfl)) rfl (v := .ref 65) (fvR (okR hρ 42 rfl)) ?_
    refine AW_iload_n 1 (n := 1) rfl dX4_forget_11 rfl ?_
    refine AW_iconst (v := 0) dX4_forget_12 rfl ?_
    refine AW_zastore dX4_forget_13 (Nat.le_of_ble_eq_true rfl) (okn hρ (Nat.le_of_ble_eq_true rfl)) rfl h.1 (Bz.nar Bz0) (hF _ (List.mem_of_getElem? (i := 0) rfl)) (jx := x1.toNatClampNeg) rfl ?_
    replace h := h.2
    refine AW_aload_n 0 (n := 0) rfl dX4_forget_14 rfl ?_
    refine AW_get dX4_forget_15 flX4_25 (Nat.le_of_ble_eq_true rfl) (okn hρ (Nat.le_of_ble_eq_true rfl)) rfl (v := .ref 66) (fvR (okR hρ 43 rfl)) ?_
    refine AW_iload_n 1 (n := 1) rfl dX4_forget_18 rfl ?_
    refine AW_iconst (v := 0) dX4_forget_19 rfl ?_
    refine AW_zastore dX4_forget_20 (Nat.le_of_ble_eq_true rfl) (okn hρ (Nat.le_of_ble_eq_true rfl)) rfl h.1 (Bz.nar Bz0) (hF _ (List.mem_of_getElem? (i := 1) rfl)) (jx := x1.toNatClampNeg) rfl ?_
    replace h := h.2
    refine AW_iinc 1 (v := x1 + 1) dX4_forget_21 rfl rfl (Nat.le_of_ble_eq_true rfl) rfl ?_
    refine AW_goto (tgt := 2) dX4_forget_24 rfl ?_
    exact AW.sub [1, 0] rfl h
set_option maxRecDepth 20000 in
theorem eX4_forget {g : GX} {Q : St → Prop} {d : Nat} {ρ : Rs} {S : St} (hρ : Ok ρ) (h : AW g ρ (QV Q) d mX4_forget 2 [(0, .ref 54), (1, .int 0)] [] ρ S) : CALLv g d mX4_forget [.ref 54] ρ ρ S Q := by
  refine CALL.of mdX4_forget.2.2.2.2 (Nat.le_of_ble_eq_true rfl) (Nat.le_refl _) (Nat.le_refl _) ?_
  show AW g ρ (QV Q) d mX4_forget 0 [(0, .ref 54)] [] ρ S
  refine AW_iconst (v := 0) dX4_forget_0 rfl ?_
  refine AW_istore_n (n := 1) (i := 1) rfl dX4_forget_1 (Nat.le_of_ble_eq_true rfl) rfl ?_
  exact AW.sub [1, 0] rfl h
set_option maxRecDepth 20000 in
theorem eX4_valueOf_12 {g : GX} {Q : Int64 → St → Prop} {d : Nat} {ρ : Rs} {S : St} (hρ : Ok ρ) {x1 : Int32} {x2 : Int64} {x4 : Int64} {x6 : Int32} {x7 : Int32} (h : if (S.1 31 1) ≤ x7 then Q x4 S else CALLi g d mX3_lineOf [.long x2, .int x7] ρ ρ S (fun v1 S1 => CALLi g d mX1_linkBy [.ref 31, .int x6, .int v1] ρ ρ S1 (fun v2 S2 => if v2 = (-1) then Q (-2) S2 else vp_in x1 4 ∧ (vp_in v2 4800 ∧ (vp_in (S2.1 45 v2.toNatClampNeg) 320 ∧ (CALLl g d mX4_join [.int x1, .long x4, .long (S2.2 (38 + x1.toNatClampNeg) ((S2.1 45 v2.toNatClampNeg).toNatClampNeg))] ρ ρ S2 (fun v4 S4 => vp_in v2 4800 ∧ (AW g ρ (QJ Q) (d + 1) mX4_valueOf 12 [(0, .ref 54), (1, .int x1), (2, .long x2), (4, .long v4), (6, .int (S4.1 46 v2.toNatClampNeg)), (7, .int (x7 + 1))] [] ρ S4)))))))) : AW g ρ (QJ Q) (d + 1) mX4_valueOf 12 [(0, .ref 54), (1, .int x1), (2, .long x2), (4, .long x4), (6, .int x6), (7, .int x7)] [] ρ S := by
  refine AW_iload 5 dX4_valueOf_12 rfl ?_
  refine AW_aload_n 0 (n := 0) rfl dX4_valueOf_14 rfl ?_
  refine AW_get dX4_valueOf_15 flX4_38 (Nat.le_of_ble_eq_true rfl) (okn hρ (Nat.le_of_ble_eq_true rfl)) rfl (v := .ref 31) (fvR (okR hρ 39 rfl)) ?_
  refine AW_get dX4_valueOf_18 flX4_46 (Nat.le_of_ble_eq_true rfl) (okn hρ (Nat.le_of_ble_eq_true rfl)) rfl (v := .int (S.1 31 1)) (fun _ => rfl) ?_
  refine AW_icmp_ge dX4_valueOf_21 rfl (iteM h (fun h => ?_) (fun h => ?_))
  · refine AW_lload 3 dX4_valueOf_100 rfl ?_
    exact AW_retl dX4_valueOf_102 rfl h
  · refine AW_aload_n 0 (n := 0) rfl dX4_valueOf_24 rfl ?_
    refine AW_get dX4_valueOf_25 flX4_38 (Nat.le_of_ble_eq_true rfl) (okn hρ (Nat.le_of_ble_eq_true rfl)) rfl (v := .ref 31) (fvR (okR hρ 39 rfl)) ?_
    refine AW_iload 4 dX4_valueOf_28 rfl ?_
    refine AW_lload_n 2 (n := 2) rfl dX4_valueOf_30 rfl ?_
    refine AW_iload 5 dX4_valueOf_31 rfl ?_
    refine AW_callSi (M := mX4_valueOf) (pc := 33) (As := [.long x2, .int x7]) (ρ1 := ρ) (st := [.int x6, .ref 31]) dX4_valueOf_33 mdX3_lineOf mlX4_50 smX3_lineOf ⟨rfl, npX3_lineOf⟩ (Nat.le_of_ble_eq_true rfl) (Nat.le_refl _) (Nat.le_refl _) rfl (CALLi.mono h (fun v1 S1 _ h => ?_))
    refine AW_callVi (M := mX4_valueOf) (pc := 36) (As := [.int x6, .int v1]) (ρ1 := ρ) (st := []) dX4_valueOf_36 mdX1_linkBy rfl mlX4_56 imX1_linkBy seX1_linkBy (rcv_of (q := (RX1, TX1, 15)) (Nat.le_of_ble_eq_true rfl) (okn hρ (Nat.le_of_ble_eq_true rfl)) rfl rfl) ⟨rfl, npX1_linkBy⟩ (Nat.le_of_ble_eq_true rfl) (Nat.le_refl _) (Nat.le_refl _) rfl (CALLi.mono h (fun v2 S2 _ h => ?_))
    refine AW_istore dX4_valueOf_39 (Nat.le_of_ble_eq_true rfl) rfl ?_
    refine AW_iload 0 dX4_valueOf_41 rfl ?_
    refine AW_iconst (v := (-1)) dX4_valueOf_43 rfl ?_
    refine AW_icmp_ne dX4_valueOf_44 rfl (iteM h (fun h => ?_) (fun h => ?_))
    · refine AW_ldc2 (v := (-2)) dX4_valueOf_47 kcX4_60 ?_
      exact AW_retl dX4_valueOf_50 rfl h
    · refine AW_iload_n 2 (n := 1) rfl dX4_valueOf_51 rfl ?_
      refine AW_lload 4 dX4_valueOf_52 rfl ?_
      refine AW_aload_n 1 (n := 0) rfl dX4_valueOf_54 rfl ?_
      refine AW_get dX4_valueOf_55 flX4_38 (Nat.le_of_ble_eq_true rfl) (okn hρ (Nat.le_of_ble_eq_true rfl)) rfl (v := .ref 31) (fvR (okR hρ 39 rfl)) ?_
      refine AW_get dX4_valueOf_58 flX4_62 (Nat.le_of_ble_eq_true rfl) (okn hρ (Nat.le_of_ble_eq_true rfl)) rfl (v := .ref 32) (fvR (okR hρ 17 rfl)) ?_
      refine AW_get dX4_valueOf_61 flX4_66 (Nat.le_of_ble_eq_true rfl) (okn hρ (Nat.le_of_ble_eq_true rfl)) rfl (v := .ref 37) (fvR (okR hρ 33 rfl)) ?_
      refine AW_iload_n 2 (n := 1) rfl dX4_valueOf_64 rfl ?_
      have hr3 := rowOf hρ (k := 37) (b := 38) (n := 320) (i := x1) (Nat.le_of_ble_eq_true rfl) (Nat.le_of_ble_eq_true rfl) (List.mem_of_getElem? (i := 35) rfl) (List.mem_of_getElem? (i := 36) rfl) (List.mem_of_getElem? (i := 37) rfl) (List.mem_of_getElem? (i := 38) rfl) rfl rfl rfl rfl h.1
      refine AW_aaload dX4_valueOf_65 (Nat.le_of_ble_eq_true rfl) (okn hρ (Nat.le_of_ble_eq_true rfl)) rfl h.1 hr3.1 ?_
      have hl3 : x1.toNatClampNeg < 4 := Nat.not_le.mp fun q => h.1 (Or.inr q)
      replace h := h.2
      refine AW_aload_n 1 (n := 0) rfl dX4_valueOf_66 rfl ?_
      refine AW_get dX4_valueOf_67 flX4_38 (Nat.le_of_ble_eq_true rfl) (okn hρ (Nat.le_of_ble_eq_true rfl)) rfl (v := .ref 31) (fvR (okR hρ 39 rfl)) ?_
      refine AW_get dX4_valueOf_70 flX4_71 (Nat.le_of_ble_eq_true rfl) (okn hρ (Nat.le_of_ble_eq_true rfl)) rfl (v := .ref 45) (fvR (okR hρ 20 rfl)) ?_
      refine AW_iload 0 dX4_valueOf_73 rfl ?_
      refine AW_iaload dX4_valueOf_75 (Nat.le_of_ble_eq_true rfl) (okn hρ (Nat.le_of_ble_eq_true rfl)) rfl h.1 (v := S2.1 45 v2.toNatClampNeg) rfl ?_
      replace h := h.2
      refine AW_laload dX4_valueOf_76 hr3.2.1 hr3.2.2.1 hr3.2.2.2 h.1 (v := S2.2 (38 + x1.toNatClampNeg) ((S2.1 45 v2.toNatClampNeg).toNatClampNeg)) rfl ?_
      replace h := h.2
      refine AW_callSl (M := mX4_valueOf) (pc := 77) (As := [.int x1, .long x4, .long (S2.2 (38 + x1.toNatClampNeg) ((S2.1 45 v2.toNatClampNeg).toNatClampNeg))]) (ρ1 := ρ) (st := []) dX4_valueOf_77 mdX4_join mlX4_75 smX4_join ⟨rfl, npX4_join⟩ (Nat.le_of_ble_eq_true rfl) (Nat.le_refl _) (Nat.le_refl _) rfl (CALLl.mono h (fun v4 S4 _ h => ?_))
      refine AW_lstore dX4_valueOf_80 (Nat.le_of_ble_eq_true rfl) rfl ?_
      refine AW_aload_n 2 (n := 0) rfl dX4_valueOf_82 rfl ?_
      refine AW_get dX4_valueOf_83 flX4_38 (Nat.le_of_ble_eq_true rfl) (okn hρ (Nat.le_of_ble_eq_true rfl)) rfl (v := .ref 31) (fvR (okR hρ 39 rfl)) ?_
      refine AW_get dX4_valueOf_86 flX4_79 (Nat.le_of_ble_eq_true rfl) (okn hρ (Nat.le_of_ble_eq_true rfl)) rfl (v := .ref 46) (fvR (okR hρ 21 rfl)) ?_
      refine AW_iload 1 dX4_valueOf_89 rfl ?_
      refine AW_iaload dX4_valueOf_91 (Nat.le_of_ble_eq_true rfl) (okn hρ (Nat.le_of_ble_eq_true rfl)) rfl h.1 (v := S4.1 46 v2.toNatClampNeg) rfl ?_
      replace h := h.2
      refine AW_istore dX4_valueOf_92 (Nat.le_of_ble_eq_true rfl) rfl ?_
      refine AW_iinc 6 (v := x7 + 1) dX4_valueOf_94 rfl rfl (Nat.le_of_ble_eq_true rfl) rfl ?_
      refine AW_goto (tgt := 12) dX4_valueOf_97 rfl ?_
      exact AW.sub [4, 5, 6, 2, 1, 0] rfl h
set_option maxRecDepth 20000 in
theorem eX4_valueOf {g : GX} {Q : Int64 → St → Prop} {d : Nat} {ρ : Rs} {S : St} (hρ : Ok ρ) {x1 : Int32} {x2 : Int64} (h : CALLl g d mX4_start [.int x1] ρ ρ S (fun v1 S1 => AW g ρ (QJ Q) (d + 1) mX4_valueOf 12 [(0, .ref 54), (1, .int x1), (2, .long x2), (4, .long v1), (6, .int 0), (7, .int 0)] [] ρ S1)) : CALLl g (d + 1) mX4_valueOf [.ref 54, .int x1, .long x2] ρ ρ S Q := by
  refine CALL.of mdX4_valueOf.2.2.2.2 (Nat.le_of_ble_eq_true rfl) (Nat.le_refl _) (Nat.le_refl _) ?_
  show AW g ρ (QJ Q) (d + 1) mX4_valueOf 0 [(0, .ref 54), (1, .int x1), (2, .long x2)] [] ρ S
  refine AW_iload_n 1 (n := 1) rfl dX4_valueOf_0 rfl ?_
  refine AW_callSl (M := mX4_valueOf) (pc := 1) (As := [.int x1]) (ρ1 := ρ) (st := []) dX4_valueOf_1 mdX4_start mlX4_42 smX4_start ⟨rfl, npX4_start⟩ (Nat.le_of_ble_eq_true rfl) (Nat.le_refl _) (Nat.le_refl _) rfl (CALLl.mono h (fun v1 S1 _ h => ?_))
  refine AW_lstore dX4_valueOf_4 (Nat.le_of_ble_eq_true rfl) rfl ?_
  refine AW_iconst (v := 0) dX4_valueOf_6 rfl ?_
  refine AW_istore dX4_valueOf_7 (Nat.le_of_ble_eq_true rfl) rfl ?_
  refine AW_iconst (v := 0) dX4_valueOf_9 rfl ?_
  refine AW_istore dX4_valueOf_10 (Nat.le_of_ble_eq_true rfl) rfl ?_
  exact AW.sub [3, 4, 5, 2, 1, 0] rfl h
set_option maxRecDepth 20000 in
theorem eX4_farOut {g : GX} {Q : Int64 → St → Prop} {d : Nat} {ρ : Rs} {S : St} (hρ : Ok ρ) {x1 : Int32} {x2 : Int64} (h : CALLl g d mX4_valueOf [.ref 54, .int x1, .long x2] ρ ρ S (fun v1 S1 => CALLv g d mX4_gatherAll [.ref 54, .int x1, .long v1] ρ ρ S1 (fun S2 => vp_in x1 4 ∧ (Q (S2.2 68 x1.toNatClampNeg) S2)))) : CALLl g (d + 1) mX4_farOut [.ref 54, .int x1, .long x2] ρ ρ S Q := by
  refine CALL.of mdX4_farOut.2.2.2.2 (Nat.le_of_ble_eq_true rfl) (Nat.le_refl _) (Nat.le_refl _) ?_
  show AW g ρ (QJ Q) (d + 1) mX4_farOut 0 [(0, .ref 54), (1, .int x1), (2, .long x2)] [] ρ S
  refine AW_aload_n 0 (n := 0) rfl dX4_farOut_0 rfl ?_
  refine AW_iload_n 1 (n := 1) rfl dX4_farOut_1 rfl ?_
  refine AW_aload_n 0 (n := 0) rfl dX4_farOut_2 rfl ?_
  refine AW_iload_n 1 (n := 1) rfl dX4_farOut_3 rfl ?_
  refine AW_lload_n 2 (n := 2) rfl dX4_farOut_4 rfl ?_
  refine AW_callVl (M := mX4_farOut) (pc := 5) (As := [.int x1, .long x2]) (ρ1 := ρ) (st := [.int x1, .ref 54]) dX4_farOut_5 mdX4_valueOf rfl mlX4_82 imX4_valueOf seX4_valueOf (rcv_of (q := (RX4, TX4, 8)) (Nat.le_of_ble_eq_true rfl) (okn hρ (Nat.le_of_ble_eq_true rfl)) rfl rfl) ⟨rfl, npX4_valueOf⟩ (Nat.le_of_ble_eq_true rfl) (Nat.le_refl _) (Nat.le_refl _) rfl (CALLl.mono h (fun v1 S1 _ h => ?_))
  refine AW_callVv (M := mX4_farOut) (pc := 8) (As := [.int x1, .long v1]) (ρ1 := ρ) (st := []) dX4_farOut_8 mdX4_gatherAll rfl mlX4_86 imX4_gatherAll seX4_gatherAll (rcv_of (q := (RX4, TX4, 8)) (Nat.le_of_ble_eq_true rfl) (okn hρ (Nat.le_of_ble_eq_true rfl)) rfl rfl) ⟨rfl, npX4_gatherAll⟩ (Nat.le_of_ble_eq_true rfl) (Nat.le_refl _) (Nat.le_refl _) rfl (CALLv.mono h (fun S2 _ h => ?_))
  refine AW_aload_n 0 (n := 0) rfl dX4_farOut_11 rfl ?_
  refine AW_get dX4_farOut_12 flX4_32 (Nat.le_of_ble_eq_true rfl) (okn hρ (Nat.le_of_ble_eq_true rfl)) rfl (v := .ref 68) (fvR (okR hρ 45 rfl)) ?_
  refine AW_iload_n 1 (n := 1) rfl dX4_farOut_15 rfl ?_
  refine AW_laload dX4_farOut_16 (Nat.le_of_ble_eq_true rfl) (okn hρ (Nat.le_of_ble_eq_true rfl)) rfl h.1 (v := S2.2 68 x1.toNatClampNeg) rfl ?_
  replace h := h.2
  exact AW_retl dX4_farOut_17 rfl h
set_option maxRecDepth 20000 in
theorem eX4_farOutHeft {g : GX} {Q : Int64 → St → Prop} {d : Nat} {ρ : Rs} {S : St} (hρ : Ok ρ) {x1 : Int32} {x2 : Int64} (h : CALLl g d mX4_valueOf [.ref 54, .int x1, .long x2] ρ ρ S (fun v1 S1 => CALLv g d mX4_gatherAll [.ref 54, .int x1, .long v1] ρ ρ S1 (fun S2 => vp_in x1 4 ∧ (Q (S2.2 69 x1.toNatClampNeg) S2)))) : CALLl g (d + 1) mX4_farOutHeft [.ref 54, .int x1, .long x2] ρ ρ S Q := by
  refine CALL.of mdX4_farOutHeft.2.2.2.2 (Nat.le_of_ble_eq_true rfl) (Nat.le_refl _) (Nat.le_refl _) ?_
  show AW g ρ (QJ Q) (d + 1) mX4_farOutHeft 0 [(0, .ref 54), (1, .int x1), (2, .long x2)] [] ρ S
  refine AW_aload_n 0 (n := 0) rfl dX4_farOutHeft_0 rfl ?_
  refine AW_iload_n 1 (n := 1) rfl dX4_farOutHeft_1 rfl ?_
  refine AW_aload_n 0 (n := 0) rfl dX4_farOutHeft_2 rfl ?_
  refine AW_iload_n 1 (n := 1) rfl dX4_farOutHeft_3 rfl ?_
  refine AW_lload_n 2 (n := 2) rfl dX4_farOutHeft_4 rfl ?_
  refine AW_callVl (M := mX4_farOutHeft) (pc := 5) (As := [.int x1, .long x2]) (ρ1 := ρ) (st := [.int x1, .ref 54]) dX4_farOutHeft_5 mdX4_valueOf rfl mlX4_82 imX4_valueOf seX4_valueOf (rcv_of (q := (RX4, TX4, 8)) (Nat.le_of_ble_eq_true rfl) (okn hρ (Nat.le_of_ble_eq_true rfl)) rfl rfl) ⟨rfl, npX4_valueOf⟩ (Nat.le_of_ble_eq_true rfl) (Nat.le_refl _) (Nat.le_refl _) rfl (CALLl.mono h (fun v1 S1 _ h => ?_))
  refine AW_callVv (M := mX4_farOutHeft) (pc := 8) (As := [.int x1, .long v1]) (ρ1 := ρ) (st := []) dX4_farOutHeft_8 mdX4_gatherAll rfl mlX4_86 imX4_gatherAll seX4_gatherAll (rcv_of (q := (RX4, TX4, 8)) (Nat.le_of_ble_eq_true rfl) (okn hρ (Nat.le_of_ble_eq_true rfl)) rfl rfl) ⟨rfl, npX4_gatherAll⟩ (Nat.le_of_ble_eq_true rfl) (Nat.le_refl _) (Nat.le_refl _) rfl (CALLv.mono h (fun S2 _ h => ?_))
  refine AW_aload_n 0 (n := 0) rfl dX4_farOutHeft_11 rfl ?_
  refine AW_get dX4_farOutHeft_12 flX4_35 (Nat.le_of_ble_eq_true rfl) (okn hρ (Nat.le_of_ble_eq_true rfl)) rfl (v := .ref 69) (fvR (okR hρ 46 rfl)) ?_
  refine AW_iload_n 1 (n := 1) rfl dX4_farOutHeft_15 rfl ?_
  refine AW_laload dX4_farOutHeft_16 (Nat.le_of_ble_eq_true rfl) (okn hρ (Nat.le_of_ble_eq_true rfl)) rfl h.1 (v := S2.2 69 x1.toNatClampNeg) rfl ?_
  replace h := h.2
  exact AW_retl dX4_farOutHeft_17 rfl h
set_option maxRecDepth 20000 in
theorem eX4_firstHeaviest {g : GX} {Q : Int64 → St → Prop} {d : Nat} {ρ : Rs} {S : St} (hρ : Ok ρ) (h : CALLv g d mX4_bound [.ref 54, .int 0] ρ ρ S (fun S1 => CALLl g d mX4_firstWith [.ref 54, .ref 61] ρ ρ S1 (fun v2 S2 => Q v2 S2))) : CALLl g (d + 1) mX4_firstHeaviest [.ref 54] ρ ρ S Q := by
  refine CALL.of mdX4_firstHeaviest.2.2.2.2 (Nat.le_of_ble_eq_true rfl) (Nat.le_refl _) (Nat.le_refl _) ?_
  show AW g ρ (QJ Q) (d + 1) mX4_firstHeaviest 0 [(0, .ref 54)] [] ρ S
  refine AW_aload_n 0 (n := 0) rfl dX4_firstHeaviest_0 rfl ?_
  refine AW_iconst (v := 0) dX4_firstHeaviest_1 rfl ?_
  refine AW_callVv (M := mX4_firstHeaviest) (pc := 2) (As := [.int 0]) (ρ1 := ρ) (st := []) dX4_firstHeaviest_2 mdX4_bound rfl mlX4_90 imX4_bound seX4_bound (rcv_of (q := (RX4, TX4, 8)) (Nat.le_of_ble_eq_true rfl) (okn hρ (Nat.le_of_ble_eq_true rfl)) rfl rfl) ⟨rfl, npX4_bound⟩ (Nat.le_of_ble_eq_true rfl) (Nat.le_refl _) (Nat.le_refl _) rfl (CALLv.mono h (fun S1 _ h => ?_))
  refine AW_aload_n 0 (n := 0) rfl dX4_firstHeaviest_5 rfl ?_
  refine AW_aload_n 0 (n := 0) rfl dX4_firstHeaviest_6 rfl ?_
  refine AW_get dX4_firstHeaviest_7 flX4_18 (Nat.le_of_ble_eq_true rfl) (okn hρ (Nat.le_of_ble_eq_true rfl)) rfl (v := .ref 60) (fvR (okR hρ 41 rfl)) ?_
  refine AW_iconst (v := 0) dX4_firstHeaviest_10 rfl ?_
  refine AW_aaload dX4_firstHeaviest_11 (Nat.le_of_ble_eq_true rfl) (okn hρ (Nat.le_of_ble_eq_true rfl)) rfl (show ¬ (_ ∨ _) by decide) (okR hρ 51 rfl) ?_
  refine AW_callVl (M := mX4_firstHeaviest) (pc := 12) (As := [.ref 61]) (ρ1 := ρ) (st := []) dX4_firstHeaviest_12 mdX4_firstWith rfl mlX4_94 imX4_firstWith seX4_firstWith (rcv_of (q := (RX4, TX4, 8)) (Nat.le_of_ble_eq_true rfl) (okn hρ (Nat.le_of_ble_eq_true rfl)) rfl rfl) ⟨rfl, npX4_firstWith⟩ (Nat.le_of_ble_eq_true rfl) (Nat.le_refl _) (Nat.le_refl _) rfl (CALLl.mono h (fun v2 S2 _ h => ?_))
  exact AW_retl dX4_firstHeaviest_15 rfl h
set_option maxRecDepth 20000 in
theorem eX4_firstLightest {g : GX} {Q : Int64 → St → Prop} {d : Nat} {ρ : Rs} {S : St} (hρ : Ok ρ) (h : CALLv g d mX4_bound [.ref 54, .int 0] ρ ρ S (fun S1 => CALLl g d mX4_firstWith [.ref 54, .ref 56] ρ ρ S1 (fun v2 S2 => Q v2 S2))) : CALLl g (d + 1) mX4_firstLightest [.ref 54] ρ ρ S Q := by
  refine CALL.of mdX4_firstLightest.2.2.2.2 (Nat.le_of_ble_eq_true rfl) (Nat.le_refl _) (Nat.le_refl _) ?_
  show AW g ρ (QJ Q) (d + 1) mX4_firstLightest 0 [(0, .ref 54)] [] ρ S
  refine AW_aload_n 0 (n := 0) rfl dX4_firstLightest_0 rfl ?_
  refine AW_iconst (v := 0) dX4_firstLightest_1 rfl ?_
  refine AW_callVv (M := mX4_firstLightest) (pc := 2) (As := [.int 0]) (ρ1 := ρ) (st := []) dX4_firstLightest_2 mdX4_bound rfl mlX4_90 imX4_bound seX4_bound (rcv_of (q := (RX4, TX4, 8)) (Nat.le_of_ble_eq_true rfl) (okn hρ (Nat.le_of_ble_eq_true rfl)) rfl rfl) ⟨rfl, npX4_bound⟩ (Nat.le_of_ble_eq_true rfl) (Nat.le_refl _) (Nat.le_refl _) rfl (CALLv.mono h (fun S1 _ h => ?_))
  refine AW_aload_n 0 (n := 0) rfl dX4_firstLightest_5 rfl ?_
  refine AW_aload_n 0 (n := 0) rfl dX4_firstLightest_6 rfl ?_
  refine AW_get dX4_firstLightest_7 flX4_13 (Nat.le_of_ble_eq_true rfl) (okn hρ (Nat.le_of_ble_eq_true rfl)) rfl (v := .ref 55) (fvR (okR hρ 40 rfl)) ?_
  refine AW_iconst (v := 0) dX4_firstLightest_10 rfl ?_
  refine AW_aaload dX4_firstLightest_11 (Nat.le_of_ble_eq_true rfl) (okn hρ (Nat.le_of_ble_eq_true rfl)) rfl (show ¬ (_ ∨ _) by decide) (okR hρ 47 rfl) ?_
  refine AW_callVl (M := mX4_firstLightest) (pc := 12) (As := [.ref 56]) (ρ1 := ρ) (st := []) dX4_firstLightest_12 mdX4_firstWith rfl mlX4_94 imX4_firstWith seX4_firstWith (rcv_of (q := (RX4, TX4, 8)) (Nat.le_of_ble_eq_true rfl) (okn hρ (Nat.le_of_ble_eq_true rfl)) rfl rfl) ⟨rfl, npX4_firstWith⟩ (Nat.le_of_ble_eq_true rfl) (Nat.le_refl _) (Nat.le_refl _) rfl (CALLl.mono h (fun v2 S2 _ h => ?_))
  exact AW_retl dX4_firstLightest_15 rfl h
set_option maxRecDepth 20000 in
theorem eX4_firstWith_36 {g : GX} {Q : Int64 → St → Prop} {d : Nat} {ρ : Rs} {S : St} (hρ : Ok ρ) {k1 n1 : Nat} (h16_1 : 16 ≤ k1) (hn_1 : k1 < rn ρ) (hs_1 : shp ρ k1 = .inr (1, n1)) {x2 : Int64} {x4 : Int32} {x5 : Int32} {x6 : Int32} {x7 : Int32} (h : vp_in (x4 + 1) 481 ∧ (if (S.1 44 ((x4 + 1).toNatClampNeg)) ≤ x7 then AW g ρ (QJ Q) d mX4_firstWith 8 [(0, .ref 54), (1, .ref k1), (2, .long x2), (4, .int x6), (5, .int (x5 + 1))] [] ρ S else vp_in x7 4800 ∧ (vp_in x7 4800 ∧ (vp_in (S.1 45 x7.toNatClampNeg) 320 ∧ (vp_in (S.1 46 x7.toNatClampNeg) 480 ∧ (if (S.2 47 ((S.1 46 x7.toNatClampNeg).toNatClampNeg)) ≤ 0 then vp_in (S.1 46 x7.toNatClampNeg) 480 ∧ (AW g ρ (QJ Q) d mX4_firstWith 36 [(0, .ref 54), (1, .ref k1), (2, .long (x2 + (S.2 47 ((S.1 46 x7.toNatClampNeg).toNatClampNeg)))), (4, .int x4), (5, .int x5), (6, .int x6), (7, .int (x7 + 1))] [] ρ S) else vp_in (S.1 46 x7.toNatClampNeg) n1 ∧ (vp_in x4 n1 ∧ (if ((S.2 38 ((S.1 45 x7.toNatClampNeg).toNatClampNeg)) * (S.2 k1 ((S.1 46 x7.toNatClampNeg).toNatClampNeg))) = (S.2 k1 x4.toNatClampNeg) then AW g ρ (QJ Q) d mX4_firstWith 8 [(0, .ref 54), (1, .ref k1), (2, .long x2), (4, .int (S.1 46 x7.toNatClampNeg)), (5, .int (x5 + 1))] [] ρ S else vp_in (S.1 46 x7.toNatClampNeg) 480 ∧ (AW g ρ (QJ Q) d mX4_firstWith 36 [(0, .ref 54), (1, .ref k1), (2, .long (x2 + (S.2 47 ((S.1 46 x7.toNatClampNeg).toNatClampNeg)))), (4, .int x4), (5, .int x5), (6, .int x6), (7, .int (x7 + 1))] [] ρ S))))))))) : AW g ρ (QJ Q) d mX4_firstWith 36 [(0, .ref 54), (1, .ref k1), (2, .long x2), (4, .int x4), (5, .int x5), (6, .int x6), (7, .int x7)] [] ρ S := by
  refine AW_iload 6 dX4_firstWith_36 rfl ?_
  refine AW_aload_n 0 (n := 0) rfl dX4_firstWith_38 rfl ?_
  refine AW_get dX4_firstWith_39 flX4_38 (Nat.le_of_ble_eq_true rfl) (okn hρ (Nat.le_of_ble_eq_true rfl)) rfl (v := .ref 31) (fvR (okR hρ 39 rfl)) ?_
  refine AW_get dX4_firstWith_42 flX4_98 (Nat.le_of_ble_eq_true rfl) (okn hρ (Nat.le_of_ble_eq_true rfl)) rfl (v := .ref 44) (fvR (okR hρ 19 rfl)) ?_
  refine AW_iload 3 dX4_firstWith_45 rfl ?_
  refine AW_iconst (v := 1) dX4_firstWith_47 rfl ?_
  refine AW_iadd dX4_firstWith_48 ?_
  refine AW_iaload dX4_firstWith_49 (Nat.le_of_ble_eq_true rfl) (okn hρ (Nat.le_of_ble_eq_true rfl)) rfl h.1 (v := S.1 44 ((x4 + 1).toNatClampNeg)) rfl ?_
  replace h := h.2
  refine AW_icmp_ge dX4_firstWith_50 rfl (iteM h (fun h => ?_) (fun h => ?_))
  · refine AW_iload 5 dX4_firstWith_146 rfl ?_
    refine AW_istore dX4_firstWith_148 (Nat.le_of_ble_eq_true rfl) rfl ?_
    refine AW_iinc 4 (v := x5 + 1) dX4_firstWith_150 rfl rfl (Nat.le_of_ble_eq_true rfl) rfl ?_
    refine AW_goto (tgt := 8) dX4_firstWith_153 rfl ?_
    exact AW.sub [2, 3, 4, 1, 0] rfl h
  · refine AW_aload_n 0 (n := 0) rfl dX4_firstWith_53 rfl ?_
    refine AW_get dX4_firstWith_54 flX4_38 (Nat.le_of_ble_eq_true rfl) (okn hρ (Nat.le_of_ble_eq_true rfl)) rfl (v := .ref 31) (fvR (okR hρ 39 rfl)) ?_
    refine AW_get dX4_firstWith_57 flX4_79 (Nat.le_of_ble_eq_true rfl) (okn hρ (Nat.le_of_ble_eq_true rfl)) rfl (v := .ref 46) (fvR (okR hρ 21 rfl)) ?_
    refine AW_iload 6 dX4_firstWith_60 rfl ?_
    refine AW_iaload dX4_firstWith_62 (Nat.le_of_ble_eq_true rfl) (okn hρ (Nat.le_of_ble_eq_true rfl)) rfl h.1 (v := S.1 46 x7.toNatClampNeg) rfl ?_
    replace h := h.2
    refine AW_istore dX4_firstWith_63 (Nat.le_of_ble_eq_true rfl) rfl ?_
    refine AW_aload_n 1 (n := 0) rfl dX4_firstWith_65 rfl ?_
    refine AW_get dX4_firstWith_66 flX4_38 (Nat.le_of_ble_eq_true rfl) (okn hρ (Nat.le_of_ble_eq_true rfl)) rfl (v := .ref 31) (fvR (okR hρ 39 rfl)) ?_
    refine AW_get dX4_firstWith_69 flX4_62 (Nat.le_of_ble_eq_true rfl) (okn hρ (Nat.le_of_ble_eq_true rfl)) rfl (v := .ref 32) (fvR (okR hρ 17 rfl)) ?_
    refine AW_get dX4_firstWith_72 flX4_66 (Nat.le_of_ble_eq_true rfl) (okn hρ (Nat.le_of_ble_eq_true rfl)) rfl (v := .ref 37) (fvR (okR hρ 33 rfl)) ?_
    refine AW_iconst (v := 0) dX4_firstWith_75 rfl ?_
    refine AW_aaload dX4_firstWith_76 (Nat.le_of_ble_eq_true rfl) (okn hρ (Nat.le_of_ble_eq_true rfl)) rfl (show ¬ (_ ∨ _) by decide) (okR hρ 35 rfl) ?_
    refine AW_aload_n 1 (n := 0) rfl dX4_firstWith_77 rfl ?_
    refine AW_get dX4_firstWith_78 flX4_38 (Nat.le_of_ble_eq_true rfl) (okn hρ (Nat.le_of_ble_eq_true rfl)) rfl (v := .ref 31) (fvR (okR hρ 39 rfl)) ?_
    refine AW_get dX4_firstWith_81 flX4_71 (Nat.le_of_ble_eq_true rfl) (okn hρ (Nat.le_of_ble_eq_true rfl)) rfl (v := .ref 45) (fvR (okR hρ 20 rfl)) ?_
    refine AW_iload 7 dX4_firstWith_84 rfl ?_
    refine AW_iaload dX4_firstWith_86 (Nat.le_of_ble_eq_true rfl) (okn hρ (Nat.le_of_ble_eq_true rfl)) rfl h.1 (v := S.1 45 x7.toNatClampNeg) rfl ?_
    replace h := h.2
    refine AW_laload dX4_firstWith_87 (Nat.le_of_ble_eq_true rfl) (okn hρ (Nat.le_of_ble_eq_true rfl)) rfl h.1 (v := S.2 38 ((S.1 45 x7.toNatClampNeg).toNatClampNeg)) rfl ?_
    replace h := h.2
    refine AW_lstore dX4_firstWith_88 (Nat.le_of_ble_eq_true rfl) rfl ?_
    refine AW_aload_n 2 (n := 0) rfl dX4_firstWith_90 rfl ?_
    refine AW_get dX4_firstWith_91 flX4_38 (Nat.le_of_ble_eq_true rfl) (okn hρ (Nat.le_of_ble_eq_true rfl)) rfl (v := .ref 31) (fvR (okR hρ 39 rfl)) ?_
    refine AW_get dX4_firstWith_94 flX4_101 (Nat.le_of_ble_eq_true rfl) (okn hρ (Nat.le_of_ble_eq_true rfl)) rfl (v := .ref 47) (fvR (okR hρ 22 rfl)) ?_
    refine AW_iload 1 dX4_firstWith_97 rfl ?_
    refine AW_laload dX4_firstWith_99 (Nat.le_of_ble_eq_true rfl) (okn hρ (Nat.le_of_ble_eq_true rfl)) rfl h.1 (v := S.2 47 ((S.1 46 x7.toNatClampNeg).toNatClampNeg)) rfl ?_
    replace h := h.2
    refine AW_lconst (v := 0) dX4_firstWith_100 rfl ?_
    refine AW_lc_le dX4_firstWith_101 dX4_firstWith_102 rfl (iteM h (fun h => ?_) (fun h => ?_))
    · refine AW_lload_n 4 (n := 2) rfl dX4_firstWith_127 rfl ?_
      refine AW_aload_n 2 (n := 0) rfl dX4_firstWith_128 rfl ?_
      refine AW_get dX4_firstWith_129 flX4_38 (Nat.le_of_ble_eq_true rfl) (okn hρ (Nat.le_of_ble_eq_true rfl)) rfl (v := .ref 31) (fvR (okR hρ 39 rfl)) ?_
      refine AW_get dX4_firstWith_132 flX4_101 (Nat.le_of_ble_eq_true rfl) (okn hρ (Nat.le_of_ble_eq_true rfl)) rfl (v := .ref 47) (fvR (okR hρ 22 rfl)) ?_
      refine AW_iload 1 dX4_firstWith_135 rfl ?_
      refine AW_laload dX4_firstWith_137 (Nat.le_of_ble_eq_true rfl) (okn hρ (Nat.le_of_ble_eq_true rfl)) rfl h.1 (v := S.2 47 ((S.1 46 x7.toNatClampNeg).toNatClampNeg)) rfl ?_
      replace h := h.2
      refine AW_ladd dX4_firstWith_138 ?_
      refine AW_lstore_n (n := 2) (i := 2) rfl dX4_firstWith_139 (Nat.le_of_ble_eq_true rfl) rfl ?_
      refine AW_iinc 8 (v := x7 + 1) dX4_firstWith_140 rfl rfl (Nat.le_of_ble_eq_true rfl) rfl ?_
      refine AW_goto (tgt := 36) dX4_firstWith_143 rfl ?_
      exact AW.sub [4, 5, 1, 6, 7, 8, 0] rfl h
    · refine AW_lload 0 dX4_firstWith_105 rfl ?_
      refine AW_aload_n 3 (n := 1) rfl dX4_firstWith_107 rfl ?_
      refine AW_iload 1 dX4_firstWith_108 rfl ?_
      refine AW_laload dX4_firstWith_110 h16_1 hn_1 hs_1 h.1 (v := S.2 k1 ((S.1 46 x7.toNatClampNeg).toNatClampNeg)) rfl ?_
      replace h := h.2
      refine AW_lmul dX4_firstWith_111 ?_
      refine AW_aload_n 3 (n := 1) rfl dX4_firstWith_112 rfl ?_
      refine AW_iload 5 dX4_firstWith_113 rfl ?_
      refine AW_laload dX4_firstWith_115 h16_1 hn_1 hs_1 h.1 (v := S.2 k1 x4.toNatClampNeg) rfl ?_
      replace h := h.2
      refine AW_lc_ne dX4_firstWith_116 dX4_firstWith_117 rfl (iteM h (fun h => ?_) (fun h => ?_))
      · refine AW_iload 1 dX4_firstWith_120 rfl ?_
        refine AW_istore dX4_firstWith_122 (Nat.le_of_ble_eq_true rfl) rfl ?_
        refine AW_goto (tgt := 146) dX4_firstWith_124 rfl ?_
        refine AW_iload 0 dX4_firstWith_146 rfl ?_
        refine AW_istore dX4_firstWith_148 (Nat.le_of_ble_eq_true rfl) rfl ?_
        refine AW_iinc 7 (v := x5 + 1) dX4_firstWith_150 rfl rfl (Nat.le_of_ble_eq_true rfl) rfl ?_
        refine AW_goto (tgt := 8) dX4_firstWith_153 rfl ?_
        exact AW.sub [5, 6, 7, 1, 0] rfl h
      · refine AW_lload_n 4 (n := 2) rfl dX4_firstWith_127 rfl ?_
        refine AW_aload_n 2 (n := 0) rfl dX4_firstWith_128 rfl ?_
        refine AW_get dX4_firstWith_129 flX4_38 (Nat.le_of_ble_eq_true rfl) (okn hρ (Nat.le_of_ble_eq_true rfl)) rfl (v := .ref 31) (fvR (okR hρ 39 rfl)) ?_
        refine AW_get dX4_firstWith_132 flX4_101 (Nat.le_of_ble_eq_true rfl) (okn hρ (Nat.le_of_ble_eq_true rfl)) rfl (v := .ref 47) (fvR (okR hρ 22 rfl)) ?_
        refine AW_iload 1 dX4_firstWith_135 rfl ?_
        refine AW_laload dX4_firstWith_137 (Nat.le_of_ble_eq_true rfl) (okn hρ (Nat.le_of_ble_eq_true rfl)) rfl h.1 (v := S.2 47 ((S.1 46 x7.toNatClampNeg).toNatClampNeg)) rfl ?_
        replace h := h.2
        refine AW_ladd dX4_firstWith_138 ?_
        refine AW_lstore_n (n := 2) (i := 2) rfl dX4_firstWith_139 (Nat.le_of_ble_eq_true rfl) rfl ?_
        refine AW_iinc 8 (v := x7 + 1) dX4_firstWith_140 rfl rfl (Nat.le_of_ble_eq_true rfl) rfl ?_
        refine AW_goto (tgt := 36) dX4_firstWith_143 rfl ?_
        exact AW.sub [4, 5, 1, 6, 7, 8, 0] rfl h
set_option maxRecDepth 20000 in
theorem eX4_firstWith_8 {g : GX} {Q : Int64 → St → Prop} {d : Nat} {ρ : Rs} {S : St} (hρ : Ok ρ) {k1 n1 : Nat} (h16_1 : 16 ≤ k1) (hn_1 : k1 < rn ρ) (hs_1 : shp ρ k1 = .inr (1, n1)) {x2 : Int64} {x4 : Int32} {x5 : Int32} (h : if (S.1 31 1) ≤ x5 then Q x2 S else vp_in x4 481 ∧ (AW g ρ (QJ Q) d mX4_firstWith 36 [(0, .ref 54), (1, .ref k1), (2, .long x2), (4, .int x4), (5, .int x5), (6, .int x4), (7, .int (S.1 44 x4.toNatClampNeg))] [] ρ S)) : AW g ρ (QJ Q) d mX4_firstWith 8 [(0, .ref 54), (1, .ref k1), (2, .long x2), (4, .int x4), (5, .int x5)] [] ρ S := by
  refine AW_iload 4 dX4_firstWith_8 rfl ?_
  refine AW_aload_n 0 (n := 0) rfl dX4_firstWith_10 rfl ?_
  refine AW_get dX4_firstWith_11 flX4_38 (Nat.le_of_ble_eq_true rfl) (okn hρ (Nat.le_of_ble_eq_true rfl)) rfl (v := .ref 31) (fvR (okR hρ 39 rfl)) ?_
  refine AW_get dX4_firstWith_14 flX4_46 (Nat.le_of_ble_eq_true rfl) (okn hρ (Nat.le_of_ble_eq_true rfl)) rfl (v := .int (S.1 31 1)) (fun _ => rfl) ?_
  refine AW_icmp_ge dX4_firstWith_17 rfl (iteM h (fun h => ?_) (fun h => ?_))
  · refine AW_lload_n 2 (n := 2) rfl dX4_firstWith_156 rfl ?_
    exact AW_retl dX4_firstWith_157 rfl h
  · refine AW_iload 3 dX4_firstWith_20 rfl ?_
    refine AW_istore dX4_firstWith_22 (Nat.le_of_ble_eq_true rfl) rfl ?_
    refine AW_aload_n 1 (n := 0) rfl dX4_firstWith_24 rfl ?_
    refine AW_get dX4_firstWith_25 flX4_38 (Nat.le_of_ble_eq_true rfl) (okn hρ (Nat.le_of_ble_eq_true rfl)) rfl (v := .ref 31) (fvR (okR hρ 39 rfl)) ?_
    refine AW_get dX4_firstWith_28 flX4_98 (Nat.le_of_ble_eq_true rfl) (okn hρ (Nat.le_of_ble_eq_true rfl)) rfl (v := .ref 44) (fvR (okR hρ 19 rfl)) ?_
    refine AW_iload 4 dX4_firstWith_31 rfl ?_
    refine AW_iaload dX4_firstWith_33 (Nat.le_of_ble_eq_true rfl) (okn hρ (Nat.le_of_ble_eq_true rfl)) rfl h.1 (v := S.1 44 x4.toNatClampNeg) rfl ?_
    replace h := h.2
    refine AW_istore dX4_firstWith_34 (Nat.le_of_ble_eq_true rfl) rfl ?_
    exact AW.sub [2, 3, 4, 5, 6, 1, 0] rfl h
set_option maxRecDepth 20000 in
theorem eX4_firstWith {g : GX} {Q : Int64 → St → Prop} {d : Nat} {ρ : Rs} {S : St} (hρ : Ok ρ) {k1 n1 : Nat} (h16_1 : 16 ≤ k1) (hn_1 : k1 < rn ρ) (hs_1 : shp ρ k1 = .inr (1, n1)) (h : AW g ρ (QJ Q) d mX4_firstWith 8 [(0, .ref 54), (1, .ref k1), (2, .long 0), (4, .int 0), (5, .int 0)] [] ρ S) : CALLl g d mX4_firstWith [.ref 54, .ref k1] ρ ρ S Q := by
  refine CALL.of mdX4_firstWith.2.2.2.2 (Nat.le_of_ble_eq_true rfl) (Nat.le_refl _) (Nat.le_refl _) ?_
  show AW g ρ (QJ Q) d mX4_firstWith 0 [(0, .ref 54), (1, .ref k1)] [] ρ S
  refine AW_lconst (v := 0) dX4_firstWith_0 rfl ?_
  refine AW_lstore_n (n := 2) (i := 2) rfl dX4_firstWith_1 (Nat.le_of_ble_eq_true rfl) rfl ?_
  refine AW_iconst (v := 0) dX4_firstWith_2 rfl ?_
  refine AW_istore dX4_firstWith_3 (Nat.le_of_ble_eq_true rfl) rfl ?_
  refine AW_iconst (v := 0) dX4_firstWith_5 rfl ?_
  refine AW_istore dX4_firstWith_6 (Nat.le_of_ble_eq_true rfl) rfl ?_
  exact AW.sub [3, 4, 2, 1, 0] rfl h
set_option maxRecDepth 20000 in
theorem eX4_start {g : GX} {Q : Int64 → St → Prop} {d : Nat} {ρ : Rs} {S : St} (hρ : Ok ρ) {x0 : Int32} (h : if x0 = 0 then Q 1 S else Q 0 S) : CALLl g d mX4_start [.int x0] ρ ρ S Q := by
  refine CALL.of mdX4_start.2.2.2.2 (Nat.le_of_ble_eq_true rfl) (Nat.le_refl _) (Nat.le_refl _) ?_
  show AW g ρ (QJ Q) d mX4_start 0 [(0, .int x0)] [] ρ S
  refine AW_iload_n 0 (n := 0) rfl dX4_start_0 rfl ?_
  refine AW_if_ne dX4_start_1 rfl (iteM h (fun h => ?_) (fun h => ?_))
  · refine AW_lconst (v := 1) dX4_start_4 rfl ?_
    refine AW_goto (tgt := 9) dX4_start_5 rfl ?_
    exact AW_retl dX4_start_9 rfl h
  · refine AW_lconst (v := 0) dX4_start_8 rfl ?_
    exact AW_retl dX4_start_9 rfl h
set_option maxRecDepth 20000 in
theorem eX4_join {g : GX} {Q : Int64 → St → Prop} {d : Nat} {ρ : Rs} {S : St} (hρ : Ok ρ) {x0 : Int32} {x1 : Int64} {x3 : Int64} (h : if x0 = 0 then Q (x1 * x3) S else (if x0 = 3 then Q (if x3 < x1 then x1 else x3) S else (Q (x1 + x3) S))) : CALLl g (d + 1) mX4_join [.int x0, .long x1, .long x3] ρ ρ S Q := by
  refine CALL.of mdX4_join.2.2.2.2 (Nat.le_of_ble_eq_true rfl) (Nat.le_refl _) (Nat.le_refl _) ?_
  show AW g ρ (QJ Q) (d + 1) mX4_join 0 [(0, .int x0), (1, .long x1), (3, .long x3)] [] ρ S
  refine AW_iload_n 0 (n := 0) rfl dX4_join_0 rfl ?_
  by_cases hc : x0 = 0
  · rw [if_pos hc] at h
    refine AW_lsw (tgt := 28) dX4_join_1 (by decide) (by first | (rw [hc]; done) | (rw [hc]; rfl)) rfl ?_
    refine AW_lload_n 1 (n := 1) rfl dX4_join_28 rfl ?_
    refine AW_lload_n 2 (n := 3) rfl dX4_join_29 rfl ?_
    refine AW_lmul dX4_join_30 ?_
    exact AW_retl dX4_join_31 rfl h
  rw [if_neg hc] at h
  have hc0 := hc
  clear hc
  by_cases hc : x0 = 3
  · rw [if_pos hc] at h
    refine AW_lsw (tgt := 32) dX4_join_1 (by decide) (by first | (rw [hc]; done) | (rw [hc]; rfl)) rfl ?_
    refine AW_lload_n 1 (n := 1) rfl dX4_join_32 rfl ?_
    refine AW_lload_n 2 (n := 3) rfl dX4_join_33 rfl ?_
    refine AW_mmaxL (M := mX4_join) (pc := 34) dX4_join_34 mlX4_104 wmmaxLS wMath wmmaxLC (Nat.le_of_ble_eq_true rfl) ?_ (Nat.le_refl _) (Nat.le_refl _)
    exact AW_retl dX4_join_37 rfl h
  rw [if_neg hc] at h
  have hc3 := hc
  clear hc
  refine AW_lsw (tgt := 38) (off := 37) dX4_join_1 (by decide) (by have q0 := i32n hc0 (k := 0) rfl; have q3 := i32n hc3 (k := 3) rfl; simp [Op.lookupswitch.offset, Ne.symm q0, q0, Ne.symm q3, q3]) rfl ?_
  refine AW_lload_n 1 (n := 1) rfl dX4_join_38 rfl ?_
  refine AW_lload_n 2 (n := 3) rfl dX4_join_39 rfl ?_
  refine AW_ladd dX4_join_40 ?_
  exact AW_retl dX4_join_41 rfl h
set_option maxRecDepth 20000 in
theorem eX4_bound_27 {g : GX} {Q : St → Prop} {d : Nat} {ρ : Rs} {S : St} (hρ : Ok ρ) {x1 : Int32} {x2 : Int32} (hFr_56 : ∀ i, i < 4 → gF g (56 + i)) (hFr_61 : ∀ i, i < 4 → gF g (61 + i)) (h : if x2 < 0 then Q S else vp_in (S.1 31 1) 6 ∧ (if x2 < (S.1 43 ((S.1 31 1).toNatClampNeg)) then CALLv g d mX4_boundNode [.ref 54, .int x1, .int x2] ρ ρ S (fun S1 => AW g ρ (QV Q) (d + 1) mX4_bound 27 [(0, .ref 54), (1, .int x1), (2, .int (x2 + (-1)))] [] ρ S1) else vp_in x1 4 ∧ (CALLl g d mX4_start [.int x1] ρ ρ S (fun v3 S3 => vp_in x2 480 ∧ (vp_in x1 4 ∧ (CALLl g d mX4_start [.int x1] ρ ρ (setL S3 (56 + x1.toNatClampNeg) x2.toNatClampNeg v3) (fun v5 S5 => vp_in x2 480 ∧ (AW g ρ (QV Q) (d + 1) mX4_bound 27 [(0, .ref 54), (1, .int x1), (2, .int (x2 + (-1)))] [] ρ (setL S5 (61 + x1.toNatClampNeg) x2.toNatClampNeg v5))))))))) : AW g ρ (QV Q) (d + 1) mX4_bound 27 [(0, .ref 54), (1, .int x1), (2, .int x2)] [] ρ S := by
  refine AW_iload_n 2 (n := 2) rfl dX4_bound_27 rfl ?_
  refine AW_if_lt dX4_bound_28 rfl (iteM h (fun h => ?_) (fun h => ?_))
  · exact AW_retv dX4_bound_89 rfl h
  · refine AW_iload_n 2 (n := 2) rfl dX4_bound_31 rfl ?_
    refine AW_aload_n 0 (n := 0) rfl dX4_bound_32 rfl ?_
    refine AW_get dX4_bound_33 flX4_38 (Nat.le_of_ble_eq_true rfl) (okn hρ (Nat.le_of_ble_eq_true rfl)) rfl (v := .ref 31) (fvR (okR hρ 39 rfl)) ?_
    refine AW_get dX4_bound_36 flX4_113 (Nat.le_of_ble_eq_true rfl) (okn hρ (Nat.le_of_ble_eq_true rfl)) rfl (v := .ref 43) (fvR (okR hρ 18 rfl)) ?_
    refine AW_aload_n 0 (n := 0) rfl dX4_bound_39 rfl ?_
    refine AW_get dX4_bound_40 flX4_38 (Nat.le_of_ble_eq_true rfl) (okn hρ (Nat.le_of_ble_eq_true rfl)) rfl (v := .ref 31) (fvR (okR hρ 39 rfl)) ?_
    refine AW_get dX4_bound_43 flX4_46 (Nat.le_of_ble_eq_true rfl) (okn hρ (Nat.le_of_ble_eq_true rfl)) rfl (v := .int (S.1 31 1)) (fun _ => rfl) ?_
    refine AW_iaload dX4_bound_46 (Nat.le_of_ble_eq_true rfl) (okn hρ (Nat.le_of_ble_eq_true rfl)) rfl h.1 (v := S.1 43 ((S.1 31 1).toNatClampNeg)) rfl ?_
    replace h := h.2
    refine AW_icmp_lt dX4_bound_47 rfl (iteM h (fun h => ?_) (fun h => ?_))
    · refine AW_aload_n 0 (n := 0) rfl dX4_bound_77 rfl ?_
      refine AW_iload_n 1 (n := 1) rfl dX4_bound_78 rfl ?_
      refine AW_iload_n 2 (n := 2) rfl dX4_bound_79 rfl ?_
      refine AW_callVv (M := mX4_bound) (pc := 80) (As := [.int x1, .int x2]) (ρ1 := ρ) (st := []) dX4_bound_80 mdX4_boundNode rfl mlX4_116 imX4_boundNode seX4_boundNode (rcv_of (q := (RX4, TX4, 8)) (Nat.le_of_ble_eq_true rfl) (okn hρ (Nat.le_of_ble_eq_true rfl)) rfl rfl) ⟨rfl, npX4_boundNode⟩ (Nat.le_of_ble_eq_true rfl) (Nat.le_refl _) (Nat.le_refl _) rfl (CALLv.mono h (fun S1 _ h => ?_))
      refine AW_iinc 2 (v := x2 + (-1)) dX4_bound_83 rfl rfl (Nat.le_of_ble_eq_true rfl) rfl ?_
      refine AW_goto (tgt := 27) dX4_bound_86 rfl ?_
      exact AW.sub [1, 2, 0] rfl h
    · refine AW_aload_n 0 (n := 0) rfl dX4_bound_50 rfl ?_
      refine AW_get dX4_bound_51 flX4_13 (Nat.le_of_ble_eq_true rfl) (okn hρ (Nat.le_of_ble_eq_true rfl)) rfl (v := .ref 55) (fvR (okR hρ 40 rfl)) ?_
      refine AW_iload_n 1 (n := 1) rfl dX4_bound_54 rfl ?_
      have hr2 := rowOf hρ (k := 55) (b := 56) (n := 480) (i := x1) (Nat.le_of_ble_eq_true rfl) (Nat.le_of_ble_eq_true rfl) (List.mem_of_getElem? (i := 47) rfl) (List.mem_of_getElem? (i := 48) rfl) (List.mem_of_getElem? (i := 49) rfl) (List.mem_of_getElem? (i := 50) rfl) rfl rfl rfl rfl h.1
      refine AW_aaload dX4_bound_55 (Nat.le_of_ble_eq_true rfl) (okn hρ (Nat.le_of_ble_eq_true rfl)) rfl h.1 hr2.1 ?_
      have hl2 : x1.toNatClampNeg < 4 := Nat.not_le.mp fun q => h.1 (Or.inr q)
      replace h := h.2
      refine AW_iload_n 2 (n := 2) rfl dX4_bound_56 rfl ?_
      refine AW_iload_n 1 (n := 1) rfl dX4_bound_57 rfl ?_
      refine AW_callSl (M := mX4_bound) (pc := 58) (As := [.int x1]) (ρ1 := ρ) (st := [.int x2, .ref (56 + x1.toNatClampNeg)]) dX4_bound_58 mdX4_start mlX4_42 smX4_start ⟨rfl, npX4_start⟩ (Nat.le_of_ble_eq_true rfl) (Nat.le_refl _) (Nat.le_refl _) rfl (CALLl.mono h (fun v3 S3 _ h => ?_))
      refine AW_lastore dX4_bound_61 hr2.2.1 hr2.2.2.1 hr2.2.2.2 h.1 (hFr_56 _ hl2) (jx := x2.toNatClampNeg) rfl ?_
      replace h := h.2
      refine AW_aload_n 0 (n := 0) rfl dX4_bound_62 rfl ?_
      refine AW_get dX4_bound_63 flX4_18 (Nat.le_of_ble_eq_true rfl) (okn hρ (Nat.le_of_ble_eq_true rfl)) rfl (v := .ref 60) (fvR (okR hρ 41 rfl)) ?_
      refine AW_iload_n 1 (n := 1) rfl dX4_bound_66 rfl ?_
      have hr4 := rowOf hρ (k := 60) (b := 61) (n := 480) (i := x1) (Nat.le_of_ble_eq_true rfl) (Nat.le_of_ble_eq_true rfl) (List.mem_of_getElem? (i := 51) rfl) (List.mem_of_getElem? (i := 52) rfl) (List.mem_of_getElem? (i := 53) rfl) (List.mem_of_getElem? (i := 54) rfl) rfl rfl rfl rfl h.1
      refine AW_aaload dX4_bound_67 (Nat.le_of_ble_eq_true rfl) (okn hρ (Nat.le_of_ble_eq_true rfl)) rfl h.1 hr4.1 ?_
      have hl4 : x1.toNatClampNeg < 4 := Nat.not_le.mp fun q => h.1 (Or.inr q)
      replace h := h.2
      refine AW_iload_n 2 (n := 2) rfl dX4_bound_68 rfl ?_
      refine AW_iload_n 1 (n := 1) rfl dX4_bound_69 rfl ?_
      refine AW_callSl (M := mX4_bound) (pc := 70) (As := [.int x1]) (ρ1 := ρ) (st := [.int x2, .ref (61 + x1.toNatClampNeg)]) dX4_bound_70 mdX4_start mlX4_42 smX4_start ⟨rfl, npX4_start⟩ (Nat.le_of_ble_eq_true rfl) (Nat.le_refl _) (Nat.le_refl _) rfl (CALLl.mono h (fun v5 S5 _ h => ?_))
      refine AW_lastore dX4_bound_73 hr4.2.1 hr4.2.2.1 hr4.2.2.2 h.1 (hFr_61 _ hl4) (jx := x2.toNatClampNeg) rfl ?_
      replace h := h.2
      refine AW_goto (tgt := 83) dX4_bound_74 rfl ?_
      refine AW_iinc 2 (v := x2 + (-1)) dX4_bound_83 rfl rfl (Nat.le_of_ble_eq_true rfl) rfl ?_
      refine AW_goto (tgt := 27) dX4_bound_86 rfl ?_
      exact AW.sub [1, 2, 0] rfl h
set_option maxRecDepth 20000 in
theorem eX4_bound {g : GX} {Q : St → Prop} {d : Nat} {ρ : Rs} {S : St} (hρ : Ok ρ) {x1 : Int32} (hF : ∀ k ∈ ([65] : List Nat), gF g k) (h : vp_in x1 4 ∧ (if (S.1 65 x1.toNatClampNeg) = 0 then vp_in x1 4 ∧ (AW g ρ (QV Q) (d + 1) mX4_bound 27 [(0, .ref 54), (1, .int x1), (2, .int ((S.1 31 2) - 1))] [] ρ (setI S 65 x1.toNatClampNeg 1)) else Q S)) : CALLv g (d + 1) mX4_bound [.ref 54, .int x1] ρ ρ S Q := by
  refine CALL.of mdX4_bound.2.2.2.2 (Nat.le_of_ble_eq_true rfl) (Nat.le_refl _) (Nat.le_refl _) ?_
  show AW g ρ (QV Q) (d + 1) mX4_bound 0 [(0, .ref 54), (1, .int x1)] [] ρ S
  refine AW_aload_n 0 (n := 0) rfl dX4_bound_0 rfl ?_
  refine AW_get dX4_bound_1 flX4_21 (Nat.le_of_ble_eq_true rfl) (okn hρ (Nat.le_of_ble_eq_true rfl)) rfl (v := .ref 65) (fvR (okR hρ 42 rfl)) ?_
  refine AW_iload_n 1 (n := 1) rfl dX4_bound_4 rfl ?_
  refine AW_zaload dX4_bound_5 (Nat.le_of_ble_eq_true rfl) (okn hρ (Nat.le_of_ble_eq_true rfl)) rfl h.1 (v := S.1 65 x1.toNatClampNeg) rfl ?_
  replace h := h.2
  refine AW_if_eq dX4_bound_6 rfl (iteM h (fun h => ?_) (fun h => ?_))
  · refine AW_aload_n 0 (n := 0) rfl dX4_bound_10 rfl ?_
    refine AW_get dX4_bound_11 flX4_21 (Nat.le_of_ble_eq_true rfl) (okn hρ (Nat.le_of_ble_eq_true rfl)) rfl (v := .ref 65) (fvR (okR hρ 42 rfl)) ?_
    refine AW_iload_n 1 (n := 1) rfl dX4_bound_14 rfl ?_
    refine AW_iconst (v := 1) dX4_bound_15 rfl ?_
    refine AW_zastore dX4_bound_16 (Nat.le_of_ble_eq_true rfl) (okn hρ (Nat.le_of_ble_eq_true rfl)) rfl h.1 (Bz.nar Bz1) (hF _ (List.mem_of_getElem? (i := 0) rfl)) (jx := x1.toNatClampNeg) rfl ?_
    replace h := h.2
    refine AW_aload_n 0 (n := 0) rfl dX4_bound_17 rfl ?_
    refine AW_get dX4_bound_18 flX4_38 (Nat.le_of_ble_eq_true rfl) (okn hρ (Nat.le_of_ble_eq_true rfl)) rfl (v := .ref 31) (fvR (okR hρ 39 rfl)) ?_
    refine AW_get dX4_bound_21 flX4_110 (Nat.le_of_ble_eq_true rfl) (okn hρ (Nat.le_of_ble_eq_true rfl)) rfl (v := .int (S.1 31 2)) (fun _ => rfl) ?_
    refine AW_iconst (v := 1) dX4_bound_24 rfl ?_
    refine AW_isub dX4_bound_25 ?_
    refine AW_istore_n (n := 2) (i := 2) rfl dX4_bound_26 (Nat.le_of_ble_eq_true rfl) rfl ?_
    exact AW.sub [1, 2, 0] rfl h
  · exact AW_retv dX4_bound_9 rfl h
set_option maxRecDepth 20000 in
theorem eX4_boundNode_13 {g : GX} {Q : St → Prop} {d : Nat} {ρ : Rs} {S : St} (hρ : Ok ρ) {x1 : Int32} {x2 : Int32} {x3 : Int32} {x4 : Int32} (hFr_56 : ∀ i, i < 4 → gF g (56 + i)) (hFr_61 : ∀ i, i < 4 → gF g (61 + i)) (h : vp_in (x2 + 1) 481 ∧ (if (S.1 44 ((x2 + 1).toNatClampNeg)) ≤ x4 then Q S else vp_in x4 4800 ∧ (vp_in (S.1 46 x4.toNatClampNeg) 480 ∧ (if (S.2 47 ((S.1 46 x4.toNatClampNeg).toNatClampNeg)) ≤ 0 then AW g ρ (QV Q) (d + 1) mX4_boundNode 13 [(0, .ref 54), (1, .int x1), (2, .int x2), (3, .int x3), (4, .int (x4 + 1))] [] ρ S else vp_in x1 4 ∧ (vp_in x4 4800 ∧ (vp_in (S.1 45 x4.toNatClampNeg) 320 ∧ (vp_in x1 4 ∧ (vp_in (S.1 46 x4.toNatClampNeg) 480 ∧ (CALLl g d mX4_join [.int x1, .long (S.2 (38 + x1.toNatClampNeg) ((S.1 45 x4.toNatClampNeg).toNatClampNeg)), .long (S.2 (56 + x1.toNatClampNeg) ((S.1 46 x4.toNatClampNeg).toNatClampNeg))] ρ ρ S (fun v3 S3 => vp_in x1 4 ∧ (vp_in (S.1 46 x4.toNatClampNeg) 480 ∧ (CALLl g d mX4_join [.int x1, .long (S.2 (38 + x1.toNatClampNeg) ((S.1 45 x4.toNatClampNeg).toNatClampNeg)), .long (S3.2 (61 + x1.toNatClampNeg) ((S.1 46 x4.toNatClampNeg).toNatClampNeg))] ρ ρ S3 (fun v5 S5 => vp_in x1 4 ∧ (if x3 = 0 then vp_in x1 4 ∧ (vp_in x2 480 ∧ (vp_in x2 480 ∧ (vp_in x1 4 ∧ (if x3 = 0 then vp_in x1 4 ∧ (vp_in x2 480 ∧ (vp_in x2 480 ∧ (AW g ρ (QV Q) (d + 1) mX4_boundNode 13 [(0, .ref 54), (1, .int x1), (2, .int x2), (3, .int 0), (4, .int (x4 + 1))] [] ρ (setL (setL S5 (56 + x1.toNatClampNeg) x2.toNatClampNeg (if v3 < (S5.2 (56 + x1.toNatClampNeg) x2.toNatClampNeg) then v3 else (S5.2 (56 + x1.toNatClampNeg) x2.toNatClampNeg))) (61 + x1.toNatClampNeg) x2.toNatClampNeg (if v5 < ((setL S5 (56 + x1.toNatClampNeg) x2.toNatClampNeg (if v3 < (S5.2 (56 + x1.toNatClampNeg) x2.toNatClampNeg) then v3 else (S5.2 (56 + x1.toNatClampNeg) x2.toNatClampNeg))).2 (61 + x1.toNatClampNeg) x2.toNatClampNeg) then ((setL S5 (56 + x1.toNatClampNeg) x2.toNatClampNeg (if v3 < (S5.2 (56 + x1.toNatClampNeg) x2.toNatClampNeg) then v3 else (S5.2 (56 + x1.toNatClampNeg) x2.toNatClampNeg))).2 (61 + x1.toNatClampNeg) x2.toNatClampNeg) else v5))))) else vp_in x2 480 ∧ (AW g ρ (QV Q) (d + 1) mX4_boundNode 13 [(0, .ref 54), (1, .int x1), (2, .int x2), (3, .int 0), (4, .int (x4 + 1))] [] ρ (setL (setL S5 (56 + x1.toNatClampNeg) x2.toNatClampNeg (if v3 < (S5.2 (56 + x1.toNatClampNeg) x2.toNatClampNeg) then v3 else (S5.2 (56 + x1.toNatClampNeg) x2.toNatClampNeg))) (61 + x1.toNatClampNeg) x2.toNatClampNeg v5)))))) else vp_in x2 480 ∧ (vp_in x1 4 ∧ (if x3 = 0 then vp_in x1 4 ∧ (vp_in x2 480 ∧ (vp_in x2 480 ∧ (AW g ρ (QV Q) (d + 1) mX4_boundNode 13 [(0, .ref 54), (1, .int x1), (2, .int x2), (3, .int 0), (4, .int (x4 + 1))] [] ρ (setL (setL S5 (56 + x1.toNatClampNeg) x2.toNatClampNeg v3) (61 + x1.toNatClampNeg) x2.toNatClampNeg (if v5 < ((setL S5 (56 + x1.toNatClampNeg) x2.toNatClampNeg v3).2 (61 + x1.toNatClampNeg) x2.toNatClampNeg) then ((setL S5 (56 + x1.toNatClampNeg) x2.toNatClampNeg v3).2 (61 + x1.toNatClampNeg) x2.toNatClampNeg) else v5))))) else vp_in x2 480 ∧ (AW g ρ (QV Q) (d + 1) mX4_boundNode 13 [(0, .ref 54), (1, .int x1), (2, .int x2), (3, .int 0), (4, .int (x4 + 1))] [] ρ (setL (setL S5 (56 + x1.toNatClampNeg) x2.toNatClampNeg v3) (61 + x1.toNatClampNeg) x2.toNatClampNeg v5)))))))))))))))))) : AW g ρ (QV Q) (d + 1) mX4_boundNode 13 [(0, .ref 54), (1, .int x1), (2, .int x2), (3, .int x3), (4, .int x4)] [] ρ S := by
  refine AW_iload 4 dX4_boundNode_13 rfl ?_
  refine AW_aload_n 0 (n := 0) rfl dX4_boundNode_15 rfl ?_
  refine AW_get dX4_boundNode_16 flX4_38 (Nat.le_of_ble_eq_true rfl) (okn hρ (Nat.le_of_ble_eq_true rfl)) rfl (v := .ref 31) (fvR (okR hρ 39 rfl)) ?_
  refine AW_get dX4_boundNode_19 flX4_98 (Nat.le_of_ble_eq_true rfl) (okn hρ (Nat.le_of_ble_eq_true rfl)) rfl (v := .ref 44) (fvR (okR hρ 19 rfl)) ?_
  refine AW_iload_n 2 (n := 2) rfl dX4_boundNode_22 rfl ?_
  refine AW_iconst (v := 1) dX4_boundNode_23 rfl ?_
  refine AW_iadd dX4_boundNode_24 ?_
  refine AW_iaload dX4_boundNode_25 (Nat.le_of_ble_eq_true rfl) (okn hρ (Nat.le_of_ble_eq_true rfl)) rfl h.1 (v := S.1 44 ((x2 + 1).toNatClampNeg)) rfl ?_
  replace h := h.2
  refine AW_icmp_ge dX4_boundNode_26 rfl (iteM h (fun h => ?_) (fun h => ?_))
  · exact AW_retv dX4_boundNode_183 rfl h
  · refine AW_aload_n 0 (n := 0) rfl dX4_boundNode_29 rfl ?_
    refine AW_get dX4_boundNode_30 flX4_38 (Nat.le_of_ble_eq_true rfl) (okn hρ (Nat.le_of_ble_eq_true rfl)) rfl (v := .ref 31) (fvR (okR hρ 39 rfl)) ?_
    refine AW_get dX4_boundNode_33 flX4_79 (Nat.le_of_ble_eq_true rfl) (okn hρ (Nat.le_of_ble_eq_true rfl)) rfl (v := .ref 46) (fvR (okR hρ 21 rfl)) ?_
    refine AW_iload 4 dX4_boundNode_36 rfl ?_
    refine AW_iaload dX4_boundNode_38 (Nat.le_of_ble_eq_true rfl) (okn hρ (Nat.le_of_ble_eq_true rfl)) rfl h.1 (v := S.1 46 x4.toNatClampNeg) rfl ?_
    replace h := h.2
    refine AW_istore dX4_boundNode_39 (Nat.le_of_ble_eq_true rfl) rfl ?_
    refine AW_aload_n 1 (n := 0) rfl dX4_boundNode_41 rfl ?_
    refine AW_get dX4_boundNode_42 flX4_38 (Nat.le_of_ble_eq_true rfl) (okn hρ (Nat.le_of_ble_eq_true rfl)) rfl (v := .ref 31) (fvR (okR hρ 39 rfl)) ?_
    refine AW_get dX4_boundNode_45 flX4_101 (Nat.le_of_ble_eq_true rfl) (okn hρ (Nat.le_of_ble_eq_true rfl)) rfl (v := .ref 47) (fvR (okR hρ 22 rfl)) ?_
    refine AW_iload 0 dX4_boundNode_48 rfl ?_
    refine AW_laload dX4_boundNode_50 (Nat.le_of_ble_eq_true rfl) (okn hρ (Nat.le_of_ble_eq_true rfl)) rfl h.1 (v := S.2 47 ((S.1 46 x4.toNatClampNeg).toNatClampNeg)) rfl ?_
    replace h := h.2
    refine AW_lconst (v := 0) dX4_boundNode_51 rfl ?_
    refine AW_lc_le dX4_boundNode_52 dX4_boundNode_53 rfl (iteM h (fun h => ?_) (fun h => ?_))
    · refine AW_iinc 5 (v := x4 + 1) dX4_boundNode_177 rfl rfl (Nat.le_of_ble_eq_true rfl) rfl ?_
      refine AW_goto (tgt := 13) dX4_boundNode_180 rfl ?_
      exact AW.sub [2, 3, 4, 5, 0] rfl h
    · refine AW_aload_n 1 (n := 0) rfl dX4_boundNode_56 rfl ?_
      refine AW_get dX4_boundNode_57 flX4_38 (Nat.le_of_ble_eq_true rfl) (okn hρ (Nat.le_of_ble_eq_true rfl)) rfl (v := .ref 31) (fvR (okR hρ 39 rfl)) ?_
      refine AW_get dX4_boundNode_60 flX4_62 (Nat.le_of_ble_eq_true rfl) (okn hρ (Nat.le_of_ble_eq_true rfl)) rfl (v := .ref 32) (fvR (okR hρ 17 rfl)) ?_
      refine AW_get dX4_boundNode_63 flX4_66 (Nat.le_of_ble_eq_true rfl) (okn hρ (Nat.le_of_ble_eq_true rfl)) rfl (v := .ref 37) (fvR (okR hρ 33 rfl)) ?_
      refine AW_iload_n 2 (n := 1) rfl dX4_boundNode_66 rfl ?_
      have hr1 := rowOf hρ (k := 37) (b := 38) (n := 320) (i := x1) (Nat.le_of_ble_eq_true rfl) (Nat.le_of_ble_eq_true rfl) (List.mem_of_getElem? (i := 35) rfl) (List.mem_of_getElem? (i := 36) rfl) (List.mem_of_getElem? (i := 37) rfl) (List.mem_of_getElem? (i := 38) rfl) rfl rfl rfl rfl h.1
      refine AW_aaload dX4_boundNode_67 (Nat.le_of_ble_eq_true rfl) (okn hρ (Nat.le_of_ble_eq_true rfl)) rfl h.1 hr1.1 ?_
      have hl1 : x1.toNatClampNeg < 4 := Nat.not_le.mp fun q => h.1 (Or.inr q)
      replace h := h.2
      refine AW_aload_n 1 (n := 0) rfl dX4_boundNode_68 rfl ?_
      refine AW_get dX4_boundNode_69 flX4_38 (Nat.le_of_ble_eq_true rfl) (okn hρ (Nat.le_of_ble_eq_true rfl)) rfl (v := .ref 31) (fvR (okR hρ 39 rfl)) ?_
      refine AW_get dX4_boundNode_72 flX4_71 (Nat.le_of_ble_eq_true rfl) (okn hρ (Nat.le_of_ble_eq_true rfl)) rfl (v := .ref 45) (fvR (okR hρ 20 rfl)) ?_
      refine AW_iload 5 dX4_boundNode_75 rfl ?_
      refine AW_iaload dX4_boundNode_77 (Nat.le_of_ble_eq_true rfl) (okn hρ (Nat.le_of_ble_eq_true rfl)) rfl h.1 (v := S.1 45 x4.toNatClampNeg) rfl ?_
      replace h := h.2
      refine AW_laload dX4_boundNode_78 hr1.2.1 hr1.2.2.1 hr1.2.2.2 h.1 (v := S.2 (38 + x1.toNatClampNeg) ((S.1 45 x4.toNatClampNeg).toNatClampNeg)) rfl ?_
      replace h := h.2
      refine AW_lstore dX4_boundNode_79 (Nat.le_of_ble_eq_true rfl) rfl ?_
      refine AW_iload_n 3 (n := 1) rfl dX4_boundNode_81 rfl ?_
      refine AW_lload 0 dX4_boundNode_82 rfl ?_
      refine AW_aload_n 2 (n := 0) rfl dX4_boundNode_84 rfl ?_
      refine AW_get dX4_boundNode_85 flX4_13 (Nat.le_of_ble_eq_true rfl) (okn hρ (Nat.le_of_ble_eq_true rfl)) rfl (v := .ref 55) (fvR (okR hρ 40 rfl)) ?_
      refine AW_iload_n 3 (n := 1) rfl dX4_boundNode_88 rfl ?_
      have hr2 := rowOf hρ (k := 55) (b := 56) (n := 480) (i := x1) (Nat.le_of_ble_eq_true rfl) (Nat.le_of_ble_eq_true rfl) (List.mem_of_getElem? (i := 47) rfl) (List.mem_of_getElem? (i := 48) rfl) (List.mem_of_getElem? (i := 49) rfl) (List.mem_of_getElem? (i := 50) rfl) rfl rfl rfl rfl h.1
      refine AW_aaload dX4_boundNode_89 (Nat.le_of_ble_eq_true rfl) (okn hρ (Nat.le_of_ble_eq_true rfl)) rfl h.1 hr2.1 ?_
      have hl2 : x1.toNatClampNeg < 4 := Nat.not_le.mp fun q => h.1 (Or.inr q)
      replace h := h.2
      refine AW_iload 1 dX4_boundNode_90 rfl ?_
      refine AW_laload dX4_boundNode_92 hr2.2.1 hr2.2.2.1 hr2.2.2.2 h.1 (v := S.2 (56 + x1.toNatClampNeg) ((S.1 46 x4.toNatClampNeg).toNatClampNeg)) rfl ?_
      replace h := h.2
      refine AW_callSl (M := mX4_boundNode) (pc := 93) (As := [.int x1, .long (S.2 (38 + x1.toNatClampNeg) ((S.1 45 x4.toNatClampNeg).toNatClampNeg)), .long (S.2 (56 + x1.toNatClampNeg) ((S.1 46 x4.toNatClampNeg).toNatClampNeg))]) (ρ1 := ρ) (st := []) dX4_boundNode_93 mdX4_join mlX4_75 smX4_join ⟨rfl, npX4_join⟩ (Nat.le_of_ble_eq_true rfl) (Nat.le_refl _) (Nat.le_refl _) rfl (CALLl.mono h (fun v3 S3 _ h => ?_))
      refine AW_lstore dX4_boundNode_96 (Nat.le_of_ble_eq_true rfl) rfl ?_
      refine AW_iload_n 4 (n := 1) rfl dX4_boundNode_98 rfl ?_
      refine AW_lload 1 dX4_boundNode_99 rfl ?_
      refine AW_aload_n 3 (n := 0) rfl dX4_boundNode_101 rfl ?_
      refine AW_get dX4_boundNode_102 flX4_18 (Nat.le_of_ble_eq_true rfl) (okn hρ (Nat.le_of_ble_eq_true rfl)) rfl (v := .ref 60) (fvR (okR hρ 41 rfl)) ?_
      refine AW_iload_n 4 (n := 1) rfl dX4_boundNode_105 rfl ?_
      have hr4 := rowOf hρ (k := 60) (b := 61) (n := 480) (i := x1) (Nat.le_of_ble_eq_true rfl) (Nat.le_of_ble_eq_true rfl) (List.mem_of_getElem? (i := 51) rfl) (List.mem_of_getElem? (i := 52) rfl) (List.mem_of_getElem? (i := 53) rfl) (List.mem_of_getElem? (i := 54) rfl) rfl rfl rfl rfl h.1
      refine AW_aaload dX4_boundNode_106 (Nat.le_of_ble_eq_true rfl) (okn hρ (Nat.le_of_ble_eq_true rfl)) rfl h.1 hr4.1 ?_
      have hl4 : x1.toNatClampNeg < 4 := Nat.not_le.mp fun q => h.1 (Or.inr q)
      replace h := h.2
      refine AW_iload 2 dX4_boundNode_107 rfl ?_
      refine AW_laload dX4_boundNode_109 hr4.2.1 hr4.2.2.1 hr4.2.2.2 h.1 (v := S3.2 (61 + x1.toNatClampNeg) ((S.1 46 x4.toNatClampNeg).toNatClampNeg)) rfl ?_
      replace h := h.2
      refine AW_callSl (M := mX4_boundNode) (pc := 110) (As := [.int x1, .long (S.2 (38 + x1.toNatClampNeg) ((S.1 45 x4.toNatClampNeg).toNatClampNeg)), .long (S3.2 (61 + x1.toNatClampNeg) ((S.1 46 x4.toNatClampNeg).toNatClampNeg))]) (ρ1 := ρ) (st := []) dX4_boundNode_110 mdX4_join mlX4_75 smX4_join ⟨rfl, npX4_join⟩ (Nat.le_of_ble_eq_true rfl) (Nat.le_refl _) (Nat.le_refl _) rfl (CALLl.mono h (fun v5 S5 _ h => ?_))
      refine AW_lstore dX4_boundNode_113 (Nat.le_of_ble_eq_true rfl) rfl ?_
      refine AW_aload_n 4 (n := 0) rfl dX4_boundNode_115 rfl ?_
      refine AW_get dX4_boundNode_116 flX4_13 (Nat.le_of_ble_eq_true rfl) (okn hρ (Nat.le_of_ble_eq_true rfl)) rfl (v := .ref 55) (fvR (okR hρ 40 rfl)) ?_
      refine AW_iload_n 5 (n := 1) rfl dX4_boundNode_119 rfl ?_
      have hr6 := rowOf hρ (k := 55) (b := 56) (n := 480) (i := x1) (Nat.le_of_ble_eq_true rfl) (Nat.le_of_ble_eq_true rfl) (List.mem_of_getElem? (i := 47) rfl) (List.mem_of_getElem? (i := 48) rfl) (List.mem_of_getElem? (i := 49) rfl) (List.mem_of_getElem? (i := 50) rfl) rfl rfl rfl rfl h.1
      refine AW_aaload dX4_boundNode_120 (Nat.le_of_ble_eq_true rfl) (okn hρ (Nat.le_of_ble_eq_true rfl)) rfl h.1 hr6.1 ?_
      have hl6 : x1.toNatClampNeg < 4 := Nat.not_le.mp fun q => h.1 (Or.inr q)
      replace h := h.2
      refine AW_iload_n 6 (n := 2) rfl dX4_boundNode_121 rfl ?_
      refine AW_iload_n 7 (n := 3) rfl dX4_boundNode_122 rfl ?_
      refine AW_if_eq dX4_boundNode_123 rfl (iteM h (fun h => ?_) (fun h => ?_))
      · refine AW_aload_n 4 (n := 0) rfl dX4_boundNode_131 rfl ?_
        refine AW_get dX4_boundNode_132 flX4_13 (Nat.le_of_ble_eq_true rfl) (okn hρ (Nat.le_of_ble_eq_true rfl)) rfl (v := .ref 55) (fvR (okR hρ 40 rfl)) ?_
        refine AW_iload_n 5 (n := 1) rfl dX4_boundNode_135 rfl ?_
        have hr7 := rowOf hρ (k := 55) (b := 56) (n := 480) (i := x1) (Nat.le_of_ble_eq_true rfl) (Nat.le_of_ble_eq_true rfl) (List.mem_of_getElem? (i := 47) rfl) (List.mem_of_getElem? (i := 48) rfl) (List.mem_of_getElem? (i := 49) rfl) (List.mem_of_getElem? (i := 50) rfl) rfl rfl rfl rfl h.1
        refine AW_aaload dX4_boundNode_136 (Nat.le_of_ble_eq_true rfl) (okn hρ (Nat.le_of_ble_eq_true rfl)) rfl h.1 hr7.1 ?_
        have hl7 : x1.toNatClampNeg < 4 := Nat.not_le.mp fun q => h.1 (Or.inr q)
        replace h := h.2
        refine AW_iload_n 6 (n := 2) rfl dX4_boundNode_137 rfl ?_
        refine AW_laload dX4_boundNode_138 hr7.2.1 hr7.2.2.1 hr7.2.2.2 h.1 (v := S5.2 (56 + x1.toNatClampNeg) x2.toNatClampNeg) rfl ?_
        replace h := h.2
        refine AW_lload 1 dX4_boundNode_139 rfl ?_
        refine AW_mminL (M := mX4_boundNode) (pc := 141) dX4_boundNode_141 mlX4_120 wmminLS wMath wmminLC (Nat.le_of_ble_eq_true rfl) ?_ (Nat.le_refl _) (Nat.le_refl _)
        refine AW_lastore dX4_boundNode_144 hr6.2.1 hr6.2.2.1 hr6.2.2.2 h.1 (hFr_56 _ hl6) (jx := x2.toNatClampNeg) rfl ?_
        replace h := h.2
        refine AW_aload_n 4 (n := 0) rfl dX4_boundNode_145 rfl ?_
        refine AW_get dX4_boundNode_146 flX4_18 (Nat.le_of_ble_eq_true rfl) (okn hρ (Nat.le_of_ble_eq_true rfl)) rfl (v := .ref 60) (fvR (okR hρ 41 rfl)) ?_
        refine AW_iload_n 5 (n := 1) rfl dX4_boundNode_149 rfl ?_
        have hr8 := rowOf hρ (k := 60) (b := 61) (n := 480) (i := x1) (Nat.le_of_ble_eq_true rfl) (Nat.le_of_ble_eq_true rfl) (List.mem_of_getElem? (i := 51) rfl) (List.mem_of_getElem? (i := 52) rfl) (List.mem_of_getElem? (i := 53) rfl) (List.mem_of_getElem? (i := 54) rfl) rfl rfl rfl rfl h.1
        refine AW_aaload dX4_boundNode_150 (Nat.le_of_ble_eq_true rfl) (okn hρ (Nat.le_of_ble_eq_true rfl)) rfl h.1 hr8.1 ?_
        have hl8 : x1.toNatClampNeg < 4 := Nat.not_le.mp fun q => h.1 (Or.inr q)
        replace h := h.2
        refine AW_iload_n 6 (n := 2) rfl dX4_boundNode_151 rfl ?_
        refine AW_iload_n 7 (n := 3) rfl dX4_boundNode_152 rfl ?_
        refine AW_if_eq dX4_boundNode_153 rfl (iteM h (fun h => ?_) (fun h => ?_))
        · refine AW_aload_n 4 (n := 0) rfl dX4_boundNode_161 rfl ?_
          refine AW_get dX4_boundNode_162 flX4_18 (Nat.le_of_ble_eq_true rfl) (okn hρ (Nat.le_of_ble_eq_true rfl)) rfl (v := .ref 60) (fvR (okR hρ 41 rfl)) ?_
          refine AW_iload_n 5 (n := 1) rfl dX4_boundNode_165 rfl ?_
          have hr9 := rowOf hρ (k := 60) (b := 61) (n := 480) (i := x1) (Nat.le_of_ble_eq_true rfl) (Nat.le_of_ble_eq_true rfl) (List.mem_of_getElem? (i := 51) rfl) (List.mem_of_getElem? (i := 52) rfl) (List.mem_of_getElem? (i := 53) rfl) (List.mem_of_getElem? (i := 54) rfl) rfl rfl rfl rfl h.1
          refine AW_aaload dX4_boundNode_166 (Nat.le_of_ble_eq_true rfl) (okn hρ (Nat.le_of_ble_eq_true rfl)) rfl h.1 hr9.1 ?_
          have hl9 : x1.toNatClampNeg < 4 := Nat.not_le.mp fun q => h.1 (Or.inr q)
          replace h := h.2
          refine AW_iload_n 6 (n := 2) rfl dX4_boundNode_167 rfl ?_
          refine AW_laload dX4_boundNode_168 hr9.2.1 hr9.2.2.1 hr9.2.2.2 h.1 (v := (setL S5 (56 + x1.toNatClampNeg) x2.toNatClampNeg (if v3 < (S5.2 (56 + x1.toNatClampNeg) x2.toNatClampNeg) then v3 else (S5.2 (56 + x1.toNatClampNeg) x2.toNatClampNeg))).2 (61 + x1.toNatClampNeg) x2.toNatClampNeg) rfl ?_
          replace h := h.2
          refine AW_lload 0 dX4_boundNode_169 rfl ?_
          refine AW_mmaxL (M := mX4_boundNode) (pc := 171) dX4_boundNode_171 mlX4_104 wmmaxLS wMath wmmaxLC (Nat.le_of_ble_eq_true rfl) ?_ (Nat.le_refl _) (Nat.le_refl _)
          refine AW_lastore dX4_boundNode_174 hr8.2.1 hr8.2.2.1 hr8.2.2.2 h.1 (hFr_61 _ hl8) (jx := x2.toNatClampNeg) rfl ?_
          replace h := h.2
          refine AW_iconst (v := 0) dX4_boundNode_175 rfl ?_
          refine AW_istore_n (n := 3) (i := 3) rfl dX4_boundNode_176 (Nat.le_of_ble_eq_true rfl) rfl ?_
          refine AW_iinc 8 (v := x4 + 1) dX4_boundNode_177 rfl rfl (Nat.le_of_ble_eq_true rfl) rfl ?_
          refine AW_goto (tgt := 13) dX4_boundNode_180 rfl ?_
          exact AW.sub [6, 7, 8, 1, 0] rfl h
        · refine AW_lload 0 dX4_boundNode_156 rfl ?_
          refine AW_goto (tgt := 174) dX4_boundNode_158 rfl ?_
          refine AW_lastore dX4_boundNode_174 hr8.2.1 hr8.2.2.1 hr8.2.2.2 h.1 (hFr_61 _ hl8) (jx := x2.toNatClampNeg) rfl ?_
          replace h := h.2
          refine AW_iconst (v := 0) dX4_boundNode_175 rfl ?_
          refine AW_istore_n (n := 3) (i := 3) rfl dX4_boundNode_176 (Nat.le_of_ble_eq_true rfl) rfl ?_
          refine AW_iinc 8 (v := x4 + 1) dX4_boundNode_177 rfl rfl (Nat.le_of_ble_eq_true rfl) rfl ?_
          refine AW_goto (tgt := 13) dX4_boundNode_180 rfl ?_
          exact AW.sub [6, 7, 8, 1, 0] rfl h
      · refine AW_lload 1 dX4_boundNode_126 rfl ?_
        refine AW_goto (tgt := 144) dX4_boundNode_128 rfl ?_
        refine AW_lastore dX4_boundNode_144 hr6.2.1 hr6.2.2.1 hr6.2.2.2 h.1 (hFr_56 _ hl6) (jx := x2.toNatClampNeg) rfl ?_
        replace h := h.2
        refine AW_aload_n 4 (n := 0) rfl dX4_boundNode_145 rfl ?_
        refine AW_get dX4_boundNode_146 flX4_18 (Nat.le_of_ble_eq_true rfl) (okn hρ (Nat.le_of_ble_eq_true rfl)) rfl (v := .ref 60) (fvR (okR hρ 41 rfl)) ?_
        refine AW_iload_n 5 (n := 1) rfl dX4_boundNode_149 rfl ?_
        have hr10 := rowOf hρ (k := 60) (b := 61) (n := 480) (i := x1) (Nat.le_of_ble_eq_true rfl) (Nat.le_of_ble_eq_true rfl) (List.mem_of_getElem? (i := 51) rfl) (List.mem_of_getElem? (i := 52) rfl) (List.mem_of_getElem? (i := 53) rfl) (List.mem_of_getElem? (i := 54) rfl) rfl rfl rfl rfl h.1
        refine AW_aaload dX4_boundNode_150 (Nat.le_of_ble_eq_true rfl) (okn hρ (Nat.le_of_ble_eq_true rfl)) rfl h.1 hr10.1 ?_
        have hl10 : x1.toNatClampNeg < 4 := Nat.not_le.mp fun q => h.1 (Or.inr q)
        replace h := h.2
        refine AW_iload_n 6 (n := 2) rfl dX4_boundNode_151 rfl ?_
        refine AW_iload_n 7 (n := 3) rfl dX4_boundNode_152 rfl ?_
        refine AW_if_eq dX4_boundNode_153 rfl (iteM h (fun h => ?_) (fun h => ?_))
        · refine AW_aload_n 4 (n := 0) rfl dX4_boundNode_161 rfl ?_
          refine AW_get dX4_boundNode_162 flX4_18 (Nat.le_of_ble_eq_true rfl) (okn hρ (Nat.le_of_ble_eq_true rfl)) rfl (v := .ref 60) (fvR (okR hρ 41 rfl)) ?_
          refine AW_iload_n 5 (n := 1) rfl dX4_boundNode_165 rfl ?_
          have hr11 := rowOf hρ (k := 60) (b := 61) (n := 480) (i := x1) (Nat.le_of_ble_eq_true rfl) (Nat.le_of_ble_eq_true rfl) (List.mem_of_getElem? (i := 51) rfl) (List.mem_of_getElem? (i := 52) rfl) (List.mem_of_getElem? (i := 53) rfl) (List.mem_of_getElem? (i := 54) rfl) rfl rfl rfl rfl h.1
          refine AW_aaload dX4_boundNode_166 (Nat.le_of_ble_eq_true rfl) (okn hρ (Nat.le_of_ble_eq_true rfl)) rfl h.1 hr11.1 ?_
          have hl11 : x1.toNatClampNeg < 4 := Nat.not_le.mp fun q => h.1 (Or.inr q)
          replace h := h.2
          refine AW_iload_n 6 (n := 2) rfl dX4_boundNode_167 rfl ?_
          refine AW_laload dX4_boundNode_168 hr11.2.1 hr11.2.2.1 hr11.2.2.2 h.1 (v := (setL S5 (56 + x1.toNatClampNeg) x2.toNatClampNeg v3).2 (61 + x1.toNatClampNeg) x2.toNatClampNeg) rfl ?_
          replace h := h.2
          refine AW_lload 0 dX4_boundNode_169 rfl ?_
          refine AW_mmaxL (M := mX4_boundNode) (pc := 171) dX4_boundNode_171 mlX4_104 wmmaxLS wMath wmmaxLC (Nat.le_of_ble_eq_true rfl) ?_ (Nat.le_refl _) (Nat.le_refl _)
          refine AW_lastore dX4_boundNode_174 hr10.2.1 hr10.2.2.1 hr10.2.2.2 h.1 (hFr_61 _ hl10) (jx := x2.toNatClampNeg) rfl ?_
          replace h := h.2
          refine AW_iconst (v := 0) dX4_boundNode_175 rfl ?_
          refine AW_istore_n (n := 3) (i := 3) rfl dX4_boundNode_176 (Nat.le_of_ble_eq_true rfl) rfl ?_
          refine AW_iinc 8 (v := x4 + 1) dX4_boundNode_177 rfl rfl (Nat.le_of_ble_eq_true rfl) rfl ?_
          refine AW_goto (tgt := 13) dX4_boundNode_180 rfl ?_
          exact AW.sub [6, 7, 8, 1, 0] rfl h
        · refine AW_lload 0 dX4_boundNode_156 rfl ?_
          refine AW_goto (tgt := 174) dX4_boundNode_158 rfl ?_
          refine AW_lastore dX4_boundNode_174 hr10.2.1 hr10.2.2.1 hr10.2.2.2 h.1 (hFr_61 _ hl10) (jx := x2.toNatClampNeg) rfl ?_
          replace h := h.2
          refine AW_iconst (v := 0) dX4_boundNode_175 rfl ?_
          refine AW_istore_n (n := 3) (i := 3) rfl dX4_boundNode_176 (Nat.le_of_ble_eq_true rfl) rfl ?_
          refine AW_iinc 8 (v := x4 + 1) dX4_boundNode_177 rfl rfl (Nat.le_of_ble_eq_true rfl) rfl ?_
          refine AW_goto (tgt := 13) dX4_boundNode_180 rfl ?_
          exact AW.sub [6, 7, 8, 1, 0] rfl h
set_option maxRecDepth 20000 in
theorem eX4_boundNode {g : GX} {Q : St → Prop} {d : Nat} {ρ : Rs} {S : St} (hρ : Ok ρ) {x1 : Int32} {x2 : Int32} (h : vp_in x2 481 ∧ (AW g ρ (QV Q) (d + 1) mX4_boundNode 13 [(0, .ref 54), (1, .int x1), (2, .int x2), (3, .int 1), (4, .int (S.1 44 x2.toNatClampNeg))] [] ρ S)) : CALLv g (d + 1) mX4_boundNode [.ref 54, .int x1, .int x2] ρ ρ S Q := by
  refine CALL.of mdX4_boundNode.2.2.2.2 (Nat.le_of_ble_eq_true rfl) (Nat.le_refl _) (Nat.le_refl _) ?_
  show AW g ρ (QV Q) (d + 1) mX4_boundNode 0 [(0, .ref 54), (1, .int x1), (2, .int x2)] [] ρ S
  refine AW_iconst (v := 1) dX4_boundNode_0 rfl ?_
  refine AW_istore_n (n := 3) (i := 3) rfl dX4_boundNode_1 (Nat.le_of_ble_eq_true rfl) rfl ?_
  refine AW_aload_n 1 (n := 0) rfl dX4_boundNode_2 rfl ?_
  refine AW_get dX4_boundNode_3 flX4_38 (Nat.le_of_ble_eq_true rfl) (okn hρ (Nat.le_of_ble_eq_true rfl)) rfl (v := .ref 31) (fvR (okR hρ 39 rfl)) ?_
  refine AW_get dX4_boundNode_6 flX4_98 (Nat.le_of_ble_eq_true rfl) (okn hρ (Nat.le_of_ble_eq_true rfl)) rfl (v := .ref 44) (fvR (okR hρ 19 rfl)) ?_
  refine AW_iload_n 3 (n := 2) rfl dX4_boundNode_9 rfl ?_
  refine AW_iaload dX4_boundNode_10 (Nat.le_of_ble_eq_true rfl) (okn hρ (Nat.le_of_ble_eq_true rfl)) rfl h.1 (v := S.1 44 x2.toNatClampNeg) rfl ?_
  replace h := h.2
  refine AW_istore dX4_boundNode_11 (Nat.le_of_ble_eq_true rfl) rfl ?_
  exact AW.sub [2, 3, 4, 1, 0] rfl h
set_option maxRecDepth 20000 in
theorem eX4_gatherAll_21 {g : GX} {Q : St → Prop} {d : Nat} {ρ : Rs} {S : St} (hρ : Ok ρ) {x1 : Int32} {x2 : Int64} (hF : ∀ k ∈ ([66, 67, 68, 69] : List Nat), gF g k) (h : CALLv g d mX4_bound [.ref 54, .int x1] ρ ρ S (fun S1 => vp_in x1 4 ∧ (vp_in x1 4 ∧ (vp_in x1 4 ∧ (vp_in x1 4 ∧ (CALLl g d mX4_start [.int x1] ρ ρ (setL (setL (setL (setI S1 66 x1.toNatClampNeg 1) 67 x1.toNatClampNeg x2) 68 x1.toNatClampNeg 0) 69 x1.toNatClampNeg 0) (fun v2 S2 => CALLv g d mX4_gather [.ref 54, .int x1, .int 0, .int 0, .long v2, .long 1] ρ ρ S2 (fun S3 => Q S3)))))))) : AW g ρ (QV Q) (d + 1) mX4_gatherAll 21 [(0, .ref 54), (1, .int x1), (2, .long x2)] [] ρ S := by
  refine AW_aload_n 0 (n := 0) rfl dX4_gatherAll_21 rfl ?_
  refine AW_iload_n 1 (n := 1) rfl dX4_gatherAll_22 rfl ?_
  refine AW_callVv (M := mX4_gatherAll) (pc := 23) (As := [.int x1]) (ρ1 := ρ) (st := []) dX4_gatherAll_23 mdX4_bound rfl mlX4_90 imX4_bound seX4_bound (rcv_of (q := (RX4, TX4, 8)) (Nat.le_of_ble_eq_true rfl) (okn hρ (Nat.le_of_ble_eq_true rfl)) rfl rfl) ⟨rfl, npX4_bound⟩ (Nat.le_of_ble_eq_true rfl) (Nat.le_refl _) (Nat.le_refl _) rfl (CALLv.mono h (fun S1 _ h => ?_))
  refine AW_aload_n 0 (n := 0) rfl dX4_gatherAll_26 rfl ?_
  refine AW_get dX4_gatherAll_27 flX4_25 (Nat.le_of_ble_eq_true rfl) (okn hρ (Nat.le_of_ble_eq_true rfl)) rfl (v := .ref 66) (fvR (okR hρ 43 rfl)) ?_
  refine AW_iload_n 1 (n := 1) rfl dX4_gatherAll_30 rfl ?_
  refine AW_iconst (v := 1) dX4_gatherAll_31 rfl ?_
  refine AW_zastore dX4_gatherAll_32 (Nat.le_of_ble_eq_true rfl) (okn hρ (Nat.le_of_ble_eq_true rfl)) rfl h.1 (Bz.nar Bz1) (hF _ (List.mem_of_getElem? (i := 0) rfl)) (jx := x1.toNatClampNeg) rfl ?_
  replace h := h.2
  refine AW_aload_n 0 (n := 0) rfl dX4_gatherAll_33 rfl ?_
  refine AW_get dX4_gatherAll_34 flX4_28 (Nat.le_of_ble_eq_true rfl) (okn hρ (Nat.le_of_ble_eq_true rfl)) rfl (v := .ref 67) (fvR (okR hρ 44 rfl)) ?_
  refine AW_iload_n 1 (n := 1) rfl dX4_gatherAll_37 rfl ?_
  refine AW_lload_n 2 (n := 2) rfl dX4_gatherAll_38 rfl ?_
  refine AW_lastore dX4_gatherAll_39 (Nat.le_of_ble_eq_true rfl) (okn hρ (Nat.le_of_ble_eq_true rfl)) rfl h.1 (hF _ (List.mem_of_getElem? (i := 1) rfl)) (jx := x1.toNatClampNeg) rfl ?_
  replace h := h.2
  refine AW_aload_n 0 (n := 0) rfl dX4_gatherAll_40 rfl ?_
  refine AW_get dX4_gatherAll_41 flX4_32 (Nat.le_of_ble_eq_true rfl) (okn hρ (Nat.le_of_ble_eq_true rfl)) rfl (v := .ref 68) (fvR (okR hρ 45 rfl)) ?_
  refine AW_iload_n 1 (n := 1) rfl dX4_gatherAll_44 rfl ?_
  refine AW_lconst (v := 0) dX4_gatherAll_45 rfl ?_
  refine AW_lastore dX4_gatherAll_46 (Nat.le_of_ble_eq_true rfl) (okn hρ (Nat.le_of_ble_eq_true rfl)) rfl h.1 (hF _ (List.mem_of_getElem? (i := 2) rfl)) (jx := x1.toNatClampNeg) rfl ?_
  replace h := h.2
  refine AW_aload_n 0 (n := 0) rfl dX4_gatherAll_47 rfl ?_
  refine AW_get dX4_gatherAll_48 flX4_35 (Nat.le_of_ble_eq_true rfl) (okn hρ (Nat.le_of_ble_eq_true rfl)) rfl (v := .ref 69) (fvR (okR hρ 46 rfl)) ?_
  refine AW_iload_n 1 (n := 1) rfl dX4_gatherAll_51 rfl ?_
  refine AW_lconst (v := 0) dX4_gatherAll_52 rfl ?_
  refine AW_lastore dX4_gatherAll_53 (Nat.le_of_ble_eq_true rfl) (okn hρ (Nat.le_of_ble_eq_true rfl)) rfl h.1 (hF _ (List.mem_of_getElem? (i := 3) rfl)) (jx := x1.toNatClampNeg) rfl ?_
  replace h := h.2
  refine AW_aload_n 0 (n := 0) rfl dX4_gatherAll_54 rfl ?_
  refine AW_iload_n 1 (n := 1) rfl dX4_gatherAll_55 rfl ?_
  refine AW_iconst (v := 0) dX4_gatherAll_56 rfl ?_
  refine AW_iconst (v := 0) dX4_gatherAll_57 rfl ?_
  refine AW_iload_n 1 (n := 1) rfl dX4_gatherAll_58 rfl ?_
  refine AW_callSl (M := mX4_gatherAll) (pc := 59) (As := [.int x1]) (ρ1 := ρ) (st := [.int 0, .int 0, .int x1, .ref 54]) dX4_gatherAll_59 mdX4_start mlX4_42 smX4_start ⟨rfl, npX4_start⟩ (Nat.le_of_ble_eq_true rfl) (Nat.le_refl _) (Nat.le_refl _) rfl (CALLl.mono h (fun v2 S2 _ h => ?_))
  refine AW_lconst (v := 1) dX4_gatherAll_62 rfl ?_
  refine AW_callSv (M := mX4_gatherAll) (pc := 63) (As := [.ref 54, .int x1, .int 0, .int 0, .long v2, .long 1]) (ρ1 := ρ) (st := []) dX4_gatherAll_63 mdX4_gather mlX4_123 smX4_gather ⟨rfl, npX4_gather⟩ (Nat.le_of_ble_eq_true rfl) (Nat.le_refl _) (Nat.le_refl _) rfl (CALLv.mono h (fun S3 _ h => ?_))
  exact AW_retv dX4_gatherAll_66 rfl h
set_option maxRecDepth 20000 in
theorem eX4_gatherAll {g : GX} {Q : St → Prop} {d : Nat} {ρ : Rs} {S : St} (hρ : Ok ρ) {x1 : Int32} {x2 : Int64} (h : vp_in x1 4 ∧ (if (S.1 66 x1.toNatClampNeg) = 0 then AW g ρ (QV Q) (d + 1) mX4_gatherAll 21 [(0, .ref 54), (1, .int x1), (2, .long x2)] [] ρ S else vp_in x1 4 ∧ (if (S.2 67 x1.toNatClampNeg) = x2 then Q S else AW g ρ (QV Q) (d + 1) mX4_gatherAll 21 [(0, .ref 54), (1, .int x1), (2, .long x2)] [] ρ S))) : CALLv g (d + 1) mX4_gatherAll [.ref 54, .int x1, .long x2] ρ ρ S Q := by
  refine CALL.of mdX4_gatherAll.2.2.2.2 (Nat.le_of_ble_eq_true rfl) (Nat.le_refl _) (Nat.le_refl _) ?_
  show AW g ρ (QV Q) (d + 1) mX4_gatherAll 0 [(0, .ref 54), (1, .int x1), (2, .long x2)] [] ρ S
  refine AW_aload_n 0 (n := 0) rfl dX4_gatherAll_0 rfl ?_
  refine AW_get dX4_gatherAll_1 flX4_25 (Nat.le_of_ble_eq_true rfl) (okn hρ (Nat.le_of_ble_eq_true rfl)) rfl (v := .ref 66) (fvR (okR hρ 43 rfl)) ?_
  refine AW_iload_n 1 (n := 1) rfl dX4_gatherAll_4 rfl ?_
  refine AW_zaload dX4_gatherAll_5 (Nat.le_of_ble_eq_true rfl) (okn hρ (Nat.le_of_ble_eq_true rfl)) rfl h.1 (v := S.1 66 x1.toNatClampNeg) rfl ?_
  replace h := h.2
  refine AW_if_eq dX4_gatherAll_6 rfl (iteM h (fun h => ?_) (fun h => ?_))
  · exact AW.sub [0, 1, 2] rfl h
  · refine AW_aload_n 0 (n := 0) rfl dX4_gatherAll_9 rfl ?_
    refine AW_get dX4_gatherAll_10 flX4_28 (Nat.le_of_ble_eq_true rfl) (okn hρ (Nat.le_of_ble_eq_true rfl)) rfl (v := .ref 67) (fvR (okR hρ 44 rfl)) ?_
    refine AW_iload_n 1 (n := 1) rfl dX4_gatherAll_13 rfl ?_
    refine AW_laload dX4_gatherAll_14 (Nat.le_of_ble_eq_true rfl) (okn hρ (Nat.le_of_ble_eq_true rfl)) rfl h.1 (v := S.2 67 x1.toNatClampNeg) rfl ?_
    replace h := h.2
    refine AW_lload_n 2 (n := 2) rfl dX4_gatherAll_15 rfl ?_
    refine AW_lc_ne dX4_gatherAll_16 dX4_gatherAll_17 rfl (iteM h (fun h => ?_) (fun h => ?_))
    · exact AW_retv dX4_gatherAll_20 rfl h
    · exact AW.sub [0, 1, 2] rfl h
set_option maxRecDepth 20000 in
theorem eX4_gather_185 {g : GX} {Q : St → Prop} {d : Nat} {ρ : Rs} {S : St} (hρ : Ok ρ) {x1 : Int32} {x2 : Int32} {x3 : Int32} {x4 : Int64} {x6 : Int64} {x17 : Int32} (h : vp_in (x2 + 1) 481 ∧ (if (S.1 44 ((x2 + 1).toNatClampNeg)) ≤ x17 then Q S else vp_in x17 4800 ∧ (vp_in x17 4800 ∧ (vp_in (S.1 46 x17.toNatClampNeg) 480 ∧ (if (S.2 47 ((S.1 46 x17.toNatClampNeg).toNatClampNeg)) ≤ 0 then AW g ρ (QV Q) (d + 1) mX4_gather 185 [(0, .ref 54), (1, .int x1), (2, .int x2), (3, .int x3), (4, .long x4), (6, .long x6), (8, .ref 31), (17, .int (x17 + 1))] [] ρ S else vp_in x1 4 ∧ (vp_in (S.1 45 x17.toNatClampNeg) 320 ∧ (CALLl g d mX4_join [.int x1, .long x4, .long (S.2 (38 + x1.toNatClampNeg) ((S.1 45 x17.toNatClampNeg).toNatClampNeg))] ρ ρ S (fun v2 S2 => vp_in (S.1 45 x17.toNatClampNeg) 320 ∧ (CALLv g d mX4_gather [.ref 54, .int x1, .int (S.1 46 x17.toNatClampNeg), .int (x3 + 1), .long v2, .long (x6 * (S2.2 38 ((S.1 45 x17.toNatClampNeg).toNatClampNeg)))] ρ ρ S2 (fun S3 => AW g ρ (QV Q) (d + 1) mX4_gather 185 [(0, .ref 54), (1, .int x1), (2, .int x2), (3, .int x3), (4, .long x4), (6, .long x6), (8, .ref 31), (17, .int (x17 + 1))] [] ρ S3)))))))))) : AW g ρ (QV Q) (d + 1) mX4_gather 185 [(0, .ref 54), (1, .int x1), (2, .int x2), (3, .int x3), (4, .long x4), (6, .long x6), (8, .ref 31), (17, .int x17)] [] ρ S := by
  refine AW_iload 7 dX4_gather_185 rfl ?_
  refine AW_aload 6 dX4_gather_187 rfl ?_
  refine AW_get dX4_gather_189 flX4_98 (Nat.le_of_ble_eq_true rfl) (okn hρ (Nat.le_of_ble_eq_true rfl)) rfl (v := .ref 44) (fvR (okR hρ 19 rfl)) ?_
  refine AW_iload_n 2 (n := 2) rfl dX4_gather_192 rfl ?_
  refine AW_iconst (v := 1) dX4_gather_193 rfl ?_
  refine AW_iadd dX4_gather_194 ?_
  refine AW_iaload dX4_gather_195 (Nat.le_of_ble_eq_true rfl) (okn hρ (Nat.le_of_ble_eq_true rfl)) rfl h.1 (v := S.1 44 ((x2 + 1).toNatClampNeg)) rfl ?_
  replace h := h.2
  refine AW_icmp_ge dX4_gather_196 rfl (iteM h (fun h => ?_) (fun h => ?_))
  · exact AW_retv dX4_gather_283 rfl h
  · refine AW_aload 6 dX4_gather_199 rfl ?_
    refine AW_get dX4_gather_201 flX4_79 (Nat.le_of_ble_eq_true rfl) (okn hρ (Nat.le_of_ble_eq_true rfl)) rfl (v := .ref 46) (fvR (okR hρ 21 rfl)) ?_
    refine AW_iload 7 dX4_gather_204 rfl ?_
    refine AW_iaload dX4_gather_206 (Nat.le_of_ble_eq_true rfl) (okn hρ (Nat.le_of_ble_eq_true rfl)) rfl h.1 (v := S.1 46 x17.toNatClampNeg) rfl ?_
    replace h := h.2
    refine AW_istore dX4_gather_207 (Nat.le_of_ble_eq_true rfl) rfl ?_
    refine AW_aload 7 dX4_gather_209 rfl ?_
    refine AW_get dX4_gather_211 flX4_71 (Nat.le_of_ble_eq_true rfl) (okn hρ (Nat.le_of_ble_eq_true rfl)) rfl (v := .ref 45) (fvR (okR hρ 20 rfl)) ?_
    refine AW_iload 8 dX4_gather_214 rfl ?_
    refine AW_iaload dX4_gather_216 (Nat.le_of_ble_eq_true rfl) (okn hρ (Nat.le_of_ble_eq_true rfl)) rfl h.1 (v := S.1 45 x17.toNatClampNeg) rfl ?_
    replace h := h.2
    refine AW_istore dX4_gather_217 (Nat.le_of_ble_eq_true rfl) rfl ?_
    refine AW_aload 8 dX4_gather_219 rfl ?_
    refine AW_get dX4_gather_221 flX4_101 (Nat.le_of_ble_eq_true rfl) (okn hρ (Nat.le_of_ble_eq_true rfl)) rfl (v := .ref 47) (fvR (okR hρ 22 rfl)) ?_
    refine AW_iload 1 dX4_gather_224 rfl ?_
    refine AW_laload dX4_gather_226 (Nat.le_of_ble_eq_true rfl) (okn hρ (Nat.le_of_ble_eq_true rfl)) rfl h.1 (v := S.2 47 ((S.1 46 x17.toNatClampNeg).toNatClampNeg)) rfl ?_
    replace h := h.2
    refine AW_lconst (v := 0) dX4_gather_227 rfl ?_
    refine AW_lc_le dX4_gather_228 dX4_gather_229 rfl (iteM h (fun h => ?_) (fun h => ?_))
    · refine AW_iinc 9 (v := x17 + 1) dX4_gather_277 rfl rfl (Nat.le_of_ble_eq_true rfl) rfl ?_
      refine AW_goto (tgt := 185) dX4_gather_280 rfl ?_
      exact AW.sub [3, 4, 5, 6, 7, 8, 9, 0] rfl h
    · refine AW_aload_n 2 (n := 0) rfl dX4_gather_232 rfl ?_
      refine AW_iload_n 3 (n := 1) rfl dX4_gather_233 rfl ?_
      refine AW_iload 1 dX4_gather_234 rfl ?_
      refine AW_iload_n 5 (n := 3) rfl dX4_gather_236 rfl ?_
      refine AW_iconst (v := 1) dX4_gather_237 rfl ?_
      refine AW_iadd dX4_gather_238 ?_
      refine AW_iload_n 3 (n := 1) rfl dX4_gather_239 rfl ?_
      refine AW_lload 6 dX4_gather_240 rfl ?_
      refine AW_aload 8 dX4_gather_242 rfl ?_
      refine AW_get dX4_gather_244 flX4_62 (Nat.le_of_ble_eq_true rfl) (okn hρ (Nat.le_of_ble_eq_true rfl)) rfl (v := .ref 32) (fvR (okR hρ 17 rfl)) ?_
      refine AW_get dX4_gather_247 flX4_66 (Nat.le_of_ble_eq_true rfl) (okn hρ (Nat.le_of_ble_eq_true rfl)) rfl (v := .ref 37) (fvR (okR hρ 33 rfl)) ?_
      refine AW_iload_n 3 (n := 1) rfl dX4_gather_250 rfl ?_
      have hr1 := rowOf hρ (k := 37) (b := 38) (n := 320) (i := x1) (Nat.le_of_ble_eq_true rfl) (Nat.le_of_ble_eq_true rfl) (List.mem_of_getElem? (i := 35) rfl) (List.mem_of_getElem? (i := 36) rfl) (List.mem_of_getElem? (i := 37) rfl) (List.mem_of_getElem? (i := 38) rfl) rfl rfl rfl rfl h.1
      refine AW_aaload dX4_gather_251 (Nat.le_of_ble_eq_true rfl) (okn hρ (Nat.le_of_ble_eq_true rfl)) rfl h.1 hr1.1 ?_
      have hl1 : x1.toNatClampNeg < 4 := Nat.not_le.mp fun q => h.1 (Or.inr q)
      replace h := h.2
      refine AW_iload 0 dX4_gather_252 rfl ?_
      refine AW_laload dX4_gather_254 hr1.2.1 hr1.2.2.1 hr1.2.2.2 h.1 (v := S.2 (38 + x1.toNatClampNeg) ((S.1 45 x17.toNatClampNeg).toNatClampNeg)) rfl ?_
      replace h := h.2
      refine AW_callSl (M := mX4_gather) (pc := 255) (As := [.int x1, .long x4, .long (S.2 (38 + x1.toNatClampNeg) ((S.1 45 x17.toNatClampNeg).toNatClampNeg))]) (ρ1 := ρ) (st := [.int (x3 + 1), .int (S.1 46 x17.toNatClampNeg), .int x1, .ref 54]) dX4_gather_255 mdX4_join mlX4_75 smX4_join ⟨rfl, npX4_join⟩ (Nat.le_of_ble_eq_true rfl) (Nat.le_refl _) (Nat.le_refl _) rfl (CALLl.mono h (fun v2 S2 _ h => ?_))
      refine AW_lload 7 dX4_gather_258 rfl ?_
      refine AW_aload 8 dX4_gather_260 rfl ?_
      refine AW_get dX4_gather_262 flX4_62 (Nat.le_of_ble_eq_true rfl) (okn hρ (Nat.le_of_ble_eq_true rfl)) rfl (v := .ref 32) (fvR (okR hρ 17 rfl)) ?_
      refine AW_get dX4_gather_265 flX4_66 (Nat.le_of_ble_eq_true rfl) (okn hρ (Nat.le_of_ble_eq_true rfl)) rfl (v := .ref 37) (fvR (okR hρ 33 rfl)) ?_
      refine AW_iconst (v := 0) dX4_gather_268 rfl ?_
      refine AW_aaload dX4_gather_269 (Nat.le_of_ble_eq_true rfl) (okn hρ (Nat.le_of_ble_eq_true rfl)) rfl (show ¬ (_ ∨ _) by decide) (okR hρ 35 rfl) ?_
      refine AW_iload 0 dX4_gather_270 rfl ?_
      refine AW_laload dX4_gather_272 (Nat.le_of_ble_eq_true rfl) (okn hρ (Nat.le_of_ble_eq_true rfl)) rfl h.1 (v := S2.2 38 ((S.1 45 x17.toNatClampNeg).toNatClampNeg)) rfl ?_
      replace h := h.2
      refine AW_lmul dX4_gather_273 ?_
      refine AW_callSv (M := mX4_gather) (pc := 274) (As := [.ref 54, .int x1, .int (S.1 46 x17.toNatClampNeg), .int (x3 + 1), .long v2, .long (x6 * (S2.2 38 ((S.1 45 x17.toNatClampNeg).toNatClampNeg)))]) (ρ1 := ρ) (st := []) dX4_gather_274 mdX4_gather mlX4_123 smX4_gather ⟨rfl, npX4_gather⟩ (Nat.le_of_ble_eq_true rfl) (Nat.le_refl _) (Nat.le_refl _) rfl (CALLv.mono h (fun S3 _ h => ?_))
      refine AW_iinc 9 (v := x17 + 1) dX4_gather_277 rfl rfl (Nat.le_of_ble_eq_true rfl) rfl ?_
      refine AW_goto (tgt := 185) dX4_gather_280 rfl ?_
      exact AW.sub [3, 4, 5, 6, 7, 8, 9, 0] rfl h
set_option maxRecDepth 20000 in
theorem eX4_gather_114 {g : GX} {Q : St → Prop} {d : Nat} {ρ : Rs} {S : St} (hρ : Ok ρ) {x1 : Int32} {x2 : Int32} {x3 : Int32} {x4 : Int64} {x6 : Int64} {x15 : Int32} {s0 : Int32} (hF : ∀ k ∈ ([68, 69] : List Nat), gF g k) (h : if x15 = 0 then if x15 = 0 then if s0 = 0 then Q S else if x3 < (S.1 31 1) then vp_in x2 481 ∧ (AW g ρ (QV Q) (d + 1) mX4_gather 185 [(0, .ref 54), (1, .int x1), (2, .int x2), (3, .int x3), (4, .long x4), (6, .long x6), (8, .ref 31), (17, .int (S.1 44 x2.toNatClampNeg))] [] ρ S) else Q S else Q S else vp_in x1 4 ∧ (vp_in x2 480 ∧ (vp_in x1 4 ∧ (vp_in x1 4 ∧ (vp_in x2 480 ∧ (vp_in x1 4 ∧ (if x15 = 0 then if s0 = 0 then Q (setL (setL S 68 x1.toNatClampNeg ((S.2 68 x1.toNatClampNeg) + (S.2 47 x2.toNatClampNeg))) 69 x1.toNatClampNeg ((S.2 69 x1.toNatClampNeg) + (x6 * (S.2 48 x2.toNatClampNeg)))) else if x3 < (S.1 31 1) then vp_in x2 481 ∧ (AW g ρ (QV Q) (d + 1) mX4_gather 185 [(0, .ref 54), (1, .int x1), (2, .int x2), (3, .int x3), (4, .long x4), (6, .long x6), (8, .ref 31), (17, .int (S.1 44 x2.toNatClampNeg))] [] ρ (setL (setL S 68 x1.toNatClampNeg ((S.2 68 x1.toNatClampNeg) + (S.2 47 x2.toNatClampNeg))) 69 x1.toNatClampNeg ((S.2 69 x1.toNatClampNeg) + (x6 * (S.2 48 x2.toNatClampNeg))))) else Q (setL (setL S 68 x1.toNatClampNeg ((S.2 68 x1.toNatClampNeg) + (S.2 47 x2.toNatClampNeg))) 69 x1.toNatClampNeg ((S.2 69 x1.toNatClampNeg) + (x6 * (S.2 48 x2.toNatClampNeg)))) else Q (setL (setL S 68 x1.toNatClampNeg ((S.2 68 x1.toNatClampNeg) + (S.2 47 x2.toNatClampNeg))) 69 x1.toNatClampNeg ((S.2 69 x1.toNatClampNeg) + (x6 * (S.2 48 x2.toNatClampNeg))))))))))) : AW g ρ (QV Q) (d + 1) mX4_gather 114 [(0, .ref 54), (1, .int x1), (2, .int x2), (3, .int x3), (4, .long x4), (6, .long x6), (8, .ref 31), (15, .int x15)] [.int s0] ρ S := by
  refine AW_istore dX4_gather_114 (Nat.le_of_ble_eq_true rfl) rfl ?_
  refine AW_iload 8 dX4_gather_116 rfl ?_
  refine AW_if_eq dX4_gather_118 rfl (iteM h (fun h => ?_) (fun h => ?_))
  · refine AW_iload 8 dX4_gather_156 rfl ?_
    refine AW_if_ne dX4_gather_158 rfl (iteM h (fun h => ?_) (fun h => ?_))
    · refine AW_iload 0 dX4_gather_161 rfl ?_
      refine AW_if_eq dX4_gather_163 rfl (iteM h (fun h => ?_) (fun h => ?_))
      · exact AW_retv dX4_gather_175 rfl h
      · refine AW_iload_n 4 (n := 3) rfl dX4_gather_166 rfl ?_
        refine AW_aload 7 dX4_gather_167 rfl ?_
        refine AW_get dX4_gather_169 flX4_46 (Nat.le_of_ble_eq_true rfl) (okn hρ (Nat.le_of_ble_eq_true rfl)) rfl (v := .int (S.1 31 1)) (fun _ => rfl) ?_
        refine AW_icmp_lt dX4_gather_172 rfl (iteM h (fun h => ?_) (fun h => ?_))
        · refine AW_aload 7 dX4_gather_176 rfl ?_
          refine AW_get dX4_gather_178 flX4_98 (Nat.le_of_ble_eq_true rfl) (okn hρ (Nat.le_of_ble_eq_true rfl)) rfl (v := .ref 44) (fvR (okR hρ 19 rfl)) ?_
          refine AW_iload_n 3 (n := 2) rfl dX4_gather_181 rfl ?_
          refine AW_iaload dX4_gather_182 (Nat.le_of_ble_eq_true rfl) (okn hρ (Nat.le_of_ble_eq_true rfl)) rfl h.1 (v := S.1 44 x2.toNatClampNeg) rfl ?_
          replace h := h.2
          refine AW_istore dX4_gather_183 (Nat.le_of_ble_eq_true rfl) rfl ?_
          exact AW.sub [2, 3, 4, 5, 6, 7, 8, 0] rfl h
        · exact AW_retv dX4_gather_175 rfl h
    · exact AW_retv dX4_gather_175 rfl h
  · refine AW_aload_n 1 (n := 0) rfl dX4_gather_121 rfl ?_
    refine AW_get dX4_gather_122 flX4_32 (Nat.le_of_ble_eq_true rfl) (okn hρ (Nat.le_of_ble_eq_true rfl)) rfl (v := .ref 68) (fvR (okR hρ 45 rfl)) ?_
    refine AW_iload_n 2 (n := 1) rfl dX4_gather_125 rfl ?_
    refine AW_dup2_11 dX4_gather_126 rfl rfl ?_
    refine AW_laload dX4_gather_127 (Nat.le_of_ble_eq_true rfl) (okn hρ (Nat.le_of_ble_eq_true rfl)) rfl h.1 (v := S.2 68 x1.toNatClampNeg) rfl ?_
    replace h := h.2
    refine AW_aload 7 dX4_gather_128 rfl ?_
    refine AW_get dX4_gather_130 flX4_101 (Nat.le_of_ble_eq_true rfl) (okn hρ (Nat.le_of_ble_eq_true rfl)) rfl (v := .ref 47) (fvR (okR hρ 22 rfl)) ?_
    refine AW_iload_n 3 (n := 2) rfl dX4_gather_133 rfl ?_
    refine AW_laload dX4_gather_134 (Nat.le_of_ble_eq_true rfl) (okn hρ (Nat.le_of_ble_eq_true rfl)) rfl h.1 (v := S.2 47 x2.toNatClampNeg) rfl ?_
    replace h := h.2
    refine AW_ladd dX4_gather_135 ?_
    refine AW_lastore dX4_gather_136 (Nat.le_of_ble_eq_true rfl) (okn hρ (Nat.le_of_ble_eq_true rfl)) rfl h.1 (hF _ (List.mem_of_getElem? (i := 0) rfl)) (jx := x1.toNatClampNeg) rfl ?_
    replace h := h.2
    refine AW_aload_n 1 (n := 0) rfl dX4_gather_137 rfl ?_
    refine AW_get dX4_gather_138 flX4_35 (Nat.le_of_ble_eq_true rfl) (okn hρ (Nat.le_of_ble_eq_true rfl)) rfl (v := .ref 69) (fvR (okR hρ 46 rfl)) ?_
    refine AW_iload_n 2 (n := 1) rfl dX4_gather_141 rfl ?_
    refine AW_dup2_11 dX4_gather_142 rfl rfl ?_
    refine AW_laload dX4_gather_143 (Nat.le_of_ble_eq_true rfl) (okn hρ (Nat.le_of_ble_eq_true rfl)) rfl h.1 (v := S.2 69 x1.toNatClampNeg) rfl ?_
    replace h := h.2
    refine AW_lload 6 dX4_gather_144 rfl ?_
    refine AW_aload 7 dX4_gather_146 rfl ?_
    refine AW_get dX4_gather_148 flX4_127 (Nat.le_of_ble_eq_true rfl) (okn hρ (Nat.le_of_ble_eq_true rfl)) rfl (v := .ref 48) (fvR (okR hρ 23 rfl)) ?_
    refine AW_iload_n 3 (n := 2) rfl dX4_gather_151 rfl ?_
    refine AW_laload dX4_gather_152 (Nat.le_of_ble_eq_true rfl) (okn hρ (Nat.le_of_ble_eq_true rfl)) rfl h.1 (v := S.2 48 x2.toNatClampNeg) rfl ?_
    replace h := h.2
    refine AW_lmul dX4_gather_153 ?_
    refine AW_ladd dX4_gather_154 ?_
    refine AW_lastore dX4_gather_155 (Nat.le_of_ble_eq_true rfl) (okn hρ (Nat.le_of_ble_eq_true rfl)) rfl h.1 (hF _ (List.mem_of_getElem? (i := 1) rfl)) (jx := x1.toNatClampNeg) rfl ?_
    replace h := h.2
    refine AW_iload 8 dX4_gather_156 rfl ?_
    refine AW_if_ne dX4_gather_158 rfl (iteM h (fun h => ?_) (fun h => ?_))
    · refine AW_iload 0 dX4_gather_161 rfl ?_
      refine AW_if_eq dX4_gather_163 rfl (iteM h (fun h => ?_) (fun h => ?_))
      · exact AW_retv dX4_gather_175 rfl h
      · refine AW_iload_n 4 (n := 3) rfl dX4_gather_166 rfl ?_
        refine AW_aload 7 dX4_gather_167 rfl ?_
        refine AW_get dX4_gather_169 flX4_46 (Nat.le_of_ble_eq_true rfl) (okn hρ (Nat.le_of_ble_eq_true rfl)) rfl (v := .int (S.1 31 1)) (fun _ => rfl) ?_
        refine AW_icmp_lt dX4_gather_172 rfl (iteM h (fun h => ?_) (fun h => ?_))
        · refine AW_aload 7 dX4_gather_176 rfl ?_
          refine AW_get dX4_gather_178 flX4_98 (Nat.le_of_ble_eq_true rfl) (okn hρ (Nat.le_of_ble_eq_true rfl)) rfl (v := .ref 44) (fvR (okR hρ 19 rfl)) ?_
          refine AW_iload_n 3 (n := 2) rfl dX4_gather_181 rfl ?_
          refine AW_iaload dX4_gather_182 (Nat.le_of_ble_eq_true rfl) (okn hρ (Nat.le_of_ble_eq_true rfl)) rfl h.1 (v := S.1 44 x2.toNatClampNeg) rfl ?_
          replace h := h.2
          refine AW_istore dX4_gather_183 (Nat.le_of_ble_eq_true rfl) rfl ?_
          exact AW.sub [2, 3, 4, 5, 6, 7, 8, 0] rfl h
        · exact AW_retv dX4_gather_175 rfl h
    · exact AW_retv dX4_gather_175 rfl h
set_option maxRecDepth 20000 in
theorem eX4_gather_79 {g : GX} {Q : St → Prop} {d : Nat} {ρ : Rs} {S : St} (hρ : Ok ρ) {x1 : Int32} {x2 : Int32} {x3 : Int32} {x4 : Int64} {x6 : Int64} {x9 : Int64} {x11 : Int64} {x13 : Int64} {s0 : Int32} (h : if x1 = 0 then if x9 < x11 then AW g ρ (QV Q) (d + 1) mX4_gather 114 [(0, .ref 54), (1, .int x1), (2, .int x2), (3, .int x3), (4, .long x4), (6, .long x6), (8, .ref 31), (15, .int s0)] [.int 0] ρ S else AW g ρ (QV Q) (d + 1) mX4_gather 114 [(0, .ref 54), (1, .int x1), (2, .int x2), (3, .int x3), (4, .long x4), (6, .long x6), (8, .ref 31), (15, .int s0)] [.int 1] ρ S else if x13 < x9 then AW g ρ (QV Q) (d + 1) mX4_gather 114 [(0, .ref 54), (1, .int x1), (2, .int x2), (3, .int x3), (4, .long x4), (6, .long x6), (8, .ref 31), (15, .int s0)] [.int 0] ρ S else AW g ρ (QV Q) (d + 1) mX4_gather 114 [(0, .ref 54), (1, .int x1), (2, .int x2), (3, .int x3), (4, .long x4), (6, .long x6), (8, .ref 31), (15, .int s0)] [.int 1] ρ S) : AW g ρ (QV Q) (d + 1) mX4_gather 79 [(0, .ref 54), (1, .int x1), (2, .int x2), (3, .int x3), (4, .long x4), (6, .long x6), (8, .ref 31), (9, .long x9), (11, .long x11), (13, .long x13)] [.int s0] ρ S := by
  refine AW_istore dX4_gather_79 (Nat.le_of_ble_eq_true rfl) rfl ?_
  refine AW_iload_n 2 (n := 1) rfl dX4_gather_81 rfl ?_
  refine AW_if_ne dX4_gather_82 rfl (iteM h (fun h => ?_) (fun h => ?_))
  · refine AW_lload 9 dX4_gather_85 rfl ?_
    refine AW_lload 8 dX4_gather_87 rfl ?_
    refine AW_lc_gt dX4_gather_89 dX4_gather_90 rfl (iteM h (fun h => ?_) (fun h => ?_))
    · refine AW_iconst (v := 0) dX4_gather_97 rfl ?_
      refine AW_goto (tgt := 114) dX4_gather_98 rfl ?_
      exact AW.sub [1, 2, 3, 4, 5, 6, 7, 0] rfl h
    · refine AW_iconst (v := 1) dX4_gather_93 rfl ?_
      refine AW_goto (tgt := 114) dX4_gather_94 rfl ?_
      exact AW.sub [1, 2, 3, 4, 5, 6, 7, 0] rfl h
  · refine AW_lload 10 dX4_gather_101 rfl ?_
    refine AW_lload 8 dX4_gather_103 rfl ?_
    refine AW_lc_lt dX4_gather_105 dX4_gather_106 rfl (iteM h (fun h => ?_) (fun h => ?_))
    · refine AW_iconst (v := 0) dX4_gather_113 rfl ?_
      exact AW.sub [1, 2, 3, 4, 5, 6, 7, 0] rfl h
    · refine AW_iconst (v := 1) dX4_gather_109 rfl ?_
      refine AW_goto (tgt := 114) dX4_gather_110 rfl ?_
      exact AW.sub [1, 2, 3, 4, 5, 6, 7, 0] rfl h
set_option maxRecDepth 20000 in
theorem eX4_gather {g : GX} {Q : St → Prop} {d : Nat} {ρ : Rs} {S : St} (hρ : Ok ρ) {x1 : Int32} {x2 : Int32} {x3 : Int32} {x4 : Int64} {x6 : Int64} (h : vp_in x1 4 ∧ (vp_in x1 4 ∧ (vp_in x2 480 ∧ (CALLl g d mX4_join [.int x1, .long x4, .long (S.2 (56 + x1.toNatClampNeg) x2.toNatClampNeg)] ρ ρ S (fun v2 S2 => vp_in x1 4 ∧ (vp_in x2 480 ∧ (CALLl g d mX4_join [.int x1, .long x4, .long (S2.2 (61 + x1.toNatClampNeg) x2.toNatClampNeg)] ρ ρ S2 (fun v4 S4 => if x1 = 0 then if (S.2 67 x1.toNatClampNeg) < v4 then AW g ρ (QV Q) (d + 1) mX4_gather 79 [(0, .ref 54), (1, .int x1), (2, .int x2), (3, .int x3), (4, .long x4), (6, .long x6), (8, .ref 31), (9, .long (S.2 67 x1.toNatClampNeg)), (11, .long v2), (13, .long v4)] [.int 0] ρ S4 else AW g ρ (QV Q) (d + 1) mX4_gather 79 [(0, .ref 54), (1, .int x1), (2, .int x2), (3, .int x3), (4, .long x4), (6, .long x6), (8, .ref 31), (9, .long (S.2 67 x1.toNatClampNeg)), (11, .long v2), (13, .long v4)] [.int 1] ρ S4 else if v2 < (S.2 67 x1.toNatClampNeg) then AW g ρ (QV Q) (d + 1) mX4_gather 79 [(0, .ref 54), (1, .int x1), (2, .int x2), (3, .int x3), (4, .long x4), (6, .long x6), (8, .ref 31), (9, .long (S.2 67 x1.toNatClampNeg)), (11, .long v2), (13, .long v4)] [.int 0] ρ S4 else AW g ρ (QV Q) (d + 1) mX4_gather 79 [(0, .ref 54), (1, .int x1), (2, .int x2), (3, .int x3), (4, .long x4), (6, .long x6), (8, .ref 31), (9, .long (S.2 67 x1.toNatClampNeg)), (11, .long v2), (13, .long v4)] [.int 1] ρ S4)))))))) : CALLv g (d + 1) mX4_gather [.ref 54, .int x1, .int x2, .int x3, .long x4, .long x6] ρ ρ S Q := by
  refine CALL.of mdX4_gather.2.2.2.2 (Nat.le_of_ble_eq_true rfl) (Nat.le_refl _) (Nat.le_refl _) ?_
  show AW g ρ (QV Q) (d + 1) mX4_gather 0 [(0, .ref 54), (1, .int x1), (2, .int x2), (3, .int x3), (4, .long x4), (6, .long x6)] [] ρ S
  refine AW_aload_n 0 (n := 0) rfl dX4_gather_0 rfl ?_
  refine AW_get dX4_gather_1 flX4_38 (Nat.le_of_ble_eq_true rfl) (okn hρ (Nat.le_of_ble_eq_true rfl)) rfl (v := .ref 31) (fvR (okR hρ 39 rfl)) ?_
  refine AW_astore dX4_gather_4 (Nat.le_of_ble_eq_true rfl) rfl ?_
  refine AW_aload_n 1 (n := 0) rfl dX4_gather_6 rfl ?_
  refine AW_get dX4_gather_7 flX4_28 (Nat.le_of_ble_eq_true rfl) (okn hρ (Nat.le_of_ble_eq_true rfl)) rfl (v := .ref 67) (fvR (okR hρ 44 rfl)) ?_
  refine AW_iload_n 2 (n := 1) rfl dX4_gather_10 rfl ?_
  refine AW_laload dX4_gather_11 (Nat.le_of_ble_eq_true rfl) (okn hρ (Nat.le_of_ble_eq_true rfl)) rfl h.1 (v := S.2 67 x1.toNatClampNeg) rfl ?_
  replace h := h.2
  refine AW_lstore dX4_gather_12 (Nat.le_of_ble_eq_true rfl) rfl ?_
  refine AW_iload_n 3 (n := 1) rfl dX4_gather_14 rfl ?_
  refine AW_lload 6 dX4_gather_15 rfl ?_
  refine AW_aload_n 2 (n := 0) rfl dX4_gather_17 rfl ?_
  refine AW_get dX4_gather_18 flX4_13 (Nat.le_of_ble_eq_true rfl) (okn hρ (Nat.le_of_ble_eq_true rfl)) rfl (v := .ref 55) (fvR (okR hρ 40 rfl)) ?_
  refine AW_iload_n 3 (n := 1) rfl dX4_gather_21 rfl ?_
  have hr1 := rowOf hρ (k := 55) (b := 56) (n := 480) (i := x1) (Nat.le_of_ble_eq_true rfl) (Nat.le_of_ble_eq_true rfl) (List.mem_of_getElem? (i := 47) rfl) (List.mem_of_getElem? (i := 48) rfl) (List.mem_of_getElem? (i := 49) rfl) (List.mem_of_getElem? (i := 50) rfl) rfl rfl rfl rfl h.1
  refine AW_aaload dX4_gather_22 (Nat.le_of_ble_eq_true rfl) (okn hρ (Nat.le_of_ble_eq_true rfl)) rfl h.1 hr1.1 ?_
  have hl1 : x1.toNatClampNeg < 4 := Nat.not_le.mp fun q => h.1 (Or.inr q)
  replace h := h.2
  refine AW_iload_n 4 (n := 2) rfl dX4_gather_23 rfl ?_
  refine AW_laload dX4_gather_24 hr1.2.1 hr1.2.2.1 hr1.2.2.2 h.1 (v := S.2 (56 + x1.toNatClampNeg) x2.toNatClampNeg) rfl ?_
  replace h := h.2
  refine AW_callSl (M := mX4_gather) (pc := 25) (As := [.int x1, .long x4, .long (S.2 (56 + x1.toNatClampNeg) x2.toNatClampNeg)]) (ρ1 := ρ) (st := []) dX4_gather_25 mdX4_join mlX4_75 smX4_join ⟨rfl, npX4_join⟩ (Nat.le_of_ble_eq_true rfl) (Nat.le_refl _) (Nat.le_refl _) rfl (CALLl.mono h (fun v2 S2 _ h => ?_))
  refine AW_lstore dX4_gather_28 (Nat.le_of_ble_eq_true rfl) rfl ?_
  refine AW_iload_n 4 (n := 1) rfl dX4_gather_30 rfl ?_
  refine AW_lload 7 dX4_gather_31 rfl ?_
  refine AW_aload_n 3 (n := 0) rfl dX4_gather_33 rfl ?_
  refine AW_get dX4_gather_34 flX4_18 (Nat.le_of_ble_eq_true rfl) (okn hρ (Nat.le_of_ble_eq_true rfl)) rfl (v := .ref 60) (fvR (okR hρ 41 rfl)) ?_
  refine AW_iload_n 4 (n := 1) rfl dX4_gather_37 rfl ?_
  have hr3 := rowOf hρ (k := 60) (b := 61) (n := 480) (i := x1) (Nat.le_of_ble_eq_true rfl) (Nat.le_of_ble_eq_true rfl) (List.mem_of_getElem? (i := 51) rfl) (List.mem_of_getElem? (i := 52) rfl) (List.mem_of_getElem? (i := 53) rfl) (List.mem_of_getElem? (i := 54) rfl) rfl rfl rfl rfl h.1
  refine AW_aaload dX4_gather_38 (Nat.le_of_ble_eq_true rfl) (okn hρ (Nat.le_of_ble_eq_true rfl)) rfl h.1 hr3.1 ?_
  have hl3 : x1.toNatClampNeg < 4 := Nat.not_le.mp fun q => h.1 (Or.inr q)
  replace h := h.2
  refine AW_iload_n 5 (n := 2) rfl dX4_gather_39 rfl ?_
  refine AW_laload dX4_gather_40 hr3.2.1 hr3.2.2.1 hr3.2.2.2 h.1 (v := S2.2 (61 + x1.toNatClampNeg) x2.toNatClampNeg) rfl ?_
  replace h := h.2
  refine AW_callSl (M := mX4_gather) (pc := 41) (As := [.int x1, .long x4, .long (S2.2 (61 + x1.toNatClampNeg) x2.toNatClampNeg)]) (ρ1 := ρ) (st := []) dX4_gather_41 mdX4_join mlX4_75 smX4_join ⟨rfl, npX4_join⟩ (Nat.le_of_ble_eq_true rfl) (Nat.le_refl _) (Nat.le_refl _) rfl (CALLl.mono h (fun v4 S4 _ h => ?_))
  refine AW_lstore dX4_gather_44 (Nat.le_of_ble_eq_true rfl) rfl ?_
  refine AW_iload_n 5 (n := 1) rfl dX4_gather_46 rfl ?_
  refine AW_if_ne dX4_gather_47 rfl (iteM h (fun h => ?_) (fun h => ?_))
  · refine AW_lload 0 dX4_gather_50 rfl ?_
    refine AW_lload 2 dX4_gather_52 rfl ?_
    refine AW_lc_gt dX4_gather_54 dX4_gather_55 rfl (iteM h (fun h => ?_) (fun h => ?_))
    · refine AW_iconst (v := 0) dX4_gather_62 rfl ?_
      refine AW_goto (tgt := 79) dX4_gather_63 rfl ?_
      exact AW.sub [4, 5, 6, 7, 8, 9, 3, 2, 1, 0] rfl h
    · refine AW_iconst (v := 1) dX4_gather_58 rfl ?_
      refine AW_goto (tgt := 79) dX4_gather_59 rfl ?_
      exact AW.sub [4, 5, 6, 7, 8, 9, 3, 2, 1, 0] rfl h
  · refine AW_lload 1 dX4_gather_66 rfl ?_
    refine AW_lload 2 dX4_gather_68 rfl ?_
    refine AW_lc_lt dX4_gather_70 dX4_gather_71 rfl (iteM h (fun h => ?_) (fun h => ?_))
    · refine AW_iconst (v := 0) dX4_gather_78 rfl ?_
      exact AW.sub [4, 5, 6, 7, 8, 9, 3, 2, 1, 0] rfl h
    · refine AW_iconst (v := 1) dX4_gather_74 rfl ?_
      refine AW_goto (tgt := 79) dX4_gather_75 rfl ?_
      exact AW.sub [4, 5, 6, 7, 8, 9, 3, 2, 1, 0] rfl h
