set_option maxRecDepth 20000 in
theorem eX11_feed {g : GX} {Q : Int32 → St → Prop} {d : Nat} {ρ : Rs} {S : St} (hρ : Ok ρ) {x1 : Int32} {x2 : Int32} {x3 : Int32} {x4 : Int32} {x5 : Int32} (h : CALLi g d mX10_hasRoom [.ref 17] ρ ρ S (fun v1 S1 => if v1 = 0 then Q (-1) S1 else CALLv g d mX10_put [.ref 17, .int x1] ρ ρ S1 (fun S2 => CALLv g d mX10_put [.ref 17, .int x2] ρ ρ S2 (fun S3 => CALLv g d mX10_put [.ref 17, .int x3] ρ ρ S3 (fun S4 => CALLv g d mX10_put [.ref 17, .int x4] ρ ρ S4 (fun S5 => CALLv g d mX10_put [.ref 17, .int x5] ρ ρ S5 (fun S6 => Q (S6.1 17 1) S6))))))) : CALLi g (d + 1) mX11_feed [.ref 16, .int x1, .int x2, .int x3, .int x4, .int x5] ρ ρ S Q := by
  refine CALL.of mdX11_feed.2.2.2.2 (Nat.le_of_ble_eq_true rfl) (Nat.le_refl _) (Nat.le_refl _) ?_
  show AW g ρ (QI Q) (d + 1) mX11_feed 0 [(0, .ref 16), (1, .int x1), (2, .int x2), (3, .int x3), (4, .int x4), (5, .int x5)] [] ρ S
  refine AW_aload_n 0 (n := 0) rfl dX11_feed_0 rfl ?_
  refine AW_get dX11_feed_1 flX11_12 (Nat.le_of_ble_eq_true rfl) (okn hρ (Nat.le_of_ble_eq_true rfl)) rfl (v := .ref 17) (fvR (okR hρ 0 rfl)) ?_
  refine AW_callVi (M := mX11_feed) (pc := 4) (As := []) (ρ1 := ρ) (st := []) dX11_feed_4 mdX10_hasRoom rfl mlX11_69 imX10_hasRoom seX10_hasRoom (rcv_of (q := (RX10, TX10, 2)) (Nat.le_of_ble_eq_true rfl) (okn hρ (Nat.le_of_ble_eq_true rfl)) rfl rfl) ⟨rfl, npX10_hasRoom⟩ (Nat.le_of_ble_eq_true rfl) (Nat.le_refl _) (Nat.le_refl _) rfl (CALLi.mono h (fun v1 S1 _ h => ?_))
  refine AW_if_ne dX11_feed_7 rfl (iteM h (fun h => ?_) (fun h => ?_))
  · refine AW_iconst (v := (-1)) dX11_feed_10 rfl ?_
    exact AW_reti dX11_feed_11 rfl h
  · refine AW_aload_n 0 (n := 0) rfl dX11_feed_12 rfl ?_
    refine AW_get dX11_feed_13 flX11_12 (Nat.le_of_ble_eq_true rfl) (okn hρ (Nat.le_of_ble_eq_true rfl)) rfl (v := .ref 17) (fvR (okR hρ 0 rfl)) ?_
    refine AW_iload_n 1 (n := 1) rfl dX11_feed_16 rfl ?_
    refine AW_callVv (M := mX11_feed) (pc := 17) (As := [.int x1]) (ρ1 := ρ) (st := []) dX11_feed_17 mdX10_put rfl mlX11_73 imX10_put seX10_put (rcv_of (q := (RX10, TX10, 2)) (Nat.le_of_ble_eq_true rfl) (okn hρ (Nat.le_of_ble_eq_true rfl)) rfl rfl) ⟨rfl, npX10_put⟩ (Nat.le_of_ble_eq_true rfl) (Nat.le_refl _) (Nat.le_refl _) rfl (CALLv.mono h (fun S2 _ h => ?_))
    refine AW_aload_n 0 (n := 0) rfl dX11_feed_20 rfl ?_
    refine AW_get dX11_feed_21 flX11_12 (Nat.le_of_ble_eq_true rfl) (okn hρ (Nat.le_of_ble_eq_true rfl)) rfl (v := .ref 17) (fvR (okR hρ 0 rfl)) ?_
    refine AW_iload_n 2 (n := 2) rfl dX11_feed_24 rfl ?_
    refine AW_callVv (M := mX11_feed) (pc := 25) (As := [.int x2]) (ρ1 := ρ) (st := []) dX11_feed_25 mdX10_put rfl mlX11_73 imX10_put seX10_put (rcv_of (q := (RX10, TX10, 2)) (Nat.le_of_ble_eq_true rfl) (okn hρ (Nat.le_of_ble_eq_true rfl)) rfl rfl) ⟨rfl, npX10_put⟩ (Nat.le_of_ble_eq_true rfl) (Nat.le_refl _) (Nat.le_refl _) rfl (CALLv.mono h (fun S3 _ h => ?_))
    refine AW_aload_n 0 (n := 0) rfl dX11_feed_28 rfl ?_
    refine AW_get dX11_feed_29 flX11_12 (Nat.le_of_ble_eq_true rfl) (okn hρ (Nat.le_of_ble_eq_true rfl)) rfl (v := .ref 17) (fvR (okR hρ 0 rfl)) ?_
    refine AW_iload_n 3 (n := 3) rfl dX11_feed_32 rfl ?_
    refine AW_callVv (M := mX11_feed) (pc := 33) (As := [.int x3]) (ρ1 := ρ) (st := []) dX11_feed_33 mdX10_put rfl mlX11_73 imX10_put seX10_put (rcv_of (q := (RX10, TX10, 2)) (Nat.le_of_ble_eq_true rfl) (okn hρ (Nat.le_of_ble_eq_true rfl)) rfl rfl) ⟨rfl, npX10_put⟩ (Nat.le_of_ble_eq_true rfl) (Nat.le_refl _) (Nat.le_refl _) rfl (CALLv.mono h (fun S4 _ h => ?_))
    refine AW_aload_n 0 (n := 0) rfl dX11_feed_36 rfl ?_
    refine AW_get dX11_feed_37 flX11_12 (Nat.le_of_ble_eq_true rfl) (okn hρ (Nat.le_of_ble_eq_true rfl)) rfl (v := .ref 17) (fvR (okR hρ 0 rfl)) ?_
    refine AW_iload 4 dX11_feed_40 rfl ?_
    refine AW_callVv (M := mX11_feed) (pc := 42) (As := [.int x4]) (ρ1 := ρ) (st := []) dX11_feed_42 mdX10_put rfl mlX11_73 imX10_put seX10_put (rcv_of (q := (RX10, TX10, 2)) (Nat.le_of_ble_eq_true rfl) (okn hρ (Nat.le_of_ble_eq_true rfl)) rfl rfl) ⟨rfl, npX10_put⟩ (Nat.le_of_ble_eq_true rfl) (Nat.le_refl _) (Nat.le_refl _) rfl (CALLv.mono h (fun S5 _ h => ?_))
    refine AW_aload_n 0 (n := 0) rfl dX11_feed_45 rfl ?_
    refine AW_get dX11_feed_46 flX11_12 (Nat.le_of_ble_eq_true rfl) (okn hρ (Nat.le_of_ble_eq_true rfl)) rfl (v := .ref 17) (fvR (okR hρ 0 rfl)) ?_
    refine AW_iload 5 dX11_feed_49 rfl ?_
    refine AW_callVv (M := mX11_feed) (pc := 51) (As := [.int x5]) (ρ1 := ρ) (st := []) dX11_feed_51 mdX10_put rfl mlX11_73 imX10_put seX10_put (rcv_of (q := (RX10, TX10, 2)) (Nat.le_of_ble_eq_true rfl) (okn hρ (Nat.le_of_ble_eq_true rfl)) rfl rfl) ⟨rfl, npX10_put⟩ (Nat.le_of_ble_eq_true rfl) (Nat.le_refl _) (Nat.le_refl _) rfl (CALLv.mono h (fun S6 _ h => ?_))
    refine AW_aload_n 0 (n := 0) rfl dX11_feed_54 rfl ?_
    refine AW_get dX11_feed_55 flX11_12 (Nat.le_of_ble_eq_true rfl) (okn hρ (Nat.le_of_ble_eq_true rfl)) rfl (v := .ref 17) (fvR (okR hρ 0 rfl)) ?_
    refine AW_get dX11_feed_58 flX11_77 (Nat.le_of_ble_eq_true rfl) (okn hρ (Nat.le_of_ble_eq_true rfl)) rfl (v := .int (S6.1 17 1)) (fun _ => rfl) ?_
    exact AW_reti dX11_feed_61 rfl h
set_option maxRecDepth 20000 in
theorem eX11_end {g : GX} {Q : Int32 → St → Prop} {d : Nat} {ρ : Rs} {S : St} (hρ : Ok ρ) {x1 : Int32} (hF : ∀ k ∈ ([17] : List Nat), gF g k) (h : if x1 < 0 then Q (-1) S else if x1 ≤ (S.1 17 1) then Q x1 (setI S 17 1 x1) else Q (-1) S) : CALLi g d mX11_end [.ref 16, .int x1] ρ ρ S Q := by
  refine CALL.of mdX11_end.2.2.2.2 (Nat.le_of_ble_eq_true rfl) (Nat.le_refl _) (Nat.le_refl _) ?_
  show AW g ρ (QI Q) d mX11_end 0 [(0, .ref 16), (1, .int x1)] [] ρ S
  refine AW_iload_n 1 (n := 1) rfl dX11_end_0 rfl ?_
  refine AW_if_lt dX11_end_1 rfl (iteM h (fun h => ?_) (fun h => ?_))
  · refine AW_iconst (v := (-1)) dX11_end_15 rfl ?_
    exact AW_reti dX11_end_16 rfl h
  · refine AW_iload_n 1 (n := 1) rfl dX11_end_4 rfl ?_
    refine AW_aload_n 0 (n := 0) rfl dX11_end_5 rfl ?_
    refine AW_get dX11_end_6 flX11_12 (Nat.le_of_ble_eq_true rfl) (okn hρ (Nat.le_of_ble_eq_true rfl)) rfl (v := .ref 17) (fvR (okR hρ 0 rfl)) ?_
    refine AW_get dX11_end_9 flX11_77 (Nat.le_of_ble_eq_true rfl) (okn hρ (Nat.le_of_ble_eq_true rfl)) rfl (v := .int (S.1 17 1)) (fun _ => rfl) ?_
    refine AW_icmp_le dX11_end_12 rfl (iteM h (fun h => ?_) (fun h => ?_))
    · refine AW_aload_n 0 (n := 0) rfl dX11_end_17 rfl ?_
      refine AW_get dX11_end_18 flX11_12 (Nat.le_of_ble_eq_true rfl) (okn hρ (Nat.le_of_ble_eq_true rfl)) rfl (v := .ref 17) (fvR (okR hρ 0 rfl)) ?_
      refine AW_iload_n 1 (n := 1) rfl dX11_end_21 rfl ?_
      refine AW_put dX11_end_22 flX11_77 fp_8_1 (Nat.le_of_ble_eq_true rfl) (okn hρ (Nat.le_of_ble_eq_true rfl)) rfl (fun _ => rfl) (fun _ => rfl) rfl rfl rfl rfl (Fr.setI _ _ _ rfl) (fun _ _ => rfl) (ρ2 := ρ) (S2 := setI S 17 1 x1) (fun _ => rfl) (fun _ _ _ q1 _ => fvI_o q1) (hF _ (List.mem_of_getElem? (i := 0) rfl)) ?_
      refine AW_iload_n 1 (n := 1) rfl dX11_end_25 rfl ?_
      exact AW_reti dX11_end_26 rfl h
    · refine AW_iconst (v := (-1)) dX11_end_15 rfl ?_
      exact AW_reti dX11_end_16 rfl h
set_option maxRecDepth 20000 in
theorem eX11_table_70 {g : GX} {Q : Int32 → St → Prop} {d : Nat} {ρ : Rs} {S : St} (hρ : Ok ρ) (h : CALLv g d mX4_forget [.ref 54] ρ ρ S (fun S1 => CALLv g d mX6_forget [.ref 70] ρ ρ S1 (fun S2 => Q (S2.1 21 2) S2))) : AW g ρ (QI Q) (d + 1) mX11_table 70 [(0, .ref 16)] [] ρ S := by
  refine AW_aload_n 0 (n := 0) rfl dX11_table_70 rfl ?_
  refine AW_get dX11_table_71 flX11_56 (Nat.le_of_ble_eq_true rfl) (okn hρ (Nat.le_of_ble_eq_true rfl)) rfl (v := .ref 54) (fvR (okR hρ 6 rfl)) ?_
  refine AW_callVv (M := mX11_table) (pc := 74) (As := []) (ρ1 := ρ) (st := []) dX11_table_74 mdX4_forget rfl mlX11_97 imX4_forget seX4_forget (rcv_of (q := (RX4, TX4, 11)) (Nat.le_of_ble_eq_true rfl) (okn hρ (Nat.le_of_ble_eq_true rfl)) rfl rfl) ⟨rfl, npX4_forget⟩ (Nat.le_of_ble_eq_true rfl) (Nat.le_refl _) (Nat.le_refl _) rfl (CALLv.mono h (fun S1 _ h => ?_))
  refine AW_aload_n 0 (n := 0) rfl dX11_table_77 rfl ?_
  refine AW_get dX11_table_78 flX11_65 (Nat.le_of_ble_eq_true rfl) (okn hρ (Nat.le_of_ble_eq_true rfl)) rfl (v := .ref 70) (fvR (okR hρ 7 rfl)) ?_
  refine AW_callVv (M := mX11_table) (pc := 81) (As := []) (ρ1 := ρ) (st := []) dX11_table_81 mdX6_forget rfl mlX11_100 imX6_forget seX6_forget (rcv_of (q := (RX6, TX6, 18)) (Nat.le_of_ble_eq_true rfl) (okn hρ (Nat.le_of_ble_eq_true rfl)) rfl rfl) ⟨rfl, npX6_forget⟩ (Nat.le_of_ble_eq_true rfl) (Nat.le_refl _) (Nat.le_refl _) rfl (CALLv.mono h (fun S2 _ h => ?_))
  refine AW_aload_n 0 (n := 0) rfl dX11_table_84 rfl ?_
  refine AW_get dX11_table_85 flX11_26 (Nat.le_of_ble_eq_true rfl) (okn hρ (Nat.le_of_ble_eq_true rfl)) rfl (v := .ref 21) (fvR (okR hρ 2 rfl)) ?_
  refine AW_get dX11_table_88 flX11_101 (Nat.le_of_ble_eq_true rfl) (okn hρ (Nat.le_of_ble_eq_true rfl)) rfl (v := .int (S2.1 21 2)) (fun _ => rfl) ?_
  exact AW_reti dX11_table_91 rfl h
set_option maxRecDepth 20000 in
theorem eX11_table {g : GX} {Q : Int32 → St → Prop} {d : Nat} {ρ : Rs} {S : St} (hρ : Ok ρ) (hF : ∀ k ∈ ([17] : List Nat), gF g k) (h : CALLi g d mX8_read [.ref 19, .ref 17] ρ ρ S (fun v1 S1 => if v1 = 0 then Q (-4) (setI S1 17 1 0) else CALLv g d mX9_take [.ref 21, .ref 19] ρ ρ (setI S1 17 1 0) (fun S2 => CALLi g d mX9_isTold [.ref 21] ρ ρ S2 (fun v3 S3 => if v3 = 0 then AW g ρ (QI Q) (d + 1) mX11_table 70 [(0, .ref 16)] [] ρ S3 else CALLv g d mX5_make [.ref 26, .ref 21] ρ ρ S3 (fun S4 => CALLv g d mX1_make [.ref 31, .ref 21] ρ ρ S4 (fun S5 => AW g ρ (QI Q) (d + 1) mX11_table 70 [(0, .ref 16)] [] ρ S5)))))) : CALLi g (d + 1) mX11_table [.ref 16] ρ ρ S Q := by
  refine CALL.of mdX11_table.2.2.2.2 (Nat.le_of_ble_eq_true rfl) (Nat.le_refl _) (Nat.le_refl _) ?_
  show AW g ρ (QI Q) (d + 1) mX11_table 0 [(0, .ref 16)] [] ρ S
  refine AW_aload_n 0 (n := 0) rfl dX11_table_0 rfl ?_
  refine AW_get dX11_table_1 flX11_19 (Nat.le_of_ble_eq_true rfl) (okn hρ (Nat.le_of_ble_eq_true rfl)) rfl (v := .ref 19) (fvR (okR hρ 1 rfl)) ?_
  refine AW_aload_n 0 (n := 0) rfl dX11_table_4 rfl ?_
  refine AW_get dX11_table_5 flX11_12 (Nat.le_of_ble_eq_true rfl) (okn hρ (Nat.le_of_ble_eq_true rfl)) rfl (v := .ref 17) (fvR (okR hρ 0 rfl)) ?_
  refine AW_callVi (M := mX11_table) (pc := 8) (As := [.ref 17]) (ρ1 := ρ) (st := []) dX11_table_8 mdX8_read rfl mlX11_81 imX8_read seX8_read (rcv_of (q := (RX8, TX8, 12)) (Nat.le_of_ble_eq_true rfl) (okn hρ (Nat.le_of_ble_eq_true rfl)) rfl rfl) ⟨rfl, npX8_read⟩ (Nat.le_of_ble_eq_true rfl) (Nat.le_refl _) (Nat.le_refl _) rfl (CALLi.mono h (fun v1 S1 _ h => ?_))
  refine AW_istore_n (n := 1) (i := 1) rfl dX11_table_11 (Nat.le_of_ble_eq_true rfl) rfl ?_
  refine AW_aload_n 1 (n := 0) rfl dX11_table_12 rfl ?_
  refine AW_get dX11_table_13 flX11_12 (Nat.le_of_ble_eq_true rfl) (okn hρ (Nat.le_of_ble_eq_true rfl)) rfl (v := .ref 17) (fvR (okR hρ 0 rfl)) ?_
  refine AW_iconst (v := 0) dX11_table_16 rfl ?_
  refine AW_put dX11_table_17 flX11_77 fp_8_1 (Nat.le_of_ble_eq_true rfl) (okn hρ (Nat.le_of_ble_eq_true rfl)) rfl (fun _ => rfl) (fun _ => rfl) rfl rfl rfl rfl (Fr.setI _ _ _ rfl) (fun _ _ => rfl) (ρ2 := ρ) (S2 := setI S1 17 1 0) (fun _ => rfl) (fun _ _ _ q1 _ => fvI_o q1) (hF _ (List.mem_of_getElem? (i := 0) rfl)) ?_
  refine AW_iload_n 0 (n := 1) rfl dX11_table_20 rfl ?_
  refine AW_if_ne dX11_table_21 rfl (iteM h (fun h => ?_) (fun h => ?_))
  · refine AW_bipush (v := (-4)) dX11_table_24 rfl ?_
    exact AW_reti dX11_table_26 rfl h
  · refine AW_aload_n 1 (n := 0) rfl dX11_table_27 rfl ?_
    refine AW_get dX11_table_28 flX11_26 (Nat.le_of_ble_eq_true rfl) (okn hρ (Nat.le_of_ble_eq_true rfl)) rfl (v := .ref 21) (fvR (okR hρ 2 rfl)) ?_
    refine AW_aload_n 1 (n := 0) rfl dX11_table_31 rfl ?_
    refine AW_get dX11_table_32 flX11_19 (Nat.le_of_ble_eq_true rfl) (okn hρ (Nat.le_of_ble_eq_true rfl)) rfl (v := .ref 19) (fvR (okR hρ 1 rfl)) ?_
    refine AW_callVv (M := mX11_table) (pc := 35) (As := [.ref 19]) (ρ1 := ρ) (st := []) dX11_table_35 mdX9_take rfl mlX11_85 imX9_take seX9_take (rcv_of (q := (RX9, TX9, 10)) (Nat.le_of_ble_eq_true rfl) (okn hρ (Nat.le_of_ble_eq_true rfl)) rfl rfl) ⟨rfl, npX9_take⟩ (Nat.le_of_ble_eq_true rfl) (Nat.le_refl _) (Nat.le_refl _) rfl (CALLv.mono h (fun S2 _ h => ?_))
    refine AW_aload_n 1 (n := 0) rfl dX11_table_38 rfl ?_
    refine AW_get dX11_table_39 flX11_26 (Nat.le_of_ble_eq_true rfl) (okn hρ (Nat.le_of_ble_eq_true rfl)) rfl (v := .ref 21) (fvR (okR hρ 2 rfl)) ?_
    refine AW_callVi (M := mX11_table) (pc := 42) (As := []) (ρ1 := ρ) (st := []) dX11_table_42 mdX9_isTold rfl mlX11_89 imX9_isTold seX9_isTold (rcv_of (q := (RX9, TX9, 10)) (Nat.le_of_ble_eq_true rfl) (okn hρ (Nat.le_of_ble_eq_true rfl)) rfl rfl) ⟨rfl, npX9_isTold⟩ (Nat.le_of_ble_eq_true rfl) (Nat.le_refl _) (Nat.le_refl _) rfl (CALLi.mono h (fun v3 S3 _ h => ?_))
    refine AW_if_eq dX11_table_45 rfl (iteM h (fun h => ?_) (fun h => ?_))
    · exact AW.sub [1] rfl h
    · refine AW_aload_n 1 (n := 0) rfl dX11_table_48 rfl ?_
      refine AW_get dX11_table_49 flX11_40 (Nat.le_of_ble_eq_true rfl) (okn hρ (Nat.le_of_ble_eq_true rfl)) rfl (v := .ref 26) (fvR (okR hρ 4 rfl)) ?_
      refine AW_aload_n 1 (n := 0) rfl dX11_table_52 rfl ?_
      refine AW_get dX11_table_53 flX11_26 (Nat.le_of_ble_eq_true rfl) (okn hρ (Nat.le_of_ble_eq_true rfl)) rfl (v := .ref 21) (fvR (okR hρ 2 rfl)) ?_
      refine AW_callVv (M := mX11_table) (pc := 56) (As := [.ref 21]) (ρ1 := ρ) (st := []) dX11_table_56 mdX5_make rfl mlX11_92 imX5_make seX5_make (rcv_of (q := (RX5, TX5, 7)) (Nat.le_of_ble_eq_true rfl) (okn hρ (Nat.le_of_ble_eq_true rfl)) rfl rfl) ⟨rfl, npX5_make⟩ (Nat.le_of_ble_eq_true rfl) (Nat.le_refl _) (Nat.le_refl _) rfl (CALLv.mono h (fun S4 _ h => ?_))
      refine AW_aload_n 1 (n := 0) rfl dX11_table_59 rfl ?_
      refine AW_get dX11_table_60 flX11_47 (Nat.le_of_ble_eq_true rfl) (okn hρ (Nat.le_of_ble_eq_true rfl)) rfl (v := .ref 31) (fvR (okR hρ 5 rfl)) ?_
      refine AW_aload_n 1 (n := 0) rfl dX11_table_63 rfl ?_
      refine AW_get dX11_table_64 flX11_26 (Nat.le_of_ble_eq_true rfl) (okn hρ (Nat.le_of_ble_eq_true rfl)) rfl (v := .ref 21) (fvR (okR hρ 2 rfl)) ?_
      refine AW_callVv (M := mX11_table) (pc := 67) (As := [.ref 21]) (ρ1 := ρ) (st := []) dX11_table_67 mdX1_make rfl mlX11_96 imX1_make seX1_make (rcv_of (q := (RX1, TX1, 15)) (Nat.le_of_ble_eq_true rfl) (okn hρ (Nat.le_of_ble_eq_true rfl)) rfl rfl) ⟨rfl, npX1_make⟩ (Nat.le_of_ble_eq_true rfl) (Nat.le_refl _) (Nat.le_refl _) rfl (CALLv.mono h (fun S5 _ h => ?_))
      exact AW.sub [1] rfl h
set_option maxRecDepth 20000 in
theorem eX11_fault {g : GX} {Q : Int32 → St → Prop} {d : Nat} {ρ : Rs} {S : St} (hρ : Ok ρ) {x1 : Int32} (h : if x1 = 0 then Q (S.1 19 0) S else (if x1 = 1 then Q (S.1 19 1) S else (Q (-1) S))) : CALLi g d mX11_fault [.ref 16, .int x1] ρ ρ S Q := by
  refine CALL.of mdX11_fault.2.2.2.2 (Nat.le_of_ble_eq_true rfl) (Nat.le_refl _) (Nat.le_refl _) ?_
  show AW g ρ (QI Q) d mX11_fault 0 [(0, .ref 16), (1, .int x1)] [] ρ S
  refine AW_iload_n 1 (n := 1) rfl dX11_fault_0 rfl ?_
  by_cases hc : x1 = 0
  · rw [if_pos hc] at h
    refine AW_lsw (tgt := 28) dX11_fault_1 (by decide) (by first | (rw [hc]; done) | (rw [hc]; rfl)) rfl ?_
    refine AW_aload_n 0 (n := 0) rfl dX11_fault_28 rfl ?_
    refine AW_get dX11_fault_29 flX11_19 (Nat.le_of_ble_eq_true rfl) (okn hρ (Nat.le_of_ble_eq_true rfl)) rfl (v := .ref 19) (fvR (okR hρ 1 rfl)) ?_
    refine AW_get dX11_fault_32 flX11_104 (Nat.le_of_ble_eq_true rfl) (okn hρ (Nat.le_of_ble_eq_true rfl)) rfl (v := .int (S.1 19 0)) (fun _ => rfl) ?_
    exact AW_reti dX11_fault_35 rfl h
  rw [if_neg hc] at h
  have hc0 := hc
  clear hc
  by_cases hc : x1 = 1
  · rw [if_pos hc] at h
    refine AW_lsw (tgt := 36) dX11_fault_1 (by decide) (by first | (rw [hc]; done) | (rw [hc]; rfl)) rfl ?_
    refine AW_aload_n 0 (n := 0) rfl dX11_fault_36 rfl ?_
    refine AW_get dX11_fault_37 flX11_19 (Nat.le_of_ble_eq_true rfl) (okn hρ (Nat.le_of_ble_eq_true rfl)) rfl (v := .ref 19) (fvR (okR hρ 1 rfl)) ?_
    refine AW_get dX11_fault_40 flX11_107 (Nat.le_of_ble_eq_true rfl) (okn hρ (Nat.le_of_ble_eq_true rfl)) rfl (v := .int (S.1 19 1)) (fun _ => rfl) ?_
    exact AW_reti dX11_fault_43 rfl h
  rw [if_neg hc] at h
  have hc1 := hc
  clear hc
  refine AW_lsw (tgt := 44) (off := 43) dX11_fault_1 (by decide) (by have q0 := i32n hc0 (k := 0) rfl; have q1 := i32n hc1 (k := 1) rfl; simp [Op.lookupswitch.offset, Ne.symm q0, q0, Ne.symm q1, q1]) rfl ?_
  refine AW_iconst (v := (-1)) dX11_fault_44 rfl ?_
  exact AW_reti dX11_fault_45 rfl h
set_option maxRecDepth 20000 in
theorem eX11_count {g : GX} {Q : Int32 → St → Prop} {d : Nat} {ρ : Rs} {S : St} (hρ : Ok ρ) {x1 : Int32} (h : if x1 = 0 then Q (S.1 21 0) S else (if x1 = 1 then Q (S.1 21 1) S else (if x1 = 2 then Q (S.1 21 3) S else (if x1 = 3 then CALLi g d mJ6_bitCount_0f7a4 [.int (S.1 21 4)] ρ ρ S (fun v1 S1 => Q v1 S1) else (if x1 = 4 then Q (S.1 21 8) S else (if x1 = 5 then Q (S.1 21 2) S else (if x1 = 6 then Q (S.1 17 1) S else (Q (-1) S)))))))) : CALLi g (d + 1) mX11_count [.ref 16, .int x1] ρ ρ S Q := by
  refine CALL.of mdX11_count.2.2.2.2 (Nat.le_of_ble_eq_true rfl) (Nat.le_refl _) (Nat.le_refl _) ?_
  show AW g ρ (QI Q) (d + 1) mX11_count 0 [(0, .ref 16), (1, .int x1)] [] ρ S
  refine AW_iload_n 1 (n := 1) rfl dX11_count_0 rfl ?_
  by_cases hc : x1 = 0
  · rw [if_pos hc] at h
    refine AW_tswIn (tgt := 44) dX11_count_1 (by rw [hc]; decide) (by rw [hc]; decide) (by rw [hc]; rfl) rfl ?_
    refine AW_aload_n 0 (n := 0) rfl dX11_count_44 rfl ?_
    refine AW_get dX11_count_45 flX11_26 (Nat.le_of_ble_eq_true rfl) (okn hρ (Nat.le_of_ble_eq_true rfl)) rfl (v := .ref 21) (fvR (okR hρ 2 rfl)) ?_
    refine AW_get dX11_count_48 flX11_110 (Nat.le_of_ble_eq_true rfl) (okn hρ (Nat.le_of_ble_eq_true rfl)) rfl (v := .int (S.1 21 0)) (fun _ => rfl) ?_
    exact AW_reti dX11_count_51 rfl h
  rw [if_neg hc] at h
  have hc0 := hc
  clear hc
  by_cases hc : x1 = 1
  · rw [if_pos hc] at h
    refine AW_tswIn (tgt := 52) dX11_count_1 (by rw [hc]; decide) (by rw [hc]; decide) (by rw [hc]; rfl) rfl ?_
    refine AW_aload_n 0 (n := 0) rfl dX11_count_52 rfl ?_
    refine AW_get dX11_count_53 flX11_26 (Nat.le_of_ble_eq_true rfl) (okn hρ (Nat.le_of_ble_eq_true rfl)) rfl (v := .ref 21) (fvR (okR hρ 2 rfl)) ?_
    refine AW_get dX11_count_56 flX11_113 (Nat.le_of_ble_eq_true rfl) (okn hρ (Nat.le_of_ble_eq_true rfl)) rfl (v := .int (S.1 21 1)) (fun _ => rfl) ?_
    exact AW_reti dX11_count_59 rfl h
  rw [if_neg hc] at h
  have hc1 := hc
  clear hc
  by_cases hc : x1 = 2
  · rw [if_pos hc] at h
    refine AW_tswIn (tgt := 60) dX11_count_1 (by rw [hc]; decide) (by rw [hc]; decide) (by rw [hc]; rfl) rfl ?_
    refine AW_aload_n 0 (n := 0) rfl dX11_count_60 rfl ?_
    refine AW_get dX11_count_61 flX11_26 (Nat.le_of_ble_eq_true rfl) (okn hρ (Nat.le_of_ble_eq_true rfl)) rfl (v := .ref 21) (fvR (okR hρ 2 rfl)) ?_
    refine AW_get dX11_count_64 flX11_116 (Nat.le_of_ble_eq_true rfl) (okn hρ (Nat.le_of_ble_eq_true rfl)) rfl (v := .int (S.1 21 3)) (fun _ => rfl) ?_
    exact AW_reti dX11_count_67 rfl h
  rw [if_neg hc] at h
  have hc2 := hc
  clear hc
  by_cases hc : x1 = 3
  · rw [if_pos hc] at h
    refine AW_tswIn (tgt := 68) dX11_count_1 (by rw [hc]; decide) (by rw [hc]; decide) (by rw [hc]; rfl) rfl ?_
    refine AW_aload_n 0 (n := 0) rfl dX11_count_68 rfl ?_
    refine AW_get dX11_count_69 flX11_26 (Nat.le_of_ble_eq_true rfl) (okn hρ (Nat.le_of_ble_eq_true rfl)) rfl (v := .ref 21) (fvR (okR hρ 2 rfl)) ?_
    refine AW_get dX11_count_72 flX11_119 (Nat.le_of_ble_eq_true rfl) (okn hρ (Nat.le_of_ble_eq_true rfl)) rfl (v := .int (S.1 21 4)) (fun _ => rfl) ?_
    refine AW_callSi (M := mX11_count) (pc := 75) (As := [.int (S.1 21 4)]) (ρ1 := ρ) (st := []) dX11_count_75 mdJ6_bitCount_0f7a4 mlX11_122 smJ6_bitCount_0f7a4 ⟨rfl, npJ6_bitCount_0f7a4⟩ (Nat.le_of_ble_eq_true rfl) (Nat.le_refl _) (Nat.le_refl _) rfl (CALLi.mono h (fun v1 S1 _ h => ?_))
    exact AW_reti dX11_count_78 rfl h
  rw [if_neg hc] at h
  have hc3 := hc
  clear hc
  by_cases hc : x1 = 4
  · rw [if_pos hc] at h
    refine AW_tswIn (tgt := 79) dX11_count_1 (by rw [hc]; decide) (by rw [hc]; decide) (by rw [hc]; rfl) rfl ?_
    refine AW_aload_n 0 (n := 0) rfl dX11_count_79 rfl ?_
    refine AW_get dX11_count_80 flX11_26 (Nat.le_of_ble_eq_true rfl) (okn hρ (Nat.le_of_ble_eq_true rfl)) rfl (v := .ref 21) (fvR (okR hρ 2 rfl)) ?_
    refine AW_get dX11_count_83 flX11_128 (Nat.le_of_ble_eq_true rfl) (okn hρ (Nat.le_of_ble_eq_true rfl)) rfl (v := .int (S.1 21 8)) (fun _ => rfl) ?_
    exact AW_reti dX11_count_86 rfl h
  rw [if_neg hc] at h
  have hc4 := hc
  clear hc
  by_cases hc : x1 = 5
  · rw [if_pos hc] at h
    refine AW_tswIn (tgt := 87) dX11_count_1 (by rw [hc]; decide) (by rw [hc]; decide) (by rw [hc]; rfl) rfl ?_
    refine AW_aload_n 0 (n := 0) rfl dX11_count_87 rfl ?_
    refine AW_get dX11_count_88 flX11_26 (Nat.le_of_ble_eq_true rfl) (okn hρ (Nat.le_of_ble_eq_true rfl)) rfl (v := .ref 21) (fvR (okR hρ 2 rfl)) ?_
    refine AW_get dX11_count_91 flX11_101 (Nat.le_of_ble_eq_true rfl) (okn hρ (Nat.le_of_ble_eq_true rfl)) rfl (v := .int (S.1 21 2)) (fun _ => rfl) ?_
    exact AW_reti dX11_count_94 rfl h
  rw [if_neg hc] at h
  have hc5 := hc
  clear hc
  by_cases hc : x1 = 6
  · rw [if_pos hc] at h
    refine AW_tswIn (tgt := 95) dX11_count_1 (by rw [hc]; decide) (by rw [hc]; decide) (by rw [hc]; rfl) rfl ?_
    refine AW_aload_n 0 (n := 0) rfl dX11_count_95 rfl ?_
    refine AW_get dX11_count_96 flX11_12 (Nat.le_of_ble_eq_true rfl) (okn hρ (Nat.le_of_ble_eq_true rfl)) rfl (v := .ref 17) (fvR (okR hρ 0 rfl)) ?_
    refine AW_get dX11_count_99 flX11_77 (Nat.le_of_ble_eq_true rfl) (okn hρ (Nat.le_of_ble_eq_true rfl)) rfl (v := .int (S.1 17 1)) (fun _ => rfl) ?_
    exact AW_reti dX11_count_102 rfl h
  rw [if_neg hc] at h
  have hc6 := hc
  clear hc
  refine AW_tswOut (tgt := 103) dX11_count_1 (by have q0 := i32n hc0 (k := 0) rfl; have q1 := i32n hc1 (k := 1) rfl; have q2 := i32n hc2 (k := 2) rfl; have q3 := i32n hc3 (k := 3) rfl; have q4 := i32n hc4 (k := 4) rfl; have q5 := i32n hc5 (k := 5) rfl; have q6 := i32n hc6 (k := 6) rfl; omega) rfl ?_
  refine AW_iconst (v := (-1)) dX11_count_103 rfl ?_
  exact AW_reti dX11_count_104 rfl h
set_option maxRecDepth 20000 in
theorem eX11_cell {g : GX} {Q : Int32 → St → Prop} {d : Nat} {ρ : Rs} {S : St} (hρ : Ok ρ) {x1 : Int32} {x2 : Int32} (h : CALLi g d mX9_has [.ref 21, .int x1, .int x2] ρ ρ S (fun v1 S1 => if v1 = 0 then Q (-2) S1 else CALLi g d mX9_at [.ref 21, .int x1, .int x2] ρ ρ S1 (fun v2 S2 => Q v2 S2))) : CALLi g (d + 1) mX11_cell [.ref 16, .int x1, .int x2] ρ ρ S Q := by
  refine CALL.of mdX11_cell.2.2.2.2 (Nat.le_of_ble_eq_true rfl) (Nat.le_refl _) (Nat.le_refl _) ?_
  show AW g ρ (QI Q) (d + 1) mX11_cell 0 [(0, .ref 16), (1, .int x1), (2, .int x2)] [] ρ S
  refine AW_aload_n 0 (n := 0) rfl dX11_cell_0 rfl ?_
  refine AW_get dX11_cell_1 flX11_26 (Nat.le_of_ble_eq_true rfl) (okn hρ (Nat.le_of_ble_eq_true rfl)) rfl (v := .ref 21) (fvR (okR hρ 2 rfl)) ?_
  refine AW_iload_n 1 (n := 1) rfl dX11_cell_4 rfl ?_
  refine AW_iload_n 2 (n := 2) rfl dX11_cell_5 rfl ?_
  refine AW_callVi (M := mX11_cell) (pc := 6) (As := [.int x1, .int x2]) (ρ1 := ρ) (st := []) dX11_cell_6 mdX9_has rfl mlX11_131 imX9_has seX9_has (rcv_of (q := (RX9, TX9, 10)) (Nat.le_of_ble_eq_true rfl) (okn hρ (Nat.le_of_ble_eq_true rfl)) rfl rfl) ⟨rfl, npX9_has⟩ (Nat.le_of_ble_eq_true rfl) (Nat.le_refl _) (Nat.le_refl _) rfl (CALLi.mono h (fun v1 S1 _ h => ?_))
  refine AW_if_eq dX11_cell_9 rfl (iteM h (fun h => ?_) (fun h => ?_))
  · refine AW_bipush (v := (-2)) dX11_cell_24 rfl ?_
    exact AW_reti dX11_cell_26 rfl h
  · refine AW_aload_n 0 (n := 0) rfl dX11_cell_12 rfl ?_
    refine AW_get dX11_cell_13 flX11_26 (Nat.le_of_ble_eq_true rfl) (okn hρ (Nat.le_of_ble_eq_true rfl)) rfl (v := .ref 21) (fvR (okR hρ 2 rfl)) ?_
    refine AW_iload_n 1 (n := 1) rfl dX11_cell_16 rfl ?_
    refine AW_iload_n 2 (n := 2) rfl dX11_cell_17 rfl ?_
    refine AW_callVi (M := mX11_cell) (pc := 18) (As := [.int x1, .int x2]) (ρ1 := ρ) (st := []) dX11_cell_18 mdX9_at rfl mlX11_135 imX9_at seX9_at (rcv_of (q := (RX9, TX9, 10)) (Nat.le_of_ble_eq_true rfl) (okn hρ (Nat.le_of_ble_eq_true rfl)) rfl rfl) ⟨rfl, npX9_at⟩ (Nat.le_of_ble_eq_true rfl) (Nat.le_refl _) (Nat.le_refl _) rfl (CALLi.mono h (fun v2 S2 _ h => ?_))
    refine AW_goto (tgt := 26) dX11_cell_21 rfl ?_
    exact AW_reti dX11_cell_26 rfl h
set_option maxRecDepth 20000 in
theorem eX11_hole {g : GX} {Q : Int32 → St → Prop} {d : Nat} {ρ : Rs} {S : St} (hρ : Ok ρ) {x1 : Int32} {x2 : Int32} (h : CALLi g d mX9_has [.ref 21, .int x1, .int x2] ρ ρ S (fun v1 S1 => if v1 = 0 then Q (-2) S1 else CALLi g d mX9_isHole [.ref 21, .int x1, .int x2] ρ ρ S1 (fun v2 S2 => if v2 = 0 then Q 0 S2 else Q 1 S2))) : CALLi g (d + 1) mX11_hole [.ref 16, .int x1, .int x2] ρ ρ S Q := by
  refine CALL.of mdX11_hole.2.2.2.2 (Nat.le_of_ble_eq_true rfl) (Nat.le_refl _) (Nat.le_refl _) ?_
  show AW g ρ (QI Q) (d + 1) mX11_hole 0 [(0, .ref 16), (1, .int x1), (2, .int x2)] [] ρ S
  refine AW_aload_n 0 (n := 0) rfl dX11_hole_0 rfl ?_
  refine AW_get dX11_hole_1 flX11_26 (Nat.le_of_ble_eq_true rfl) (okn hρ (Nat.le_of_ble_eq_true rfl)) rfl (v := .ref 21) (fvR (okR hρ 2 rfl)) ?_
  refine AW_iload_n 1 (n := 1) rfl dX11_hole_4 rfl ?_
  refine AW_iload_n 2 (n := 2) rfl dX11_hole_5 rfl ?_
  refine AW_callVi (M := mX11_hole) (pc := 6) (As := [.int x1, .int x2]) (ρ1 := ρ) (st := []) dX11_hole_6 mdX9_has rfl mlX11_131 imX9_has seX9_has (rcv_of (q := (RX9, TX9, 10)) (Nat.le_of_ble_eq_true rfl) (okn hρ (Nat.le_of_ble_eq_true rfl)) rfl rfl) ⟨rfl, npX9_has⟩ (Nat.le_of_ble_eq_true rfl) (Nat.le_refl _) (Nat.le_refl _) rfl (CALLi.mono h (fun v1 S1 _ h => ?_))
  refine AW_if_ne dX11_hole_9 rfl (iteM h (fun h => ?_) (fun h => ?_))
  · refine AW_bipush (v := (-2)) dX11_hole_12 rfl ?_
    exact AW_reti dX11_hole_14 rfl h
  · refine AW_aload_n 0 (n := 0) rfl dX11_hole_15 rfl ?_
    refine AW_get dX11_hole_16 flX11_26 (Nat.le_of_ble_eq_true rfl) (okn hρ (Nat.le_of_ble_eq_true rfl)) rfl (v := .ref 21) (fvR (okR hρ 2 rfl)) ?_
    refine AW_iload_n 1 (n := 1) rfl dX11_hole_19 rfl ?_
    refine AW_iload_n 2 (n := 2) rfl dX11_hole_20 rfl ?_
    refine AW_callVi (M := mX11_hole) (pc := 21) (As := [.int x1, .int x2]) (ρ1 := ρ) (st := []) dX11_hole_21 mdX9_isHole rfl mlX11_139 imX9_isHole seX9_isHole (rcv_of (q := (RX9, TX9, 10)) (Nat.le_of_ble_eq_true rfl) (okn hρ (Nat.le_of_ble_eq_true rfl)) rfl rfl) ⟨rfl, npX9_isHole⟩ (Nat.le_of_ble_eq_true rfl) (Nat.le_refl _) (Nat.le_refl _) rfl (CALLi.mono h (fun v2 S2 _ h => ?_))
    refine AW_if_eq dX11_hole_24 rfl (iteM h (fun h => ?_) (fun h => ?_))
    · refine AW_iconst (v := 0) dX11_hole_31 rfl ?_
      exact AW_reti dX11_hole_32 rfl h
    · refine AW_iconst (v := 1) dX11_hole_27 rfl ?_
      refine AW_goto (tgt := 32) dX11_hole_28 rfl ?_
      exact AW_reti dX11_hole_32 rfl h
set_option maxRecDepth 20000 in
theorem eX11_row {g : GX} {Q : Int32 → St → Prop} {d : Nat} {ρ : Rs} {S : St} (hρ : Ok ρ) {x1 : Int32} (h : CALLi g (d + 1) mX9_has [.ref 21, .int x1, .int 0] ρ ρ S (fun v1 S1 => if v1 = 0 then Q (-2) S1 else vp_in x1 4 ∧ (Q (S1.1 22 x1.toNatClampNeg) S1))) : CALLi g (d + 2) mX11_row [.ref 16, .int x1] ρ ρ S Q := by
  refine CALL.of mdX11_row.2.2.2.2 (Nat.le_of_ble_eq_true rfl) (Nat.le_refl _) (Nat.le_refl _) ?_
  show AW g ρ (QI Q) (d + 2) mX11_row 0 [(0, .ref 16), (1, .int x1)] [] ρ S
  refine AW_aload_n 0 (n := 0) rfl dX11_row_0 rfl ?_
  refine AW_get dX11_row_1 flX11_26 (Nat.le_of_ble_eq_true rfl) (okn hρ (Nat.le_of_ble_eq_true rfl)) rfl (v := .ref 21) (fvR (okR hρ 2 rfl)) ?_
  refine AW_iload_n 1 (n := 1) rfl dX11_row_4 rfl ?_
  refine AW_iconst (v := 0) dX11_row_5 rfl ?_
  refine AW_callVi (M := mX11_row) (pc := 6) (As := [.int x1, .int 0]) (ρ1 := ρ) (st := []) dX11_row_6 mdX9_has rfl mlX11_131 imX9_has seX9_has (rcv_of (q := (RX9, TX9, 10)) (Nat.le_of_ble_eq_true rfl) (okn hρ (Nat.le_of_ble_eq_true rfl)) rfl rfl) ⟨rfl, npX9_has⟩ (Nat.le_of_ble_eq_true rfl) (Nat.le_refl _) (Nat.le_refl _) rfl (CALLi.mono h (fun v1 S1 _ h => ?_))
  refine AW_if_eq dX11_row_9 rfl (iteM h (fun h => ?_) (fun h => ?_))
  · refine AW_bipush (v := (-2)) dX11_row_23 rfl ?_
    exact AW_reti dX11_row_25 rfl h
  · refine AW_aload_n 0 (n := 0) rfl dX11_row_12 rfl ?_
    refine AW_get dX11_row_13 flX11_26 (Nat.le_of_ble_eq_true rfl) (okn hρ (Nat.le_of_ble_eq_true rfl)) rfl (v := .ref 21) (fvR (okR hρ 2 rfl)) ?_
    refine AW_iload_n 1 (n := 1) rfl dX11_row_16 rfl ?_
    refine AW_callVi (M := mX11_row) (pc := 17) (As := [.int x1]) (ρ1 := ρ) (st := []) dX11_row_17 mdX9_rowSum rfl mlX11_142 imX9_rowSum seX9_rowSum (rcv_of (q := (RX9, TX9, 10)) (Nat.le_of_ble_eq_true rfl) (okn hρ (Nat.le_of_ble_eq_true rfl)) rfl rfl) ⟨rfl, npX9_rowSum⟩ (Nat.le_of_ble_eq_true rfl) (Nat.le_refl _) (Nat.le_refl _) rfl (iX9_rowSum hρ h.1 (v := (S1.1 22 x1.toNatClampNeg)) rfl ?_)
    replace h := h.2
    refine AW_goto (tgt := 25) dX11_row_20 rfl ?_
    exact AW_reti dX11_row_25 rfl h
set_option maxRecDepth 20000 in
theorem eX11_column {g : GX} {Q : Int32 → St → Prop} {d : Nat} {ρ : Rs} {S : St} (hρ : Ok ρ) {x1 : Int32} (h : CALLi g (d + 1) mX9_has [.ref 21, .int 0, .int x1] ρ ρ S (fun v1 S1 => if v1 = 0 then Q (-2) S1 else vp_in x1 4 ∧ (Q (S1.1 23 x1.toNatClampNeg) S1))) : CALLi g (d + 2) mX11_column [.ref 16, .int x1] ρ ρ S Q := by
  refine CALL.of mdX11_column.2.2.2.2 (Nat.le_of_ble_eq_true rfl) (Nat.le_refl _) (Nat.le_refl _) ?_
  show AW g ρ (QI Q) (d + 2) mX11_column 0 [(0, .ref 16), (1, .int x1)] [] ρ S
  refine AW_aload_n 0 (n := 0) rfl dX11_column_0 rfl ?_
  refine AW_get dX11_column_1 flX11_26 (Nat.le_of_ble_eq_true rfl) (okn hρ (Nat.le_of_ble_eq_true rfl)) rfl (v := .ref 21) (fvR (okR hρ 2 rfl)) ?_
  refine AW_iconst (v := 0) dX11_column_4 rfl ?_
  refine AW_iload_n 1 (n := 1) rfl dX11_column_5 rfl ?_
  refine AW_callVi (M := mX11_column) (pc := 6) (As := [.int 0, .int x1]) (ρ1 := ρ) (st := []) dX11_column_6 mdX9_has rfl mlX11_131 imX9_has seX9_has (rcv_of (q := (RX9, TX9, 10)) (Nat.le_of_ble_eq_true rfl) (okn hρ (Nat.le_of_ble_eq_true rfl)) rfl rfl) ⟨rfl, npX9_has⟩ (Nat.le_of_ble_eq_true rfl) (Nat.le_refl _) (Nat.le_refl _) rfl (CALLi.mono h (fun v1 S1 _ h => ?_))
  refine AW_if_eq dX11_column_9 rfl (iteM h (fun h => ?_) (fun h => ?_))
  · refine AW_bipush (v := (-2)) dX11_column_23 rfl ?_
    exact AW_reti dX11_column_25 rfl h
  · refine AW_aload_n 0 (n := 0) rfl dX11_column_12 rfl ?_
    refine AW_get dX11_column_13 flX11_26 (Nat.le_of_ble_eq_true rfl) (okn hρ (Nat.le_of_ble_eq_true rfl)) rfl (v := .ref 21) (fvR (okR hρ 2 rfl)) ?_
    refine AW_iload_n 1 (n := 1) rfl dX11_column_16 rfl ?_
    refine AW_callVi (M := mX11_column) (pc := 17) (As := [.int x1]) (ρ1 := ρ) (st := []) dX11_column_17 mdX9_columnSum rfl mlX11_145 imX9_columnSum seX9_columnSum (rcv_of (q := (RX9, TX9, 10)) (Nat.le_of_ble_eq_true rfl) (okn hρ (Nat.le_of_ble_eq_true rfl)) rfl rfl) ⟨rfl, npX9_columnSum⟩ (Nat.le_of_ble_eq_true rfl) (Nat.le_refl _) (Nat.le_refl _) rfl (iX9_columnSum hρ h.1 (v := (S1.1 23 x1.toNatClampNeg)) rfl ?_)
    replace h := h.2
    refine AW_goto (tgt := 25) dX11_column_20 rfl ?_
    exact AW_reti dX11_column_25 rfl h
set_option maxRecDepth 20000 in
theorem eX11_tables {g : GX} {Q : Int64 → St → Prop} {d : Nat} {ρ : Rs} {S : St} (hρ : Ok ρ) (h : CALLi g d mX9_isTold [.ref 21] ρ ρ S (fun v1 S1 => if v1 = 0 then Q (-2) S1 else CALLl g d mX1_size [.ref 31] ρ ρ S1 (fun v2 S2 => Q v2 S2))) : CALLl g (d + 1) mX11_tables [.ref 16] ρ ρ S Q := by
  refine CALL.of mdX11_tables.2.2.2.2 (Nat.le_of_ble_eq_true rfl) (Nat.le_refl _) (Nat.le_refl _) ?_
  show AW g ρ (QJ Q) (d + 1) mX11_tables 0 [(0, .ref 16)] [] ρ S
  refine AW_aload_n 0 (n := 0) rfl dX11_tables_0 rfl ?_
  refine AW_get dX11_tables_1 flX11_26 (Nat.le_of_ble_eq_true rfl) (okn hρ (Nat.le_of_ble_eq_true rfl)) rfl (v := .ref 21) (fvR (okR hρ 2 rfl)) ?_
  refine AW_callVi (M := mX11_tables) (pc := 4) (As := []) (ρ1 := ρ) (st := []) dX11_tables_4 mdX9_isTold rfl mlX11_89 imX9_isTold seX9_isTold (rcv_of (q := (RX9, TX9, 10)) (Nat.le_of_ble_eq_true rfl) (okn hρ (Nat.le_of_ble_eq_true rfl)) rfl rfl) ⟨rfl, npX9_isTold⟩ (Nat.le_of_ble_eq_true rfl) (Nat.le_refl _) (Nat.le_refl _) rfl (CALLi.mono h (fun v1 S1 _ h => ?_))
  refine AW_if_eq dX11_tables_7 rfl (iteM h (fun h => ?_) (fun h => ?_))
  · refine AW_ldc2 (v := (-2)) dX11_tables_20 kcX11_152 ?_
    exact AW_retl dX11_tables_23 rfl h
  · refine AW_aload_n 0 (n := 0) rfl dX11_tables_10 rfl ?_
    refine AW_get dX11_tables_11 flX11_47 (Nat.le_of_ble_eq_true rfl) (okn hρ (Nat.le_of_ble_eq_true rfl)) rfl (v := .ref 31) (fvR (okR hρ 5 rfl)) ?_
    refine AW_callVl (M := mX11_tables) (pc := 14) (As := []) (ρ1 := ρ) (st := []) dX11_tables_14 mdX1_size rfl mlX11_148 imX1_size seX1_size (rcv_of (q := (RX1, TX1, 15)) (Nat.le_of_ble_eq_true rfl) (okn hρ (Nat.le_of_ble_eq_true rfl)) rfl rfl) ⟨rfl, npX1_size⟩ (Nat.le_of_ble_eq_true rfl) (Nat.le_refl _) (Nat.le_refl _) rfl (CALLl.mono h (fun v2 S2 _ h => ?_))
    refine AW_goto (tgt := 23) dX11_tables_17 rfl ?_
    exact AW_retl dX11_tables_23 rfl h
set_option maxRecDepth 20000 in
theorem eX11_rank {g : GX} {Q : Int64 → St → Prop} {d : Nat} {ρ : Rs} {S : St} (hρ : Ok ρ) (h : CALLi g d mX9_isTold [.ref 21] ρ ρ S (fun v1 S1 => if v1 = 0 then Q (-2) S1 else CALLl g d mX1_rankOf [.ref 31, .long (S1.2 21 7)] ρ ρ S1 (fun v2 S2 => Q v2 S2))) : CALLl g (d + 1) mX11_rank [.ref 16] ρ ρ S Q := by
  refine CALL.of mdX11_rank.2.2.2.2 (Nat.le_of_ble_eq_true rfl) (Nat.le_refl _) (Nat.le_refl _) ?_
  show AW g ρ (QJ Q) (d + 1) mX11_rank 0 [(0, .ref 16)] [] ρ S
  refine AW_aload_n 0 (n := 0) rfl dX11_rank_0 rfl ?_
  refine AW_get dX11_rank_1 flX11_26 (Nat.le_of_ble_eq_true rfl) (okn hρ (Nat.le_of_ble_eq_true rfl)) rfl (v := .ref 21) (fvR (okR hρ 2 rfl)) ?_
  refine AW_callVi (M := mX11_rank) (pc := 4) (As := []) (ρ1 := ρ) (st := []) dX11_rank_4 mdX9_isTold rfl mlX11_89 imX9_isTold seX9_isTold (rcv_of (q := (RX9, TX9, 10)) (Nat.le_of_ble_eq_true rfl) (okn hρ (Nat.le_of_ble_eq_true rfl)) rfl rfl) ⟨rfl, npX9_isTold⟩ (Nat.le_of_ble_eq_true rfl) (Nat.le_refl _) (Nat.le_refl _) rfl (CALLi.mono h (fun v1 S1 _ h => ?_))
  refine AW_if_eq dX11_rank_7 rfl (iteM h (fun h => ?_) (fun h => ?_))
  · refine AW_ldc2 (v := (-2)) dX11_rank_27 kcX11_152 ?_
    exact AW_retl dX11_rank_30 rfl h
  · refine AW_aload_n 0 (n := 0) rfl dX11_rank_10 rfl ?_
    refine AW_get dX11_rank_11 flX11_47 (Nat.le_of_ble_eq_true rfl) (okn hρ (Nat.le_of_ble_eq_true rfl)) rfl (v := .ref 31) (fvR (okR hρ 5 rfl)) ?_
    refine AW_aload_n 0 (n := 0) rfl dX11_rank_14 rfl ?_
    refine AW_get dX11_rank_15 flX11_26 (Nat.le_of_ble_eq_true rfl) (okn hρ (Nat.le_of_ble_eq_true rfl)) rfl (v := .ref 21) (fvR (okR hρ 2 rfl)) ?_
    refine AW_get dX11_rank_18 flX11_154 (Nat.le_of_ble_eq_true rfl) (okn hρ (Nat.le_of_ble_eq_true rfl)) rfl (v := .long (S1.2 21 7)) (fun _ => rfl) ?_
    refine AW_callVl (M := mX11_rank) (pc := 21) (As := [.long (S1.2 21 7)]) (ρ1 := ρ) (st := []) dX11_rank_21 mdX1_rankOf rfl mlX11_158 imX1_rankOf seX1_rankOf (rcv_of (q := (RX1, TX1, 15)) (Nat.le_of_ble_eq_true rfl) (okn hρ (Nat.le_of_ble_eq_true rfl)) rfl rfl) ⟨rfl, npX1_rankOf⟩ (Nat.le_of_ble_eq_true rfl) (Nat.le_refl _) (Nat.le_refl _) rfl (CALLl.mono h (fun v2 S2 _ h => ?_))
    refine AW_goto (tgt := 30) dX11_rank_24 rfl ?_
    exact AW_retl dX11_rank_30 rfl h
set_option maxRecDepth 20000 in
theorem eX11_of {g : GX} {Q : Int32 → St → Prop} {d : Nat} {ρ : Rs} {S : St} (hρ : Ok ρ) {x1 : Int64} {x3 : Int32} {x4 : Int32} (h : CALLi g d mX9_has [.ref 21, .int x3, .int x4] ρ ρ S (fun v1 S1 => if v1 = 0 then Q (-2) S1 else if x1 < 0 then Q (-2) S1 else CALLl g d mX1_size [.ref 31] ρ ρ S1 (fun v2 S2 => if x1 < v2 then CALLl g d mX1_cellsOf [.ref 31, .long x1] ρ ρ S2 (fun v3 S3 => CALLi g d mX3_shift [.int x3, .int x4] ρ ρ S3 (fun v4 S4 => CALLi g d mX3_get [.long v3, .int v4] ρ ρ S4 (fun v5 S5 => Q v5 S5))) else Q (-2) S2))) : CALLi g (d + 1) mX11_of [.ref 16, .long x1, .int x3, .int x4] ρ ρ S Q := by
  refine CALL.of mdX11_of.2.2.2.2 (Nat.le_of_ble_eq_true rfl) (Nat.le_refl _) (Nat.le_refl _) ?_
  show AW g ρ (QI Q) (d + 1) mX11_of 0 [(0, .ref 16), (1, .long x1), (3, .int x3), (4, .int x4)] [] ρ S
  refine AW_aload_n 0 (n := 0) rfl dX11_of_0 rfl ?_
  refine AW_get dX11_of_1 flX11_26 (Nat.le_of_ble_eq_true rfl) (okn hρ (Nat.le_of_ble_eq_true rfl)) rfl (v := .ref 21) (fvR (okR hρ 2 rfl)) ?_
  refine AW_iload_n 2 (n := 3) rfl dX11_of_4 rfl ?_
  refine AW_iload 3 dX11_of_5 rfl ?_
  refine AW_callVi (M := mX11_of) (pc := 7) (As := [.int x3, .int x4]) (ρ1 := ρ) (st := []) dX11_of_7 mdX9_has rfl mlX11_131 imX9_has seX9_has (rcv_of (q := (RX9, TX9, 10)) (Nat.le_of_ble_eq_true rfl) (okn hρ (Nat.le_of_ble_eq_true rfl)) rfl rfl) ⟨rfl, npX9_has⟩ (Nat.le_of_ble_eq_true rfl) (Nat.le_refl _) (Nat.le_refl _) rfl (CALLi.mono h (fun v1 S1 _ h => ?_))
  refine AW_if_eq dX11_of_10 rfl (iteM h (fun h => ?_) (fun h => ?_))
  · refine AW_bipush (v := (-2)) dX11_of_31 rfl ?_
    exact AW_reti dX11_of_33 rfl h
  · refine AW_lload_n 1 (n := 1) rfl dX11_of_13 rfl ?_
    refine AW_lconst (v := 0) dX11_of_14 rfl ?_
    refine AW_lc_lt dX11_of_15 dX11_of_16 rfl (iteM h (fun h => ?_) (fun h => ?_))
    · refine AW_bipush (v := (-2)) dX11_of_31 rfl ?_
      exact AW_reti dX11_of_33 rfl h
    · refine AW_lload_n 1 (n := 1) rfl dX11_of_19 rfl ?_
      refine AW_aload_n 0 (n := 0) rfl dX11_of_20 rfl ?_
      refine AW_get dX11_of_21 flX11_47 (Nat.le_of_ble_eq_true rfl) (okn hρ (Nat.le_of_ble_eq_true rfl)) rfl (v := .ref 31) (fvR (okR hρ 5 rfl)) ?_
      refine AW_callVl (M := mX11_of) (pc := 24) (As := []) (ρ1 := ρ) (st := [.long x1]) dX11_of_24 mdX1_size rfl mlX11_148 imX1_size seX1_size (rcv_of (q := (RX1, TX1, 15)) (Nat.le_of_ble_eq_true rfl) (okn hρ (Nat.le_of_ble_eq_true rfl)) rfl rfl) ⟨rfl, npX1_size⟩ (Nat.le_of_ble_eq_true rfl) (Nat.le_refl _) (Nat.le_refl _) rfl (CALLl.mono h (fun v2 S2 _ h => ?_))
      refine AW_lc_lt dX11_of_27 dX11_of_28 rfl (iteM h (fun h => ?_) (fun h => ?_))
      · refine AW_aload_n 0 (n := 0) rfl dX11_of_34 rfl ?_
        refine AW_get dX11_of_35 flX11_47 (Nat.le_of_ble_eq_true rfl) (okn hρ (Nat.le_of_ble_eq_true rfl)) rfl (v := .ref 31) (fvR (okR hρ 5 rfl)) ?_
        refine AW_lload_n 1 (n := 1) rfl dX11_of_38 rfl ?_
        refine AW_callVl (M := mX11_of) (pc := 39) (As := [.long x1]) (ρ1 := ρ) (st := []) dX11_of_39 mdX1_cellsOf rfl mlX11_162 imX1_cellsOf seX1_cellsOf (rcv_of (q := (RX1, TX1, 15)) (Nat.le_of_ble_eq_true rfl) (okn hρ (Nat.le_of_ble_eq_true rfl)) rfl rfl) ⟨rfl, npX1_cellsOf⟩ (Nat.le_of_ble_eq_true rfl) (Nat.le_refl _) (Nat.le_refl _) rfl (CALLl.mono h (fun v3 S3 _ h => ?_))
        refine AW_iload_n 2 (n := 3) rfl dX11_of_42 rfl ?_
        refine AW_iload 3 dX11_of_43 rfl ?_
        refine AW_callSi (M := mX11_of) (pc := 45) (As := [.int x3, .int x4]) (ρ1 := ρ) (st := [.long v3]) dX11_of_45 mdX3_shift mlX11_165 smX3_shift ⟨rfl, npX3_shift⟩ (Nat.le_of_ble_eq_true rfl) (Nat.le_refl _) (Nat.le_refl _) rfl (CALLi.mono h (fun v4 S4 _ h => ?_))
        refine AW_callSi (M := mX11_of) (pc := 48) (As := [.long v3, .int v4]) (ρ1 := ρ) (st := []) dX11_of_48 mdX3_get mlX11_170 smX3_get ⟨rfl, npX3_get⟩ (Nat.le_of_ble_eq_true rfl) (Nat.le_refl _) (Nat.le_refl _) rfl (CALLi.mono h (fun v5 S5 _ h => ?_))
        exact AW_reti dX11_of_51 rfl h
      · refine AW_bipush (v := (-2)) dX11_of_31 rfl ?_
        exact AW_reti dX11_of_33 rfl h
set_option maxRecDepth 20000 in
theorem eX11_least {g : GX} {Q : Int32 → St → Prop} {d : Nat} {ρ : Rs} {S : St} (hρ : Ok ρ) {x1 : Int32} {x2 : Int32} (h : CALLi g d mX9_has [.ref 21, .int x1, .int x2] ρ ρ S (fun v1 S1 => if v1 = 0 then Q (-2) S1 else CALLi g d mX1_lowestOf [.ref 31, .int x1, .int x2] ρ ρ S1 (fun v2 S2 => Q v2 S2))) : CALLi g (d + 1) mX11_least [.ref 16, .int x1, .int x2] ρ ρ S Q := by
  refine CALL.of mdX11_least.2.2.2.2 (Nat.le_of_ble_eq_true rfl) (Nat.le_refl _) (Nat.le_refl _) ?_
  show AW g ρ (QI Q) (d + 1) mX11_least 0 [(0, .ref 16), (1, .int x1), (2, .int x2)] [] ρ S
  refine AW_aload_n 0 (n := 0) rfl dX11_least_0 rfl ?_
  refine AW_get dX11_least_1 flX11_26 (Nat.le_of_ble_eq_true rfl) (okn hρ (Nat.le_of_ble_eq_true rfl)) rfl (v := .ref 21) (fvR (okR hρ 2 rfl)) ?_
  refine AW_iload_n 1 (n := 1) rfl dX11_least_4 rfl ?_
  refine AW_iload_n 2 (n := 2) rfl dX11_least_5 rfl ?_
  refine AW_callVi (M := mX11_least) (pc := 6) (As := [.int x1, .int x2]) (ρ1 := ρ) (st := []) dX11_least_6 mdX9_has rfl mlX11_131 imX9_has seX9_has (rcv_of (q := (RX9, TX9, 10)) (Nat.le_of_ble_eq_true rfl) (okn hρ (Nat.le_of_ble_eq_true rfl)) rfl rfl) ⟨rfl, npX9_has⟩ (Nat.le_of_ble_eq_true rfl) (Nat.le_refl _) (Nat.le_refl _) rfl (CALLi.mono h (fun v1 S1 _ h => ?_))
  refine AW_if_eq dX11_least_9 rfl (iteM h (fun h => ?_) (fun h => ?_))
  · refine AW_bipush (v := (-2)) dX11_least_24 rfl ?_
    exact AW_reti dX11_least_26 rfl h
  · refine AW_aload_n 0 (n := 0) rfl dX11_least_12 rfl ?_
    refine AW_get dX11_least_13 flX11_47 (Nat.le_of_ble_eq_true rfl) (okn hρ (Nat.le_of_ble_eq_true rfl)) rfl (v := .ref 31) (fvR (okR hρ 5 rfl)) ?_
    refine AW_iload_n 1 (n := 1) rfl dX11_least_16 rfl ?_
    refine AW_iload_n 2 (n := 2) rfl dX11_least_17 rfl ?_
    refine AW_callVi (M := mX11_least) (pc := 18) (As := [.int x1, .int x2]) (ρ1 := ρ) (st := []) dX11_least_18 mdX1_lowestOf rfl mlX11_174 imX1_lowestOf seX1_lowestOf (rcv_of (q := (RX1, TX1, 15)) (Nat.le_of_ble_eq_true rfl) (okn hρ (Nat.le_of_ble_eq_true rfl)) rfl rfl) ⟨rfl, npX1_lowestOf⟩ (Nat.le_of_ble_eq_true rfl) (Nat.le_refl _) (Nat.le_refl _) rfl (CALLi.mono h (fun v2 S2 _ h => ?_))
    refine AW_goto (tgt := 26) dX11_least_21 rfl ?_
    exact AW_reti dX11_least_26 rfl h
set_option maxRecDepth 20000 in
theorem eX11_most {g : GX} {Q : Int32 → St → Prop} {d : Nat} {ρ : Rs} {S : St} (hρ : Ok ρ) {x1 : Int32} {x2 : Int32} (h : CALLi g d mX9_has [.ref 21, .int x1, .int x2] ρ ρ S (fun v1 S1 => if v1 = 0 then Q (-2) S1 else CALLi g d mX1_highestOf [.ref 31, .int x1, .int x2] ρ ρ S1 (fun v2 S2 => Q v2 S2))) : CALLi g (d + 1) mX11_most [.ref 16, .int x1, .int x2] ρ ρ S Q := by
  refine CALL.of mdX11_most.2.2.2.2 (Nat.le_of_ble_eq_true rfl) (Nat.le_refl _) (Nat.le_refl _) ?_
  show AW g ρ (QI Q) (d + 1) mX11_most 0 [(0, .ref 16), (1, .int x1), (2, .int x2)] [] ρ S
  refine AW_aload_n 0 (n := 0) rfl dX11_most_0 rfl ?_
  refine AW_get dX11_most_1 flX11_26 (Nat.le_of_ble_eq_true rfl) (okn hρ (Nat.le_of_ble_eq_true rfl)) rfl (v := .ref 21) (fvR (okR hρ 2 rfl)) ?_
  refine AW_iload_n 1 (n := 1) rfl dX11_most_4 rfl ?_
  refine AW_iload_n 2 (n := 2) rfl dX11_most_5 rfl ?_
  refine AW_callVi (M := mX11_most) (pc := 6) (As := [.int x1, .int x2]) (ρ1 := ρ) (st := []) dX11_most_6 mdX9_has rfl mlX11_131 imX9_has seX9_has (rcv_of (q := (RX9, TX9, 10)) (Nat.le_of_ble_eq_true rfl) (okn hρ (Nat.le_of_ble_eq_true rfl)) rfl rfl) ⟨rfl, npX9_has⟩ (Nat.le_of_ble_eq_true rfl) (Nat.le_refl _) (Nat.le_refl _) rfl (CALLi.mono h (fun v1 S1 _ h => ?_))
  refine AW_if_eq dX11_most_9 rfl (iteM h (fun h => ?_) (fun h => ?_))
  · refine AW_bipush (v := (-2)) dX11_most_24 rfl ?_
    exact AW_reti dX11_most_26 rfl h
  · refine AW_aload_n 0 (n := 0) rfl dX11_most_12 rfl ?_
    refine AW_get dX11_most_13 flX11_47 (Nat.le_of_ble_eq_true rfl) (okn hρ (Nat.le_of_ble_eq_true rfl)) rfl (v := .ref 31) (fvR (okR hρ 5 rfl)) ?_
    refine AW_iload_n 1 (n := 1) rfl dX11_most_16 rfl ?_
    refine AW_iload_n 2 (n := 2) rfl dX11_most_17 rfl ?_
    refine AW_callVi (M := mX11_most) (pc := 18) (As := [.int x1, .int x2]) (ρ1 := ρ) (st := []) dX11_most_18 mdX1_highestOf rfl mlX11_177 imX1_highestOf seX1_highestOf (rcv_of (q := (RX1, TX1, 15)) (Nat.le_of_ble_eq_true rfl) (okn hρ (Nat.le_of_ble_eq_true rfl)) rfl rfl) ⟨rfl, npX1_highestOf⟩ (Nat.le_of_ble_eq_true rfl) (Nat.le_refl _) (Nat.le_refl _) rfl (CALLi.mono h (fun v2 S2 _ h => ?_))
    refine AW_goto (tgt := 26) dX11_most_21 rfl ?_
    exact AW_reti dX11_most_26 rfl h
set_option maxRecDepth 20000 in
theorem eX11_fixed_30 {g : GX} {Q : Int32 → St → Prop} {d : Nat} {ρ : Rs} {S : St} (hρ : Ok ρ) {x1 : Int32} {x2 : Int32} {x3 : Int32} (h : if (S.1 21 1) ≤ x3 then AW g ρ (QI Q) (d + 1) mX11_fixed 17 [(0, .ref 16), (1, .int x1), (2, .int (x2 + 1))] [] ρ S else CALLi g d mX9_isHole [.ref 21, .int x2, .int x3] ρ ρ S (fun v1 S1 => if v1 = 0 then CALLi g d mX1_lowestOf [.ref 31, .int x2, .int x3] ρ ρ S1 (fun v2 S2 => CALLi g d mX1_highestOf [.ref 31, .int x2, .int x3] ρ ρ S2 (fun v3 S3 => if v2 = v3 then AW g ρ (QI Q) (d + 1) mX11_fixed 30 [(0, .ref 16), (1, .int (x1 ||| (1 <<< (((x2 * (S3.1 21 1)) + x3) &&& 31)))), (2, .int x2), (3, .int (x3 + 1))] [] ρ S3 else AW g ρ (QI Q) (d + 1) mX11_fixed 30 [(0, .ref 16), (1, .int x1), (2, .int x2), (3, .int (x3 + 1))] [] ρ S3)) else AW g ρ (QI Q) (d + 1) mX11_fixed 30 [(0, .ref 16), (1, .int x1), (2, .int x2), (3, .int (x3 + 1))] [] ρ S1)) : AW g ρ (QI Q) (d + 1) mX11_fixed 30 [(0, .ref 16), (1, .int x1), (2, .int x2), (3, .int x3)] [] ρ S := by
  refine AW_iload_n 3 (n := 3) rfl dX11_fixed_30 rfl ?_
  refine AW_aload_n 0 (n := 0) rfl dX11_fixed_31 rfl ?_
  refine AW_get dX11_fixed_32 flX11_26 (Nat.le_of_ble_eq_true rfl) (okn hρ (Nat.le_of_ble_eq_true rfl)) rfl (v := .ref 21) (fvR (okR hρ 2 rfl)) ?_
  refine AW_get dX11_fixed_35 flX11_113 (Nat.le_of_ble_eq_true rfl) (okn hρ (Nat.le_of_ble_eq_true rfl)) rfl (v := .int (S.1 21 1)) (fun _ => rfl) ?_
  refine AW_icmp_ge dX11_fixed_38 rfl (iteM h (fun h => ?_) (fun h => ?_))
  · refine AW_iinc 2 (v := x2 + 1) dX11_fixed_96 rfl rfl (Nat.le_of_ble_eq_true rfl) rfl ?_
    refine AW_goto (tgt := 17) dX11_fixed_99 rfl ?_
    exact AW.sub [1, 2, 0] rfl h
  · refine AW_aload_n 0 (n := 0) rfl dX11_fixed_41 rfl ?_
    refine AW_get dX11_fixed_42 flX11_26 (Nat.le_of_ble_eq_true rfl) (okn hρ (Nat.le_of_ble_eq_true rfl)) rfl (v := .ref 21) (fvR (okR hρ 2 rfl)) ?_
    refine AW_iload_n 2 (n := 2) rfl dX11_fixed_45 rfl ?_
    refine AW_iload_n 3 (n := 3) rfl dX11_fixed_46 rfl ?_
    refine AW_callVi (M := mX11_fixed) (pc := 47) (As := [.int x2, .int x3]) (ρ1 := ρ) (st := []) dX11_fixed_47 mdX9_isHole rfl mlX11_139 imX9_isHole seX9_isHole (rcv_of (q := (RX9, TX9, 10)) (Nat.le_of_ble_eq_true rfl) (okn hρ (Nat.le_of_ble_eq_true rfl)) rfl rfl) ⟨rfl, npX9_isHole⟩ (Nat.le_of_ble_eq_true rfl) (Nat.le_refl _) (Nat.le_refl _) rfl (CALLi.mono h (fun v1 S1 _ h => ?_))
    refine AW_if_ne dX11_fixed_50 rfl (iteM h (fun h => ?_) (fun h => ?_))
    · refine AW_aload_n 0 (n := 0) rfl dX11_fixed_53 rfl ?_
      refine AW_get dX11_fixed_54 flX11_47 (Nat.le_of_ble_eq_true rfl) (okn hρ (Nat.le_of_ble_eq_true rfl)) rfl (v := .ref 31) (fvR (okR hρ 5 rfl)) ?_
      refine AW_iload_n 2 (n := 2) rfl dX11_fixed_57 rfl ?_
      refine AW_iload_n 3 (n := 3) rfl dX11_fixed_58 rfl ?_
      refine AW_callVi (M := mX11_fixed) (pc := 59) (As := [.int x2, .int x3]) (ρ1 := ρ) (st := []) dX11_fixed_59 mdX1_lowestOf rfl mlX11_174 imX1_lowestOf seX1_lowestOf (rcv_of (q := (RX1, TX1, 15)) (Nat.le_of_ble_eq_true rfl) (okn hρ (Nat.le_of_ble_eq_true rfl)) rfl rfl) ⟨rfl, npX1_lowestOf⟩ (Nat.le_of_ble_eq_true rfl) (Nat.le_refl _) (Nat.le_refl _) rfl (CALLi.mono h (fun v2 S2 _ h => ?_))
      refine AW_aload_n 0 (n := 0) rfl dX11_fixed_62 rfl ?_
      refine AW_get dX11_fixed_63 flX11_47 (Nat.le_of_ble_eq_true rfl) (okn hρ (Nat.le_of_ble_eq_true rfl)) rfl (v := .ref 31) (fvR (okR hρ 5 rfl)) ?_
      refine AW_iload_n 2 (n := 2) rfl dX11_fixed_66 rfl ?_
      refine AW_iload_n 3 (n := 3) rfl dX11_fixed_67 rfl ?_
      refine AW_callVi (M := mX11_fixed) (pc := 68) (As := [.int x2, .int x3]) (ρ1 := ρ) (st := [.int v2]) dX11_fixed_68 mdX1_highestOf rfl mlX11_177 imX1_highestOf seX1_highestOf (rcv_of (q := (RX1, TX1, 15)) (Nat.le_of_ble_eq_true rfl) (okn hρ (Nat.le_of_ble_eq_true rfl)) rfl rfl) ⟨rfl, npX1_highestOf⟩ (Nat.le_of_ble_eq_true rfl) (Nat.le_refl _) (Nat.le_refl _) rfl (CALLi.mono h (fun v3 S3 _ h => ?_))
      refine AW_icmp_ne dX11_fixed_71 rfl (iteM h (fun h => ?_) (fun h => ?_))
      · refine AW_iload_n 1 (n := 1) rfl dX11_fixed_74 rfl ?_
        refine AW_iconst (v := 1) dX11_fixed_75 rfl ?_
        refine AW_iload_n 2 (n := 2) rfl dX11_fixed_76 rfl ?_
        refine AW_aload_n 0 (n := 0) rfl dX11_fixed_77 rfl ?_
        refine AW_get dX11_fixed_78 flX11_26 (Nat.le_of_ble_eq_true rfl) (okn hρ (Nat.le_of_ble_eq_true rfl)) rfl (v := .ref 21) (fvR (okR hρ 2 rfl)) ?_
        refine AW_get dX11_fixed_81 flX11_113 (Nat.le_of_ble_eq_true rfl) (okn hρ (Nat.le_of_ble_eq_true rfl)) rfl (v := .int (S3.1 21 1)) (fun _ => rfl) ?_
        refine AW_imul dX11_fixed_84 ?_
        refine AW_iload_n 3 (n := 3) rfl dX11_fixed_85 rfl ?_
        refine AW_iadd dX11_fixed_86 ?_
        refine AW_ishl dX11_fixed_87 ?_
        refine AW_ior dX11_fixed_88 ?_
        refine AW_istore_n (n := 1) (i := 1) rfl dX11_fixed_89 (Nat.le_of_ble_eq_true rfl) rfl ?_
        refine AW_iinc 3 (v := x3 + 1) dX11_fixed_90 rfl rfl (Nat.le_of_ble_eq_true rfl) rfl ?_
        refine AW_goto (tgt := 30) dX11_fixed_93 rfl ?_
        exact AW.sub [2, 1, 3, 0] rfl h
      · refine AW_iinc 3 (v := x3 + 1) dX11_fixed_90 rfl rfl (Nat.le_of_ble_eq_true rfl) rfl ?_
        refine AW_goto (tgt := 30) dX11_fixed_93 rfl ?_
        exact AW.sub [1, 2, 3, 0] rfl h
    · refine AW_iinc 3 (v := x3 + 1) dX11_fixed_90 rfl rfl (Nat.le_of_ble_eq_true rfl) rfl ?_
      refine AW_goto (tgt := 30) dX11_fixed_93 rfl ?_
      exact AW.sub [1, 2, 3, 0] rfl h
set_option maxRecDepth 20000 in
theorem eX11_fixed_17 {g : GX} {Q : Int32 → St → Prop} {d : Nat} {ρ : Rs} {S : St} (hρ : Ok ρ) {x1 : Int32} {x2 : Int32} (h : if (S.1 21 0) ≤ x2 then Q x1 S else AW g ρ (QI Q) (d + 1) mX11_fixed 30 [(0, .ref 16), (1, .int x1), (2, .int x2), (3, .int 0)] [] ρ S) : AW g ρ (QI Q) (d + 1) mX11_fixed 17 [(0, .ref 16), (1, .int x1), (2, .int x2)] [] ρ S := by
  refine AW_iload_n 2 (n := 2) rfl dX11_fixed_17 rfl ?_
  refine AW_aload_n 0 (n := 0) rfl dX11_fixed_18 rfl ?_
  refine AW_get dX11_fixed_19 flX11_26 (Nat.le_of_ble_eq_true rfl) (okn hρ (Nat.le_of_ble_eq_true rfl)) rfl (v := .ref 21) (fvR (okR hρ 2 rfl)) ?_
  refine AW_get dX11_fixed_22 flX11_110 (Nat.le_of_ble_eq_true rfl) (okn hρ (Nat.le_of_ble_eq_true rfl)) rfl (v := .int (S.1 21 0)) (fun _ => rfl) ?_
  refine AW_icmp_ge dX11_fixed_25 rfl (iteM h (fun h => ?_) (fun h => ?_))
  · refine AW_iload_n 1 (n := 1) rfl dX11_fixed_102 rfl ?_
    exact AW_reti dX11_fixed_103 rfl h
  · refine AW_iconst (v := 0) dX11_fixed_28 rfl ?_
    refine AW_istore_n (n := 3) (i := 3) rfl dX11_fixed_29 (Nat.le_of_ble_eq_true rfl) rfl ?_
    exact AW.sub [1, 2, 3, 0] rfl h
set_option maxRecDepth 20000 in
theorem eX11_fixed {g : GX} {Q : Int32 → St → Prop} {d : Nat} {ρ : Rs} {S : St} (hρ : Ok ρ) (h : CALLi g d mX9_isTold [.ref 21] ρ ρ S (fun v1 S1 => if v1 = 0 then Q (-2) S1 else AW g ρ (QI Q) (d + 1) mX11_fixed 17 [(0, .ref 16), (1, .int 0), (2, .int 0)] [] ρ S1)) : CALLi g (d + 1) mX11_fixed [.ref 16] ρ ρ S Q := by
  refine CALL.of mdX11_fixed.2.2.2.2 (Nat.le_of_ble_eq_true rfl) (Nat.le_refl _) (Nat.le_refl _) ?_
  show AW g ρ (QI Q) (d + 1) mX11_fixed 0 [(0, .ref 16)] [] ρ S
  refine AW_aload_n 0 (n := 0) rfl dX11_fixed_0 rfl ?_
  refine AW_get dX11_fixed_1 flX11_26 (Nat.le_of_ble_eq_true rfl) (okn hρ (Nat.le_of_ble_eq_true rfl)) rfl (v := .ref 21) (fvR (okR hρ 2 rfl)) ?_
  refine AW_callVi (M := mX11_fixed) (pc := 4) (As := []) (ρ1 := ρ) (st := []) dX11_fixed_4 mdX9_isTold rfl mlX11_89 imX9_isTold seX9_isTold (rcv_of (q := (RX9, TX9, 10)) (Nat.le_of_ble_eq_true rfl) (okn hρ (Nat.le_of_ble_eq_true rfl)) rfl rfl) ⟨rfl, npX9_isTold⟩ (Nat.le_of_ble_eq_true rfl) (Nat.le_refl _) (Nat.le_refl _) rfl (CALLi.mono h (fun v1 S1 _ h => ?_))
  refine AW_if_ne dX11_fixed_7 rfl (iteM h (fun h => ?_) (fun h => ?_))
  · refine AW_bipush (v := (-2)) dX11_fixed_10 rfl ?_
    exact AW_reti dX11_fixed_12 rfl h
  · refine AW_iconst (v := 0) dX11_fixed_13 rfl ?_
    refine AW_istore_n (n := 1) (i := 1) rfl dX11_fixed_14 (Nat.le_of_ble_eq_true rfl) rfl ?_
    refine AW_iconst (v := 0) dX11_fixed_15 rfl ?_
    refine AW_istore_n (n := 2) (i := 2) rfl dX11_fixed_16 (Nat.le_of_ble_eq_true rfl) rfl ?_
    exact AW.sub [2, 1, 0] rfl h
set_option maxRecDepth 20000 in
theorem eX11_having {g : GX} {Q : Int64 → St → Prop} {d : Nat} {ρ : Rs} {S : St} (hρ : Ok ρ) {x1 : Int32} {x2 : Int32} {x3 : Int32} (h : CALLi g d mX9_has [.ref 21, .int x1, .int x2] ρ ρ S (fun v1 S1 => if v1 = 0 then Q (-2) S1 else if x3 < 0 then Q (-2) S1 else if x3 ≤ 20 then CALLl g d mX1_timesSeen [.ref 31, .int x1, .int x2, .int x3] ρ ρ S1 (fun v2 S2 => Q v2 S2) else Q (-2) S1)) : CALLl g (d + 1) mX11_having [.ref 16, .int x1, .int x2, .int x3] ρ ρ S Q := by
  refine CALL.of mdX11_having.2.2.2.2 (Nat.le_of_ble_eq_true rfl) (Nat.le_refl _) (Nat.le_refl _) ?_
  show AW g ρ (QJ Q) (d + 1) mX11_having 0 [(0, .ref 16), (1, .int x1), (2, .int x2), (3, .int x3)] [] ρ S
  refine AW_aload_n 0 (n := 0) rfl dX11_having_0 rfl ?_
  refine AW_get dX11_having_1 flX11_26 (Nat.le_of_ble_eq_true rfl) (okn hρ (Nat.le_of_ble_eq_true rfl)) rfl (v := .ref 21) (fvR (okR hρ 2 rfl)) ?_
  refine AW_iload_n 1 (n := 1) rfl dX11_having_4 rfl ?_
  refine AW_iload_n 2 (n := 2) rfl dX11_having_5 rfl ?_
  refine AW_callVi (M := mX11_having) (pc := 6) (As := [.int x1, .int x2]) (ρ1 := ρ) (st := []) dX11_having_6 mdX9_has rfl mlX11_131 imX9_has seX9_has (rcv_of (q := (RX9, TX9, 10)) (Nat.le_of_ble_eq_true rfl) (okn hρ (Nat.le_of_ble_eq_true rfl)) rfl rfl) ⟨rfl, npX9_has⟩ (Nat.le_of_ble_eq_true rfl) (Nat.le_refl _) (Nat.le_refl _) rfl (CALLi.mono h (fun v1 S1 _ h => ?_))
  refine AW_if_eq dX11_having_9 rfl (iteM h (fun h => ?_) (fun h => ?_))
  · refine AW_ldc2 (v := (-2)) dX11_having_22 kcX11_152 ?_
    exact AW_retl dX11_having_25 rfl h
  · refine AW_iload_n 3 (n := 3) rfl dX11_having_12 rfl ?_
    refine AW_if_lt dX11_having_13 rfl (iteM h (fun h => ?_) (fun h => ?_))
    · refine AW_ldc2 (v := (-2)) dX11_having_22 kcX11_152 ?_
      exact AW_retl dX11_having_25 rfl h
    · refine AW_iload_n 3 (n := 3) rfl dX11_having_16 rfl ?_
      refine AW_bipush (v := 20) dX11_having_17 rfl ?_
      refine AW_icmp_le dX11_having_19 rfl (iteM h (fun h => ?_) (fun h => ?_))
      · refine AW_aload_n 0 (n := 0) rfl dX11_having_26 rfl ?_
        refine AW_get dX11_having_27 flX11_47 (Nat.le_of_ble_eq_true rfl) (okn hρ (Nat.le_of_ble_eq_true rfl)) rfl (v := .ref 31) (fvR (okR hρ 5 rfl)) ?_
        refine AW_iload_n 1 (n := 1) rfl dX11_having_30 rfl ?_
        refine AW_iload_n 2 (n := 2) rfl dX11_having_31 rfl ?_
        refine AW_iload_n 3 (n := 3) rfl dX11_having_32 rfl ?_
        refine AW_callVl (M := mX11_having) (pc := 33) (As := [.int x1, .int x2, .int x3]) (ρ1 := ρ) (st := []) dX11_having_33 mdX1_timesSeen rfl mlX11_180 imX1_timesSeen seX1_timesSeen (rcv_of (q := (RX1, TX1, 15)) (Nat.le_of_ble_eq_true rfl) (okn hρ (Nat.le_of_ble_eq_true rfl)) rfl rfl) ⟨rfl, npX1_timesSeen⟩ (Nat.le_of_ble_eq_true rfl) (Nat.le_refl _) (Nat.le_refl _) rfl (CALLl.mono h (fun v2 S2 _ h => ?_))
        exact AW_retl dX11_having_36 rfl h
      · refine AW_ldc2 (v := (-2)) dX11_having_22 kcX11_152 ?_
        exact AW_retl dX11_having_25 rfl h
set_option maxRecDepth 20000 in
theorem eX11_mean {g : GX} {Q : Int64 → St → Prop} {d : Nat} {ρ : Rs} {S : St} (hρ : Ok ρ) {x1 : Int32} {x2 : Int32} {x3 : Int32} (h : CALLi g d mX9_has [.ref 21, .int x1, .int x2] ρ ρ S (fun v1 S1 => if v1 = 0 then Q (-2) S1 else CALLl g d mX1_sumSeen [.ref 31, .int x1, .int x2] ρ ρ S1 (fun v2 S2 => CALLl g d mX1_size [.ref 31] ρ ρ S2 (fun v3 S3 => CALLl g d mX7_lowest [.long v2, .long v3, .int x3] ρ ρ S3 (fun v4 S4 => Q v4 S4))))) : CALLl g (d + 1) mX11_mean [.ref 16, .int x1, .int x2, .int x3] ρ ρ S Q := by
  refine CALL.of mdX11_mean.2.2.2.2 (Nat.le_of_ble_eq_true rfl) (Nat.le_refl _) (Nat.le_refl _) ?_
  show AW g ρ (QJ Q) (d + 1) mX11_mean 0 [(0, .ref 16), (1, .int x1), (2, .int x2), (3, .int x3)] [] ρ S
  refine AW_aload_n 0 (n := 0) rfl dX11_mean_0 rfl ?_
  refine AW_get dX11_mean_1 flX11_26 (Nat.le_of_ble_eq_true rfl) (okn hρ (Nat.le_of_ble_eq_true rfl)) rfl (v := .ref 21) (fvR (okR hρ 2 rfl)) ?_
  refine AW_iload_n 1 (n := 1) rfl dX11_mean_4 rfl ?_
  refine AW_iload_n 2 (n := 2) rfl dX11_mean_5 rfl ?_
  refine AW_callVi (M := mX11_mean) (pc := 6) (As := [.int x1, .int x2]) (ρ1 := ρ) (st := []) dX11_mean_6 mdX9_has rfl mlX11_131 imX9_has seX9_has (rcv_of (q := (RX9, TX9, 10)) (Nat.le_of_ble_eq_true rfl) (okn hρ (Nat.le_of_ble_eq_true rfl)) rfl rfl) ⟨rfl, npX9_has⟩ (Nat.le_of_ble_eq_true rfl) (Nat.le_refl _) (Nat.le_refl _) rfl (CALLi.mono h (fun v1 S1 _ h => ?_))
  refine AW_if_ne dX11_mean_9 rfl (iteM h (fun h => ?_) (fun h => ?_))
  · refine AW_ldc2 (v := (-2)) dX11_mean_12 kcX11_152 ?_
    exact AW_retl dX11_mean_15 rfl h
  · refine AW_aload_n 0 (n := 0) rfl dX11_mean_16 rfl ?_
    refine AW_get dX11_mean_17 flX11_47 (Nat.le_of_ble_eq_true rfl) (okn hρ (Nat.le_of_ble_eq_true rfl)) rfl (v := .ref 31) (fvR (okR hρ 5 rfl)) ?_
    refine AW_iload_n 1 (n := 1) rfl dX11_mean_20 rfl ?_
    refine AW_iload_n 2 (n := 2) rfl dX11_mean_21 rfl ?_
    refine AW_callVl (M := mX11_mean) (pc := 22) (As := [.int x1, .int x2]) (ρ1 := ρ) (st := []) dX11_mean_22 mdX1_sumSeen rfl mlX11_184 imX1_sumSeen seX1_sumSeen (rcv_of (q := (RX1, TX1, 15)) (Nat.le_of_ble_eq_true rfl) (okn hρ (Nat.le_of_ble_eq_true rfl)) rfl rfl) ⟨rfl, npX1_sumSeen⟩ (Nat.le_of_ble_eq_true rfl) (Nat.le_refl _) (Nat.le_refl _) rfl (CALLl.mono h (fun v2 S2 _ h => ?_))
    refine AW_aload_n 0 (n := 0) rfl dX11_mean_25 rfl ?_
    refine AW_get dX11_mean_26 flX11_47 (Nat.le_of_ble_eq_true rfl) (okn hρ (Nat.le_of_ble_eq_true rfl)) rfl (v := .ref 31) (fvR (okR hρ 5 rfl)) ?_
    refine AW_callVl (M := mX11_mean) (pc := 29) (As := []) (ρ1 := ρ) (st := [.long v2]) dX11_mean_29 mdX1_size rfl mlX11_148 imX1_size seX1_size (rcv_of (q := (RX1, TX1, 15)) (Nat.le_of_ble_eq_true rfl) (okn hρ (Nat.le_of_ble_eq_true rfl)) rfl rfl) ⟨rfl, npX1_size⟩ (Nat.le_of_ble_eq_true rfl) (Nat.le_refl _) (Nat.le_refl _) rfl (CALLl.mono h (fun v3 S3 _ h => ?_))
    refine AW_iload_n 3 (n := 3) rfl dX11_mean_32 rfl ?_
    refine AW_callSl (M := mX11_mean) (pc := 33) (As := [.long v2, .long v3, .int x3]) (ρ1 := ρ) (st := []) dX11_mean_33 mdX7_lowest mlX11_188 smX7_lowest ⟨rfl, npX7_lowest⟩ (Nat.le_of_ble_eq_true rfl) (Nat.le_refl _) (Nat.le_refl _) rfl (CALLl.mono h (fun v4 S4 _ h => ?_))
    exact AW_retl dX11_mean_36 rfl h
set_option maxRecDepth 20000 in
theorem eX11_weight {g : GX} {Q : Int64 → St → Prop} {d : Nat} {ρ : Rs} {S : St} (hρ : Ok ρ) (h : CALLi g d mX9_isTold [.ref 21] ρ ρ S (fun v1 S1 => if v1 = 0 then Q (-2) S1 else CALLl g d mX4_valueOf [.ref 54, .int 0, .long (S1.2 21 7)] ρ ρ S1 (fun v2 S2 => Q v2 S2))) : CALLl g (d + 1) mX11_weight [.ref 16] ρ ρ S Q := by
  refine CALL.of mdX11_weight.2.2.2.2 (Nat.le_of_ble_eq_true rfl) (Nat.le_refl _) (Nat.le_refl _) ?_
  show AW g ρ (QJ Q) (d + 1) mX11_weight 0 [(0, .ref 16)] [] ρ S
  refine AW_aload_n 0 (n := 0) rfl dX11_weight_0 rfl ?_
  refine AW_get dX11_weight_1 flX11_26 (Nat.le_of_ble_eq_true rfl) (okn hρ (Nat.le_of_ble_eq_true rfl)) rfl (v := .ref 21) (fvR (okR hρ 2 rfl)) ?_
  refine AW_callVi (M := mX11_weight) (pc := 4) (As := []) (ρ1 := ρ) (st := []) dX11_weight_4 mdX9_isTold rfl mlX11_89 imX9_isTold seX9_isTold (rcv_of (q := (RX9, TX9, 10)) (Nat.le_of_ble_eq_true rfl) (okn hρ (Nat.le_of_ble_eq_true rfl)) rfl rfl) ⟨rfl, npX9_isTold⟩ (Nat.le_of_ble_eq_true rfl) (Nat.le_refl _) (Nat.le_refl _) rfl (CALLi.mono h (fun v1 S1 _ h => ?_))
  refine AW_if_eq dX11_weight_7 rfl (iteM h (fun h => ?_) (fun h => ?_))
  · refine AW_ldc2 (v := (-2)) dX11_weight_28 kcX11_152 ?_
    exact AW_retl dX11_weight_31 rfl h
  · refine AW_aload_n 0 (n := 0) rfl dX11_weight_10 rfl ?_
    refine AW_get dX11_weight_11 flX11_56 (Nat.le_of_ble_eq_true rfl) (okn hρ (Nat.le_of_ble_eq_true rfl)) rfl (v := .ref 54) (fvR (okR hρ 6 rfl)) ?_
    refine AW_iconst (v := 0) dX11_weight_14 rfl ?_
    refine AW_aload_n 0 (n := 0) rfl dX11_weight_15 rfl ?_
    refine AW_get dX11_weight_16 flX11_26 (Nat.le_of_ble_eq_true rfl) (okn hρ (Nat.le_of_ble_eq_true rfl)) rfl (v := .ref 21) (fvR (okR hρ 2 rfl)) ?_
    refine AW_get dX11_weight_19 flX11_154 (Nat.le_of_ble_eq_true rfl) (okn hρ (Nat.le_of_ble_eq_true rfl)) rfl (v := .long (S1.2 21 7)) (fun _ => rfl) ?_
    refine AW_callVl (M := mX11_weight) (pc := 22) (As := [.int 0, .long (S1.2 21 7)]) (ρ1 := ρ) (st := []) dX11_weight_22 mdX4_valueOf rfl mlX11_194 imX4_valueOf seX4_valueOf (rcv_of (q := (RX4, TX4, 11)) (Nat.le_of_ble_eq_true rfl) (okn hρ (Nat.le_of_ble_eq_true rfl)) rfl rfl) ⟨rfl, npX4_valueOf⟩ (Nat.le_of_ble_eq_true rfl) (Nat.le_refl _) (Nat.le_refl _) rfl (CALLl.mono h (fun v2 S2 _ h => ?_))
    refine AW_goto (tgt := 31) dX11_weight_25 rfl ?_
    exact AW_retl dX11_weight_31 rfl h
set_option maxRecDepth 20000 in
theorem eX11_weights {g : GX} {Q : Int64 → St → Prop} {d : Nat} {ρ : Rs} {S : St} (hρ : Ok ρ) (h : CALLi g d mX9_isTold [.ref 21] ρ ρ S (fun v1 S1 => if v1 = 0 then Q (-2) S1 else CALLl g d mX1_heft [.ref 31] ρ ρ S1 (fun v2 S2 => Q v2 S2))) : CALLl g (d + 1) mX11_weights [.ref 16] ρ ρ S Q := by
  refine CALL.of mdX11_weights.2.2.2.2 (Nat.le_of_ble_eq_true rfl) (Nat.le_refl _) (Nat.le_refl _) ?_
  show AW g ρ (QJ Q) (d + 1) mX11_weights 0 [(0, .ref 16)] [] ρ S
  refine AW_aload_n 0 (n := 0) rfl dX11_weights_0 rfl ?_
  refine AW_get dX11_weights_1 flX11_26 (Nat.le_of_ble_eq_true rfl) (okn hρ (Nat.le_of_ble_eq_true rfl)) rfl (v := .ref 21) (fvR (okR hρ 2 rfl)) ?_
  refine AW_callVi (M := mX11_weights) (pc := 4) (As := []) (ρ1 := ρ) (st := []) dX11_weights_4 mdX9_isTold rfl mlX11_89 imX9_isTold seX9_isTold (rcv_of (q := (RX9, TX9, 10)) (Nat.le_of_ble_eq_true rfl) (okn hρ (Nat.le_of_ble_eq_true rfl)) rfl rfl) ⟨rfl, npX9_isTold⟩ (Nat.le_of_ble_eq_true rfl) (Nat.le_refl _) (Nat.le_refl _) rfl (CALLi.mono h (fun v1 S1 _ h => ?_))
  refine AW_if_eq dX11_weights_7 rfl (iteM h (fun h => ?_) (fun h => ?_))
  · refine AW_ldc2 (v := (-2)) dX11_weights_20 kcX11_152 ?_
    exact AW_retl dX11_weights_23 rfl h
  · refine AW_aload_n 0 (n := 0) rfl dX11_weights_10 rfl ?_
    refine AW_get dX11_weights_11 flX11_47 (Nat.le_of_ble_eq_true rfl) (okn hρ (Nat.le_of_ble_eq_true rfl)) rfl (v := .ref 31) (fvR (okR hρ 5 rfl)) ?_
    refine AW_callVl (M := mX11_weights) (pc := 14) (As := []) (ρ1 := ρ) (st := []) dX11_weights_14 mdX1_heft rfl mlX11_198 imX1_heft seX1_heft (rcv_of (q := (RX1, TX1, 15)) (Nat.le_of_ble_eq_true rfl) (okn hρ (Nat.le_of_ble_eq_true rfl)) rfl rfl) ⟨rfl, npX1_heft⟩ (Nat.le_of_ble_eq_true rfl) (Nat.le_refl _) (Nat.le_refl _) rfl (CALLl.mono h (fun v2 S2 _ h => ?_))
    refine AW_goto (tgt := 23) dX11_weights_17 rfl ?_
    exact AW_retl dX11_weights_23 rfl h
set_option maxRecDepth 20000 in
theorem eX11_heaviest {g : GX} {Q : Int64 → St → Prop} {d : Nat} {ρ : Rs} {S : St} (hρ : Ok ρ) (h : CALLi g d mX9_isTold [.ref 21] ρ ρ S (fun v1 S1 => if v1 = 0 then Q (-2) S1 else CALLl g d mX4_firstHeaviest [.ref 54] ρ ρ S1 (fun v2 S2 => Q v2 S2))) : CALLl g (d + 1) mX11_heaviest [.ref 16] ρ ρ S Q := by
  refine CALL.of mdX11_heaviest.2.2.2.2 (Nat.le_of_ble_eq_true rfl) (Nat.le_refl _) (Nat.le_refl _) ?_
  show AW g ρ (QJ Q) (d + 1) mX11_heaviest 0 [(0, .ref 16)] [] ρ S
  refine AW_aload_n 0 (n := 0) rfl dX11_heaviest_0 rfl ?_
  refine AW_get dX11_heaviest_1 flX11_26 (Nat.le_of_ble_eq_true rfl) (okn hρ (Nat.le_of_ble_eq_true rfl)) rfl (v := .ref 21) (fvR (okR hρ 2 rfl)) ?_
  refine AW_callVi (M := mX11_heaviest) (pc := 4) (As := []) (ρ1 := ρ) (st := []) dX11_heaviest_4 mdX9_isTold rfl mlX11_89 imX9_isTold seX9_isTold (rcv_of (q := (RX9, TX9, 10)) (Nat.le_of_ble_eq_true rfl) (okn hρ (Nat.le_of_ble_eq_true rfl)) rfl rfl) ⟨rfl, npX9_isTold⟩ (Nat.le_of_ble_eq_true rfl) (Nat.le_refl _) (Nat.le_refl _) rfl (CALLi.mono h (fun v1 S1 _ h => ?_))
  refine AW_if_eq dX11_heaviest_7 rfl (iteM h (fun h => ?_) (fun h => ?_))
  · refine AW_ldc2 (v := (-2)) dX11_heaviest_20 kcX11_152 ?_
    exact AW_retl dX11_heaviest_23 rfl h
  · refine AW_aload_n 0 (n := 0) rfl dX11_heaviest_10 rfl ?_
    refine AW_get dX11_heaviest_11 flX11_56 (Nat.le_of_ble_eq_true rfl) (okn hρ (Nat.le_of_ble_eq_true rfl)) rfl (v := .ref 54) (fvR (okR hρ 6 rfl)) ?_
    refine AW_callVl (M := mX11_heaviest) (pc := 14) (As := []) (ρ1 := ρ) (st := []) dX11_heaviest_14 mdX4_firstHeaviest rfl mlX11_201 imX4_firstHeaviest seX4_firstHeaviest (rcv_of (q := (RX4, TX4, 11)) (Nat.le_of_ble_eq_true rfl) (okn hρ (Nat.le_of_ble_eq_true rfl)) rfl rfl) ⟨rfl, npX4_firstHeaviest⟩ (Nat.le_of_ble_eq_true rfl) (Nat.le_refl _) (Nat.le_refl _) rfl (CALLl.mono h (fun v2 S2 _ h => ?_))
    refine AW_goto (tgt := 23) dX11_heaviest_17 rfl ?_
    exact AW_retl dX11_heaviest_23 rfl h
set_option maxRecDepth 20000 in
theorem eX11_lightest {g : GX} {Q : Int64 → St → Prop} {d : Nat} {ρ : Rs} {S : St} (hρ : Ok ρ) (h : CALLi g d mX9_isTold [.ref 21] ρ ρ S (fun v1 S1 => if v1 = 0 then Q (-2) S1 else CALLl g d mX4_firstLightest [.ref 54] ρ ρ S1 (fun v2 S2 => Q v2 S2))) : CALLl g (d + 1) mX11_lightest [.ref 16] ρ ρ S Q := by
  refine CALL.of mdX11_lightest.2.2.2.2 (Nat.le_of_ble_eq_true rfl) (Nat.le_refl _) (Nat.le_refl _) ?_
  show AW g ρ (QJ Q) (d + 1) mX11_lightest 0 [(0, .ref 16)] [] ρ S
  refine AW_aload_n 0 (n := 0) rfl dX11_lightest_0 rfl ?_
  refine AW_get dX11_lightest_1 flX11_26 (Nat.le_of_ble_eq_true rfl) (okn hρ (Nat.le_of_ble_eq_true rfl)) rfl (v := .ref 21) (fvR (okR hρ 2 rfl)) ?_
  refine AW_callVi (M := mX11_lightest) (pc := 4) (As := []) (ρ1 := ρ) (st := []) dX11_lightest_4 mdX9_isTold rfl mlX11_89 imX9_isTold seX9_isTold (rcv_of (q := (RX9, TX9, 10)) (Nat.le_of_ble_eq_true rfl) (okn hρ (Nat.le_of_ble_eq_true rfl)) rfl rfl) ⟨rfl, npX9_isTold⟩ (Nat.le_of_ble_eq_true rfl) (Nat.le_refl _) (Nat.le_refl _) rfl (CALLi.mono h (fun v1 S1 _ h => ?_))
  refine AW_if_eq dX11_lightest_7 rfl (iteM h (fun h => ?_) (fun h => ?_))
  · refine AW_ldc2 (v := (-2)) dX11_lightest_20 kcX11_152 ?_
    exact AW_retl dX11_lightest_23 rfl h
  · refine AW_aload_n 0 (n := 0) rfl dX11_lightest_10 rfl ?_
    refine AW_get dX11_lightest_11 flX11_56 (Nat.le_of_ble_eq_true rfl) (okn hρ (Nat.le_of_ble_eq_true rfl)) rfl (v := .ref 54) (fvR (okR hρ 6 rfl)) ?_
    refine AW_callVl (M := mX11_lightest) (pc := 14) (As := []) (ρ1 := ρ) (st := []) dX11_lightest_14 mdX4_firstLightest rfl mlX11_204 imX4_firstLightest seX4_firstLightest (rcv_of (q := (RX4, TX4, 11)) (Nat.le_of_ble_eq_true rfl) (okn hρ (Nat.le_of_ble_eq_true rfl)) rfl rfl) ⟨rfl, npX4_firstLightest⟩ (Nat.le_of_ble_eq_true rfl) (Nat.le_refl _) (Nat.le_refl _) rfl (CALLl.mono h (fun v2 S2 _ h => ?_))
    refine AW_goto (tgt := 23) dX11_lightest_17 rfl ?_
    exact AW_retl dX11_lightest_23 rfl h
set_option maxRecDepth 20000 in
theorem eX11_statistic {g : GX} {Q : Int64 → St → Prop} {d : Nat} {ρ : Rs} {S : St} (hρ : Ok ρ) {x1 : Int32} (h : CALLi g d mX11_hasStatistic [.ref 16, .int x1] ρ ρ S (fun v1 S1 => if v1 = 0 then Q (-2) S1 else CALLl g d mX4_valueOf [.ref 54, .int x1, .long (S1.2 21 7)] ρ ρ S1 (fun v2 S2 => Q v2 S2))) : CALLl g (d + 1) mX11_statistic [.ref 16, .int x1] ρ ρ S Q := by
  refine CALL.of mdX11_statistic.2.2.2.2 (Nat.le_of_ble_eq_true rfl) (Nat.le_refl _) (Nat.le_refl _) ?_
  show AW g ρ (QJ Q) (d + 1) mX11_statistic 0 [(0, .ref 16), (1, .int x1)] [] ρ S
  refine AW_aload_n 0 (n := 0) rfl dX11_statistic_0 rfl ?_
  refine AW_iload_n 1 (n := 1) rfl dX11_statistic_1 rfl ?_
  refine AW_callVi (M := mX11_statistic) (pc := 2) (As := [.int x1]) (ρ1 := ρ) (st := []) dX11_statistic_2 mdX11_hasStatistic rfl mlX11_207 imX11_hasStatistic seX11_hasStatistic (rcv_of (q := (RX11, TX11, 8)) (Nat.le_of_ble_eq_true rfl) (okn hρ (Nat.le_of_ble_eq_true rfl)) rfl rfl) ⟨rfl, npX11_hasStatistic⟩ (Nat.le_of_ble_eq_true rfl) (Nat.le_refl _) (Nat.le_refl _) rfl (CALLi.mono h (fun v1 S1 _ h => ?_))
  refine AW_if_eq dX11_statistic_5 rfl (iteM h (fun h => ?_) (fun h => ?_))
  · refine AW_ldc2 (v := (-2)) dX11_statistic_26 kcX11_152 ?_
    exact AW_retl dX11_statistic_29 rfl h
  · refine AW_aload_n 0 (n := 0) rfl dX11_statistic_8 rfl ?_
    refine AW_get dX11_statistic_9 flX11_56 (Nat.le_of_ble_eq_true rfl) (okn hρ (Nat.le_of_ble_eq_true rfl)) rfl (v := .ref 54) (fvR (okR hρ 6 rfl)) ?_
    refine AW_iload_n 1 (n := 1) rfl dX11_statistic_12 rfl ?_
    refine AW_aload_n 0 (n := 0) rfl dX11_statistic_13 rfl ?_
    refine AW_get dX11_statistic_14 flX11_26 (Nat.le_of_ble_eq_true rfl) (okn hρ (Nat.le_of_ble_eq_true rfl)) rfl (v := .ref 21) (fvR (okR hρ 2 rfl)) ?_
    refine AW_get dX11_statistic_17 flX11_154 (Nat.le_of_ble_eq_true rfl) (okn hρ (Nat.le_of_ble_eq_true rfl)) rfl (v := .long (S1.2 21 7)) (fun _ => rfl) ?_
    refine AW_callVl (M := mX11_statistic) (pc := 20) (As := [.int x1, .long (S1.2 21 7)]) (ρ1 := ρ) (st := []) dX11_statistic_20 mdX4_valueOf rfl mlX11_194 imX4_valueOf seX4_valueOf (rcv_of (q := (RX4, TX4, 11)) (Nat.le_of_ble_eq_true rfl) (okn hρ (Nat.le_of_ble_eq_true rfl)) rfl rfl) ⟨rfl, npX4_valueOf⟩ (Nat.le_of_ble_eq_true rfl) (Nat.le_refl _) (Nat.le_refl _) rfl (CALLl.mono h (fun v2 S2 _ h => ?_))
    refine AW_goto (tgt := 29) dX11_statistic_23 rfl ?_
    exact AW_retl dX11_statistic_29 rfl h
set_option maxRecDepth 20000 in
theorem eX11_extreme {g : GX} {Q : Int64 → St → Prop} {d : Nat} {ρ : Rs} {S : St} (hρ : Ok ρ) {x1 : Int32} (h : CALLi g d mX11_hasStatistic [.ref 16, .int x1] ρ ρ S (fun v1 S1 => if v1 = 0 then Q (-2) S1 else CALLl g d mX4_farOut [.ref 54, .int x1, .long (S1.2 21 7)] ρ ρ S1 (fun v2 S2 => Q v2 S2))) : CALLl g (d + 1) mX11_extreme [.ref 16, .int x1] ρ ρ S Q := by
  refine CALL.of mdX11_extreme.2.2.2.2 (Nat.le_of_ble_eq_true rfl) (Nat.le_refl _) (Nat.le_refl _) ?_
  show AW g ρ (QJ Q) (d + 1) mX11_extreme 0 [(0, .ref 16), (1, .int x1)] [] ρ S
  refine AW_aload_n 0 (n := 0) rfl dX11_extreme_0 rfl ?_
  refine AW_iload_n 1 (n := 1) rfl dX11_extreme_1 rfl ?_
  refine AW_callVi (M := mX11_extreme) (pc := 2) (As := [.int x1]) (ρ1 := ρ) (st := []) dX11_extreme_2 mdX11_hasStatistic rfl mlX11_207 imX11_hasStatistic seX11_hasStatistic (rcv_of (q := (RX11, TX11, 8)) (Nat.le_of_ble_eq_true rfl) (okn hρ (Nat.le_of_ble_eq_true rfl)) rfl rfl) ⟨rfl, npX11_hasStatistic⟩ (Nat.le_of_ble_eq_true rfl) (Nat.le_refl _) (Nat.le_refl _) rfl (CALLi.mono h (fun v1 S1 _ h => ?_))
  refine AW_if_eq dX11_extreme_5 rfl (iteM h (fun h => ?_) (fun h => ?_))
  · refine AW_ldc2 (v := (-2)) dX11_extreme_26 kcX11_152 ?_
    exact AW_retl dX11_extreme_29 rfl h
  · refine AW_aload_n 0 (n := 0) rfl dX11_extreme_8 rfl ?_
    refine AW_get dX11_extreme_9 flX11_56 (Nat.le_of_ble_eq_true rfl) (okn hρ (Nat.le_of_ble_eq_true rfl)) rfl (v := .ref 54) (fvR (okR hρ 6 rfl)) ?_
    refine AW_iload_n 1 (n := 1) rfl dX11_extreme_12 rfl ?_
    refine AW_aload_n 0 (n := 0) rfl dX11_extreme_13 rfl ?_
    refine AW_get dX11_extreme_14 flX11_26 (Nat.le_of_ble_eq_true rfl) (okn hρ (Nat.le_of_ble_eq_true rfl)) rfl (v := .ref 21) (fvR (okR hρ 2 rfl)) ?_
    refine AW_get dX11_extreme_17 flX11_154 (Nat.le_of_ble_eq_true rfl) (okn hρ (Nat.le_of_ble_eq_true rfl)) rfl (v := .long (S1.2 21 7)) (fun _ => rfl) ?_
    refine AW_callVl (M := mX11_extreme) (pc := 20) (As := [.int x1, .long (S1.2 21 7)]) (ρ1 := ρ) (st := []) dX11_extreme_20 mdX4_farOut rfl mlX11_211 imX4_farOut seX4_farOut (rcv_of (q := (RX4, TX4, 11)) (Nat.le_of_ble_eq_true rfl) (okn hρ (Nat.le_of_ble_eq_true rfl)) rfl rfl) ⟨rfl, npX4_farOut⟩ (Nat.le_of_ble_eq_true rfl) (Nat.le_refl _) (Nat.le_refl _) rfl (CALLl.mono h (fun v2 S2 _ h => ?_))
    refine AW_goto (tgt := 29) dX11_extreme_23 rfl ?_
    exact AW_retl dX11_extreme_29 rfl h
set_option maxRecDepth 20000 in
theorem eX11_share {g : GX} {Q : Int64 → St → Prop} {d : Nat} {ρ : Rs} {S : St} (hρ : Ok ρ) {x1 : Int32} {x2 : Int32} (h : CALLi g d mX11_hasStatistic [.ref 16, .int x1] ρ ρ S (fun v1 S1 => if v1 = 0 then Q (-2) S1 else CALLl g d mX4_farOutHeft [.ref 54, .int x1, .long (S1.2 21 7)] ρ ρ S1 (fun v2 S2 => CALLl g d mX1_heft [.ref 31] ρ ρ S2 (fun v3 S3 => CALLl g d mX7_lowest [.long v2, .long v3, .int x2] ρ ρ S3 (fun v4 S4 => Q v4 S4))))) : CALLl g (d + 1) mX11_share [.ref 16, .int x1, .int x2] ρ ρ S Q := by
  refine CALL.of mdX11_share.2.2.2.2 (Nat.le_of_ble_eq_true rfl) (Nat.le_refl _) (Nat.le_refl _) ?_
  show AW g ρ (QJ Q) (d + 1) mX11_share 0 [(0, .ref 16), (1, .int x1), (2, .int x2)] [] ρ S
  refine AW_aload_n 0 (n := 0) rfl dX11_share_0 rfl ?_
  refine AW_iload_n 1 (n := 1) rfl dX11_share_1 rfl ?_
  refine AW_callVi (M := mX11_share) (pc := 2) (As := [.int x1]) (ρ1 := ρ) (st := []) dX11_share_2 mdX11_hasStatistic rfl mlX11_207 imX11_hasStatistic seX11_hasStatistic (rcv_of (q := (RX11, TX11, 8)) (Nat.le_of_ble_eq_true rfl) (okn hρ (Nat.le_of_ble_eq_true rfl)) rfl rfl) ⟨rfl, npX11_hasStatistic⟩ (Nat.le_of_ble_eq_true rfl) (Nat.le_refl _) (Nat.le_refl _) rfl (CALLi.mono h (fun v1 S1 _ h => ?_))
  refine AW_if_ne dX11_share_5 rfl (iteM h (fun h => ?_) (fun h => ?_))
  · refine AW_ldc2 (v := (-2)) dX11_share_8 kcX11_152 ?_
    exact AW_retl dX11_share_11 rfl h
  · refine AW_aload_n 0 (n := 0) rfl dX11_share_12 rfl ?_
    refine AW_get dX11_share_13 flX11_56 (Nat.le_of_ble_eq_true rfl) (okn hρ (Nat.le_of_ble_eq_true rfl)) rfl (v := .ref 54) (fvR (okR hρ 6 rfl)) ?_
    refine AW_iload_n 1 (n := 1) rfl dX11_share_16 rfl ?_
    refine AW_aload_n 0 (n := 0) rfl dX11_share_17 rfl ?_
    refine AW_get dX11_share_18 flX11_26 (Nat.le_of_ble_eq_true rfl) (okn hρ (Nat.le_of_ble_eq_true rfl)) rfl (v := .ref 21) (fvR (okR hρ 2 rfl)) ?_
    refine AW_get dX11_share_21 flX11_154 (Nat.le_of_ble_eq_true rfl) (okn hρ (Nat.le_of_ble_eq_true rfl)) rfl (v := .long (S1.2 21 7)) (fun _ => rfl) ?_
    refine AW_callVl (M := mX11_share) (pc := 24) (As := [.int x1, .long (S1.2 21 7)]) (ρ1 := ρ) (st := []) dX11_share_24 mdX4_farOutHeft rfl mlX11_214 imX4_farOutHeft seX4_farOutHeft (rcv_of (q := (RX4, TX4, 11)) (Nat.le_of_ble_eq_true rfl) (okn hρ (Nat.le_of_ble_eq_true rfl)) rfl rfl) ⟨rfl, npX4_farOutHeft⟩ (Nat.le_of_ble_eq_true rfl) (Nat.le_refl _) (Nat.le_refl _) rfl (CALLl.mono h (fun v2 S2 _ h => ?_))
    refine AW_aload_n 0 (n := 0) rfl dX11_share_27 rfl ?_
    refine AW_get dX11_share_28 flX11_47 (Nat.le_of_ble_eq_true rfl) (okn hρ (Nat.le_of_ble_eq_true rfl)) rfl (v := .ref 31) (fvR (okR hρ 5 rfl)) ?_
    refine AW_callVl (M := mX11_share) (pc := 31) (As := []) (ρ1 := ρ) (st := [.long v2]) dX11_share_31 mdX1_heft rfl mlX11_198 imX1_heft seX1_heft (rcv_of (q := (RX1, TX1, 15)) (Nat.le_of_ble_eq_true rfl) (okn hρ (Nat.le_of_ble_eq_true rfl)) rfl rfl) ⟨rfl, npX1_heft⟩ (Nat.le_of_ble_eq_true rfl) (Nat.le_refl _) (Nat.le_refl _) rfl (CALLl.mono h (fun v3 S3 _ h => ?_))
    refine AW_iload_n 2 (n := 2) rfl dX11_share_34 rfl ?_
    refine AW_callSl (M := mX11_share) (pc := 35) (As := [.long v2, .long v3, .int x2]) (ρ1 := ρ) (st := []) dX11_share_35 mdX7_lowest mlX11_188 smX7_lowest ⟨rfl, npX7_lowest⟩ (Nat.le_of_ble_eq_true rfl) (Nat.le_refl _) (Nat.le_refl _) rfl (CALLl.mono h (fun v4 S4 _ h => ?_))
    exact AW_retl dX11_share_38 rfl h
set_option maxRecDepth 20000 in
theorem eX11_chi {g : GX} {Q : Int64 → St → Prop} {d : Nat} {ρ : Rs} {S : St} (hρ : Ok ρ) (h : CALLi g d mX9_isTold [.ref 21] ρ ρ S (fun v1 S1 => if v1 = 0 then Q (-2) S1 else CALLd g d mX9_chiSum [.ref 21] ρ ρ S1 (fun v2 S2 => CALLl g d mX7_bitsOfDouble [.double v2] ρ ρ S2 (fun v3 S3 => Q v3 S3)))) : CALLl g (d + 1) mX11_chi [.ref 16] ρ ρ S Q := by
  refine CALL.of mdX11_chi.2.2.2.2 (Nat.le_of_ble_eq_true rfl) (Nat.le_refl _) (Nat.le_refl _) ?_
  show AW g ρ (QJ Q) (d + 1) mX11_chi 0 [(0, .ref 16)] [] ρ S
  refine AW_aload_n 0 (n := 0) rfl dX11_chi_0 rfl ?_
  refine AW_get dX11_chi_1 flX11_26 (Nat.le_of_ble_eq_true rfl) (okn hρ (Nat.le_of_ble_eq_true rfl)) rfl (v := .ref 21) (fvR (okR hρ 2 rfl)) ?_
  refine AW_callVi (M := mX11_chi) (pc := 4) (As := []) (ρ1 := ρ) (st := []) dX11_chi_4 mdX9_isTold rfl mlX11_89 imX9_isTold seX9_isTold (rcv_of (q := (RX9, TX9, 10)) (Nat.le_of_ble_eq_true rfl) (okn hρ (Nat.le_of_ble_eq_true rfl)) rfl rfl) ⟨rfl, npX9_isTold⟩ (Nat.le_of_ble_eq_true rfl) (Nat.le_refl _) (Nat.le_refl _) rfl (CALLi.mono h (fun v1 S1 _ h => ?_))
  refine AW_if_eq dX11_chi_7 rfl (iteM h (fun h => ?_) (fun h => ?_))
  · refine AW_ldc2 (v := (-2)) dX11_chi_23 kcX11_152 ?_
    exact AW_retl dX11_chi_26 rfl h
  · refine AW_aload_n 0 (n := 0) rfl dX11_chi_10 rfl ?_
    refine AW_get dX11_chi_11 flX11_26 (Nat.le_of_ble_eq_true rfl) (okn hρ (Nat.le_of_ble_eq_true rfl)) rfl (v := .ref 21) (fvR (okR hρ 2 rfl)) ?_
    refine AW_callVd (M := mX11_chi) (pc := 14) (As := []) (ρ1 := ρ) (st := []) dX11_chi_14 mdX9_chiSum rfl mlX11_217 imX9_chiSum seX9_chiSum (rcv_of (q := (RX9, TX9, 10)) (Nat.le_of_ble_eq_true rfl) (okn hρ (Nat.le_of_ble_eq_true rfl)) rfl rfl) ⟨rfl, npX9_chiSum⟩ (Nat.le_of_ble_eq_true rfl) (Nat.le_refl _) (Nat.le_refl _) rfl (CALLd.mono h (fun v2 S2 _ h => ?_))
    refine AW_callSl (M := mX11_chi) (pc := 17) (As := [.double v2]) (ρ1 := ρ) (st := []) dX11_chi_17 mdX7_bitsOfDouble mlX11_221 smX7_bitsOfDouble ⟨rfl, npX7_bitsOfDouble⟩ (Nat.le_of_ble_eq_true rfl) (Nat.le_refl _) (Nat.le_refl _) rfl (CALLl.mono h (fun v3 S3 _ h => ?_))
    refine AW_goto (tgt := 26) dX11_chi_20 rfl ?_
    exact AW_retl dX11_chi_26 rfl h
set_option maxRecDepth 20000 in
theorem eX11_excess {g : GX} {Q : Int32 → St → Prop} {d : Nat} {ρ : Rs} {S : St} (hρ : Ok ρ) {x1 : Int32} {x2 : Int32} (h : CALLi g d mX9_has [.ref 21, .int x1, .int x2] ρ ρ S (fun v1 S1 => if v1 = 0 then Q (-2) S1 else CALLf g d mX9_over [.ref 21, .int x1, .int x2] ρ ρ S1 (fun v2 S2 => CALLi g d mX7_bitsOfFloat [.float v2] ρ ρ S2 (fun v3 S3 => Q v3 S3)))) : CALLi g (d + 1) mX11_excess [.ref 16, .int x1, .int x2] ρ ρ S Q := by
  refine CALL.of mdX11_excess.2.2.2.2 (Nat.le_of_ble_eq_true rfl) (Nat.le_refl _) (Nat.le_refl _) ?_
  show AW g ρ (QI Q) (d + 1) mX11_excess 0 [(0, .ref 16), (1, .int x1), (2, .int x2)] [] ρ S
  refine AW_aload_n 0 (n := 0) rfl dX11_excess_0 rfl ?_
  refine AW_get dX11_excess_1 flX11_26 (Nat.le_of_ble_eq_true rfl) (okn hρ (Nat.le_of_ble_eq_true rfl)) rfl (v := .ref 21) (fvR (okR hρ 2 rfl)) ?_
  refine AW_iload_n 1 (n := 1) rfl dX11_excess_4 rfl ?_
  refine AW_iload_n 2 (n := 2) rfl dX11_excess_5 rfl ?_
  refine AW_callVi (M := mX11_excess) (pc := 6) (As := [.int x1, .int x2]) (ρ1 := ρ) (st := []) dX11_excess_6 mdX9_has rfl mlX11_131 imX9_has seX9_has (rcv_of (q := (RX9, TX9, 10)) (Nat.le_of_ble_eq_true rfl) (okn hρ (Nat.le_of_ble_eq_true rfl)) rfl rfl) ⟨rfl, npX9_has⟩ (Nat.le_of_ble_eq_true rfl) (Nat.le_refl _) (Nat.le_refl _) rfl (CALLi.mono h (fun v1 S1 _ h => ?_))
  refine AW_if_eq dX11_excess_9 rfl (iteM h (fun h => ?_) (fun h => ?_))
  · refine AW_bipush (v := (-2)) dX11_excess_27 rfl ?_
    exact AW_reti dX11_excess_29 rfl h
  · refine AW_aload_n 0 (n := 0) rfl dX11_excess_12 rfl ?_
    refine AW_get dX11_excess_13 flX11_26 (Nat.le_of_ble_eq_true rfl) (okn hρ (Nat.le_of_ble_eq_true rfl)) rfl (v := .ref 21) (fvR (okR hρ 2 rfl)) ?_
    refine AW_iload_n 1 (n := 1) rfl dX11_excess_16 rfl ?_
    refine AW_iload_n 2 (n := 2) rfl dX11_excess_17 rfl ?_
    refine AW_callVf (M := mX11_excess) (pc := 18) (As := [.int x1, .int x2]) (ρ1 := ρ) (st := []) dX11_excess_18 mdX9_over rfl mlX11_225 imX9_over seX9_over (rcv_of (q := (RX9, TX9, 10)) (Nat.le_of_ble_eq_true rfl) (okn hρ (Nat.le_of_ble_eq_true rfl)) rfl rfl) ⟨rfl, npX9_over⟩ (Nat.le_of_ble_eq_true rfl) (Nat.le_refl _) (Nat.le_refl _) rfl (CALLf.mono h (fun v2 S2 _ h => ?_))
    refine AW_callSi (M := mX11_excess) (pc := 21) (As := [.float v2]) (ρ1 := ρ) (st := []) dX11_excess_21 mdX7_bitsOfFloat mlX11_229 smX7_bitsOfFloat ⟨rfl, npX7_bitsOfFloat⟩ (Nat.le_of_ble_eq_true rfl) (Nat.le_refl _) (Nat.le_refl _) rfl (CALLi.mono h (fun v3 S3 _ h => ?_))
    refine AW_goto (tgt := 29) dX11_excess_24 rfl ?_
    exact AW_reti dX11_excess_29 rfl h
set_option maxRecDepth 20000 in
theorem eX11_swaps {g : GX} {Q : Int32 → St → Prop} {d : Nat} {ρ : Rs} {S : St} (hρ : Ok ρ) (h : CALLi g d mX9_isTold [.ref 21] ρ ρ S (fun v1 S1 => if v1 = 0 then Q (-2) S1 else CALLi g d mX5_swapsOn [.ref 26, .long (S1.2 21 7)] ρ ρ S1 (fun v2 S2 => Q v2 S2))) : CALLi g (d + 1) mX11_swaps [.ref 16] ρ ρ S Q := by
  refine CALL.of mdX11_swaps.2.2.2.2 (Nat.le_of_ble_eq_true rfl) (Nat.le_refl _) (Nat.le_refl _) ?_
  show AW g ρ (QI Q) (d + 1) mX11_swaps 0 [(0, .ref 16)] [] ρ S
  refine AW_aload_n 0 (n := 0) rfl dX11_swaps_0 rfl ?_
  refine AW_get dX11_swaps_1 flX11_26 (Nat.le_of_ble_eq_true rfl) (okn hρ (Nat.le_of_ble_eq_true rfl)) rfl (v := .ref 21) (fvR (okR hρ 2 rfl)) ?_
  refine AW_callVi (M := mX11_swaps) (pc := 4) (As := []) (ρ1 := ρ) (st := []) dX11_swaps_4 mdX9_isTold rfl mlX11_89 imX9_isTold seX9_isTold (rcv_of (q := (RX9, TX9, 10)) (Nat.le_of_ble_eq_true rfl) (okn hρ (Nat.le_of_ble_eq_true rfl)) rfl rfl) ⟨rfl, npX9_isTold⟩ (Nat.le_of_ble_eq_true rfl) (Nat.le_refl _) (Nat.le_refl _) rfl (CALLi.mono h (fun v1 S1 _ h => ?_))
  refine AW_if_eq dX11_swaps_7 rfl (iteM h (fun h => ?_) (fun h => ?_))
  · refine AW_bipush (v := (-2)) dX11_swaps_27 rfl ?_
    exact AW_reti dX11_swaps_29 rfl h
  · refine AW_aload_n 0 (n := 0) rfl dX11_swaps_10 rfl ?_
    refine AW_get dX11_swaps_11 flX11_40 (Nat.le_of_ble_eq_true rfl) (okn hρ (Nat.le_of_ble_eq_true rfl)) rfl (v := .ref 26) (fvR (okR hρ 4 rfl)) ?_
    refine AW_aload_n 0 (n := 0) rfl dX11_swaps_14 rfl ?_
    refine AW_get dX11_swaps_15 flX11_26 (Nat.le_of_ble_eq_true rfl) (okn hρ (Nat.le_of_ble_eq_true rfl)) rfl (v := .ref 21) (fvR (okR hρ 2 rfl)) ?_
    refine AW_get dX11_swaps_18 flX11_154 (Nat.le_of_ble_eq_true rfl) (okn hρ (Nat.le_of_ble_eq_true rfl)) rfl (v := .long (S1.2 21 7)) (fun _ => rfl) ?_
    refine AW_callVi (M := mX11_swaps) (pc := 21) (As := [.long (S1.2 21 7)]) (ρ1 := ρ) (st := []) dX11_swaps_21 mdX5_swapsOn rfl mlX11_233 imX5_swapsOn seX5_swapsOn (rcv_of (q := (RX5, TX5, 7)) (Nat.le_of_ble_eq_true rfl) (okn hρ (Nat.le_of_ble_eq_true rfl)) rfl rfl) ⟨rfl, npX5_swapsOn⟩ (Nat.le_of_ble_eq_true rfl) (Nat.le_refl _) (Nat.le_refl _) rfl (CALLi.mono h (fun v2 S2 _ h => ?_))
    refine AW_goto (tgt := 29) dX11_swaps_24 rfl ?_
    exact AW_reti dX11_swaps_29 rfl h
set_option maxRecDepth 20000 in
theorem eX11_classes {g : GX} {Q : Int32 → St → Prop} {d : Nat} {ρ ρ' : Rs} {S : St} (hρ : Ok ρ) {ρ1 : Rs} (hρ1 : Ok ρ1) (hcl1 : rc ρ1 ≤ rc ρ') (hul1 : ru ρ1 ≤ ru ρ') (hcle : rc ρ ≤ rc ρ') (hule : ru ρ ≤ ru ρ') (h : CALLi g d mX11_refusalOfList [.ref 16] ρ ρ1 S (fun v1 S1 => if v1 = 0 then CALLi g d mX6_classTotal [.ref 70] ρ1 ρ1 S1 (fun v2 S2 => ρ1 = ρ' ∧ (Q v2 S2)) else ρ1 = ρ' ∧ (Q v1 S1))) : CALLi g (d + 1) mX11_classes [.ref 16] ρ ρ' S Q := by
  refine CALL.of mdX11_classes.2.2.2.2 (Nat.le_of_ble_eq_true rfl) hcle hule ?_
  show AW g ρ' (QI Q) (d + 1) mX11_classes 0 [(0, .ref 16)] [] ρ S
  refine AW_aload_n 0 (n := 0) rfl dX11_classes_0 rfl ?_
  refine AW_callVi (M := mX11_classes) (pc := 1) (As := []) (ρ1 := ρ1) (st := []) dX11_classes_1 mdX11_refusalOfList rfl mlX11_237 imX11_refusalOfList seX11_refusalOfList (rcv_of (q := (RX11, TX11, 8)) (Nat.le_of_ble_eq_true rfl) (okn hρ (Nat.le_of_ble_eq_true rfl)) rfl rfl) ⟨rfl, npX11_refusalOfList⟩ (Nat.le_of_ble_eq_true rfl) hcl1 hul1 rfl (CALLi.mono h (fun v1 S1 _ h => ?_))
  refine AW_istore_n (n := 1) (i := 1) rfl dX11_classes_4 (Nat.le_of_ble_eq_true rfl) rfl ?_
  refine AW_iload_n 0 (n := 1) rfl dX11_classes_5 rfl ?_
  refine AW_if_eq dX11_classes_6 rfl (iteM h (fun h => ?_) (fun h => ?_))
  · refine AW_aload_n 1 (n := 0) rfl dX11_classes_13 rfl ?_
    refine AW_get dX11_classes_14 flX11_65 (Nat.le_of_ble_eq_true rfl) (okn hρ1 (Nat.le_of_ble_eq_true rfl)) rfl (v := .ref 70) (fvR (okR hρ1 7 rfl)) ?_
    refine AW_callVi (M := mX11_classes) (pc := 17) (As := []) (ρ1 := ρ1) (st := []) dX11_classes_17 mdX6_classTotal rfl mlX11_241 imX6_classTotal seX6_classTotal (rcv_of (q := (RX6, TX6, 18)) (Nat.le_of_ble_eq_true rfl) (okn hρ1 (Nat.le_of_ble_eq_true rfl)) rfl rfl) ⟨rfl, npX6_classTotal⟩ (Nat.le_of_ble_eq_true rfl) hcl1 hul1 rfl (CALLi.mono h (fun v2 S2 _ h => ?_))
    refine AW.rhoE h.1 ?_
    replace h := h.2
    exact AW_reti dX11_classes_20 rfl h
  · refine AW_iload_n 0 (n := 1) rfl dX11_classes_9 rfl ?_
    refine AW_goto (tgt := 20) dX11_classes_10 rfl ?_
    refine AW.rhoE h.1 ?_
    replace h := h.2
    exact AW_reti dX11_classes_20 rfl h
set_option maxRecDepth 20000 in
theorem eX11_joined {g : GX} {Q : Int32 → St → Prop} {d : Nat} {ρ ρ' : Rs} {S : St} (hρ : Ok ρ) {ρ1 : Rs} (hρ1 : Ok ρ1) (hcl1 : rc ρ1 ≤ rc ρ') (hul1 : ru ρ1 ≤ ru ρ') (hcle : rc ρ ≤ rc ρ') (hule : ru ρ ≤ ru ρ') (h : CALLi g d mX11_refusalOfList [.ref 16] ρ ρ1 S (fun v1 S1 => if v1 = 0 then CALLi g d mX6_joinedTotal [.ref 70] ρ1 ρ1 S1 (fun v2 S2 => ρ1 = ρ' ∧ (Q v2 S2)) else ρ1 = ρ' ∧ (Q v1 S1))) : CALLi g (d + 1) mX11_joined [.ref 16] ρ ρ' S Q := by
  refine CALL.of mdX11_joined.2.2.2.2 (Nat.le_of_ble_eq_true rfl) hcle hule ?_
  show AW g ρ' (QI Q) (d + 1) mX11_joined 0 [(0, .ref 16)] [] ρ S
  refine AW_aload_n 0 (n := 0) rfl dX11_joined_0 rfl ?_
  refine AW_callVi (M := mX11_joined) (pc := 1) (As := []) (ρ1 := ρ1) (st := []) dX11_joined_1 mdX11_refusalOfList rfl mlX11_237 imX11_refusalOfList seX11_refusalOfList (rcv_of (q := (RX11, TX11, 8)) (Nat.le_of_ble_eq_true rfl) (okn hρ (Nat.le_of_ble_eq_true rfl)) rfl rfl) ⟨rfl, npX11_refusalOfList⟩ (Nat.le_of_ble_eq_true rfl) hcl1 hul1 rfl (CALLi.mono h (fun v1 S1 _ h => ?_))
  refine AW_istore_n (n := 1) (i := 1) rfl dX11_joined_4 (Nat.le_of_ble_eq_true rfl) rfl ?_
  refine AW_iload_n 0 (n := 1) rfl dX11_joined_5 rfl ?_
  refine AW_if_eq dX11_joined_6 rfl (iteM h (fun h => ?_) (fun h => ?_))
  · refine AW_aload_n 1 (n := 0) rfl dX11_joined_13 rfl ?_
    refine AW_get dX11_joined_14 flX11_65 (Nat.le_of_ble_eq_true rfl) (okn hρ1 (Nat.le_of_ble_eq_true rfl)) rfl (v := .ref 70) (fvR (okR hρ1 7 rfl)) ?_
    refine AW_callVi (M := mX11_joined) (pc := 17) (As := []) (ρ1 := ρ1) (st := []) dX11_joined_17 mdX6_joinedTotal rfl mlX11_244 imX6_joinedTotal seX6_joinedTotal (rcv_of (q := (RX6, TX6, 18)) (Nat.le_of_ble_eq_true rfl) (okn hρ1 (Nat.le_of_ble_eq_true rfl)) rfl rfl) ⟨rfl, npX6_joinedTotal⟩ (Nat.le_of_ble_eq_true rfl) hcl1 hul1 rfl (CALLi.mono h (fun v2 S2 _ h => ?_))
    refine AW.rhoE h.1 ?_
    replace h := h.2
    exact AW_reti dX11_joined_20 rfl h
  · refine AW_iload_n 0 (n := 1) rfl dX11_joined_9 rfl ?_
    refine AW_goto (tgt := 20) dX11_joined_10 rfl ?_
    refine AW.rhoE h.1 ?_
    replace h := h.2
    exact AW_reti dX11_joined_20 rfl h
set_option maxRecDepth 20000 in
theorem eX11_classOf {g : GX} {Q : Int32 → St → Prop} {d : Nat} {ρ ρ' : Rs} {S : St} (hρ : Ok ρ) {x1 : Int32} {ρ1 : Rs} (hρ1 : Ok ρ1) (hcl1 : rc ρ1 ≤ rc ρ') (hul1 : ru ρ1 ≤ ru ρ') (hcle : rc ρ ≤ rc ρ') (hule : ru ρ ≤ ru ρ') (h : CALLi g d mX11_refusalOfRank [.ref 16, .int x1] ρ ρ1 S (fun v1 S1 => if v1 = 0 then CALLi g d mX6_headOf [.ref 70, .int x1] ρ1 ρ1 S1 (fun v2 S2 => ρ1 = ρ' ∧ (Q v2 S2)) else ρ1 = ρ' ∧ (Q v1 S1))) : CALLi g (d + 1) mX11_classOf [.ref 16, .int x1] ρ ρ' S Q := by
  refine CALL.of mdX11_classOf.2.2.2.2 (Nat.le_of_ble_eq_true rfl) hcle hule ?_
  show AW g ρ' (QI Q) (d + 1) mX11_classOf 0 [(0, .ref 16), (1, .int x1)] [] ρ S
  refine AW_aload_n 0 (n := 0) rfl dX11_classOf_0 rfl ?_
  refine AW_iload_n 1 (n := 1) rfl dX11_classOf_1 rfl ?_
  refine AW_callVi (M := mX11_classOf) (pc := 2) (As := [.int x1]) (ρ1 := ρ1) (st := []) dX11_classOf_2 mdX11_refusalOfRank rfl mlX11_247 imX11_refusalOfRank seX11_refusalOfRank (rcv_of (q := (RX11, TX11, 8)) (Nat.le_of_ble_eq_true rfl) (okn hρ (Nat.le_of_ble_eq_true rfl)) rfl rfl) ⟨rfl, npX11_refusalOfRank⟩ (Nat.le_of_ble_eq_true rfl) hcl1 hul1 rfl (CALLi.mono h (fun v1 S1 _ h => ?_))
  refine AW_istore_n (n := 2) (i := 2) rfl dX11_classOf_5 (Nat.le_of_ble_eq_true rfl) rfl ?_
  refine AW_iload_n 0 (n := 2) rfl dX11_classOf_6 rfl ?_
  refine AW_if_eq dX11_classOf_7 rfl (iteM h (fun h => ?_) (fun h => ?_))
  · refine AW_aload_n 1 (n := 0) rfl dX11_classOf_14 rfl ?_
    refine AW_get dX11_classOf_15 flX11_65 (Nat.le_of_ble_eq_true rfl) (okn hρ1 (Nat.le_of_ble_eq_true rfl)) rfl (v := .ref 70) (fvR (okR hρ1 7 rfl)) ?_
    refine AW_iload_n 2 (n := 1) rfl dX11_classOf_18 rfl ?_
    refine AW_callVi (M := mX11_classOf) (pc := 19) (As := [.int x1]) (ρ1 := ρ1) (st := []) dX11_classOf_19 mdX6_headOf rfl mlX11_250 imX6_headOf seX6_headOf (rcv_of (q := (RX6, TX6, 18)) (Nat.le_of_ble_eq_true rfl) (okn hρ1 (Nat.le_of_ble_eq_true rfl)) rfl rfl) ⟨rfl, npX6_headOf⟩ (Nat.le_of_ble_eq_true rfl) hcl1 hul1 rfl (CALLi.mono h (fun v2 S2 _ h => ?_))
    refine AW.rhoE h.1 ?_
    replace h := h.2
    exact AW_reti dX11_classOf_22 rfl h
  · refine AW_iload_n 0 (n := 2) rfl dX11_classOf_10 rfl ?_
    refine AW_goto (tgt := 22) dX11_classOf_11 rfl ?_
    refine AW.rhoE h.1 ?_
    replace h := h.2
    exact AW_reti dX11_classOf_22 rfl h
set_option maxRecDepth 20000 in
theorem eX11_sized {g : GX} {Q : Int32 → St → Prop} {d : Nat} {ρ ρ' : Rs} {S : St} (hρ : Ok ρ) {x1 : Int32} {ρ1 : Rs} (hρ1 : Ok ρ1) (hcl1 : rc ρ1 ≤ rc ρ') (hul1 : ru ρ1 ≤ ru ρ') (hcle : rc ρ ≤ rc ρ') (hule : ru ρ ≤ ru ρ') (h : CALLi g d mX11_refusalOfRank [.ref 16, .int x1] ρ ρ1 S (fun v1 S1 => if v1 = 0 then CALLi g d mX6_classSize [.ref 70, .int x1] ρ1 ρ1 S1 (fun v2 S2 => ρ1 = ρ' ∧ (Q v2 S2)) else ρ1 = ρ' ∧ (Q v1 S1))) : CALLi g (d + 1) mX11_sized [.ref 16, .int x1] ρ ρ' S Q := by
  refine CALL.of mdX11_sized.2.2.2.2 (Nat.le_of_ble_eq_true rfl) hcle hule ?_
  show AW g ρ' (QI Q) (d + 1) mX11_sized 0 [(0, .ref 16), (1, .int x1)] [] ρ S
  refine AW_aload_n 0 (n := 0) rfl dX11_sized_0 rfl ?_
  refine AW_iload_n 1 (n := 1) rfl dX11_sized_1 rfl ?_
  refine AW_callVi (M := mX11_sized) (pc := 2) (As := [.int x1]) (ρ1 := ρ1) (st := []) dX11_sized_2 mdX11_refusalOfRank rfl mlX11_247 imX11_refusalOfRank seX11_refusalOfRank (rcv_of (q := (RX11, TX11, 8)) (Nat.le_of_ble_eq_true rfl) (okn hρ (Nat.le_of_ble_eq_true rfl)) rfl rfl) ⟨rfl, npX11_refusalOfRank⟩ (Nat.le_of_ble_eq_true rfl) hcl1 hul1 rfl (CALLi.mono h (fun v1 S1 _ h => ?_))
  refine AW_istore_n (n := 2) (i := 2) rfl dX11_sized_5 (Nat.le_of_ble_eq_true rfl) rfl ?_
  refine AW_iload_n 0 (n := 2) rfl dX11_sized_6 rfl ?_
  refine AW_if_eq dX11_sized_7 rfl (iteM h (fun h => ?_) (fun h => ?_))
  · refine AW_aload_n 1 (n := 0) rfl dX11_sized_14 rfl ?_
    refine AW_get dX11_sized_15 flX11_65 (Nat.le_of_ble_eq_true rfl) (okn hρ1 (Nat.le_of_ble_eq_true rfl)) rfl (v := .ref 70) (fvR (okR hρ1 7 rfl)) ?_
    refine AW_iload_n 2 (n := 1) rfl dX11_sized_18 rfl ?_
    refine AW_callVi (M := mX11_sized) (pc := 19) (As := [.int x1]) (ρ1 := ρ1) (st := []) dX11_sized_19 mdX6_classSize rfl mlX11_253 imX6_classSize seX6_classSize (rcv_of (q := (RX6, TX6, 18)) (Nat.le_of_ble_eq_true rfl) (okn hρ1 (Nat.le_of_ble_eq_true rfl)) rfl rfl) ⟨rfl, npX6_classSize⟩ (Nat.le_of_ble_eq_true rfl) hcl1 hul1 rfl (CALLi.mono h (fun v2 S2 _ h => ?_))
    refine AW.rhoE h.1 ?_
    replace h := h.2
    exact AW_reti dX11_sized_22 rfl h
  · refine AW_iload_n 0 (n := 2) rfl dX11_sized_10 rfl ?_
    refine AW_goto (tgt := 22) dX11_sized_11 rfl ?_
    refine AW.rhoE h.1 ?_
    replace h := h.2
    exact AW_reti dX11_sized_22 rfl h
set_option maxRecDepth 20000 in
theorem eX11_apart {g : GX} {Q : Int32 → St → Prop} {d : Nat} {ρ ρ' : Rs} {S : St} (hρ : Ok ρ) {x1 : Int32} {x2 : Int32} {ρ1 : Rs} (hρ1 : Ok ρ1) (hcl1 : rc ρ1 ≤ rc ρ') (hul1 : ru ρ1 ≤ ru ρ') {ρ2 : Rs} (hρ2 : Ok ρ2) (hcl2 : rc ρ2 ≤ rc ρ') (hul2 : ru ρ2 ≤ ru ρ') (hcle : rc ρ ≤ rc ρ') (hule : ru ρ ≤ ru ρ') (h : CALLi g d mX11_refusalOfRank [.ref 16, .int x1] ρ ρ1 S (fun v1 S1 => if v1 = 0 then CALLi g d mX11_refusalOfRank [.ref 16, .int x2] ρ1 ρ2 S1 (fun v2 S2 => if v2 = 0 then CALLi g d mX6_distance [.ref 70, .int x1, .int x2] ρ2 ρ2 S2 (fun v3 S3 => ρ2 = ρ' ∧ (Q v3 S3)) else ρ2 = ρ' ∧ (Q v2 S2)) else if v1 = 0 then CALLi g d mX6_distance [.ref 70, .int x1, .int x2] ρ1 ρ1 S1 (fun v4 S4 => ρ1 = ρ' ∧ (Q v4 S4)) else ρ1 = ρ' ∧ (Q v1 S1))) : CALLi g (d + 1) mX11_apart [.ref 16, .int x1, .int x2] ρ ρ' S Q := by
  refine CALL.of mdX11_apart.2.2.2.2 (Nat.le_of_ble_eq_true rfl) hcle hule ?_
  show AW g ρ' (QI Q) (d + 1) mX11_apart 0 [(0, .ref 16), (1, .int x1), (2, .int x2)] [] ρ S
  refine AW_aload_n 0 (n := 0) rfl dX11_apart_0 rfl ?_
  refine AW_iload_n 1 (n := 1) rfl dX11_apart_1 rfl ?_
  refine AW_callVi (M := mX11_apart) (pc := 2) (As := [.int x1]) (ρ1 := ρ1) (st := []) dX11_apart_2 mdX11_refusalOfRank rfl mlX11_247 imX11_refusalOfRank seX11_refusalOfRank (rcv_of (q := (RX11, TX11, 8)) (Nat.le_of_ble_eq_true rfl) (okn hρ (Nat.le_of_ble_eq_true rfl)) rfl rfl) ⟨rfl, npX11_refusalOfRank⟩ (Nat.le_of_ble_eq_true rfl) hcl1 hul1 rfl (CALLi.mono h (fun v1 S1 _ h => ?_))
  refine AW_istore_n (n := 3) (i := 3) rfl dX11_apart_5 (Nat.le_of_ble_eq_true rfl) rfl ?_
  refine AW_iload_n 0 (n := 3) rfl dX11_apart_6 rfl ?_
  refine AW_if_ne dX11_apart_7 rfl (iteM h (fun h => ?_) (fun h => ?_))
  · refine AW_aload_n 1 (n := 0) rfl dX11_apart_10 rfl ?_
    refine AW_iload_n 3 (n := 2) rfl dX11_apart_11 rfl ?_
    refine AW_callVi (M := mX11_apart) (pc := 12) (As := [.int x2]) (ρ1 := ρ2) (st := []) dX11_apart_12 mdX11_refusalOfRank rfl mlX11_247 imX11_refusalOfRank seX11_refusalOfRank (rcv_of (q := (RX11, TX11, 8)) (Nat.le_of_ble_eq_true rfl) (okn hρ1 (Nat.le_of_ble_eq_true rfl)) rfl rfl) ⟨rfl, npX11_refusalOfRank⟩ (Nat.le_of_ble_eq_true rfl) hcl2 hul2 rfl (CALLi.mono h (fun v2 S2 _ h => ?_))
    refine AW_istore_n (n := 3) (i := 3) rfl dX11_apart_15 (Nat.le_of_ble_eq_true rfl) rfl ?_
    refine AW_iload_n 0 (n := 3) rfl dX11_apart_16 rfl ?_
    refine AW_if_eq dX11_apart_17 rfl (iteM h (fun h => ?_) (fun h => ?_))
    · refine AW_aload_n 1 (n := 0) rfl dX11_apart_24 rfl ?_
      refine AW_get dX11_apart_25 flX11_65 (Nat.le_of_ble_eq_true rfl) (okn hρ2 (Nat.le_of_ble_eq_true rfl)) rfl (v := .ref 70) (fvR (okR hρ2 7 rfl)) ?_
      refine AW_iload_n 2 (n := 1) rfl dX11_apart_28 rfl ?_
      refine AW_iload_n 3 (n := 2) rfl dX11_apart_29 rfl ?_
      refine AW_callVi (M := mX11_apart) (pc := 30) (As := [.int x1, .int x2]) (ρ1 := ρ2) (st := []) dX11_apart_30 mdX6_distance rfl mlX11_256 imX6_distance seX6_distance (rcv_of (q := (RX6, TX6, 18)) (Nat.le_of_ble_eq_true rfl) (okn hρ2 (Nat.le_of_ble_eq_true rfl)) rfl rfl) ⟨rfl, npX6_distance⟩ (Nat.le_of_ble_eq_true rfl) hcl2 hul2 rfl (CALLi.mono h (fun v3 S3 _ h => ?_))
      refine AW.rhoE h.1 ?_
      replace h := h.2
      exact AW_reti dX11_apart_33 rfl h
    · refine AW_iload_n 0 (n := 3) rfl dX11_apart_20 rfl ?_
      refine AW_goto (tgt := 33) dX11_apart_21 rfl ?_
      refine AW.rhoE h.1 ?_
      replace h := h.2
      exact AW_reti dX11_apart_33 rfl h
  · refine AW_iload_n 0 (n := 3) rfl dX11_apart_16 rfl ?_
    refine AW_if_eq dX11_apart_17 rfl (iteM h (fun h => ?_) (fun h => ?_))
    · refine AW_aload_n 1 (n := 0) rfl dX11_apart_24 rfl ?_
      refine AW_get dX11_apart_25 flX11_65 (Nat.le_of_ble_eq_true rfl) (okn hρ1 (Nat.le_of_ble_eq_true rfl)) rfl (v := .ref 70) (fvR (okR hρ1 7 rfl)) ?_
      refine AW_iload_n 2 (n := 1) rfl dX11_apart_28 rfl ?_
      refine AW_iload_n 3 (n := 2) rfl dX11_apart_29 rfl ?_
      refine AW_callVi (M := mX11_apart) (pc := 30) (As := [.int x1, .int x2]) (ρ1 := ρ1) (st := []) dX11_apart_30 mdX6_distance rfl mlX11_256 imX6_distance seX6_distance (rcv_of (q := (RX6, TX6, 18)) (Nat.le_of_ble_eq_true rfl) (okn hρ1 (Nat.le_of_ble_eq_true rfl)) rfl rfl) ⟨rfl, npX6_distance⟩ (Nat.le_of_ble_eq_true rfl) hcl1 hul1 rfl (CALLi.mono h (fun v4 S4 _ h => ?_))
      refine AW.rhoE h.1 ?_
      replace h := h.2
      exact AW_reti dX11_apart_33 rfl h
    · refine AW_iload_n 0 (n := 3) rfl dX11_apart_20 rfl ?_
      refine AW_goto (tgt := 33) dX11_apart_21 rfl ?_
      refine AW.rhoE h.1 ?_
      replace h := h.2
      exact AW_reti dX11_apart_33 rfl h
set_option maxRecDepth 20000 in
theorem eX11_far {g : GX} {Q : Int32 → St → Prop} {d : Nat} {ρ ρ' : Rs} {S : St} (hρ : Ok ρ) {ρ1 : Rs} (hρ1 : Ok ρ1) (hcl1 : rc ρ1 ≤ rc ρ') (hul1 : ru ρ1 ≤ ru ρ') (hcle : rc ρ ≤ rc ρ') (hule : ru ρ ≤ ru ρ') (h : CALLi g d mX11_refusalOfList [.ref 16] ρ ρ1 S (fun v1 S1 => if v1 = 0 then CALLi g d mX11_rankNow [.ref 16] ρ1 ρ1 S1 (fun v2 S2 => CALLi g d mX6_greatestDistance [.ref 70, .int v2] ρ1 ρ1 S2 (fun v3 S3 => ρ1 = ρ' ∧ (Q v3 S3))) else ρ1 = ρ' ∧ (Q v1 S1))) : CALLi g (d + 1) mX11_far [.ref 16] ρ ρ' S Q := by
  refine CALL.of mdX11_far.2.2.2.2 (Nat.le_of_ble_eq_true rfl) hcle hule ?_
  show AW g ρ' (QI Q) (d + 1) mX11_far 0 [(0, .ref 16)] [] ρ S
  refine AW_aload_n 0 (n := 0) rfl dX11_far_0 rfl ?_
  refine AW_callVi (M := mX11_far) (pc := 1) (As := []) (ρ1 := ρ1) (st := []) dX11_far_1 mdX11_refusalOfList rfl mlX11_237 imX11_refusalOfList seX11_refusalOfList (rcv_of (q := (RX11, TX11, 8)) (Nat.le_of_ble_eq_true rfl) (okn hρ (Nat.le_of_ble_eq_true rfl)) rfl rfl) ⟨rfl, npX11_refusalOfList⟩ (Nat.le_of_ble_eq_true rfl) hcl1 hul1 rfl (CALLi.mono h (fun v1 S1 _ h => ?_))
  refine AW_istore_n (n := 1) (i := 1) rfl dX11_far_4 (Nat.le_of_ble_eq_true rfl) rfl ?_
  refine AW_iload_n 0 (n := 1) rfl dX11_far_5 rfl ?_
  refine AW_if_eq dX11_far_6 rfl (iteM h (fun h => ?_) (fun h => ?_))
  · refine AW_aload_n 1 (n := 0) rfl dX11_far_13 rfl ?_
    refine AW_get dX11_far_14 flX11_65 (Nat.le_of_ble_eq_true rfl) (okn hρ1 (Nat.le_of_ble_eq_true rfl)) rfl (v := .ref 70) (fvR (okR hρ1 7 rfl)) ?_
    refine AW_aload_n 1 (n := 0) rfl dX11_far_17 rfl ?_
    refine AW_callVi (M := mX11_far) (pc := 18) (As := []) (ρ1 := ρ1) (st := [.ref 70]) dX11_far_18 mdX11_rankNow rfl mlX11_259 imX11_rankNow seX11_rankNow (rcv_of (q := (RX11, TX11, 8)) (Nat.le_of_ble_eq_true rfl) (okn hρ1 (Nat.le_of_ble_eq_true rfl)) rfl rfl) ⟨rfl, npX11_rankNow⟩ (Nat.le_of_ble_eq_true rfl) hcl1 hul1 rfl (CALLi.mono h (fun v2 S2 _ h => ?_))
    refine AW_callVi (M := mX11_far) (pc := 21) (As := [.int v2]) (ρ1 := ρ1) (st := []) dX11_far_21 mdX6_greatestDistance rfl mlX11_262 imX6_greatestDistance seX6_greatestDistance (rcv_of (q := (RX6, TX6, 18)) (Nat.le_of_ble_eq_true rfl) (okn hρ1 (Nat.le_of_ble_eq_true rfl)) rfl rfl) ⟨rfl, npX6_greatestDistance⟩ (Nat.le_of_ble_eq_true rfl) hcl1 hul1 rfl (CALLi.mono h (fun v3 S3 _ h => ?_))
    refine AW.rhoE h.1 ?_
    replace h := h.2
    exact AW_reti dX11_far_24 rfl h
  · refine AW_iload_n 0 (n := 1) rfl dX11_far_9 rfl ?_
    refine AW_goto (tgt := 24) dX11_far_10 rfl ?_
    refine AW.rhoE h.1 ?_
    replace h := h.2
    exact AW_reti dX11_far_24 rfl h
set_option maxRecDepth 20000 in
theorem eX11_farthest {g : GX} {Q : Int32 → St → Prop} {d : Nat} {ρ ρ' : Rs} {S : St} (hρ : Ok ρ) {ρ1 : Rs} (hρ1 : Ok ρ1) (hcl1 : rc ρ1 ≤ rc ρ') (hul1 : ru ρ1 ≤ ru ρ') (hcle : rc ρ ≤ rc ρ') (hule : ru ρ ≤ ru ρ') (h : CALLi g d mX11_refusalOfList [.ref 16] ρ ρ1 S (fun v1 S1 => if v1 = 0 then CALLi g d mX11_rankNow [.ref 16] ρ1 ρ1 S1 (fun v2 S2 => CALLi g d mX6_firstAtGreatest [.ref 70, .int v2] ρ1 ρ1 S2 (fun v3 S3 => ρ1 = ρ' ∧ (Q v3 S3))) else ρ1 = ρ' ∧ (Q v1 S1))) : CALLi g (d + 1) mX11_farthest [.ref 16] ρ ρ' S Q := by
  refine CALL.of mdX11_farthest.2.2.2.2 (Nat.le_of_ble_eq_true rfl) hcle hule ?_
  show AW g ρ' (QI Q) (d + 1) mX11_farthest 0 [(0, .ref 16)] [] ρ S
  refine AW_aload_n 0 (n := 0) rfl dX11_farthest_0 rfl ?_
  refine AW_callVi (M := mX11_farthest) (pc := 1) (As := []) (ρ1 := ρ1) (st := []) dX11_farthest_1 mdX11_refusalOfList rfl mlX11_237 imX11_refusalOfList seX11_refusalOfList (rcv_of (q := (RX11, TX11, 8)) (Nat.le_of_ble_eq_true rfl) (okn hρ (Nat.le_of_ble_eq_true rfl)) rfl rfl) ⟨rfl, npX11_refusalOfList⟩ (Nat.le_of_ble_eq_true rfl) hcl1 hul1 rfl (CALLi.mono h (fun v1 S1 _ h => ?_))
  refine AW_istore_n (n := 1) (i := 1) rfl dX11_farthest_4 (Nat.le_of_ble_eq_true rfl) rfl ?_
  refine AW_iload_n 0 (n := 1) rfl dX11_farthest_5 rfl ?_
  refine AW_if_eq dX11_farthest_6 rfl (iteM h (fun h => ?_) (fun h => ?_))
  · refine AW_aload_n 1 (n := 0) rfl dX11_farthest_13 rfl ?_
    refine AW_get dX11_farthest_14 flX11_65 (Nat.le_of_ble_eq_true rfl) (okn hρ1 (Nat.le_of_ble_eq_true rfl)) rfl (v := .ref 70) (fvR (okR hρ1 7 rfl)) ?_
    refine AW_aload_n 1 (n := 0) rfl dX11_farthest_17 rfl ?_
    refine AW_callVi (M := mX11_farthest) (pc := 18) (As := []) (ρ1 := ρ1) (st := [.ref 70]) dX11_farthest_18 mdX11_rankNow rfl mlX11_259 imX11_rankNow seX11_rankNow (rcv_of (q := (RX11, TX11, 8)) (Nat.le_of_ble_eq_true rfl) (okn hρ1 (Nat.le_of_ble_eq_true rfl)) rfl rfl) ⟨rfl, npX11_rankNow⟩ (Nat.le_of_ble_eq_true rfl) hcl1 hul1 rfl (CALLi.mono h (fun v2 S2 _ h => ?_))
    refine AW_callVi (M := mX11_farthest) (pc := 21) (As := [.int v2]) (ρ1 := ρ1) (st := []) dX11_farthest_21 mdX6_firstAtGreatest rfl mlX11_265 imX6_firstAtGreatest seX6_firstAtGreatest (rcv_of (q := (RX6, TX6, 18)) (Nat.le_of_ble_eq_true rfl) (okn hρ1 (Nat.le_of_ble_eq_true rfl)) rfl rfl) ⟨rfl, npX6_firstAtGreatest⟩ (Nat.le_of_ble_eq_true rfl) hcl1 hul1 rfl (CALLi.mono h (fun v3 S3 _ h => ?_))
    refine AW.rhoE h.1 ?_
    replace h := h.2
    exact AW_reti dX11_farthest_24 rfl h
  · refine AW_iload_n 0 (n := 1) rfl dX11_farthest_9 rfl ?_
    refine AW_goto (tgt := 24) dX11_farthest_10 rfl ?_
    refine AW.rhoE h.1 ?_
    replace h := h.2
    exact AW_reti dX11_farthest_24 rfl h
set_option maxRecDepth 20000 in
theorem eX11_within {g : GX} {Q : Int32 → St → Prop} {d : Nat} {ρ ρ' : Rs} {S : St} (hρ : Ok ρ) {x1 : Int32} {ρ1 : Rs} (hρ1 : Ok ρ1) (hcl1 : rc ρ1 ≤ rc ρ') (hul1 : ru ρ1 ≤ ru ρ') (hcle : rc ρ ≤ rc ρ') (hule : ru ρ ≤ ru ρ') (h : if x1 < 0 then ρ = ρ' ∧ (Q (-2) S) else if x1 ≤ 40 then CALLi g d mX11_refusalOfList [.ref 16] ρ ρ1 S (fun v1 S1 => if v1 = 0 then CALLi g d mX11_rankNow [.ref 16] ρ1 ρ1 S1 (fun v2 S2 => CALLi g d mX6_reached [.ref 70, .int v2, .int x1] ρ1 ρ1 S2 (fun v3 S3 => ρ1 = ρ' ∧ (Q v3 S3))) else ρ1 = ρ' ∧ (Q v1 S1)) else ρ = ρ' ∧ (Q (-2) S)) : CALLi g (d + 1) mX11_within [.ref 16, .int x1] ρ ρ' S Q := by
  refine CALL.of mdX11_within.2.2.2.2 (Nat.le_of_ble_eq_true rfl) hcle hule ?_
  show AW g ρ' (QI Q) (d + 1) mX11_within 0 [(0, .ref 16), (1, .int x1)] [] ρ S
  refine AW_iload_n 1 (n := 1) rfl dX11_within_0 rfl ?_
  refine AW_if_lt dX11_within_1 rfl (iteM h (fun h => ?_) (fun h => ?_))
  · refine AW_bipush (v := (-2)) dX11_within_10 rfl ?_
    refine AW.rhoE h.1 ?_
    replace h := h.2
    exact AW_reti dX11_within_12 rfl h
  · refine AW_iload_n 1 (n := 1) rfl dX11_within_4 rfl ?_
    refine AW_bipush (v := 40) dX11_within_5 rfl ?_
    refine AW_icmp_le dX11_within_7 rfl (iteM h (fun h => ?_) (fun h => ?_))
    · refine AW_aload_n 0 (n := 0) rfl dX11_within_13 rfl ?_
      refine AW_callVi (M := mX11_within) (pc := 14) (As := []) (ρ1 := ρ1) (st := []) dX11_within_14 mdX11_refusalOfList rfl mlX11_237 imX11_refusalOfList seX11_refusalOfList (rcv_of (q := (RX11, TX11, 8)) (Nat.le_of_ble_eq_true rfl) (okn hρ (Nat.le_of_ble_eq_true rfl)) rfl rfl) ⟨rfl, npX11_refusalOfList⟩ (Nat.le_of_ble_eq_true rfl) hcl1 hul1 rfl (CALLi.mono h (fun v1 S1 _ h => ?_))
      refine AW_istore_n (n := 2) (i := 2) rfl dX11_within_17 (Nat.le_of_ble_eq_true rfl) rfl ?_
      refine AW_iload_n 0 (n := 2) rfl dX11_within_18 rfl ?_
      refine AW_if_eq dX11_within_19 rfl (iteM h (fun h => ?_) (fun h => ?_))
      · refine AW_aload_n 1 (n := 0) rfl dX11_within_26 rfl ?_
        refine AW_get dX11_within_27 flX11_65 (Nat.le_of_ble_eq_true rfl) (okn hρ1 (Nat.le_of_ble_eq_true rfl)) rfl (v := .ref 70) (fvR (okR hρ1 7 rfl)) ?_
        refine AW_aload_n 1 (n := 0) rfl dX11_within_30 rfl ?_
        refine AW_callVi (M := mX11_within) (pc := 31) (As := []) (ρ1 := ρ1) (st := [.ref 70]) dX11_within_31 mdX11_rankNow rfl mlX11_259 imX11_rankNow seX11_rankNow (rcv_of (q := (RX11, TX11, 8)) (Nat.le_of_ble_eq_true rfl) (okn hρ1 (Nat.le_of_ble_eq_true rfl)) rfl rfl) ⟨rfl, npX11_rankNow⟩ (Nat.le_of_ble_eq_true rfl) hcl1 hul1 rfl (CALLi.mono h (fun v2 S2 _ h => ?_))
        refine AW_iload_n 2 (n := 1) rfl dX11_within_34 rfl ?_
        refine AW_callVi (M := mX11_within) (pc := 35) (As := [.int v2, .int x1]) (ρ1 := ρ1) (st := []) dX11_within_35 mdX6_reached rfl mlX11_268 imX6_reached seX6_reached (rcv_of (q := (RX6, TX6, 18)) (Nat.le_of_ble_eq_true rfl) (okn hρ1 (Nat.le_of_ble_eq_true rfl)) rfl rfl) ⟨rfl, npX6_reached⟩ (Nat.le_of_ble_eq_true rfl) hcl1 hul1 rfl (CALLi.mono h (fun v3 S3 _ h => ?_))
        refine AW.rhoE h.1 ?_
        replace h := h.2
        exact AW_reti dX11_within_38 rfl h
      · refine AW_iload_n 0 (n := 2) rfl dX11_within_22 rfl ?_
        refine AW_goto (tgt := 38) dX11_within_23 rfl ?_
        refine AW.rhoE h.1 ?_
        replace h := h.2
        exact AW_reti dX11_within_38 rfl h
    · refine AW_bipush (v := (-2)) dX11_within_10 rfl ?_
      refine AW.rhoE h.1 ?_
      replace h := h.2
      exact AW_reti dX11_within_12 rfl h
set_option maxRecDepth 20000 in
theorem eX11_ways {g : GX} {Q : Int64 → St → Prop} {d : Nat} {ρ ρ' : Rs} {S : St} (hρ : Ok ρ) {x1 : Int32} {x2 : Int32} {ρ1 : Rs} (hρ1 : Ok ρ1) (hcl1 : rc ρ1 ≤ rc ρ') (hul1 : ru ρ1 ≤ ru ρ') {ρ3 : Rs} (hρ3 : Ok ρ3) (hcl3 : rc ρ3 ≤ rc ρ') (hul3 : ru ρ3 ≤ ru ρ') (hcle : rc ρ ≤ rc ρ') (hule : ru ρ ≤ ru ρ') (h : if x1 < 0 then ρ = ρ' ∧ (Q (-2) S) else if x1 ≤ 4 then CALLi g d mX11_refusalOfRank [.ref 16, .int x2] ρ ρ1 S (fun v1 S1 => if v1 = 0 then CALLi g d mX11_rankNow [.ref 16] ρ1 ρ1 S1 (fun v2 S2 => CALLl g d mX6_choiceRows [.ref 70, .int v2, .int x1, .int x2] ρ1 ρ3 S2 (fun v3 S3 => ρ3 = ρ' ∧ (Q v3 S3))) else ρ1 = ρ' ∧ (Q v1.toInt64 S1)) else ρ = ρ' ∧ (Q (-2) S)) : CALLl g (d + 1) mX11_ways [.ref 16, .int x1, .int x2] ρ ρ' S Q := by
  refine CALL.of mdX11_ways.2.2.2.2 (Nat.le_of_ble_eq_true rfl) hcle hule ?_
  show AW g ρ' (QJ Q) (d + 1) mX11_ways 0 [(0, .ref 16), (1, .int x1), (2, .int x2)] [] ρ S
  refine AW_iload_n 1 (n := 1) rfl dX11_ways_0 rfl ?_
  refine AW_if_lt dX11_ways_1 rfl (iteM h (fun h => ?_) (fun h => ?_))
  · refine AW_ldc2 (v := (-2)) dX11_ways_9 kcX11_152 ?_
    refine AW.rhoE h.1 ?_
    replace h := h.2
    exact AW_retl dX11_ways_12 rfl h
  · refine AW_iload_n 1 (n := 1) rfl dX11_ways_4 rfl ?_
    refine AW_iconst (v := 4) dX11_ways_5 rfl ?_
    refine AW_icmp_le dX11_ways_6 rfl (iteM h (fun h => ?_) (fun h => ?_))
    · refine AW_aload_n 0 (n := 0) rfl dX11_ways_13 rfl ?_
      refine AW_iload_n 2 (n := 2) rfl dX11_ways_14 rfl ?_
      refine AW_callVi (M := mX11_ways) (pc := 15) (As := [.int x2]) (ρ1 := ρ1) (st := []) dX11_ways_15 mdX11_refusalOfRank rfl mlX11_247 imX11_refusalOfRank seX11_refusalOfRank (rcv_of (q := (RX11, TX11, 8)) (Nat.le_of_ble_eq_true rfl) (okn hρ (Nat.le_of_ble_eq_true rfl)) rfl rfl) ⟨rfl, npX11_refusalOfRank⟩ (Nat.le_of_ble_eq_true rfl) hcl1 hul1 rfl (CALLi.mono h (fun v1 S1 _ h => ?_))
      refine AW_istore_n (n := 3) (i := 3) rfl dX11_ways_18 (Nat.le_of_ble_eq_true rfl) rfl ?_
      refine AW_iload_n 0 (n := 3) rfl dX11_ways_19 rfl ?_
      refine AW_if_eq dX11_ways_20 rfl (iteM h (fun h => ?_) (fun h => ?_))
      · refine AW_aload_n 1 (n := 0) rfl dX11_ways_28 rfl ?_
        refine AW_get dX11_ways_29 flX11_65 (Nat.le_of_ble_eq_true rfl) (okn hρ1 (Nat.le_of_ble_eq_true rfl)) rfl (v := .ref 70) (fvR (okR hρ1 7 rfl)) ?_
        refine AW_aload_n 1 (n := 0) rfl dX11_ways_32 rfl ?_
        refine AW_callVi (M := mX11_ways) (pc := 33) (As := []) (ρ1 := ρ1) (st := [.ref 70]) dX11_ways_33 mdX11_rankNow rfl mlX11_259 imX11_rankNow seX11_rankNow (rcv_of (q := (RX11, TX11, 8)) (Nat.le_of_ble_eq_true rfl) (okn hρ1 (Nat.le_of_ble_eq_true rfl)) rfl rfl) ⟨rfl, npX11_rankNow⟩ (Nat.le_of_ble_eq_true rfl) hcl1 hul1 rfl (CALLi.mono h (fun v2 S2 _ h => ?_))
        refine AW_iload_n 2 (n := 1) rfl dX11_ways_36 rfl ?_
        refine AW_iload_n 3 (n := 2) rfl dX11_ways_37 rfl ?_
        refine AW_callVl (M := mX11_ways) (pc := 38) (As := [.int v2, .int x1, .int x2]) (ρ1 := ρ3) (st := []) dX11_ways_38 mdX6_choiceRows rfl mlX11_271 imX6_choiceRows seX6_choiceRows (rcv_of (q := (RX6, TX6, 18)) (Nat.le_of_ble_eq_true rfl) (okn hρ1 (Nat.le_of_ble_eq_true rfl)) rfl rfl) ⟨rfl, npX6_choiceRows⟩ (Nat.le_of_ble_eq_true rfl) hcl3 hul3 rfl (CALLl.mono h (fun v3 S3 _ h => ?_))
        refine AW.rhoE h.1 ?_
        replace h := h.2
        exact AW_retl dX11_ways_41 rfl h
      · refine AW_iload_n 0 (n := 3) rfl dX11_ways_23 rfl ?_
        refine AW_i2l dX11_ways_24 ?_
        refine AW_goto (tgt := 41) dX11_ways_25 rfl ?_
        refine AW.rhoE h.1 ?_
        replace h := h.2
        exact AW_retl dX11_ways_41 rfl h
    · refine AW_ldc2 (v := (-2)) dX11_ways_9 kcX11_152 ?_
      refine AW.rhoE h.1 ?_
      replace h := h.2
      exact AW_retl dX11_ways_12 rfl h
set_option maxRecDepth 20000 in
theorem eX11_drawn {g : GX} {Q : Int64 → St → Prop} {d : Nat} {ρ : Rs} {S : St} (hρ : Ok ρ) {x1 : Int32} (h : CALLi g d mX9_isTold [.ref 21] ρ ρ S (fun v1 S1 => if v1 = 0 then Q (-2) S1 else if x1 < 0 then Q (-2) S1 else if x1 < 1073741824 then CALLl g d mX1_size [.ref 31] ρ ρ S1 (fun v2 S2 => if v2 ≤ 0 then Q (-1) S2 else CALLl g d mX11_evenWords [.ref 16] ρ ρ S2 (fun v3 S3 => if x1.toInt64 < (v3 * v2) then ¬ v2 = (0 : Int64) ∧ (Q (x1.toInt64 - x1.toInt64 / v2 * v2) S3) else Q (-1) S3)) else Q (-2) S1)) : CALLl g (d + 1) mX11_drawn [.ref 16, .int x1] ρ ρ S Q := by
  refine CALL.of mdX11_drawn.2.2.2.2 (Nat.le_of_ble_eq_true rfl) (Nat.le_refl _) (Nat.le_refl _) ?_
  show AW g ρ (QJ Q) (d + 1) mX11_drawn 0 [(0, .ref 16), (1, .int x1)] [] ρ S
  refine AW_aload_n 0 (n := 0) rfl dX11_drawn_0 rfl ?_
  refine AW_get dX11_drawn_1 flX11_26 (Nat.le_of_ble_eq_true rfl) (okn hρ (Nat.le_of_ble_eq_true rfl)) rfl (v := .ref 21) (fvR (okR hρ 2 rfl)) ?_
  refine AW_callVi (M := mX11_drawn) (pc := 4) (As := []) (ρ1 := ρ) (st := []) dX11_drawn_4 mdX9_isTold rfl mlX11_89 imX9_isTold seX9_isTold (rcv_of (q := (RX9, TX9, 10)) (Nat.le_of_ble_eq_true rfl) (okn hρ (Nat.le_of_ble_eq_true rfl)) rfl rfl) ⟨rfl, npX9_isTold⟩ (Nat.le_of_ble_eq_true rfl) (Nat.le_refl _) (Nat.le_refl _) rfl (CALLi.mono h (fun v1 S1 _ h => ?_))
  refine AW_if_eq dX11_drawn_7 rfl (iteM h (fun h => ?_) (fun h => ?_))
  · refine AW_ldc2 (v := (-2)) dX11_drawn_21 kcX11_152 ?_
    exact AW_retl dX11_drawn_24 rfl h
  · refine AW_iload_n 1 (n := 1) rfl dX11_drawn_10 rfl ?_
    refine AW_if_lt dX11_drawn_11 rfl (iteM h (fun h => ?_) (fun h => ?_))
    · refine AW_ldc2 (v := (-2)) dX11_drawn_21 kcX11_152 ?_
      exact AW_retl dX11_drawn_24 rfl h
    · refine AW_iload_n 1 (n := 1) rfl dX11_drawn_14 rfl ?_
      refine AW_ldcw (v := 1073741824) dX11_drawn_15 kcX11_274 ?_
      refine AW_icmp_lt dX11_drawn_18 rfl (iteM h (fun h => ?_) (fun h => ?_))
      · refine AW_aload_n 0 (n := 0) rfl dX11_drawn_25 rfl ?_
        refine AW_get dX11_drawn_26 flX11_47 (Nat.le_of_ble_eq_true rfl) (okn hρ (Nat.le_of_ble_eq_true rfl)) rfl (v := .ref 31) (fvR (okR hρ 5 rfl)) ?_
        refine AW_callVl (M := mX11_drawn) (pc := 29) (As := []) (ρ1 := ρ) (st := []) dX11_drawn_29 mdX1_size rfl mlX11_148 imX1_size seX1_size (rcv_of (q := (RX1, TX1, 15)) (Nat.le_of_ble_eq_true rfl) (okn hρ (Nat.le_of_ble_eq_true rfl)) rfl rfl) ⟨rfl, npX1_size⟩ (Nat.le_of_ble_eq_true rfl) (Nat.le_refl _) (Nat.le_refl _) rfl (CALLl.mono h (fun v2 S2 _ h => ?_))
        refine AW_lstore_n (n := 2) (i := 2) rfl dX11_drawn_32 (Nat.le_of_ble_eq_true rfl) rfl ?_
        refine AW_lload_n 0 (n := 2) rfl dX11_drawn_33 rfl ?_
        refine AW_lconst (v := 0) dX11_drawn_34 rfl ?_
        refine AW_lc_le dX11_drawn_35 dX11_drawn_36 rfl (iteM h (fun h => ?_) (fun h => ?_))
        · refine AW_ldc2 (v := (-1)) dX11_drawn_51 kcX11_278 ?_
          exact AW_retl dX11_drawn_54 rfl h
        · refine AW_iload_n 2 (n := 1) rfl dX11_drawn_39 rfl ?_
          refine AW_i2l dX11_drawn_40 ?_
          refine AW_aload_n 1 (n := 0) rfl dX11_drawn_41 rfl ?_
          refine AW_callVl (M := mX11_drawn) (pc := 42) (As := []) (ρ1 := ρ) (st := [.long x1.toInt64]) dX11_drawn_42 mdX11_evenWords rfl mlX11_275 imX11_evenWords seX11_evenWords (rcv_of (q := (RX11, TX11, 8)) (Nat.le_of_ble_eq_true rfl) (okn hρ (Nat.le_of_ble_eq_true rfl)) rfl rfl) ⟨rfl, npX11_evenWords⟩ (Nat.le_of_ble_eq_true rfl) (Nat.le_refl _) (Nat.le_refl _) rfl (CALLl.mono h (fun v3 S3 _ h => ?_))
          refine AW_lload_n 0 (n := 2) rfl dX11_drawn_45 rfl ?_
          refine AW_lmul dX11_drawn_46 ?_
          refine AW_lc_lt dX11_drawn_47 dX11_drawn_48 rfl (iteM h (fun h => ?_) (fun h => ?_))
          · refine AW_iload_n 2 (n := 1) rfl dX11_drawn_55 rfl ?_
            refine AW_i2l dX11_drawn_56 ?_
            refine AW_lload_n 0 (n := 2) rfl dX11_drawn_57 rfl ?_
            refine AW_lrem dX11_drawn_58 h.1 ?_
            replace h := h.2
            exact AW_retl dX11_drawn_59 rfl h
          · refine AW_ldc2 (v := (-1)) dX11_drawn_51 kcX11_278 ?_
            exact AW_retl dX11_drawn_54 rfl h
      · refine AW_ldc2 (v := (-2)) dX11_drawn_21 kcX11_152 ?_
        exact AW_retl dX11_drawn_24 rfl h
set_option maxRecDepth 20000 in
theorem eX11_evenly {g : GX} {Q : Int32 → St → Prop} {d : Nat} {ρ : Rs} {S : St} (hρ : Ok ρ) (h : CALLi g d mX9_isTold [.ref 21] ρ ρ S (fun v1 S1 => if v1 = 0 then Q (-2) S1 else CALLl g d mX11_evenWords [.ref 16] ρ ρ S1 (fun v2 S2 => Q v2.toInt32 S2))) : CALLi g (d + 1) mX11_evenly [.ref 16] ρ ρ S Q := by
  refine CALL.of mdX11_evenly.2.2.2.2 (Nat.le_of_ble_eq_true rfl) (Nat.le_refl _) (Nat.le_refl _) ?_
  show AW g ρ (QI Q) (d + 1) mX11_evenly 0 [(0, .ref 16)] [] ρ S
  refine AW_aload_n 0 (n := 0) rfl dX11_evenly_0 rfl ?_
  refine AW_get dX11_evenly_1 flX11_26 (Nat.le_of_ble_eq_true rfl) (okn hρ (Nat.le_of_ble_eq_true rfl)) rfl (v := .ref 21) (fvR (okR hρ 2 rfl)) ?_
  refine AW_callVi (M := mX11_evenly) (pc := 4) (As := []) (ρ1 := ρ) (st := []) dX11_evenly_4 mdX9_isTold rfl mlX11_89 imX9_isTold seX9_isTold (rcv_of (q := (RX9, TX9, 10)) (Nat.le_of_ble_eq_true rfl) (okn hρ (Nat.le_of_ble_eq_true rfl)) rfl rfl) ⟨rfl, npX9_isTold⟩ (Nat.le_of_ble_eq_true rfl) (Nat.le_refl _) (Nat.le_refl _) rfl (CALLi.mono h (fun v1 S1 _ h => ?_))
  refine AW_if_eq dX11_evenly_7 rfl (iteM h (fun h => ?_) (fun h => ?_))
  · refine AW_bipush (v := (-2)) dX11_evenly_18 rfl ?_
    exact AW_reti dX11_evenly_20 rfl h
  · refine AW_aload_n 0 (n := 0) rfl dX11_evenly_10 rfl ?_
    refine AW_callVl (M := mX11_evenly) (pc := 11) (As := []) (ρ1 := ρ) (st := []) dX11_evenly_11 mdX11_evenWords rfl mlX11_275 imX11_evenWords seX11_evenWords (rcv_of (q := (RX11, TX11, 8)) (Nat.le_of_ble_eq_true rfl) (okn hρ (Nat.le_of_ble_eq_true rfl)) rfl rfl) ⟨rfl, npX11_evenWords⟩ (Nat.le_of_ble_eq_true rfl) (Nat.le_refl _) (Nat.le_refl _) rfl (CALLl.mono h (fun v2 S2 _ h => ?_))
    refine AW_l2i dX11_evenly_14 ?_
    refine AW_goto (tgt := 20) dX11_evenly_15 rfl ?_
    exact AW_reti dX11_evenly_20 rfl h
set_option maxRecDepth 20000 in
theorem eX11_swap {g : GX} {Q : Int32 → St → Prop} {d : Nat} {ρ : Rs} {S : St} (hρ : Ok ρ) {x1 : Int32} {x2 : Int32} {x3 : Int32} {x4 : Int32} (h : CALLi g d mX9_has [.ref 21, .int x1, .int x3] ρ ρ S (fun v1 S1 => if v1 = 0 then Q (-2) S1 else CALLi g d mX9_has [.ref 21, .int x2, .int x4] ρ ρ S1 (fun v2 S2 => if v2 = 0 then Q (-2) S2 else if x1 = x2 then Q (-2) S2 else if x3 = x4 then Q (-2) S2 else CALLi g d mX9_isFull [.ref 21] ρ ρ S2 (fun v3 S3 => if v3 = 0 then CALLi g d mX9_canSwap [.ref 21, .int x1, .int x2, .int x3, .int x4] ρ ρ S3 (fun v4 S4 => if v4 = 0 then Q (-5) S4 else CALLv g d mX9_remember [.ref 21] ρ ρ S4 (fun S5 => CALLv g d mX9_doSwap [.ref 21, .int x1, .int x2, .int x3, .int x4] ρ ρ S5 (fun S6 => Q 0 S6))) else Q (-5) S3)))) : CALLi g (d + 1) mX11_swap [.ref 16, .int x1, .int x2, .int x3, .int x4] ρ ρ S Q := by
  refine CALL.of mdX11_swap.2.2.2.2 (Nat.le_of_ble_eq_true rfl) (Nat.le_refl _) (Nat.le_refl _) ?_
  show AW g ρ (QI Q) (d + 1) mX11_swap 0 [(0, .ref 16), (1, .int x1), (2, .int x2), (3, .int x3), (4, .int x4)] [] ρ S
  refine AW_aload_n 0 (n := 0) rfl dX11_swap_0 rfl ?_
  refine AW_get dX11_swap_1 flX11_26 (Nat.le_of_ble_eq_true rfl) (okn hρ (Nat.le_of_ble_eq_true rfl)) rfl (v := .ref 21) (fvR (okR hρ 2 rfl)) ?_
  refine AW_iload_n 1 (n := 1) rfl dX11_swap_4 rfl ?_
  refine AW_iload_n 3 (n := 3) rfl dX11_swap_5 rfl ?_
  refine AW_callVi (M := mX11_swap) (pc := 6) (As := [.int x1, .int x3]) (ρ1 := ρ) (st := []) dX11_swap_6 mdX9_has rfl mlX11_131 imX9_has seX9_has (rcv_of (q := (RX9, TX9, 10)) (Nat.le_of_ble_eq_true rfl) (okn hρ (Nat.le_of_ble_eq_true rfl)) rfl rfl) ⟨rfl, npX9_has⟩ (Nat.le_of_ble_eq_true rfl) (Nat.le_refl _) (Nat.le_refl _) rfl (CALLi.mono h (fun v1 S1 _ h => ?_))
  refine AW_if_eq dX11_swap_9 rfl (iteM h (fun h => ?_) (fun h => ?_))
  · refine AW_bipush (v := (-2)) dX11_swap_36 rfl ?_
    exact AW_reti dX11_swap_38 rfl h
  · refine AW_aload_n 0 (n := 0) rfl dX11_swap_12 rfl ?_
    refine AW_get dX11_swap_13 flX11_26 (Nat.le_of_ble_eq_true rfl) (okn hρ (Nat.le_of_ble_eq_true rfl)) rfl (v := .ref 21) (fvR (okR hρ 2 rfl)) ?_
    refine AW_iload_n 2 (n := 2) rfl dX11_swap_16 rfl ?_
    refine AW_iload 4 dX11_swap_17 rfl ?_
    refine AW_callVi (M := mX11_swap) (pc := 19) (As := [.int x2, .int x4]) (ρ1 := ρ) (st := []) dX11_swap_19 mdX9_has rfl mlX11_131 imX9_has seX9_has (rcv_of (q := (RX9, TX9, 10)) (Nat.le_of_ble_eq_true rfl) (okn hρ (Nat.le_of_ble_eq_true rfl)) rfl rfl) ⟨rfl, npX9_has⟩ (Nat.le_of_ble_eq_true rfl) (Nat.le_refl _) (Nat.le_refl _) rfl (CALLi.mono h (fun v2 S2 _ h => ?_))
    refine AW_if_eq dX11_swap_22 rfl (iteM h (fun h => ?_) (fun h => ?_))
    · refine AW_bipush (v := (-2)) dX11_swap_36 rfl ?_
      exact AW_reti dX11_swap_38 rfl h
    · refine AW_iload_n 1 (n := 1) rfl dX11_swap_25 rfl ?_
      refine AW_iload_n 2 (n := 2) rfl dX11_swap_26 rfl ?_
      refine AW_icmp_eq dX11_swap_27 rfl (iteM h (fun h => ?_) (fun h => ?_))
      · refine AW_bipush (v := (-2)) dX11_swap_36 rfl ?_
        exact AW_reti dX11_swap_38 rfl h
      · refine AW_iload_n 3 (n := 3) rfl dX11_swap_30 rfl ?_
        refine AW_iload 4 dX11_swap_31 rfl ?_
        refine AW_icmp_ne dX11_swap_33 rfl (iteM h (fun h => ?_) (fun h => ?_))
        · refine AW_bipush (v := (-2)) dX11_swap_36 rfl ?_
          exact AW_reti dX11_swap_38 rfl h
        · refine AW_aload_n 0 (n := 0) rfl dX11_swap_39 rfl ?_
          refine AW_get dX11_swap_40 flX11_26 (Nat.le_of_ble_eq_true rfl) (okn hρ (Nat.le_of_ble_eq_true rfl)) rfl (v := .ref 21) (fvR (okR hρ 2 rfl)) ?_
          refine AW_callVi (M := mX11_swap) (pc := 43) (As := []) (ρ1 := ρ) (st := []) dX11_swap_43 mdX9_isFull rfl mlX11_280 imX9_isFull seX9_isFull (rcv_of (q := (RX9, TX9, 10)) (Nat.le_of_ble_eq_true rfl) (okn hρ (Nat.le_of_ble_eq_true rfl)) rfl rfl) ⟨rfl, npX9_isFull⟩ (Nat.le_of_ble_eq_true rfl) (Nat.le_refl _) (Nat.le_refl _) rfl (CALLi.mono h (fun v3 S3 _ h => ?_))
          refine AW_if_ne dX11_swap_46 rfl (iteM h (fun h => ?_) (fun h => ?_))
          · refine AW_aload_n 0 (n := 0) rfl dX11_swap_49 rfl ?_
            refine AW_get dX11_swap_50 flX11_26 (Nat.le_of_ble_eq_true rfl) (okn hρ (Nat.le_of_ble_eq_true rfl)) rfl (v := .ref 21) (fvR (okR hρ 2 rfl)) ?_
            refine AW_iload_n 1 (n := 1) rfl dX11_swap_53 rfl ?_
            refine AW_iload_n 2 (n := 2) rfl dX11_swap_54 rfl ?_
            refine AW_iload_n 3 (n := 3) rfl dX11_swap_55 rfl ?_
            refine AW_iload 4 dX11_swap_56 rfl ?_
            refine AW_callVi (M := mX11_swap) (pc := 58) (As := [.int x1, .int x2, .int x3, .int x4]) (ρ1 := ρ) (st := []) dX11_swap_58 mdX9_canSwap rfl mlX11_283 imX9_canSwap seX9_canSwap (rcv_of (q := (RX9, TX9, 10)) (Nat.le_of_ble_eq_true rfl) (okn hρ (Nat.le_of_ble_eq_true rfl)) rfl rfl) ⟨rfl, npX9_canSwap⟩ (Nat.le_of_ble_eq_true rfl) (Nat.le_refl _) (Nat.le_refl _) rfl (CALLi.mono h (fun v4 S4 _ h => ?_))
            refine AW_if_ne dX11_swap_61 rfl (iteM h (fun h => ?_) (fun h => ?_))
            · refine AW_bipush (v := (-5)) dX11_swap_64 rfl ?_
              exact AW_reti dX11_swap_66 rfl h
            · refine AW_aload_n 0 (n := 0) rfl dX11_swap_67 rfl ?_
              refine AW_get dX11_swap_68 flX11_26 (Nat.le_of_ble_eq_true rfl) (okn hρ (Nat.le_of_ble_eq_true rfl)) rfl (v := .ref 21) (fvR (okR hρ 2 rfl)) ?_
              refine AW_callVv (M := mX11_swap) (pc := 71) (As := []) (ρ1 := ρ) (st := []) dX11_swap_71 mdX9_remember rfl mlX11_287 imX9_remember seX9_remember (rcv_of (q := (RX9, TX9, 10)) (Nat.le_of_ble_eq_true rfl) (okn hρ (Nat.le_of_ble_eq_true rfl)) rfl rfl) ⟨rfl, npX9_remember⟩ (Nat.le_of_ble_eq_true rfl) (Nat.le_refl _) (Nat.le_refl _) rfl (CALLv.mono h (fun S5 _ h => ?_))
              refine AW_aload_n 0 (n := 0) rfl dX11_swap_74 rfl ?_
              refine AW_get dX11_swap_75 flX11_26 (Nat.le_of_ble_eq_true rfl) (okn hρ (Nat.le_of_ble_eq_true rfl)) rfl (v := .ref 21) (fvR (okR hρ 2 rfl)) ?_
              refine AW_iload_n 1 (n := 1) rfl dX11_swap_78 rfl ?_
              refine AW_iload_n 2 (n := 2) rfl dX11_swap_79 rfl ?_
              refine AW_iload_n 3 (n := 3) rfl dX11_swap_80 rfl ?_
              refine AW_iload 4 dX11_swap_81 rfl ?_
              refine AW_callVv (M := mX11_swap) (pc := 83) (As := [.int x1, .int x2, .int x3, .int x4]) (ρ1 := ρ) (st := []) dX11_swap_83 mdX9_doSwap rfl mlX11_290 imX9_doSwap seX9_doSwap (rcv_of (q := (RX9, TX9, 10)) (Nat.le_of_ble_eq_true rfl) (okn hρ (Nat.le_of_ble_eq_true rfl)) rfl rfl) ⟨rfl, npX9_doSwap⟩ (Nat.le_of_ble_eq_true rfl) (Nat.le_refl _) (Nat.le_refl _) rfl (CALLv.mono h (fun S6 _ h => ?_))
              refine AW_iconst (v := 0) dX11_swap_86 rfl ?_
              exact AW_reti dX11_swap_87 rfl h
          · refine AW_bipush (v := (-5)) dX11_swap_64 rfl ?_
            exact AW_reti dX11_swap_66 rfl h
set_option maxRecDepth 20000 in
theorem eX11_walk_69 {g : GX} {Q : Int32 → St → Prop} {d : Nat} {ρ : Rs} {S : St} (hρ : Ok ρ) {x1 : Int32} {x3 : Int32} {x4 : Int32} (h : if x1 ≤ x4 then Q x3 S else CALLi g d mX9_choose [.ref 21, .ref 25] ρ ρ S (fun v1 S1 => if v1 = 0 then AW g ρ (QI Q) (d + 1) mX11_walk 69 [(0, .ref 16), (1, .int x1), (3, .int x3), (4, .int (x4 + 1))] [] ρ S1 else AW g ρ (QI Q) (d + 1) mX11_walk 69 [(0, .ref 16), (1, .int x1), (3, .int (x3 + 1)), (4, .int (x4 + 1))] [] ρ S1)) : AW g ρ (QI Q) (d + 1) mX11_walk 69 [(0, .ref 16), (1, .int x1), (3, .int x3), (4, .int x4)] [] ρ S := by
  refine AW_iload 3 dX11_walk_69 rfl ?_
  refine AW_iload_n 1 (n := 1) rfl dX11_walk_71 rfl ?_
  refine AW_icmp_ge dX11_walk_72 rfl (iteM h (fun h => ?_) (fun h => ?_))
  · refine AW_iload_n 2 (n := 3) rfl dX11_walk_98 rfl ?_
    exact AW_reti dX11_walk_99 rfl h
  · refine AW_aload_n 0 (n := 0) rfl dX11_walk_75 rfl ?_
    refine AW_get dX11_walk_76 flX11_26 (Nat.le_of_ble_eq_true rfl) (okn hρ (Nat.le_of_ble_eq_true rfl)) rfl (v := .ref 21) (fvR (okR hρ 2 rfl)) ?_
    refine AW_aload_n 0 (n := 0) rfl dX11_walk_79 rfl ?_
    refine AW_get dX11_walk_80 flX11_33 (Nat.le_of_ble_eq_true rfl) (okn hρ (Nat.le_of_ble_eq_true rfl)) rfl (v := .ref 25) (fvR (okR hρ 3 rfl)) ?_
    refine AW_callVi (M := mX11_walk) (pc := 83) (As := [.ref 25]) (ρ1 := ρ) (st := []) dX11_walk_83 mdX9_choose rfl mlX11_298 imX9_choose seX9_choose (rcv_of (q := (RX9, TX9, 10)) (Nat.le_of_ble_eq_true rfl) (okn hρ (Nat.le_of_ble_eq_true rfl)) rfl rfl) ⟨rfl, npX9_choose⟩ (Nat.le_of_ble_eq_true rfl) (Nat.le_refl _) (Nat.le_refl _) rfl (CALLi.mono h (fun v1 S1 _ h => ?_))
    refine AW_if_eq dX11_walk_86 rfl (iteM h (fun h => ?_) (fun h => ?_))
    · refine AW_iinc 3 (v := x4 + 1) dX11_walk_92 rfl rfl (Nat.le_of_ble_eq_true rfl) rfl ?_
      refine AW_goto (tgt := 69) dX11_walk_95 rfl ?_
      exact AW.sub [1, 2, 3, 0] rfl h
    · refine AW_iinc 2 (v := x3 + 1) dX11_walk_89 rfl rfl (Nat.le_of_ble_eq_true rfl) rfl ?_
      refine AW_iinc 3 (v := x4 + 1) dX11_walk_92 rfl rfl (Nat.le_of_ble_eq_true rfl) rfl ?_
      refine AW_goto (tgt := 69) dX11_walk_95 rfl ?_
      exact AW.sub [2, 3, 1, 0] rfl h
set_option maxRecDepth 20000 in
theorem eX11_walk {g : GX} {Q : Int32 → St → Prop} {d : Nat} {ρ : Rs} {S : St} (hρ : Ok ρ) {x1 : Int32} {x2 : Int32} (h : CALLi g d mX9_isTold [.ref 21] ρ ρ S (fun v1 S1 => if v1 = 0 then Q (-2) S1 else if x1 < 1 then Q (-2) S1 else if (1000 : Int32) < x1 then Q (-2) S1 else if x2 < 0 then Q (-2) S1 else if x2 ≤ 2000000000 then CALLi g d mX9_isFull [.ref 21] ρ ρ S1 (fun v2 S2 => if v2 = 0 then CALLv g d mX9_remember [.ref 21] ρ ρ S2 (fun S3 => CALLv g d mX0_start [.ref 25, .int x2] ρ ρ S3 (fun S4 => AW g ρ (QI Q) (d + 1) mX11_walk 69 [(0, .ref 16), (1, .int x1), (3, .int 0), (4, .int 0)] [] ρ S4)) else Q (-5) S2) else Q (-2) S1)) : CALLi g (d + 1) mX11_walk [.ref 16, .int x1, .int x2] ρ ρ S Q := by
  refine CALL.of mdX11_walk.2.2.2.2 (Nat.le_of_ble_eq_true rfl) (Nat.le_refl _) (Nat.le_refl _) ?_
  show AW g ρ (QI Q) (d + 1) mX11_walk 0 [(0, .ref 16), (1, .int x1), (2, .int x2)] [] ρ S
  refine AW_aload_n 0 (n := 0) rfl dX11_walk_0 rfl ?_
  refine AW_get dX11_walk_1 flX11_26 (Nat.le_of_ble_eq_true rfl) (okn hρ (Nat.le_of_ble_eq_true rfl)) rfl (v := .ref 21) (fvR (okR hρ 2 rfl)) ?_
  refine AW_callVi (M := mX11_walk) (pc := 4) (As := []) (ρ1 := ρ) (st := []) dX11_walk_4 mdX9_isTold rfl mlX11_89 imX9_isTold seX9_isTold (rcv_of (q := (RX9, TX9, 10)) (Nat.le_of_ble_eq_true rfl) (okn hρ (Nat.le_of_ble_eq_true rfl)) rfl rfl) ⟨rfl, npX9_isTold⟩ (Nat.le_of_ble_eq_true rfl) (Nat.le_refl _) (Nat.le_refl _) rfl (CALLi.mono h (fun v1 S1 _ h => ?_))
  refine AW_if_eq dX11_walk_7 rfl (iteM h (fun h => ?_) (fun h => ?_))
  · refine AW_bipush (v := (-2)) dX11_walk_33 rfl ?_
    exact AW_reti dX11_walk_35 rfl h
  · refine AW_iload_n 1 (n := 1) rfl dX11_walk_10 rfl ?_
    refine AW_iconst (v := 1) dX11_walk_11 rfl ?_
    refine AW_icmp_lt dX11_walk_12 rfl (iteM h (fun h => ?_) (fun h => ?_))
    · refine AW_bipush (v := (-2)) dX11_walk_33 rfl ?_
      exact AW_reti dX11_walk_35 rfl h
    · refine AW_iload_n 1 (n := 1) rfl dX11_walk_15 rfl ?_
      refine AW_sipush (v := 1000) dX11_walk_16 rfl ?_
      refine AW_icmp_gt dX11_walk_19 rfl (iteM h (fun h => ?_) (fun h => ?_))
      · refine AW_bipush (v := (-2)) dX11_walk_33 rfl ?_
        exact AW_reti dX11_walk_35 rfl h
      · refine AW_iload_n 2 (n := 2) rfl dX11_walk_22 rfl ?_
        refine AW_if_lt dX11_walk_23 rfl (iteM h (fun h => ?_) (fun h => ?_))
        · refine AW_bipush (v := (-2)) dX11_walk_33 rfl ?_
          exact AW_reti dX11_walk_35 rfl h
        · refine AW_iload_n 2 (n := 2) rfl dX11_walk_26 rfl ?_
          refine AW_ldcw (v := 2000000000) dX11_walk_27 kcX11_294 ?_
          refine AW_icmp_le dX11_walk_30 rfl (iteM h (fun h => ?_) (fun h => ?_))
          · refine AW_aload_n 0 (n := 0) rfl dX11_walk_36 rfl ?_
            refine AW_get dX11_walk_37 flX11_26 (Nat.le_of_ble_eq_true rfl) (okn hρ (Nat.le_of_ble_eq_true rfl)) rfl (v := .ref 21) (fvR (okR hρ 2 rfl)) ?_
            refine AW_callVi (M := mX11_walk) (pc := 40) (As := []) (ρ1 := ρ) (st := []) dX11_walk_40 mdX9_isFull rfl mlX11_280 imX9_isFull seX9_isFull (rcv_of (q := (RX9, TX9, 10)) (Nat.le_of_ble_eq_true rfl) (okn hρ (Nat.le_of_ble_eq_true rfl)) rfl rfl) ⟨rfl, npX9_isFull⟩ (Nat.le_of_ble_eq_true rfl) (Nat.le_refl _) (Nat.le_refl _) rfl (CALLi.mono h (fun v2 S2 _ h => ?_))
            refine AW_if_eq dX11_walk_43 rfl (iteM h (fun h => ?_) (fun h => ?_))
            · refine AW_aload_n 0 (n := 0) rfl dX11_walk_49 rfl ?_
              refine AW_get dX11_walk_50 flX11_26 (Nat.le_of_ble_eq_true rfl) (okn hρ (Nat.le_of_ble_eq_true rfl)) rfl (v := .ref 21) (fvR (okR hρ 2 rfl)) ?_
              refine AW_callVv (M := mX11_walk) (pc := 53) (As := []) (ρ1 := ρ) (st := []) dX11_walk_53 mdX9_remember rfl mlX11_287 imX9_remember seX9_remember (rcv_of (q := (RX9, TX9, 10)) (Nat.le_of_ble_eq_true rfl) (okn hρ (Nat.le_of_ble_eq_true rfl)) rfl rfl) ⟨rfl, npX9_remember⟩ (Nat.le_of_ble_eq_true rfl) (Nat.le_refl _) (Nat.le_refl _) rfl (CALLv.mono h (fun S3 _ h => ?_))
              refine AW_aload_n 0 (n := 0) rfl dX11_walk_56 rfl ?_
              refine AW_get dX11_walk_57 flX11_33 (Nat.le_of_ble_eq_true rfl) (okn hρ (Nat.le_of_ble_eq_true rfl)) rfl (v := .ref 25) (fvR (okR hρ 3 rfl)) ?_
              refine AW_iload_n 2 (n := 2) rfl dX11_walk_60 rfl ?_
              refine AW_callVv (M := mX11_walk) (pc := 61) (As := [.int x2]) (ρ1 := ρ) (st := []) dX11_walk_61 mdX0_start rfl mlX11_295 imX0_start seX0_start (rcv_of (q := (RX0, TX0, 1)) (Nat.le_of_ble_eq_true rfl) (okn hρ (Nat.le_of_ble_eq_true rfl)) rfl rfl) ⟨rfl, npX0_start⟩ (Nat.le_of_ble_eq_true rfl) (Nat.le_refl _) (Nat.le_refl _) rfl (CALLv.mono h (fun S4 _ h => ?_))
              refine AW_iconst (v := 0) dX11_walk_64 rfl ?_
              refine AW_istore_n (n := 3) (i := 3) rfl dX11_walk_65 (Nat.le_of_ble_eq_true rfl) rfl ?_
              refine AW_iconst (v := 0) dX11_walk_66 rfl ?_
              refine AW_istore dX11_walk_67 (Nat.le_of_ble_eq_true rfl) rfl ?_
              exact AW.sub [2, 3, 1, 0] rfl h
            · refine AW_bipush (v := (-5)) dX11_walk_46 rfl ?_
              exact AW_reti dX11_walk_48 rfl h
          · refine AW_bipush (v := (-2)) dX11_walk_33 rfl ?_
            exact AW_reti dX11_walk_35 rfl h
set_option maxRecDepth 20000 in
theorem eX11_undo {g : GX} {Q : Int32 → St → Prop} {d : Nat} {ρ : Rs} {S : St} (hρ : Ok ρ) (h : CALLi g d mX9_isTold [.ref 21] ρ ρ S (fun v1 S1 => if v1 = 0 then Q (-2) S1 else if (S1.1 21 8) = 0 then Q (-5) S1 else CALLv g d mX9_goBackTo [.ref 21, .int ((S1.1 21 8) - 1)] ρ ρ S1 (fun S2 => Q (S2.1 21 8) S2))) : CALLi g (d + 1) mX11_undo [.ref 16] ρ ρ S Q := by
  refine CALL.of mdX11_undo.2.2.2.2 (Nat.le_of_ble_eq_true rfl) (Nat.le_refl _) (Nat.le_refl _) ?_
  show AW g ρ (QI Q) (d + 1) mX11_undo 0 [(0, .ref 16)] [] ρ S
  refine AW_aload_n 0 (n := 0) rfl dX11_undo_0 rfl ?_
  refine AW_get dX11_undo_1 flX11_26 (Nat.le_of_ble_eq_true rfl) (okn hρ (Nat.le_of_ble_eq_true rfl)) rfl (v := .ref 21) (fvR (okR hρ 2 rfl)) ?_
  refine AW_callVi (M := mX11_undo) (pc := 4) (As := []) (ρ1 := ρ) (st := []) dX11_undo_4 mdX9_isTold rfl mlX11_89 imX9_isTold seX9_isTold (rcv_of (q := (RX9, TX9, 10)) (Nat.le_of_ble_eq_true rfl) (okn hρ (Nat.le_of_ble_eq_true rfl)) rfl rfl) ⟨rfl, npX9_isTold⟩ (Nat.le_of_ble_eq_true rfl) (Nat.le_refl _) (Nat.le_refl _) rfl (CALLi.mono h (fun v1 S1 _ h => ?_))
  refine AW_if_ne dX11_undo_7 rfl (iteM h (fun h => ?_) (fun h => ?_))
  · refine AW_bipush (v := (-2)) dX11_undo_10 rfl ?_
    exact AW_reti dX11_undo_12 rfl h
  · refine AW_aload_n 0 (n := 0) rfl dX11_undo_13 rfl ?_
    refine AW_get dX11_undo_14 flX11_26 (Nat.le_of_ble_eq_true rfl) (okn hρ (Nat.le_of_ble_eq_true rfl)) rfl (v := .ref 21) (fvR (okR hρ 2 rfl)) ?_
    refine AW_get dX11_undo_17 flX11_128 (Nat.le_of_ble_eq_true rfl) (okn hρ (Nat.le_of_ble_eq_true rfl)) rfl (v := .int (S1.1 21 8)) (fun _ => rfl) ?_
    refine AW_if_ne dX11_undo_20 rfl (iteM h (fun h => ?_) (fun h => ?_))
    · refine AW_bipush (v := (-5)) dX11_undo_23 rfl ?_
      exact AW_reti dX11_undo_25 rfl h
    · refine AW_aload_n 0 (n := 0) rfl dX11_undo_26 rfl ?_
      refine AW_get dX11_undo_27 flX11_26 (Nat.le_of_ble_eq_true rfl) (okn hρ (Nat.le_of_ble_eq_true rfl)) rfl (v := .ref 21) (fvR (okR hρ 2 rfl)) ?_
      refine AW_aload_n 0 (n := 0) rfl dX11_undo_30 rfl ?_
      refine AW_get dX11_undo_31 flX11_26 (Nat.le_of_ble_eq_true rfl) (okn hρ (Nat.le_of_ble_eq_true rfl)) rfl (v := .ref 21) (fvR (okR hρ 2 rfl)) ?_
      refine AW_get dX11_undo_34 flX11_128 (Nat.le_of_ble_eq_true rfl) (okn hρ (Nat.le_of_ble_eq_true rfl)) rfl (v := .int (S1.1 21 8)) (fun _ => rfl) ?_
      refine AW_iconst (v := 1) dX11_undo_37 rfl ?_
      refine AW_isub dX11_undo_38 ?_
      refine AW_callVv (M := mX11_undo) (pc := 39) (As := [.int ((S1.1 21 8) - 1)]) (ρ1 := ρ) (st := []) dX11_undo_39 mdX9_goBackTo rfl mlX11_302 imX9_goBackTo seX9_goBackTo (rcv_of (q := (RX9, TX9, 10)) (Nat.le_of_ble_eq_true rfl) (okn hρ (Nat.le_of_ble_eq_true rfl)) rfl rfl) ⟨rfl, npX9_goBackTo⟩ (Nat.le_of_ble_eq_true rfl) (Nat.le_refl _) (Nat.le_refl _) rfl (CALLv.mono h (fun S2 _ h => ?_))
      refine AW_aload_n 0 (n := 0) rfl dX11_undo_42 rfl ?_
      refine AW_get dX11_undo_43 flX11_26 (Nat.le_of_ble_eq_true rfl) (okn hρ (Nat.le_of_ble_eq_true rfl)) rfl (v := .ref 21) (fvR (okR hρ 2 rfl)) ?_
      refine AW_get dX11_undo_46 flX11_128 (Nat.le_of_ble_eq_true rfl) (okn hρ (Nat.le_of_ble_eq_true rfl)) rfl (v := .int (S2.1 21 8)) (fun _ => rfl) ?_
      exact AW_reti dX11_undo_49 rfl h
set_option maxRecDepth 20000 in
theorem eX11_anew {g : GX} {Q : Int32 → St → Prop} {d : Nat} {ρ : Rs} {S : St} (hρ : Ok ρ) (h : CALLi g d mX9_isTold [.ref 21] ρ ρ S (fun v1 S1 => if v1 = 0 then Q (-2) S1 else CALLv g d mX9_goBackTo [.ref 21, .int 0] ρ ρ S1 (fun S2 => Q (S1.1 21 8) S2))) : CALLi g (d + 1) mX11_anew [.ref 16] ρ ρ S Q := by
  refine CALL.of mdX11_anew.2.2.2.2 (Nat.le_of_ble_eq_true rfl) (Nat.le_refl _) (Nat.le_refl _) ?_
  show AW g ρ (QI Q) (d + 1) mX11_anew 0 [(0, .ref 16)] [] ρ S
  refine AW_aload_n 0 (n := 0) rfl dX11_anew_0 rfl ?_
  refine AW_get dX11_anew_1 flX11_26 (Nat.le_of_ble_eq_true rfl) (okn hρ (Nat.le_of_ble_eq_true rfl)) rfl (v := .ref 21) (fvR (okR hρ 2 rfl)) ?_
  refine AW_callVi (M := mX11_anew) (pc := 4) (As := []) (ρ1 := ρ) (st := []) dX11_anew_4 mdX9_isTold rfl mlX11_89 imX9_isTold seX9_isTold (rcv_of (q := (RX9, TX9, 10)) (Nat.le_of_ble_eq_true rfl) (okn hρ (Nat.le_of_ble_eq_true rfl)) rfl rfl) ⟨rfl, npX9_isTold⟩ (Nat.le_of_ble_eq_true rfl) (Nat.le_refl _) (Nat.le_refl _) rfl (CALLi.mono h (fun v1 S1 _ h => ?_))
  refine AW_if_ne dX11_anew_7 rfl (iteM h (fun h => ?_) (fun h => ?_))
  · refine AW_bipush (v := (-2)) dX11_anew_10 rfl ?_
    exact AW_reti dX11_anew_12 rfl h
  · refine AW_aload_n 0 (n := 0) rfl dX11_anew_13 rfl ?_
    refine AW_get dX11_anew_14 flX11_26 (Nat.le_of_ble_eq_true rfl) (okn hρ (Nat.le_of_ble_eq_true rfl)) rfl (v := .ref 21) (fvR (okR hρ 2 rfl)) ?_
    refine AW_get dX11_anew_17 flX11_128 (Nat.le_of_ble_eq_true rfl) (okn hρ (Nat.le_of_ble_eq_true rfl)) rfl (v := .int (S1.1 21 8)) (fun _ => rfl) ?_
    refine AW_istore_n (n := 1) (i := 1) rfl dX11_anew_20 (Nat.le_of_ble_eq_true rfl) rfl ?_
    refine AW_aload_n 1 (n := 0) rfl dX11_anew_21 rfl ?_
    refine AW_get dX11_anew_22 flX11_26 (Nat.le_of_ble_eq_true rfl) (okn hρ (Nat.le_of_ble_eq_true rfl)) rfl (v := .ref 21) (fvR (okR hρ 2 rfl)) ?_
    refine AW_iconst (v := 0) dX11_anew_25 rfl ?_
    refine AW_callVv (M := mX11_anew) (pc := 26) (As := [.int 0]) (ρ1 := ρ) (st := []) dX11_anew_26 mdX9_goBackTo rfl mlX11_302 imX9_goBackTo seX9_goBackTo (rcv_of (q := (RX9, TX9, 10)) (Nat.le_of_ble_eq_true rfl) (okn hρ (Nat.le_of_ble_eq_true rfl)) rfl rfl) ⟨rfl, npX9_goBackTo⟩ (Nat.le_of_ble_eq_true rfl) (Nat.le_refl _) (Nat.le_refl _) rfl (CALLv.mono h (fun S2 _ h => ?_))
    refine AW_iload_n 0 (n := 1) rfl dX11_anew_29 rfl ?_
    exact AW_reti dX11_anew_30 rfl h
set_option maxRecDepth 20000 in
theorem eX11_hasStatistic {g : GX} {Q : Int32 → St → Prop} {d : Nat} {ρ : Rs} {S : St} (hρ : Ok ρ) {x1 : Int32} (h : CALLi g d mX9_isTold [.ref 21] ρ ρ S (fun v1 S1 => if v1 = 0 then Q 0 S1 else if x1 < 0 then Q 0 S1 else if (4 : Int32) ≤ x1 then Q 0 S1 else Q 1 S1)) : CALLi g (d + 1) mX11_hasStatistic [.ref 16, .int x1] ρ ρ S Q := by
  refine CALL.of mdX11_hasStatistic.2.2.2.2 (Nat.le_of_ble_eq_true rfl) (Nat.le_refl _) (Nat.le_refl _) ?_
  show AW g ρ (QI Q) (d + 1) mX11_hasStatistic 0 [(0, .ref 16), (1, .int x1)] [] ρ S
  refine AW_aload_n 0 (n := 0) rfl dX11_hasStatistic_0 rfl ?_
  refine AW_get dX11_hasStatistic_1 flX11_26 (Nat.le_of_ble_eq_true rfl) (okn hρ (Nat.le_of_ble_eq_true rfl)) rfl (v := .ref 21) (fvR (okR hρ 2 rfl)) ?_
  refine AW_callVi (M := mX11_hasStatistic) (pc := 4) (As := []) (ρ1 := ρ) (st := []) dX11_hasStatistic_4 mdX9_isTold rfl mlX11_89 imX9_isTold seX9_isTold (rcv_of (q := (RX9, TX9, 10)) (Nat.le_of_ble_eq_true rfl) (okn hρ (Nat.le_of_ble_eq_true rfl)) rfl rfl) ⟨rfl, npX9_isTold⟩ (Nat.le_of_ble_eq_true rfl) (Nat.le_refl _) (Nat.le_refl _) rfl (CALLi.mono h (fun v1 S1 _ h => ?_))
  refine AW_if_eq dX11_hasStatistic_7 rfl (iteM h (fun h => ?_) (fun h => ?_))
  · refine AW_iconst (v := 0) dX11_hasStatistic_23 rfl ?_
    exact AW_retz dX11_hasStatistic_24 rfl Bz0 h
  · refine AW_iload_n 1 (n := 1) rfl dX11_hasStatistic_10 rfl ?_
    refine AW_if_lt dX11_hasStatistic_11 rfl (iteM h (fun h => ?_) (fun h => ?_))
    · refine AW_iconst (v := 0) dX11_hasStatistic_23 rfl ?_
      exact AW_retz dX11_hasStatistic_24 rfl Bz0 h
    · refine AW_iload_n 1 (n := 1) rfl dX11_hasStatistic_14 rfl ?_
      refine AW_iconst (v := 4) dX11_hasStatistic_15 rfl ?_
      refine AW_icmp_ge dX11_hasStatistic_16 rfl (iteM h (fun h => ?_) (fun h => ?_))
      · refine AW_iconst (v := 0) dX11_hasStatistic_23 rfl ?_
        exact AW_retz dX11_hasStatistic_24 rfl Bz0 h
      · refine AW_iconst (v := 1) dX11_hasStatistic_19 rfl ?_
        refine AW_goto (tgt := 24) dX11_hasStatistic_20 rfl ?_
        exact AW_retz dX11_hasStatistic_24 rfl Bz1 h
set_option maxRecDepth 20000 in
theorem eX11_evenWords {g : GX} {Q : Int64 → St → Prop} {d : Nat} {ρ : Rs} {S : St} (hρ : Ok ρ) (h : CALLl g d mX1_size [.ref 31] ρ ρ S (fun v1 S1 => CALLl g d mX7_quotient [.long 1073741824, .long v1] ρ ρ S1 (fun v2 S2 => Q v2 S2))) : CALLl g (d + 1) mX11_evenWords [.ref 16] ρ ρ S Q := by
  refine CALL.of mdX11_evenWords.2.2.2.2 (Nat.le_of_ble_eq_true rfl) (Nat.le_refl _) (Nat.le_refl _) ?_
  show AW g ρ (QJ Q) (d + 1) mX11_evenWords 0 [(0, .ref 16)] [] ρ S
  refine AW_ldc2 (v := 1073741824) dX11_evenWords_0 kcX11_305 ?_
  refine AW_aload_n 0 (n := 0) rfl dX11_evenWords_3 rfl ?_
  refine AW_get dX11_evenWords_4 flX11_47 (Nat.le_of_ble_eq_true rfl) (okn hρ (Nat.le_of_ble_eq_true rfl)) rfl (v := .ref 31) (fvR (okR hρ 5 rfl)) ?_
  refine AW_callVl (M := mX11_evenWords) (pc := 7) (As := []) (ρ1 := ρ) (st := [.long 1073741824]) dX11_evenWords_7 mdX1_size rfl mlX11_148 imX1_size seX1_size (rcv_of (q := (RX1, TX1, 15)) (Nat.le_of_ble_eq_true rfl) (okn hρ (Nat.le_of_ble_eq_true rfl)) rfl rfl) ⟨rfl, npX1_size⟩ (Nat.le_of_ble_eq_true rfl) (Nat.le_refl _) (Nat.le_refl _) rfl (CALLl.mono h (fun v1 S1 _ h => ?_))
  refine AW_callSl (M := mX11_evenWords) (pc := 10) (As := [.long 1073741824, .long v1]) (ρ1 := ρ) (st := []) dX11_evenWords_10 mdX7_quotient mlX11_307 smX7_quotient ⟨rfl, npX7_quotient⟩ (Nat.le_of_ble_eq_true rfl) (Nat.le_refl _) (Nat.le_refl _) rfl (CALLl.mono h (fun v2 S2 _ h => ?_))
  exact AW_retl dX11_evenWords_13 rfl h
set_option maxRecDepth 20000 in
theorem eX11_rankNow {g : GX} {Q : Int32 → St → Prop} {d : Nat} {ρ : Rs} {S : St} (hρ : Ok ρ) (h : CALLl g d mX1_rankOf [.ref 31, .long (S.2 21 7)] ρ ρ S (fun v1 S1 => Q v1.toInt32 S1)) : CALLi g (d + 1) mX11_rankNow [.ref 16] ρ ρ S Q := by
  refine CALL.of mdX11_rankNow.2.2.2.2 (Nat.le_of_ble_eq_true rfl) (Nat.le_refl _) (Nat.le_refl _) ?_
  show AW g ρ (QI Q) (d + 1) mX11_rankNow 0 [(0, .ref 16)] [] ρ S
  refine AW_aload_n 0 (n := 0) rfl dX11_rankNow_0 rfl ?_
  refine AW_get dX11_rankNow_1 flX11_47 (Nat.le_of_ble_eq_true rfl) (okn hρ (Nat.le_of_ble_eq_true rfl)) rfl (v := .ref 31) (fvR (okR hρ 5 rfl)) ?_
  refine AW_aload_n 0 (n := 0) rfl dX11_rankNow_4 rfl ?_
  refine AW_get dX11_rankNow_5 flX11_26 (Nat.le_of_ble_eq_true rfl) (okn hρ (Nat.le_of_ble_eq_true rfl)) rfl (v := .ref 21) (fvR (okR hρ 2 rfl)) ?_
  refine AW_get dX11_rankNow_8 flX11_154 (Nat.le_of_ble_eq_true rfl) (okn hρ (Nat.le_of_ble_eq_true rfl)) rfl (v := .long (S.2 21 7)) (fun _ => rfl) ?_
  refine AW_callVl (M := mX11_rankNow) (pc := 11) (As := [.long (S.2 21 7)]) (ρ1 := ρ) (st := []) dX11_rankNow_11 mdX1_rankOf rfl mlX11_158 imX1_rankOf seX1_rankOf (rcv_of (q := (RX1, TX1, 15)) (Nat.le_of_ble_eq_true rfl) (okn hρ (Nat.le_of_ble_eq_true rfl)) rfl rfl) ⟨rfl, npX1_rankOf⟩ (Nat.le_of_ble_eq_true rfl) (Nat.le_refl _) (Nat.le_refl _) rfl (CALLl.mono h (fun v1 S1 _ h => ?_))
  refine AW_l2i dX11_rankNow_14 ?_
  exact AW_reti dX11_rankNow_15 rfl h
set_option maxRecDepth 20000 in
theorem eX11_refusalOfList {g : GX} {Q : Int32 → St → Prop} {d : Nat} {ρ ρ' : Rs} {S : St} (hρ : Ok ρ) {ρ3 : Rs} (hρ3 : Ok ρ3) (hcl3 : rc ρ3 ≤ rc ρ') (hul3 : ru ρ3 ≤ ru ρ') (hcle : rc ρ ≤ rc ρ') (hule : ru ρ ≤ ru ρ') (h : CALLi g d mX9_isTold [.ref 21] ρ ρ S (fun v1 S1 => if v1 = 0 then ρ = ρ' ∧ (Q (-2) S1) else CALLl g d mX1_size [.ref 31] ρ ρ S1 (fun v2 S2 => if v2 ≤ 1000 then CALLv g d mX6_prepare [.ref 70] ρ ρ3 S2 (fun S3 => ρ3 = ρ' ∧ (Q 0 S3)) else ρ = ρ' ∧ (Q (-3) S2)))) : CALLi g (d + 1) mX11_refusalOfList [.ref 16] ρ ρ' S Q := by
  refine CALL.of mdX11_refusalOfList.2.2.2.2 (Nat.le_of_ble_eq_true rfl) hcle hule ?_
  show AW g ρ' (QI Q) (d + 1) mX11_refusalOfList 0 [(0, .ref 16)] [] ρ S
  refine AW_aload_n 0 (n := 0) rfl dX11_refusalOfList_0 rfl ?_
  refine AW_get dX11_refusalOfList_1 flX11_26 (Nat.le_of_ble_eq_true rfl) (okn hρ (Nat.le_of_ble_eq_true rfl)) rfl (v := .ref 21) (fvR (okR hρ 2 rfl)) ?_
  refine AW_callVi (M := mX11_refusalOfList) (pc := 4) (As := []) (ρ1 := ρ) (st := []) dX11_refusalOfList_4 mdX9_isTold rfl mlX11_89 imX9_isTold seX9_isTold (rcv_of (q := (RX9, TX9, 10)) (Nat.le_of_ble_eq_true rfl) (okn hρ (Nat.le_of_ble_eq_true rfl)) rfl rfl) ⟨rfl, npX9_isTold⟩ (Nat.le_of_ble_eq_true rfl) hcle hule rfl (CALLi.mono h (fun v1 S1 _ h => ?_))
  refine AW_if_ne dX11_refusalOfList_7 rfl (iteM h (fun h => ?_) (fun h => ?_))
  · refine AW_bipush (v := (-2)) dX11_refusalOfList_10 rfl ?_
    refine AW.rhoE h.1 ?_
    replace h := h.2
    exact AW_reti dX11_refusalOfList_12 rfl h
  · refine AW_aload_n 0 (n := 0) rfl dX11_refusalOfList_13 rfl ?_
    refine AW_get dX11_refusalOfList_14 flX11_47 (Nat.le_of_ble_eq_true rfl) (okn hρ (Nat.le_of_ble_eq_true rfl)) rfl (v := .ref 31) (fvR (okR hρ 5 rfl)) ?_
    refine AW_callVl (M := mX11_refusalOfList) (pc := 17) (As := []) (ρ1 := ρ) (st := []) dX11_refusalOfList_17 mdX1_size rfl mlX11_148 imX1_size seX1_size (rcv_of (q := (RX1, TX1, 15)) (Nat.le_of_ble_eq_true rfl) (okn hρ (Nat.le_of_ble_eq_true rfl)) rfl rfl) ⟨rfl, npX1_size⟩ (Nat.le_of_ble_eq_true rfl) hcle hule rfl (CALLl.mono h (fun v2 S2 _ h => ?_))
    refine AW_ldc2 (v := 1000) dX11_refusalOfList_20 kcX11_311 ?_
    refine AW_lc_le dX11_refusalOfList_23 dX11_refusalOfList_24 rfl (iteM h (fun h => ?_) (fun h => ?_))
    · refine AW_aload_n 0 (n := 0) rfl dX11_refusalOfList_30 rfl ?_
      refine AW_get dX11_refusalOfList_31 flX11_65 (Nat.le_of_ble_eq_true rfl) (okn hρ (Nat.le_of_ble_eq_true rfl)) rfl (v := .ref 70) (fvR (okR hρ 7 rfl)) ?_
      refine AW_callVv (M := mX11_refusalOfList) (pc := 34) (As := []) (ρ1 := ρ3) (st := []) dX11_refusalOfList_34 mdX6_prepare rfl mlX11_313 imX6_prepare seX6_prepare (rcv_of (q := (RX6, TX6, 18)) (Nat.le_of_ble_eq_true rfl) (okn hρ (Nat.le_of_ble_eq_true rfl)) rfl rfl) ⟨rfl, npX6_prepare⟩ (Nat.le_of_ble_eq_true rfl) hcl3 hul3 rfl (CALLv.mono h (fun S3 _ h => ?_))
      refine AW_iconst (v := 0) dX11_refusalOfList_37 rfl ?_
      refine AW.rhoE h.1 ?_
      replace h := h.2
      exact AW_reti dX11_refusalOfList_38 rfl h
    · refine AW_bipush (v := (-3)) dX11_refusalOfList_27 rfl ?_
      refine AW.rhoE h.1 ?_
      replace h := h.2
      exact AW_reti dX11_refusalOfList_29 rfl h
set_option maxRecDepth 20000 in
theorem eX11_refusalOfRank {g : GX} {Q : Int32 → St → Prop} {d : Nat} {ρ ρ' : Rs} {S : St} (hρ : Ok ρ) {x1 : Int32} {ρ1 : Rs} (hρ1 : Ok ρ1) (hcl1 : rc ρ1 ≤ rc ρ') (hul1 : ru ρ1 ≤ ru ρ') (hcle : rc ρ ≤ rc ρ') (hule : ru ρ ≤ ru ρ') (h : CALLi g d mX11_refusalOfList [.ref 16] ρ ρ1 S (fun v1 S1 => if v1 = 0 then if x1 < 0 then ρ1 = ρ' ∧ (Q (-2) S1) else CALLl g d mX1_size [.ref 31] ρ1 ρ1 S1 (fun v2 S2 => if x1.toInt64 < v2 then ρ1 = ρ' ∧ (Q 0 S2) else ρ1 = ρ' ∧ (Q (-2) S2)) else ρ1 = ρ' ∧ (Q v1 S1))) : CALLi g (d + 1) mX11_refusalOfRank [.ref 16, .int x1] ρ ρ' S Q := by
  refine CALL.of mdX11_refusalOfRank.2.2.2.2 (Nat.le_of_ble_eq_true rfl) hcle hule ?_
  show AW g ρ' (QI Q) (d + 1) mX11_refusalOfRank 0 [(0, .ref 16), (1, .int x1)] [] ρ S
  refine AW_aload_n 0 (n := 0) rfl dX11_refusalOfRank_0 rfl ?_
  refine AW_callVi (M := mX11_refusalOfRank) (pc := 1) (As := []) (ρ1 := ρ1) (st := []) dX11_refusalOfRank_1 mdX11_refusalOfList rfl mlX11_237 imX11_refusalOfList seX11_refusalOfList (rcv_of (q := (RX11, TX11, 8)) (Nat.le_of_ble_eq_true rfl) (okn hρ (Nat.le_of_ble_eq_true rfl)) rfl rfl) ⟨rfl, npX11_refusalOfList⟩ (Nat.le_of_ble_eq_true rfl) hcl1 hul1 rfl (CALLi.mono h (fun v1 S1 _ h => ?_))
  refine AW_istore_n (n := 2) (i := 2) rfl dX11_refusalOfRank_4 (Nat.le_of_ble_eq_true rfl) rfl ?_
  refine AW_iload_n 0 (n := 2) rfl dX11_refusalOfRank_5 rfl ?_
  refine AW_if_eq dX11_refusalOfRank_6 rfl (iteM h (fun h => ?_) (fun h => ?_))
  · refine AW_iload_n 2 (n := 1) rfl dX11_refusalOfRank_11 rfl ?_
    refine AW_if_lt dX11_refusalOfRank_12 rfl (iteM h (fun h => ?_) (fun h => ?_))
    · refine AW_bipush (v := (-2)) dX11_refusalOfRank_28 rfl ?_
      refine AW_goto (tgt := 34) dX11_refusalOfRank_30 rfl ?_
      refine AW.rhoE h.1 ?_
      replace h := h.2
      exact AW_reti dX11_refusalOfRank_34 rfl h
    · refine AW_iload_n 2 (n := 1) rfl dX11_refusalOfRank_15 rfl ?_
      refine AW_i2l dX11_refusalOfRank_16 ?_
      refine AW_aload_n 1 (n := 0) rfl dX11_refusalOfRank_17 rfl ?_
      refine AW_get dX11_refusalOfRank_18 flX11_47 (Nat.le_of_ble_eq_true rfl) (okn hρ1 (Nat.le_of_ble_eq_true rfl)) rfl (v := .ref 31) (fvR (okR hρ1 5 rfl)) ?_
      refine AW_callVl (M := mX11_refusalOfRank) (pc := 21) (As := []) (ρ1 := ρ1) (st := [.long x1.toInt64]) dX11_refusalOfRank_21 mdX1_size rfl mlX11_148 imX1_size seX1_size (rcv_of (q := (RX1, TX1, 15)) (Nat.le_of_ble_eq_true rfl) (okn hρ1 (Nat.le_of_ble_eq_true rfl)) rfl rfl) ⟨rfl, npX1_size⟩ (Nat.le_of_ble_eq_true rfl) hcl1 hul1 rfl (CALLl.mono h (fun v2 S2 _ h => ?_))
      refine AW_lc_lt dX11_refusalOfRank_24 dX11_refusalOfRank_25 rfl (iteM h (fun h => ?_) (fun h => ?_))
      · refine AW_iconst (v := 0) dX11_refusalOfRank_33 rfl ?_
        refine AW.rhoE h.1 ?_
        replace h := h.2
        exact AW_reti dX11_refusalOfRank_34 rfl h
      · refine AW_bipush (v := (-2)) dX11_refusalOfRank_28 rfl ?_
        refine AW_goto (tgt := 34) dX11_refusalOfRank_30 rfl ?_
        refine AW.rhoE h.1 ?_
        replace h := h.2
        exact AW_reti dX11_refusalOfRank_34 rfl h
  · refine AW_iload_n 0 (n := 2) rfl dX11_refusalOfRank_9 rfl ?_
    refine AW.rhoE h.1 ?_
    replace h := h.2
    exact AW_reti dX11_refusalOfRank_10 rfl h
