set_option maxRecDepth 20000 in
theorem eX7_get {g : GX} {Q : Int32 → St → Prop} {d : Nat} {ρ : Rs} {S : St} (hρ : Ok ρ) {k0 n0 : Nat} (h16_0 : 16 ≤ k0) (hn_0 : k0 < rn ρ) (hs_0 : shp ρ k0 = .inr (0, n0)) {x1 : Int32} (h : if x1 < 0 then Q 0 S else if (Int32.ofNat n0) ≤ x1 then Q 0 S else vp_in x1 n0 ∧ (Q (S.1 k0 x1.toNatClampNeg) S)) : CALLi g d mX7_get [.ref k0, .int x1] ρ ρ S Q := by
  refine CALL.of mdX7_get.2.2.2.2 (Nat.le_of_ble_eq_true rfl) (Nat.le_refl _) (Nat.le_refl _) ?_
  show AW g ρ (QI Q) d mX7_get 0 [(0, .ref k0), (1, .int x1)] [] ρ S
  refine AW_iload_n 1 (n := 1) rfl dX7_get_0 rfl ?_
  refine AW_if_lt dX7_get_1 rfl (iteM h (fun h => ?_) (fun h => ?_))
  · refine AW_iconst (v := 0) dX7_get_16 rfl ?_
    exact AW_reti dX7_get_17 rfl h
  · refine AW_iload_n 1 (n := 1) rfl dX7_get_4 rfl ?_
    refine AW_aload_n 0 (n := 0) rfl dX7_get_5 rfl ?_
    refine AW_alen (v := Int32.ofNat n0) dX7_get_6 h16_0 hn_0 (by decide) hs_0 rfl ?_
    refine AW_icmp_ge dX7_get_7 rfl (iteM h (fun h => ?_) (fun h => ?_))
    · refine AW_iconst (v := 0) dX7_get_16 rfl ?_
      exact AW_reti dX7_get_17 rfl h
    · refine AW_aload_n 0 (n := 0) rfl dX7_get_10 rfl ?_
      refine AW_iload_n 1 (n := 1) rfl dX7_get_11 rfl ?_
      refine AW_iaload dX7_get_12 h16_0 hn_0 hs_0 h.1 (v := S.1 k0 x1.toNatClampNeg) rfl ?_
      replace h := h.2
      refine AW_goto (tgt := 17) dX7_get_13 rfl ?_
      exact AW_reti dX7_get_17 rfl h
set_option maxRecDepth 20000 in
theorem eX7_get_ {g : GX} {Q : Int64 → St → Prop} {d : Nat} {ρ : Rs} {S : St} (hρ : Ok ρ) {k0 n0 : Nat} (h16_0 : 16 ≤ k0) (hn_0 : k0 < rn ρ) (hs_0 : shp ρ k0 = .inr (1, n0)) {x1 : Int32} (h : if x1 < 0 then Q 0 S else if (Int32.ofNat n0) ≤ x1 then Q 0 S else vp_in x1 n0 ∧ (Q (S.2 k0 x1.toNatClampNeg) S)) : CALLl g d mX7_get_ [.ref k0, .int x1] ρ ρ S Q := by
  refine CALL.of mdX7_get_.2.2.2.2 (Nat.le_of_ble_eq_true rfl) (Nat.le_refl _) (Nat.le_refl _) ?_
  show AW g ρ (QJ Q) d mX7_get_ 0 [(0, .ref k0), (1, .int x1)] [] ρ S
  refine AW_iload_n 1 (n := 1) rfl dX7_get__0 rfl ?_
  refine AW_if_lt dX7_get__1 rfl (iteM h (fun h => ?_) (fun h => ?_))
  · refine AW_lconst (v := 0) dX7_get__16 rfl ?_
    exact AW_retl dX7_get__17 rfl h
  · refine AW_iload_n 1 (n := 1) rfl dX7_get__4 rfl ?_
    refine AW_aload_n 0 (n := 0) rfl dX7_get__5 rfl ?_
    refine AW_alen (v := Int32.ofNat n0) dX7_get__6 h16_0 hn_0 (by decide) hs_0 rfl ?_
    refine AW_icmp_ge dX7_get__7 rfl (iteM h (fun h => ?_) (fun h => ?_))
    · refine AW_lconst (v := 0) dX7_get__16 rfl ?_
      exact AW_retl dX7_get__17 rfl h
    · refine AW_aload_n 0 (n := 0) rfl dX7_get__10 rfl ?_
      refine AW_iload_n 1 (n := 1) rfl dX7_get__11 rfl ?_
      refine AW_laload dX7_get__12 h16_0 hn_0 hs_0 h.1 (v := S.2 k0 x1.toNatClampNeg) rfl ?_
      replace h := h.2
      refine AW_goto (tgt := 17) dX7_get__13 rfl ?_
      exact AW_retl dX7_get__17 rfl h
set_option maxRecDepth 20000 in
theorem eX7_get__ {g : GX} {Q : Int32 → St → Prop} {d : Nat} {ρ : Rs} {S : St} (hρ : Ok ρ) {k0 n0 : Nat} (h16_0 : 16 ≤ k0) (hn_0 : k0 < rn ρ) (hs_0 : shp ρ k0 = .inr (2, n0)) {x1 : Int32} (h : if x1 < 0 then Q 0 S else if (Int32.ofNat n0) ≤ x1 then Q 0 S else vp_in x1 n0 ∧ (if (S.1 k0 x1.toNatClampNeg) = 0 then Q 0 S else Q 1 S)) : CALLi g d mX7_get__ [.ref k0, .int x1] ρ ρ S Q := by
  refine CALL.of mdX7_get__.2.2.2.2 (Nat.le_of_ble_eq_true rfl) (Nat.le_refl _) (Nat.le_refl _) ?_
  show AW g ρ (QI Q) d mX7_get__ 0 [(0, .ref k0), (1, .int x1)] [] ρ S
  refine AW_iload_n 1 (n := 1) rfl dX7_get___0 rfl ?_
  refine AW_if_lt dX7_get___1 rfl (iteM h (fun h => ?_) (fun h => ?_))
  · refine AW_iconst (v := 0) dX7_get___20 rfl ?_
    exact AW_retz dX7_get___21 rfl Bz0 h
  · refine AW_iload_n 1 (n := 1) rfl dX7_get___4 rfl ?_
    refine AW_aload_n 0 (n := 0) rfl dX7_get___5 rfl ?_
    refine AW_alen (v := Int32.ofNat n0) dX7_get___6 h16_0 hn_0 (by decide) hs_0 rfl ?_
    refine AW_icmp_ge dX7_get___7 rfl (iteM h (fun h => ?_) (fun h => ?_))
    · refine AW_iconst (v := 0) dX7_get___20 rfl ?_
      exact AW_retz dX7_get___21 rfl Bz0 h
    · refine AW_aload_n 0 (n := 0) rfl dX7_get___10 rfl ?_
      refine AW_iload_n 1 (n := 1) rfl dX7_get___11 rfl ?_
      refine AW_zaload dX7_get___12 h16_0 hn_0 hs_0 h.1 (v := S.1 k0 x1.toNatClampNeg) rfl ?_
      replace h := h.2
      refine AW_if_eq dX7_get___13 rfl (iteM h (fun h => ?_) (fun h => ?_))
      · refine AW_iconst (v := 0) dX7_get___20 rfl ?_
        exact AW_retz dX7_get___21 rfl Bz0 h
      · refine AW_iconst (v := 1) dX7_get___16 rfl ?_
        refine AW_goto (tgt := 21) dX7_get___17 rfl ?_
        exact AW_retz dX7_get___21 rfl Bz1 h
set_option maxRecDepth 20000 in
theorem eX7_put {g : GX} {Q : St → Prop} {d : Nat} {ρ : Rs} {S : St} (hρ : Ok ρ) {k0 n0 : Nat} (h16_0 : 16 ≤ k0) (hn_0 : k0 < rn ρ) (hs_0 : shp ρ k0 = .inr (0, n0)) {x1 : Int32} {x2 : Int32} (hF_0 : gF g k0) (h : if x1 < 0 then Q S else if (Int32.ofNat n0) ≤ x1 then Q S else vp_in x1 n0 ∧ (Q (setI S k0 x1.toNatClampNeg x2))) : CALLv g d mX7_put [.ref k0, .int x1, .int x2] ρ ρ S Q := by
  refine CALL.of mdX7_put.2.2.2.2 (Nat.le_of_ble_eq_true rfl) (Nat.le_refl _) (Nat.le_refl _) ?_
  show AW g ρ (QV Q) d mX7_put 0 [(0, .ref k0), (1, .int x1), (2, .int x2)] [] ρ S
  refine AW_iload_n 1 (n := 1) rfl dX7_put_0 rfl ?_
  refine AW_if_lt dX7_put_1 rfl (iteM h (fun h => ?_) (fun h => ?_))
  · exact AW_retv dX7_put_14 rfl h
  · refine AW_iload_n 1 (n := 1) rfl dX7_put_4 rfl ?_
    refine AW_aload_n 0 (n := 0) rfl dX7_put_5 rfl ?_
    refine AW_alen (v := Int32.ofNat n0) dX7_put_6 h16_0 hn_0 (by decide) hs_0 rfl ?_
    refine AW_icmp_ge dX7_put_7 rfl (iteM h (fun h => ?_) (fun h => ?_))
    · exact AW_retv dX7_put_14 rfl h
    · refine AW_aload_n 0 (n := 0) rfl dX7_put_10 rfl ?_
      refine AW_iload_n 1 (n := 1) rfl dX7_put_11 rfl ?_
      refine AW_iload_n 2 (n := 2) rfl dX7_put_12 rfl ?_
      refine AW_iastore dX7_put_13 h16_0 hn_0 hs_0 h.1 hF_0 (jx := x1.toNatClampNeg) rfl ?_
      replace h := h.2
      exact AW_retv dX7_put_14 rfl h
set_option maxRecDepth 20000 in
theorem eX7_put_ {g : GX} {Q : St → Prop} {d : Nat} {ρ : Rs} {S : St} (hρ : Ok ρ) {k0 n0 : Nat} (h16_0 : 16 ≤ k0) (hn_0 : k0 < rn ρ) (hs_0 : shp ρ k0 = .inr (1, n0)) {x1 : Int32} {x2 : Int64} (hF_0 : gF g k0) (h : if x1 < 0 then Q S else if (Int32.ofNat n0) ≤ x1 then Q S else vp_in x1 n0 ∧ (Q (setL S k0 x1.toNatClampNeg x2))) : CALLv g d mX7_put_ [.ref k0, .int x1, .long x2] ρ ρ S Q := by
  refine CALL.of mdX7_put_.2.2.2.2 (Nat.le_of_ble_eq_true rfl) (Nat.le_refl _) (Nat.le_refl _) ?_
  show AW g ρ (QV Q) d mX7_put_ 0 [(0, .ref k0), (1, .int x1), (2, .long x2)] [] ρ S
  refine AW_iload_n 1 (n := 1) rfl dX7_put__0 rfl ?_
  refine AW_if_lt dX7_put__1 rfl (iteM h (fun h => ?_) (fun h => ?_))
  · exact AW_retv dX7_put__14 rfl h
  · refine AW_iload_n 1 (n := 1) rfl dX7_put__4 rfl ?_
    refine AW_aload_n 0 (n := 0) rfl dX7_put__5 rfl ?_
    refine AW_alen (v := Int32.ofNat n0) dX7_put__6 h16_0 hn_0 (by decide) hs_0 rfl ?_
    refine AW_icmp_ge dX7_put__7 rfl (iteM h (fun h => ?_) (fun h => ?_))
    · exact AW_retv dX7_put__14 rfl h
    · refine AW_aload_n 0 (n := 0) rfl dX7_put__10 rfl ?_
      refine AW_iload_n 1 (n := 1) rfl dX7_put__11 rfl ?_
      refine AW_lload_n 2 (n := 2) rfl dX7_put__12 rfl ?_
      refine AW_lastore dX7_put__13 h16_0 hn_0 hs_0 h.1 hF_0 (jx := x1.toNatClampNeg) rfl ?_
      replace h := h.2
      exact AW_retv dX7_put__14 rfl h
set_option maxRecDepth 20000 in
theorem eX7_put__ {g : GX} {Q : St → Prop} {d : Nat} {ρ : Rs} {S : St} (hρ : Ok ρ) {k0 n0 : Nat} (h16_0 : 16 ≤ k0) (hn_0 : k0 < rn ρ) (hs_0 : shp ρ k0 = .inr (2, n0)) {x1 : Int32} {x2 : Int32} (hF_0 : gF g k0) (h : if x1 < 0 then Q S else if (Int32.ofNat n0) ≤ x1 then Q S else vp_in x1 n0 ∧ (Bz x2 ∧ (Q (setI S k0 x1.toNatClampNeg x2)))) : CALLv g d mX7_put__ [.ref k0, .int x1, .int x2] ρ ρ S Q := by
  refine CALL.of mdX7_put__.2.2.2.2 (Nat.le_of_ble_eq_true rfl) (Nat.le_refl _) (Nat.le_refl _) ?_
  show AW g ρ (QV Q) d mX7_put__ 0 [(0, .ref k0), (1, .int x1), (2, .int x2)] [] ρ S
  refine AW_iload_n 1 (n := 1) rfl dX7_put___0 rfl ?_
  refine AW_if_lt dX7_put___1 rfl (iteM h (fun h => ?_) (fun h => ?_))
  · exact AW_retv dX7_put___14 rfl h
  · refine AW_iload_n 1 (n := 1) rfl dX7_put___4 rfl ?_
    refine AW_aload_n 0 (n := 0) rfl dX7_put___5 rfl ?_
    refine AW_alen (v := Int32.ofNat n0) dX7_put___6 h16_0 hn_0 (by decide) hs_0 rfl ?_
    refine AW_icmp_ge dX7_put___7 rfl (iteM h (fun h => ?_) (fun h => ?_))
    · exact AW_retv dX7_put___14 rfl h
    · refine AW_aload_n 0 (n := 0) rfl dX7_put___10 rfl ?_
      refine AW_iload_n 1 (n := 1) rfl dX7_put___11 rfl ?_
      refine AW_iload_n 2 (n := 2) rfl dX7_put___12 rfl ?_
      refine AW_zastore dX7_put___13 h16_0 hn_0 hs_0 h.1 (Bz.nar h.2.1) hF_0 (jx := x1.toNatClampNeg) rfl ?_
      replace h := h.2.2
      exact AW_retv dX7_put___14 rfl h
set_option maxRecDepth 20000 in
theorem eX7_cut {g : GX} {Q : Int32 → St → Prop} {d : Nat} {ρ : Rs} {S : St} (hρ : Ok ρ) {x0 : Int32} {x1 : Int32} (h : if 0 ≤ x0 then if x0 ≤ x1 then Q x0 S else Q x1 S else Q 0 S) : CALLi g d mX7_cut [.int x0, .int x1] ρ ρ S Q := by
  refine CALL.of mdX7_cut.2.2.2.2 (Nat.le_of_ble_eq_true rfl) (Nat.le_refl _) (Nat.le_refl _) ?_
  show AW g ρ (QI Q) d mX7_cut 0 [(0, .int x0), (1, .int x1)] [] ρ S
  refine AW_iload_n 0 (n := 0) rfl dX7_cut_0 rfl ?_
  refine AW_if_ge dX7_cut_1 rfl (iteM h (fun h => ?_) (fun h => ?_))
  · refine AW_iload_n 0 (n := 0) rfl dX7_cut_8 rfl ?_
    refine AW_iload_n 1 (n := 1) rfl dX7_cut_9 rfl ?_
    refine AW_icmp_le dX7_cut_10 rfl (iteM h (fun h => ?_) (fun h => ?_))
    · refine AW_iload_n 0 (n := 0) rfl dX7_cut_17 rfl ?_
      exact AW_reti dX7_cut_18 rfl h
    · refine AW_iload_n 1 (n := 1) rfl dX7_cut_13 rfl ?_
      refine AW_goto (tgt := 18) dX7_cut_14 rfl ?_
      exact AW_reti dX7_cut_18 rfl h
  · refine AW_iconst (v := 0) dX7_cut_4 rfl ?_
    refine AW_goto (tgt := 18) dX7_cut_5 rfl ?_
    exact AW_reti dX7_cut_18 rfl h
set_option maxRecDepth 20000 in
theorem eX4_slot {g : GX} {Q : Int32 → St → Prop} {d : Nat} {ρ : Rs} {S : St} (hρ : Ok ρ) {x0 : Int32} {x1 : Int32} (h : Q ((x0 * 480) + x1) S) : CALLi g d mX4_slot [.int x0, .int x1] ρ ρ S Q := by
  refine CALL.of mdX4_slot.2.2.2.2 (Nat.le_of_ble_eq_true rfl) (Nat.le_refl _) (Nat.le_refl _) ?_
  show AW g ρ (QI Q) d mX4_slot 0 [(0, .int x0), (1, .int x1)] [] ρ S
  refine AW_iload_n 0 (n := 0) rfl dX4_slot_0 rfl ?_
  refine AW_sipush (v := 480) dX4_slot_1 rfl ?_
  refine AW_imul dX4_slot_4 ?_
  refine AW_iload_n 1 (n := 1) rfl dX4_slot_5 rfl ?_
  refine AW_iadd dX4_slot_6 ?_
  exact AW_reti dX4_slot_7 rfl h
set_option maxRecDepth 20000 in
theorem eX2_partOf {g : GX} {Q : Int64 → St → Prop} {d : Nat} {ρ : Rs} {S : St} (hρ : Ok ρ) {x1 : Int32} {x2 : Int32} (h : if ((x1 * 320) + x2) < 0 then Q 0 S else if (1280 : Int32) ≤ ((x1 * 320) + x2) then Q 0 S else vp_in ((x1 * 320) + x2) (4 * 320) ∧ (Q (S.2 (37 + 1 + ((x1 * 320) + x2).toNatClampNeg / 320) (((x1 * 320) + x2).toNatClampNeg % 320)) S)) : CALLl g d mX2_partOf [.ref 32, .int x1, .int x2] ρ ρ S Q := by
  refine CALL.of mdX2_partOf.2.2.2.2 (Nat.le_of_ble_eq_true rfl) (Nat.le_refl _) (Nat.le_refl _) ?_
  show AW g ρ (QJ Q) d mX2_partOf 0 [(0, .ref 32), (1, .int x1), (2, .int x2)] [] ρ S
  refine AW_iload_n 1 (n := 1) rfl dX2_partOf_0 rfl ?_
  refine AW_sipush (v := 320) dX2_partOf_1 rfl ?_
  refine AW_imul dX2_partOf_4 ?_
  refine AW_iload_n 2 (n := 2) rfl dX2_partOf_5 rfl ?_
  refine AW_iadd dX2_partOf_6 ?_
  refine AW_istore_n (n := 3) (i := 3) rfl dX2_partOf_7 (Nat.le_of_ble_eq_true rfl) rfl ?_
  refine AW_iload_n 0 (n := 3) rfl dX2_partOf_8 rfl ?_
  refine AW_if_lt dX2_partOf_9 rfl (iteM h (fun h => ?_) (fun h => ?_))
  · refine AW_lconst (v := 0) dX2_partOf_30 rfl ?_
    exact AW_retl dX2_partOf_31 rfl h
  · refine AW_iload_n 0 (n := 3) rfl dX2_partOf_12 rfl ?_
    refine AW_aload_n 1 (n := 0) rfl dX2_partOf_13 rfl ?_
    refine AW_get dX2_partOf_14 flX2_24 (Nat.le_of_ble_eq_true rfl) (okn hρ (Nat.le_of_ble_eq_true rfl)) rfl (v := .ref 37) (fvR (okR hρ 33 rfl)) ?_
    refine AW_flen (v := 1280) dX2_partOf_17 (Nat.le_of_ble_eq_true rfl) (okn hρ (Nat.le_of_ble_eq_true rfl)) rfl rfl ?_
    refine AW_icmp_ge dX2_partOf_18 rfl (iteM h (fun h => ?_) (fun h => ?_))
    · refine AW_lconst (v := 0) dX2_partOf_30 rfl ?_
      exact AW_retl dX2_partOf_31 rfl h
    · refine AW_aload_n 1 (n := 0) rfl dX2_partOf_21 rfl ?_
      refine AW_get dX2_partOf_22 flX2_24 (Nat.le_of_ble_eq_true rfl) (okn hρ (Nat.le_of_ble_eq_true rfl)) rfl (v := .ref 37) (fvR (okR hρ 33 rfl)) ?_
      refine AW_iload_n 0 (n := 3) rfl dX2_partOf_25 rfl ?_
      refine AW_flald dX2_partOf_26 (Nat.le_of_ble_eq_true rfl) (okn hρ (Nat.le_of_ble_eq_true rfl)) rfl h.1 rfl rfl (v := S.2 (37 + 1 + ((x1 * 320) + x2).toNatClampNeg / 320) (((x1 * 320) + x2).toNatClampNeg % 320)) rfl ?_
      replace h := h.2
      refine AW_goto (tgt := 31) dX2_partOf_27 rfl ?_
      exact AW_retl dX2_partOf_31 rfl h
set_option maxRecDepth 20000 in
theorem eX2_putParts {g : GX} {Q : St → Prop} {d : Nat} {ρ : Rs} {S : St} (hρ : Ok ρ) {x1 : Int64} {x3 : Int64} {x5 : Int64} {x7 : Int64} (hFr_38 : ∀ i, i < 4 → gF g (38 + i)) (h : if (S.1 32 7) < 0 then Q S else if (320 : Int32) ≤ (S.1 32 7) then Q S else vp_in (S.1 32 7) (4 * 320) ∧ (vp_in (320 + (S.1 32 7)) (4 * 320) ∧ (vp_in (640 + (S.1 32 7)) (4 * 320) ∧ (vp_in (960 + (S.1 32 7)) (4 * 320) ∧ (Q (setL (setL (setL (setL S (38 + (S.1 32 7).toNatClampNeg / 320) ((S.1 32 7).toNatClampNeg % 320) x1) (38 + (320 + (S.1 32 7)).toNatClampNeg / 320) ((320 + (S.1 32 7)).toNatClampNeg % 320) x3) (38 + (640 + (S.1 32 7)).toNatClampNeg / 320) ((640 + (S.1 32 7)).toNatClampNeg % 320) x5) (38 + (960 + (S.1 32 7)).toNatClampNeg / 320) ((960 + (S.1 32 7)).toNatClampNeg % 320) x7)))))) : CALLv g d mX2_putParts [.ref 32, .long x1, .long x3, .long x5, .long x7] ρ ρ S Q := by
  refine CALL.of mdX2_putParts.2.2.2.2 (Nat.le_of_ble_eq_true rfl) (Nat.le_refl _) (Nat.le_refl _) ?_
  show AW g ρ (QV Q) d mX2_putParts 0 [(0, .ref 32), (1, .long x1), (3, .long x3), (5, .long x5), (7, .long x7)] [] ρ S
  refine AW_aload_n 0 (n := 0) rfl dX2_putParts_0 rfl ?_
  refine AW_get dX2_putParts_1 flX2_38 (Nat.le_of_ble_eq_true rfl) (okn hρ (Nat.le_of_ble_eq_true rfl)) rfl (v := .int (S.1 32 7)) (fun _ => rfl) ?_
  refine AW_if_lt dX2_putParts_4 rfl (iteM h (fun h => ?_) (fun h => ?_))
  · exact AW_retv dX2_putParts_71 rfl h
  · refine AW_aload_n 0 (n := 0) rfl dX2_putParts_7 rfl ?_
    refine AW_get dX2_putParts_8 flX2_38 (Nat.le_of_ble_eq_true rfl) (okn hρ (Nat.le_of_ble_eq_true rfl)) rfl (v := .int (S.1 32 7)) (fun _ => rfl) ?_
    refine AW_sipush (v := 320) dX2_putParts_11 rfl ?_
    refine AW_icmp_ge dX2_putParts_14 rfl (iteM h (fun h => ?_) (fun h => ?_))
    · exact AW_retv dX2_putParts_71 rfl h
    · refine AW_aload_n 0 (n := 0) rfl dX2_putParts_17 rfl ?_
      refine AW_get dX2_putParts_18 flX2_24 (Nat.le_of_ble_eq_true rfl) (okn hρ (Nat.le_of_ble_eq_true rfl)) rfl (v := .ref 37) (fvR (okR hρ 33 rfl)) ?_
      refine AW_aload_n 0 (n := 0) rfl dX2_putParts_21 rfl ?_
      refine AW_get dX2_putParts_22 flX2_38 (Nat.le_of_ble_eq_true rfl) (okn hρ (Nat.le_of_ble_eq_true rfl)) rfl (v := .int (S.1 32 7)) (fun _ => rfl) ?_
      refine AW_lload_n 1 (n := 1) rfl dX2_putParts_25 rfl ?_
      refine AW_flast dX2_putParts_26 (Nat.le_of_ble_eq_true rfl) (okn hρ (Nat.le_of_ble_eq_true rfl)) rfl h.1 rfl rfl (hFr_38 _ (flr h.1)) ?_
      replace h := h.2
      refine AW_aload_n 0 (n := 0) rfl dX2_putParts_27 rfl ?_
      refine AW_get dX2_putParts_28 flX2_24 (Nat.le_of_ble_eq_true rfl) (okn hρ (Nat.le_of_ble_eq_true rfl)) rfl (v := .ref 37) (fvR (okR hρ 33 rfl)) ?_
      refine AW_sipush (v := 320) dX2_putParts_31 rfl ?_
      refine AW_aload_n 0 (n := 0) rfl dX2_putParts_34 rfl ?_
      refine AW_get dX2_putParts_35 flX2_38 (Nat.le_of_ble_eq_true rfl) (okn hρ (Nat.le_of_ble_eq_true rfl)) rfl (v := .int (S.1 32 7)) (fun _ => rfl) ?_
      refine AW_iadd dX2_putParts_38 ?_
      refine AW_lload_n 2 (n := 3) rfl dX2_putParts_39 rfl ?_
      refine AW_flast dX2_putParts_40 (Nat.le_of_ble_eq_true rfl) (okn hρ (Nat.le_of_ble_eq_true rfl)) rfl h.1 rfl rfl (hFr_38 _ (flr h.1)) ?_
      replace h := h.2
      refine AW_aload_n 0 (n := 0) rfl dX2_putParts_41 rfl ?_
      refine AW_get dX2_putParts_42 flX2_24 (Nat.le_of_ble_eq_true rfl) (okn hρ (Nat.le_of_ble_eq_true rfl)) rfl (v := .ref 37) (fvR (okR hρ 33 rfl)) ?_
      refine AW_sipush (v := 640) dX2_putParts_45 rfl ?_
      refine AW_aload_n 0 (n := 0) rfl dX2_putParts_48 rfl ?_
      refine AW_get dX2_putParts_49 flX2_38 (Nat.le_of_ble_eq_true rfl) (okn hρ (Nat.le_of_ble_eq_true rfl)) rfl (v := .int (S.1 32 7)) (fun _ => rfl) ?_
      refine AW_iadd dX2_putParts_52 ?_
      refine AW_lload 3 dX2_putParts_53 rfl ?_
      refine AW_flast dX2_putParts_55 (Nat.le_of_ble_eq_true rfl) (okn hρ (Nat.le_of_ble_eq_true rfl)) rfl h.1 rfl rfl (hFr_38 _ (flr h.1)) ?_
      replace h := h.2
      refine AW_aload_n 0 (n := 0) rfl dX2_putParts_56 rfl ?_
      refine AW_get dX2_putParts_57 flX2_24 (Nat.le_of_ble_eq_true rfl) (okn hρ (Nat.le_of_ble_eq_true rfl)) rfl (v := .ref 37) (fvR (okR hρ 33 rfl)) ?_
      refine AW_sipush (v := 960) dX2_putParts_60 rfl ?_
      refine AW_aload_n 0 (n := 0) rfl dX2_putParts_63 rfl ?_
      refine AW_get dX2_putParts_64 flX2_38 (Nat.le_of_ble_eq_true rfl) (okn hρ (Nat.le_of_ble_eq_true rfl)) rfl (v := .int (S.1 32 7)) (fun _ => rfl) ?_
      refine AW_iadd dX2_putParts_67 ?_
      refine AW_lload 4 dX2_putParts_68 rfl ?_
      refine AW_flast dX2_putParts_70 (Nat.le_of_ble_eq_true rfl) (okn hρ (Nat.le_of_ble_eq_true rfl)) rfl h.1 rfl rfl (hFr_38 _ (flr h.1)) ?_
      replace h := h.2
      exact AW_retv dX2_putParts_71 rfl h
set_option maxRecDepth 20000 in
theorem eX1_aheadOf {g : GX} {Q : Int64 → St → Prop} {d : Nat} {ρ : Rs} {S : St} (hρ : Ok ρ) {x1 : Int32} (h : if x1 < 0 then Q 0 S else if (480 : Int32) ≤ x1 then Q 0 S else vp_in x1 480 ∧ (Q (S.2 47 x1.toNatClampNeg) S)) : CALLl g d mX1_aheadOf [.ref 31, .int x1] ρ ρ S Q := by
  refine CALL.of mdX1_aheadOf.2.2.2.2 (Nat.le_of_ble_eq_true rfl) (Nat.le_refl _) (Nat.le_refl _) ?_
  show AW g ρ (QJ Q) d mX1_aheadOf 0 [(0, .ref 31), (1, .int x1)] [] ρ S
  refine AW_iload_n 1 (n := 1) rfl dX1_aheadOf_0 rfl ?_
  refine AW_if_lt dX1_aheadOf_1 rfl (iteM h (fun h => ?_) (fun h => ?_))
  · refine AW_lconst (v := 0) dX1_aheadOf_20 rfl ?_
    exact AW_retl dX1_aheadOf_21 rfl h
  · refine AW_iload_n 1 (n := 1) rfl dX1_aheadOf_4 rfl ?_
    refine AW_sipush (v := 480) dX1_aheadOf_5 rfl ?_
    refine AW_icmp_ge dX1_aheadOf_8 rfl (iteM h (fun h => ?_) (fun h => ?_))
    · refine AW_lconst (v := 0) dX1_aheadOf_20 rfl ?_
      exact AW_retl dX1_aheadOf_21 rfl h
    · refine AW_aload_n 0 (n := 0) rfl dX1_aheadOf_11 rfl ?_
      refine AW_get dX1_aheadOf_12 flX1_31 (Nat.le_of_ble_eq_true rfl) (okn hρ (Nat.le_of_ble_eq_true rfl)) rfl (v := .ref 47) (fvR (okR hρ 22 rfl)) ?_
      refine AW_iload_n 1 (n := 1) rfl dX1_aheadOf_15 rfl ?_
      refine AW_laload dX1_aheadOf_16 (Nat.le_of_ble_eq_true rfl) (okn hρ (Nat.le_of_ble_eq_true rfl)) rfl h.1 (v := S.2 47 x1.toNatClampNeg) rfl ?_
      replace h := h.2
      refine AW_goto (tgt := 21) dX1_aheadOf_17 rfl ?_
      exact AW_retl dX1_aheadOf_21 rfl h
set_option maxRecDepth 20000 in
theorem eX6_firstNearOf {g : GX} {Q : Int32 → St → Prop} {d : Nat} {ρ : Rs} {S : St} (hρ : Ok ρ) {x1 : Int32} {kn nn : Nat} (hR_kn : rR ρ 70 6 = some kn) (h16_kn : 16 ≤ kn) (hn_kn : kn < rn ρ) (hs_kn : shp ρ kn = .inr (0, nn)) (h : if x1 < 0 then if (0 : Int32) < 0 then Q 0 S else if (Int32.ofNat nn) < 0 then Q 0 S else Q 0 S else if (1000 : Int32) < x1 then if (0 : Int32) < 0 then Q 0 S else if (Int32.ofNat nn) < 0 then Q 0 S else Q 0 S else vp_in x1 1001 ∧ (if (S.1 72 x1.toNatClampNeg) < 0 then Q 0 S else if (Int32.ofNat nn) < (S.1 72 x1.toNatClampNeg) then Q 0 S else Q (S.1 72 x1.toNatClampNeg) S)) : CALLi g d mX6_firstNearOf [.ref 70, .int x1] ρ ρ S Q := by
  refine CALL.of mdX6_firstNearOf.2.2.2.2 (Nat.le_of_ble_eq_true rfl) (Nat.le_refl _) (Nat.le_refl _) ?_
  show AW g ρ (QI Q) d mX6_firstNearOf 0 [(0, .ref 70), (1, .int x1)] [] ρ S
  refine AW_iload_n 1 (n := 1) rfl dX6_firstNearOf_0 rfl ?_
  refine AW_if_lt dX6_firstNearOf_1 rfl (iteM h (fun h => ?_) (fun h => ?_))
  · refine AW_iconst (v := 0) dX6_firstNearOf_20 rfl ?_
    refine AW_istore_n (n := 2) (i := 2) rfl dX6_firstNearOf_21 (Nat.le_of_ble_eq_true rfl) rfl ?_
    refine AW_iload_n 0 (n := 2) rfl dX6_firstNearOf_22 rfl ?_
    refine AW_if_lt dX6_firstNearOf_23 rfl (iteM h (fun h => ?_) (fun h => ?_))
    · refine AW_iconst (v := 0) dX6_firstNearOf_39 rfl ?_
      exact AW_reti dX6_firstNearOf_40 rfl h
    · refine AW_iload_n 0 (n := 2) rfl dX6_firstNearOf_26 rfl ?_
      refine AW_aload_n 1 (n := 0) rfl dX6_firstNearOf_27 rfl ?_
      refine AW_get dX6_firstNearOf_28 flX6_21 (Nat.le_of_ble_eq_true rfl) (okn hρ (Nat.le_of_ble_eq_true rfl)) rfl (v := .ref kn) (fvR hR_kn) ?_
      refine AW_alen (v := Int32.ofNat nn) dX6_firstNearOf_31 h16_kn hn_kn (by decide) hs_kn rfl ?_
      refine AW_icmp_gt dX6_firstNearOf_32 rfl (iteM h (fun h => ?_) (fun h => ?_))
      · refine AW_iconst (v := 0) dX6_firstNearOf_39 rfl ?_
        exact AW_reti dX6_firstNearOf_40 rfl h
      · refine AW_iload_n 0 (n := 2) rfl dX6_firstNearOf_35 rfl ?_
        refine AW_goto (tgt := 40) dX6_firstNearOf_36 rfl ?_
        exact AW_reti dX6_firstNearOf_40 rfl h
  · refine AW_iload_n 1 (n := 1) rfl dX6_firstNearOf_4 rfl ?_
    refine AW_sipush (v := 1000) dX6_firstNearOf_5 rfl ?_
    refine AW_icmp_gt dX6_firstNearOf_8 rfl (iteM h (fun h => ?_) (fun h => ?_))
    · refine AW_iconst (v := 0) dX6_firstNearOf_20 rfl ?_
      refine AW_istore_n (n := 2) (i := 2) rfl dX6_firstNearOf_21 (Nat.le_of_ble_eq_true rfl) rfl ?_
      refine AW_iload_n 0 (n := 2) rfl dX6_firstNearOf_22 rfl ?_
      refine AW_if_lt dX6_firstNearOf_23 rfl (iteM h (fun h => ?_) (fun h => ?_))
      · refine AW_iconst (v := 0) dX6_firstNearOf_39 rfl ?_
        exact AW_reti dX6_firstNearOf_40 rfl h
      · refine AW_iload_n 0 (n := 2) rfl dX6_firstNearOf_26 rfl ?_
        refine AW_aload_n 1 (n := 0) rfl dX6_firstNearOf_27 rfl ?_
        refine AW_get dX6_firstNearOf_28 flX6_21 (Nat.le_of_ble_eq_true rfl) (okn hρ (Nat.le_of_ble_eq_true rfl)) rfl (v := .ref kn) (fvR hR_kn) ?_
        refine AW_alen (v := Int32.ofNat nn) dX6_firstNearOf_31 h16_kn hn_kn (by decide) hs_kn rfl ?_
        refine AW_icmp_gt dX6_firstNearOf_32 rfl (iteM h (fun h => ?_) (fun h => ?_))
        · refine AW_iconst (v := 0) dX6_firstNearOf_39 rfl ?_
          exact AW_reti dX6_firstNearOf_40 rfl h
        · refine AW_iload_n 0 (n := 2) rfl dX6_firstNearOf_35 rfl ?_
          refine AW_goto (tgt := 40) dX6_firstNearOf_36 rfl ?_
          exact AW_reti dX6_firstNearOf_40 rfl h
    · refine AW_aload_n 0 (n := 0) rfl dX6_firstNearOf_11 rfl ?_
      refine AW_get dX6_firstNearOf_12 flX6_17 (Nat.le_of_ble_eq_true rfl) (okn hρ (Nat.le_of_ble_eq_true rfl)) rfl (v := .ref 72) (fvR (okR hρ 46 rfl)) ?_
      refine AW_iload_n 1 (n := 1) rfl dX6_firstNearOf_15 rfl ?_
      refine AW_iaload dX6_firstNearOf_16 (Nat.le_of_ble_eq_true rfl) (okn hρ (Nat.le_of_ble_eq_true rfl)) rfl h.1 (v := S.1 72 x1.toNatClampNeg) rfl ?_
      replace h := h.2
      refine AW_goto (tgt := 21) dX6_firstNearOf_17 rfl ?_
      refine AW_istore_n (n := 2) (i := 2) rfl dX6_firstNearOf_21 (Nat.le_of_ble_eq_true rfl) rfl ?_
      refine AW_iload_n 0 (n := 2) rfl dX6_firstNearOf_22 rfl ?_
      refine AW_if_lt dX6_firstNearOf_23 rfl (iteM h (fun h => ?_) (fun h => ?_))
      · refine AW_iconst (v := 0) dX6_firstNearOf_39 rfl ?_
        exact AW_reti dX6_firstNearOf_40 rfl h
      · refine AW_iload_n 0 (n := 2) rfl dX6_firstNearOf_26 rfl ?_
        refine AW_aload_n 1 (n := 0) rfl dX6_firstNearOf_27 rfl ?_
        refine AW_get dX6_firstNearOf_28 flX6_21 (Nat.le_of_ble_eq_true rfl) (okn hρ (Nat.le_of_ble_eq_true rfl)) rfl (v := .ref kn) (fvR hR_kn) ?_
        refine AW_alen (v := Int32.ofNat nn) dX6_firstNearOf_31 h16_kn hn_kn (by decide) hs_kn rfl ?_
        refine AW_icmp_gt dX6_firstNearOf_32 rfl (iteM h (fun h => ?_) (fun h => ?_))
        · refine AW_iconst (v := 0) dX6_firstNearOf_39 rfl ?_
          exact AW_reti dX6_firstNearOf_40 rfl h
        · refine AW_iload_n 0 (n := 2) rfl dX6_firstNearOf_35 rfl ?_
          refine AW_goto (tgt := 40) dX6_firstNearOf_36 rfl ?_
          exact AW_reti dX6_firstNearOf_40 rfl h
set_option maxRecDepth 20000 in
theorem eX5_moved {g : GX} {Q : Int64 → St → Prop} {d : Nat} {ρ : Rs} {S : St} (hρ : Ok ρ) {x1 : Int64} {x3 : Int32} (h : if x3 < 0 then Q x1 S else if (264 : Int32) ≤ x3 then Q x1 S else vp_in x3 264 ∧ (Q (x1 + (S.2 27 x3.toNatClampNeg)) S)) : CALLl g d mX5_moved [.ref 26, .long x1, .int x3] ρ ρ S Q := by
  refine CALL.of mdX5_moved.2.2.2.2 (Nat.le_of_ble_eq_true rfl) (Nat.le_refl _) (Nat.le_refl _) ?_
  show AW g ρ (QJ Q) d mX5_moved 0 [(0, .ref 26), (1, .long x1), (3, .int x3)] [] ρ S
  refine AW_iload_n 2 (n := 3) rfl dX5_moved_0 rfl ?_
  refine AW_if_lt dX5_moved_1 rfl (iteM h (fun h => ?_) (fun h => ?_))
  · refine AW_lload_n 1 (n := 1) rfl dX5_moved_22 rfl ?_
    exact AW_retl dX5_moved_23 rfl h
  · refine AW_iload_n 2 (n := 3) rfl dX5_moved_4 rfl ?_
    refine AW_sipush (v := 264) dX5_moved_5 rfl ?_
    refine AW_icmp_ge dX5_moved_8 rfl (iteM h (fun h => ?_) (fun h => ?_))
    · refine AW_lload_n 1 (n := 1) rfl dX5_moved_22 rfl ?_
      exact AW_retl dX5_moved_23 rfl h
    · refine AW_lload_n 1 (n := 1) rfl dX5_moved_11 rfl ?_
      refine AW_aload_n 0 (n := 0) rfl dX5_moved_12 rfl ?_
      refine AW_get dX5_moved_13 flX5_9 (Nat.le_of_ble_eq_true rfl) (okn hρ (Nat.le_of_ble_eq_true rfl)) rfl (v := .ref 27) (fvR (okR hρ 13 rfl)) ?_
      refine AW_iload_n 2 (n := 3) rfl dX5_moved_16 rfl ?_
      refine AW_laload dX5_moved_17 (Nat.le_of_ble_eq_true rfl) (okn hρ (Nat.le_of_ble_eq_true rfl)) rfl h.1 (v := S.2 27 x3.toNatClampNeg) rfl ?_
      replace h := h.2
      refine AW_ladd dX5_moved_18 ?_
      refine AW_goto (tgt := 23) dX5_moved_19 rfl ?_
      exact AW_retl dX5_moved_23 rfl h
set_option maxRecDepth 20000 in
theorem eX7_get_F {g : GX} {Q : Int64 → St → Prop} {d : Nat} {ρ : Rs} {S : St} (hρ : Ok ρ) {k0 n0 : Nat} (h16_0 : 16 ≤ k0) (hn_0 : k0 < rn ρ) (hs_0 : shp ρ k0 = .inr (3, n0)) {x1 : Int32} (h : if x1 < 0 then Q 0 S else if (Int32.ofNat (4 * n0)) ≤ x1 then Q 0 S else vp_in x1 (4 * n0) ∧ (Q (S.2 (k0 + 1 + x1.toNatClampNeg / n0) (x1.toNatClampNeg % n0)) S)) : CALLl g d mX7_get_ [.ref k0, .int x1] ρ ρ S Q := by
  refine CALL.of mdX7_get_.2.2.2.2 (Nat.le_of_ble_eq_true rfl) (Nat.le_refl _) (Nat.le_refl _) ?_
  show AW g ρ (QJ Q) d mX7_get_ 0 [(0, .ref k0), (1, .int x1)] [] ρ S
  refine AW_iload_n 1 (n := 1) rfl dX7_get__0 rfl ?_
  refine AW_if_lt dX7_get__1 rfl (iteM h (fun h => ?_) (fun h => ?_))
  · refine AW_lconst (v := 0) dX7_get__16 rfl ?_
    exact AW_retl dX7_get__17 rfl h
  · refine AW_iload_n 1 (n := 1) rfl dX7_get__4 rfl ?_
    refine AW_aload_n 0 (n := 0) rfl dX7_get__5 rfl ?_
    refine AW_flen (v := Int32.ofNat (4 * n0)) dX7_get__6 h16_0 hn_0 hs_0 rfl ?_
    refine AW_icmp_ge dX7_get__7 rfl (iteM h (fun h => ?_) (fun h => ?_))
    · refine AW_lconst (v := 0) dX7_get__16 rfl ?_
      exact AW_retl dX7_get__17 rfl h
    · refine AW_aload_n 0 (n := 0) rfl dX7_get__10 rfl ?_
      refine AW_iload_n 1 (n := 1) rfl dX7_get__11 rfl ?_
      refine AW_flald dX7_get__12 h16_0 hn_0 hs_0 h.1 rfl rfl (v := S.2 (k0 + 1 + x1.toNatClampNeg / n0) (x1.toNatClampNeg % n0)) rfl ?_
      replace h := h.2
      refine AW_goto (tgt := 17) dX7_get__13 rfl ?_
      exact AW_retl dX7_get__17 rfl h
set_option maxRecDepth 20000 in
theorem eX7_put_F {g : GX} {Q : St → Prop} {d : Nat} {ρ : Rs} {S : St} (hρ : Ok ρ) {k0 n0 : Nat} (h16_0 : 16 ≤ k0) (hn_0 : k0 < rn ρ) (hs_0 : shp ρ k0 = .inr (3, n0)) {x1 : Int32} {x2 : Int64} (hF4_k0 : ∀ i, i < 4 → gF g (k0 + 1 + i)) (h : if x1 < 0 then Q S else if (Int32.ofNat (4 * n0)) ≤ x1 then Q S else vp_in x1 (4 * n0) ∧ (Q (setL S (k0 + 1 + x1.toNatClampNeg / n0) (x1.toNatClampNeg % n0) x2))) : CALLv g d mX7_put_ [.ref k0, .int x1, .long x2] ρ ρ S Q := by
  refine CALL.of mdX7_put_.2.2.2.2 (Nat.le_of_ble_eq_true rfl) (Nat.le_refl _) (Nat.le_refl _) ?_
  show AW g ρ (QV Q) d mX7_put_ 0 [(0, .ref k0), (1, .int x1), (2, .long x2)] [] ρ S
  refine AW_iload_n 1 (n := 1) rfl dX7_put__0 rfl ?_
  refine AW_if_lt dX7_put__1 rfl (iteM h (fun h => ?_) (fun h => ?_))
  · exact AW_retv dX7_put__14 rfl h
  · refine AW_iload_n 1 (n := 1) rfl dX7_put__4 rfl ?_
    refine AW_aload_n 0 (n := 0) rfl dX7_put__5 rfl ?_
    refine AW_flen (v := Int32.ofNat (4 * n0)) dX7_put__6 h16_0 hn_0 hs_0 rfl ?_
    refine AW_icmp_ge dX7_put__7 rfl (iteM h (fun h => ?_) (fun h => ?_))
    · exact AW_retv dX7_put__14 rfl h
    · refine AW_aload_n 0 (n := 0) rfl dX7_put__10 rfl ?_
      refine AW_iload_n 1 (n := 1) rfl dX7_put__11 rfl ?_
      refine AW_lload_n 2 (n := 2) rfl dX7_put__12 rfl ?_
      refine AW_flast dX7_put__13 h16_0 hn_0 hs_0 h.1 rfl rfl (hF4_k0 _ (flr h.1)) ?_
      replace h := h.2
      exact AW_retv dX7_put__14 rfl h
