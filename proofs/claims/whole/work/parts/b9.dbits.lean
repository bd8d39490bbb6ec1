-- THE BITS OF A DOUBLE BY HALVING AND DOUBLING
def mkD (E T : Nat) : UInt64 := UInt64.ofNat (E * 2 ^ 52 + T)
theorem vf_iff {x : UInt64} : vf_n64 x ↔ FP.Core.val64 x ≠ .nan := by
  rw [FP.Core.ne_nan]
  unfold vf_n64
  rw [UInt64.le_iff_toNat_le, UInt64.toNat_and]
  have h1 : (0x7fffffffffffffff : UInt64).toNat = 2 ^ 63 - 1 := by decide
  have h2 : (0x7ff0000000000000 : UInt64).toNat = 9218868437227405312 := by decide
  rw [h1, h2, Nat.and_two_pow_sub_one_eq_mod]
theorem mk_nat {E T : Nat} (hE : E < 2048) (hT : T < 2 ^ 52) : (mkD E T).toNat = E * 2 ^ 52 + T := by
  unfold mkD
  exact UInt64.toNat_ofNat_of_lt' (by show _ < 2 ^ 64; omega)
theorem mk_val {E T : Nat} (h1 : 1 ≤ E) (h2 : E < 2047) (hT : T < 2 ^ 52) : FP.Core.val64 (mkD E T) = .fin false (2 ^ 52 + T) ((E : Int) - 1075) := by
  unfold FP.Core.val64
  rw [mk_nat (by omega) hT]
  have e : E * 2 ^ 52 + T = FP.Core.assemble FP.Core.b64 false E T := by
    unfold FP.Core.assemble
    rw [FP.Core.tails_b64]
    simp
  have hx : FP.Core.b64.exps = 2048 := by decide
  rw [e, FP.Core.decode_assemble _ _ _ _ (by rw [hx]; omega) (by rw [FP.Core.tails_b64]; exact hT), FP.Core.exps_b64, if_neg (by omega), if_neg (by omega), FP.Core.tails_b64, FP.Core.qmin_b64]
  congr 1
  omega
theorem mk_nn {E T : Nat} (h1 : 1 ≤ E) (h2 : E < 2047) (hT : T < 2 ^ 52) : FP.Core.val64 (mkD E T) ≠ .nan := by
  rw [mk_val h1 h2 hT]
  exact FP.Core.Datum.noConfusion
theorem mk_fits {E T : Nat} (h1 : 1 ≤ E) (h2 : E < 2047) (hT : T < 2 ^ 52) : FP.Core.fits FP.Core.b64 (.fin false (2 ^ 52 + T) ((E : Int) - 1075)) := by
  rw [← mk_val h1 h2 hT]
  exact FP.Core.val64_fits _
theorem v_two : FP.Core.val64 4611686018427387904 = .fin false (2 ^ 52) (-51) := by decide +kernel
theorem v_52 : FP.Core.val64 4841369599423283200 = .fin false (2 ^ 52) 0 := by decide +kernel
theorem qt_two (c : Nat) (q : Int) : FP.Core.quotient FP.Core.b64 (.fin false c q) (.fin false (2 ^ 52) (-51)) = FP.Core.roundRatio FP.Core.b64 false c (2 ^ 52) (q - -51) := by
  show (if (2 ^ 52 : Nat) = 0 then (if c = 0 then FP.Core.Datum.nan else FP.Core.Datum.inf (false != false)) else FP.Core.roundRatio FP.Core.b64 (false != false) c (2 ^ 52) (q - -51)) = _
  rw [if_neg (by decide)]
  rfl
theorem mk_half {E T : Nat} (h1 : 2 ≤ E) (h2 : E < 2047) (hT : T < 2 ^ 52) : FP.ddiv (mkD E T) 4611686018427387904 = mkD (E - 1) T := by
  refine FP.Core.val64_inj ?_ ?_
  · rw [FP.Core.val64_ddiv, mk_val (by omega) h2 hT, v_two, qt_two]
    exact FP.Core.roundRatio_ne_nan _ _ _ _ _
  · rw [FP.Core.val64_ddiv, mk_val (by omega) h2 hT, v_two, qt_two, mk_val (by omega) (by omega) hT]
    refine FP.Core.roundRatio_exact FP.Core.good_b64 (by decide) ?_ ?_
    · have := mk_fits (E := E - 1) (by omega) (by omega) hT
      exact this
    · rw [show ((E : Int) - 1075 - -51 - (((E - 1 : Nat) : Int) - 1075)).toNat = 52 by omega, show ((((E - 1 : Nat) : Int) - 1075) - ((E : Int) - 1075 - -51)).toNat = 0 by omega, Nat.pow_zero, Nat.mul_one]
theorem mk_dbl {E T : Nat} (h1 : 1 ≤ E) (h2 : E < 2046) (hT : T < 2 ^ 52) : FP.dmul (mkD E T) 4611686018427387904 = mkD (E + 1) T := by
  have e : FP.Core.val64 (FP.dmul (mkD E T) 4611686018427387904) = .fin false (2 ^ 52 + T) (((E + 1 : Nat) : Int) - 1075) := by
    rw [FP.Core.val64_dmul, mk_val h1 (by omega) hT, v_two]
    show FP.Core.roundRatio FP.Core.b64 false ((2 ^ 52 + T) * 2 ^ 52) 1 (((E : Int) - 1075) + -51) = _
    refine FP.Core.roundRatio_exact FP.Core.good_b64 (by decide) (mk_fits (E := E + 1) (by omega) (by omega) hT) ?_
    rw [show (((E : Int) - 1075) + -51 - (((E + 1 : Nat) : Int) - 1075)).toNat = 0 by omega, show ((((E + 1 : Nat) : Int) - 1075) - (((E : Int) - 1075) + -51)).toNat = 52 by omega, Nat.pow_zero, Nat.mul_one, Nat.mul_one]
  refine FP.Core.val64_inj ?_ ?_
  · rw [e]; exact FP.Core.Datum.noConfusion
  · rw [e, mk_val (by omega) (by omega) hT]
theorem cmp_bits {x y : UInt64} (hx : FP.Core.val64 x ≠ .nan) (hy : FP.Core.val64 y ≠ .nan) (sx : x.toNat < 2 ^ 63) (sy : y.toNat < 2 ^ 63) (o : CmpOp) : (Op.cmpValue (FP.dcmp x y) o < 0 ↔ x.toNat < y.toNat) ∧ (0 < Op.cmpValue (FP.dcmp x y) o ↔ y.toNat < x.toNat) ∧ (0 ≤ Op.cmpValue (FP.dcmp x y) o ↔ y.toNat ≤ x.toNat) := by
  obtain ⟨m1, m2, m3⟩ := FP.Core.mono_bits hx hy sx sy
  rcases Nat.lt_trichotomy x.toNat y.toNat with c | c | c
  · rw [show FP.dcmp x y = some .lt from m1.mpr c, show Op.cmpValue (some Ordering.lt) o = -1 from rfl]
    exact ⟨⟨fun _ => c, fun _ => by decide⟩, ⟨fun z => absurd z (by decide), fun z => by omega⟩, ⟨fun z => absurd z (by decide), fun z => by omega⟩⟩
  · rw [show FP.dcmp x y = some .eq from m2.mpr c, show Op.cmpValue (some Ordering.eq) o = 0 from rfl]
    exact ⟨⟨fun z => absurd z (by decide), fun z => by omega⟩, ⟨fun z => absurd z (by decide), fun z => by omega⟩, ⟨fun _ => by omega, fun _ => by decide⟩⟩
  · rw [show FP.dcmp x y = some .gt from m3.mpr c, show Op.cmpValue (some Ordering.gt) o = 1 from rfl]
    exact ⟨⟨fun z => absurd z (by decide), fun z => by omega⟩, ⟨fun _ => c, fun _ => by decide⟩, ⟨fun _ => by omega, fun _ => by decide⟩⟩
/-- what is left behind the leading digit -/
theorem mk_rest {T : Nat} (hT : T < 2 ^ 52) : FP.Core.val64 (FP.dsub (mkD 1023 T) FP.dconst1) ≠ .nan ∧ FP.Core.val64 (FP.dmul (FP.dsub (mkD 1023 T) FP.dconst1) 4841369599423283200) ≠ .nan ∧ FP.d2l (FP.dmul (FP.dsub (mkD 1023 T) FP.dconst1) 4841369599423283200) = lN T := by
  have e1 : FP.Core.val64 (FP.dsub (mkD 1023 T) FP.dconst1) = FP.Core.round FP.Core.b64 (.fin false T (-52)) := by
    rw [FP.Core.val64_dsub, mk_val (by omega) (by omega) hT, show FP.Core.val64 FP.dconst1 = .fin false (2 ^ 52) (-52) from FP.Core.val64_dconst1]
    congr 1
    have ev : FP.Core.sumUnits false (2 ^ 52 + T) (((1023 : Nat) : Int) - 1075) true (2 ^ 52) (-52) (min (((1023 : Nat) : Int) - 1075) (-52)) = (T : Int) := by
      unfold FP.Core.sumUnits FP.Core.inUnits FP.Core.signed
      rw [show (((1023 : Nat) : Int) - 1075) = -52 by omega, Int.min_self, Int.sub_self]
      simp
      omega
    show FP.Core.Datum.fin (FP.Core.sumSign false true (FP.Core.sumUnits false (2 ^ 52 + T) (((1023 : Nat) : Int) - 1075) true (2 ^ 52) (-52) (min (((1023 : Nat) : Int) - 1075) (-52)))) (FP.Core.sumUnits false (2 ^ 52 + T) (((1023 : Nat) : Int) - 1075) true (2 ^ 52) (-52) (min (((1023 : Nat) : Int) - 1075) (-52))).natAbs (min (((1023 : Nat) : Int) - 1075) (-52)) = .fin false T (-52)
    rw [ev, Int.natAbs_natCast, show min (((1023 : Nat) : Int) - 1075) (-52) = -52 by omega]
    congr 1
    unfold FP.Core.sumSign
    split
    · rfl
    · exact decide_eq_false (by omega)
  have hp : FP.Core.b64.p = 53 := by decide
  have hq : FP.Core.b64.qmax = 971 := by decide
  obtain ⟨c', q', r1, r2⟩ := FP.Core.round_exact FP.Core.good_b64 false (c := T) (q := -52) (by rw [hp]; omega) (by rw [FP.Core.qmin_b64]; omega) (by rw [hq]; omega)
  rw [r1] at e1
  have hf : FP.Core.fits FP.Core.b64 (.fin false c' q') := by rw [← e1]; exact FP.Core.val64_fits _
  have hqm : -1074 ≤ q' := by have := hf.2.1; rw [FP.Core.qmin_b64] at this; exact this
  unfold FP.Core.inUnits at r2
  rw [FP.Core.qmin_b64, show ((-52 : Int) - -1074).toNat = 1022 by decide] at r2
  have e2 : FP.Core.val64 (FP.dmul (FP.dsub (mkD 1023 T) FP.dconst1) 4841369599423283200) = FP.Core.round FP.Core.b64 (.fin false (c' * 2 ^ 52) (q' + 0)) := by
    rw [FP.Core.val64_dmul, e1, v_52]
    rfl
  have hw : FP.Core.Whole (T : Int) (.fin false (c' * 2 ^ 52) (q' + 0)) := by
    show FP.Core.signed false (c' * 2 ^ 52 * 2 ^ (q' + 0).toNat) = (T : Int) * ((2 ^ (-(q' + 0)).toNat : Nat) : Int)
    unfold FP.Core.signed
    rw [if_neg (by decide), Int.add_zero, ← Int.natCast_mul]
    congr 1
    have hpos : 0 < 2 ^ 1022 := Nat.two_pow_pos _
    refine Nat.eq_of_mul_eq_mul_right hpos ?_
    rcases Int.le_total 0 q' with z | z
    · rw [show (-q').toNat = 0 by omega, Nat.pow_zero, Nat.mul_one, ← r2, Nat.mul_assoc, Nat.mul_assoc, ← Nat.pow_add, ← Nat.pow_add]
      congr 2
      omega
    · rw [show q'.toNat = 0 by omega, Nat.pow_zero, Nat.mul_one, Nat.mul_right_comm T, ← r2, Nat.mul_assoc, Nat.mul_assoc, ← Nat.pow_add, ← Nat.pow_add]
      congr 2
      omega
  have hw2 := FP.Core.whole_round FP.Core.good_b64 FP.Core.wide_b64 (i := (T : Int)) (by rw [hp]; omega) hw
  rw [← e2] at hw2
  refine ⟨by rw [e1]; exact FP.Core.Datum.noConfusion, hw2.ne_nan, FP.Core.d2l_int ?_⟩
  have : (lN T).toInt = (T : Int) := (lN_ti (by omega)).trans (if_pos (by omega))
  rw [this]
  exact hw2
section BD
variable {g : GX} {d : Nat} {ρ : Rs} {S : St}
theorem b_two : (4611686018427387904 : UInt64).toNat = 1024 * 2 ^ 52 := by decide
theorem b_one : (FP.dconst1 : UInt64).toNat = 1023 * 2 ^ 52 := by decide
theorem or_52 {E T : Nat} (hE : E < 2048) (hT : T < 2 ^ 52) : (lN E <<< ((52 : Int32).toInt64 &&& 63)) ||| lN T = lN (E * 2 ^ 52 + T) := by
  rw [show ((52 : Int32).toInt64 &&& 63 : Int64) = (nI 52).toInt64 &&& 63 from rfl, wb_shl E (by omega)]
  exact g_or (k := 52) rfl hT (by omega)
theorem sC_bitsD {Q : Int64 → St → Prop} (hρ : Ok ρ) {E T : Nat} (h1 : 1 ≤ E) (h2 : E < 2047) (hT : T < 2 ^ 52) (h : Q (lN (E * 2 ^ 52 + T)) S) : CALLl g (d + 3) mX7_bitsOfDouble [.double (mkD E T)] ρ ρ S Q := by
  have hmn : ∀ {e}, e < 2047 → (mkD e T).toNat < 2 ^ 63 := fun he => by rw [mk_nat (by omega) hT]; omega
  have c2 : ∀ {e}, 1 ≤ e → e < 2047 → (Op.cmpValue (FP.dcmp (mkD e T) 4611686018427387904) .l < 0 ↔ e < 1024) := fun q1 q2 => by
    rw [(cmp_bits (mk_nn q1 q2 hT) (by rw [v_two]; exact FP.Core.Datum.noConfusion) (hmn q2) (by rw [b_two]; omega) .l).1, mk_nat (by omega) hT, b_two]
    omega
  have c1 : ∀ {e}, 1 ≤ e → e < 2047 → (0 ≤ Op.cmpValue (FP.dcmp (mkD e T) FP.dconst1) .g ↔ 1023 ≤ e) := fun q1 q2 => by
    rw [(cmp_bits (mk_nn q1 q2 hT) (by rw [show FP.Core.val64 FP.dconst1 = _ from FP.Core.val64_dconst1]; exact FP.Core.Datum.noConfusion) (hmn q2) (by rw [b_one]; omega) .g).2.2, mk_nat (by omega) hT, b_one]
    omega
  refine eX7_bitsOfDouble hρ ?_
  have c0 : 0 < Op.cmpValue (FP.dcmp (mkD E T) FP.dconst0) .l := by
    rw [(cmp_bits (mk_nn h1 h2 hT) (by rw [show FP.Core.val64 FP.dconst0 = _ from FP.Core.val64_dconst0]; exact FP.Core.Datum.noConfusion) (hmn h2) (by decide) .l).2.1, mk_nat (by omega) hT, show (FP.dconst0 : UInt64).toNat = 0 from rfl]
    omega
  rw [if_pos c0]
  obtain ⟨r1, r2, r3⟩ := mk_rest hT
  have low : ∀ k e i, e + k = 1023 → 1 ≤ e → i + k < 1100 → AW g ρ (QJ Q) (d + 3) mX7_bitsOfDouble 55 [(2, .double (mkD e T)), (4, .long (lN (1023 + E - e))), (6, .int (nI i))] [] ρ S := by
    intro k
    induction k with
    | zero =>
      intro e i hk he hi
      have ee : e = 1023 := by omega
      refine eX7_bitsOfDouble_55 hρ ?_
      rw [if_neg (show ¬ (1100 : Int32) ≤ nI i from nI_ge (b := 1100) (by omega) (by omega)), if_pos ((c1 he (by omega)).mpr (by omega)), ee, r3, show 1023 + E - 1023 = E by omega, or_52 (by omega) hT]
      exact ⟨vf_iff.mpr r1, vf_iff.mpr r2, h⟩
    | succ k ih =>
      intro e i hk he hi
      refine eX7_bitsOfDouble_55 hρ ?_
      rw [if_neg (show ¬ (1100 : Int32) ≤ nI i from nI_ge (b := 1100) (by omega) (by omega)), if_neg (fun z => absurd ((c1 he (by omega)).mp z) (by omega)), mk_dbl he (by omega) hT, nI_1, show lN (1023 + E - e) - 1 = lN (1023 + E - (e + 1)) from by
        have := lN_sub (a := 1023 + E - e) (b := 1) (by omega)
        rw [show 1023 + E - (e + 1) = 1023 + E - e - 1 by omega]
        exact this]
      exact ⟨vf_iff.mpr (mk_nn (by omega) (by omega) hT), ih (e + 1) (i + 1) (by omega) (by omega) (by omega)⟩
  have high : ∀ k e i, e = 1023 + k → e < 2047 → e ≤ E → i = E - e → AW g ρ (QJ Q) (d + 3) mX7_bitsOfDouble 18 [(2, .double (mkD e T)), (4, .long (lN (1023 + E - e))), (6, .int (nI i))] [] ρ S := by
    intro k
    induction k with
    | zero =>
      intro e i hk he hE hi
      refine eX7_bitsOfDouble_18 hρ ?_
      rw [if_neg (show ¬ (1100 : Int32) ≤ nI i from nI_ge (b := 1100) (by omega) (by omega)), if_pos ((c2 (by omega) he).mpr (by omega))]
      exact low 0 e 0 (by omega) (by omega) (by omega)
    | succ k ih =>
      intro e i hk he hE hi
      refine eX7_bitsOfDouble_18 hρ ?_
      rw [if_neg (show ¬ (1100 : Int32) ≤ nI i from nI_ge (b := 1100) (by omega) (by omega)), if_neg (fun z => absurd ((c2 (by omega) he).mp z) (by omega)), mk_half (by omega) he hT, nI_1, show lN (1023 + E - e) + 1 = lN (1023 + E - (e - 1)) from by
        have := lN_add (1023 + E - e) 1
        rw [show 1023 + E - (e - 1) = 1023 + E - e + 1 by omega]
        exact this]
      exact ⟨vf_iff.mpr (mk_nn (by omega) (by omega) hT), ih (e - 1) (i + 1) (by omega) (by omega) (by omega) (by omega)⟩
  have e4 : (1023 : Int64) = lN (1023 + E - E) := by rw [Nat.add_sub_cancel]; rfl
  rw [e4]
  by_cases c : 1023 ≤ E
  · exact high (E - 1023) E 0 (by omega) h2 (Nat.le_refl _) (by omega)
  · refine eX7_bitsOfDouble_18 hρ ?_
    rw [if_neg (by decide), if_pos ((c2 h1 h2).mpr (by omega))]
    exact low (1023 - E) E 0 (by omega) h1 (by omega)
theorem sC_bits0 {Q : Int64 → St → Prop} (hρ : Ok ρ) {x : UInt64} (hx : x.toNat = 0) (h : Q 0 S) : CALLl g (d + 3) mX7_bitsOfDouble [.double x] ρ ρ S Q := by
  have e : x = 0 := UInt64.toNat_inj.mp (by rw [hx]; rfl)
  refine eX7_bitsOfDouble hρ ?_
  rw [e, if_neg (by decide +kernel)]
  exact h
/-- any double that is nought or of ordinary size -/
theorem sC_bitsX {Q : Int64 → St → Prop} (hρ : Ok ρ) {x : UInt64} (hx : x.toNat = 0 ∨ (2 ^ 52 ≤ x.toNat ∧ x.toNat < 2047 * 2 ^ 52)) (h : Q x.toInt64 S) : CALLl g (d + 3) mX7_bitsOfDouble [.double x] ρ ρ S Q := by
  rcases hx with c | ⟨c1, c2⟩
  · have e : x = 0 := UInt64.toNat_inj.mp (by rw [c]; rfl)
    rw [e] at h
    exact sC_bits0 hρ c h
  · have hd := Nat.div_add_mod x.toNat (2 ^ 52)
    have hm := Nat.mod_lt x.toNat (show 0 < 2 ^ 52 by omega)
    have ex : x = mkD (x.toNat / 2 ^ 52) (x.toNat % 2 ^ 52) := by
      refine UInt64.toNat_inj.mp ?_
      rw [mk_nat (by omega) hm, Nat.mul_comm]
      omega
    have el : x.toInt64 = lN (x.toNat / 2 ^ 52 * 2 ^ 52 + x.toNat % 2 ^ 52) := by
      rw [Nat.mul_comm, hd]
      exact (Int64.ofNat_bitVecToNat x.toBitVec).symm
    rw [ex]
    refine sC_bitsD hρ (by omega) (by omega) hm ?_
    rw [← el]
    exact h
end BD
