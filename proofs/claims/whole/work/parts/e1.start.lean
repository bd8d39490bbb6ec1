-- WHERE THE LAW BEGINS: the world that the Statement gives
def argW (b : Nat) : Array Value := #[Value.ref b]
theorem Wn_in : ∀ w ∈ Wn, w ∈ lw_tbl := by decide +kernel
theorem Wg_in {w : Cond} (h : w ∈ Wg) : w ∈ lw_tbl := (List.mem_filter.mp h).1
theorem arrT_of {s : State} {cA comp : ClassId} {kA : Class} {ty : FieldType} (h2 : s.vm.classes[cA]? = some kA) (h3 : kA.kind = .array comp ty) : ArrOfT s cA ty := fun n z => ⟨fun k h => (by cases h), kA, h2, comp, h3⟩
theorem all_known {s : State} {A : Array Value} (hts : ∀ w ∈ Wg, w.before A s = true) : ∀ (c : Nat) (r : vw_C), vwCl[c]? = some r → ∃ q : ClassId × (Nat → Nat), u_Kn s r.1 r.2.1 r.2.2 q.1 q.2 := by
  intro c r h
  have hc : c < 11 := (List.getElem?_eq_some_iff.mp h).1
  have fin : ∀ {C : String} {T : u_T} {N n : Nat}, (∀ w ∈ u_ws C T N, w ∈ Wg) → Cond.instantiable C n ∈ Wg → ∃ q : ClassId × (Nat → Nat), u_Kn s C T N q.1 q.2 := fun h1 h2 => by
    obtain ⟨a, b, hk⟩ := u_known hts h1 (hts _ h2)
    exact ⟨(a, b), hk⟩
  rcases (show c = 0 ∨ c = 1 ∨ c = 2 ∨ c = 3 ∨ c = 4 ∨ c = 5 ∨ c = 6 ∨ c = 7 ∨ c = 8 ∨ c = 9 ∨ c = 10 by omega) with rfl | rfl | rfl | rfl | rfl | rfl | rfl | rfl | rfl | rfl | rfl
  · cases h; exact fin wcl_0 wIns_0
  · cases h; exact fin wcl_1 wIns_1
  · cases h; exact fin wcl_2 wIns_2
  · cases h; exact fin wcl_3 wIns_3
  · cases h; exact fin wcl_4 wIns_4
  · cases h; exact fin wcl_5 wIns_5
  · cases h; exact fin wcl_6 wIns_6
  · cases h; exact fin wcl_7 wIns_7
  · cases h; exact fin wcl_8 wIns_8
  · cases h; exact fin wcl_9 wIns_9
  · cases h; exact fin wcl_10 wIns_10
/-- the words of the Statement, told apart -/
def flW : List Cond := flatC (Jvm.Cond.and given_1 narrow_1)
abbrev tmF : Term := .static "CountTables$Fills" "FACTORIALS" "[J"
abbrev tmS (i : Nat) : Term := .string "CountTables$Reader" (kRW.getD i 0)
abbrev tmM (i : Nat) : Term := .string "CountTablesModel" (kMW.getD i 0)
theorem fw_F : ∀ j, j < 21 → Cond.eq (.elem tmF (.int (Int32.ofNat j))) (.long (facL.getD j 0)) ∈ flW := by decide +kernel
theorem fw_ex : ∀ i, i < 5 → Cond.exactly (tmS i) "java/lang/String" ∈ flW := by decide +kernel
theorem fw_co : ∀ i, i < 5 → Cond.eq (.field (tmS i) "java/lang/String" "coder" "B") (.int 0) ∈ flW := by decide +kernel
theorem fw_ar : ∀ i, i < 5 → Cond.arrayOf (.field (tmS i) "java/lang/String" "value" "[B") .byte ∈ flW := by decide +kernel
theorem fw_le : ∀ i, i < 5 → Cond.eq (.length (.field (tmS i) "java/lang/String" "value" "[B")) (.int (Int32.ofNat (lenW.getD i 0))) ∈ flW := by decide +kernel
theorem fw_el : ∀ i, i < 5 → ∀ j, j < lenW.getD i 0 → Cond.eq (.elem (.field (tmS i) "java/lang/String" "value" "[B") (.int (Int32.ofNat j))) (.int ((bytW.getD i []).getD j 0)) ∈ flW := by decide +kernel
theorem fw_ne : ∀ i, i < 5 → ∀ j, j < 5 → i ≠ j → Cond.not (Cond.eq (tmS i) (tmS j)) ∈ flW ∨ Cond.not (Cond.eq (tmS j) (tmS i)) ∈ flW := by decide +kernel
theorem fw_eq : ∀ i, i < 5 → Cond.eq (tmS i) (tmM i) ∈ flW := by decide +kernel
theorem fw_sR : ∀ i, i < 5 → Cond.stringRef "CountTables$Reader" (kRW.getD i 0) (txW.getD i "") ∈ lw_tbl := by decide +kernel
theorem fw_sM : ∀ i, i < 5 → Cond.stringRef "CountTablesModel" (kMW.getD i 0) (txW.getD i "") ∈ lw_tbl := by decide +kernel
theorem fw_a : Cond.arrayOf tmF .long ∈ flW := by decide +kernel
theorem fw_l : Cond.eq (.length tmF) (.int 21) ∈ flW := by decide +kernel
theorem fw_c : Cond.eq (.static "java/lang/String" "COMPACT_STRINGS" "Z") (.int 1) ∈ flW := by decide +kernel
theorem fw_p : Cond.isRef (.static "jdk/internal/util/Preconditions" "SIOOBE_FORMATTER" "Ljava/util/function/BiFunction;") ∈ flW := by decide +kernel
theorem fw_z1 : Cond.laysStatic "CountTables$Fills" "FACTORIALS" "[J" ∈ lw_tbl := by decide +kernel
theorem fw_z2 : Cond.laysStatic "java/lang/String" "COMPACT_STRINGS" "Z" ∈ lw_tbl := by decide +kernel
theorem fw_z3 : Cond.laysStatic "jdk/internal/util/Preconditions" "SIOOBE_FORMATTER" "Ljava/util/function/BiFunction;" ∈ lw_tbl := by decide +kernel
theorem fw_i1 : Cond.initialized "CountTables$Fills" ∈ lw_tbl := by decide +kernel
theorem fw_i2 : Cond.initialized "java/lang/String" ∈ lw_tbl := by decide +kernel
theorem fw_i3 : Cond.initialized "jdk/internal/util/Preconditions" ∈ lw_tbl := by decide +kernel
theorem start_world {s : State} {b L : Nat} {xs : Nat → Int32} (l : Launch) (hts : ∀ w ∈ lw_tbl, w.before #[Value.ref b] s = true) (hX : va_X b L xs s s.heap) (hbl : b < s.heap.size) (hgv : (Jvm.Cond.and given_1 narrow_1).before #[Value.ref b] s = true) :
    ∃ g : GX, gL g = l ∧ gN g = L ∧ gB g = s.heap.size ∧ ad g 11 = b ∧ (∀ k, 16 ≤ k → gF g k) ∧ VX g s ∧ PX g s s.heap := by
  have hs : ∀ w ∈ flW, w.before #[Value.ref b] s = true := flat_of_before _ hgv
  have htg : ∀ w ∈ Wg, w.before #[Value.ref b] s = true := fun w hw => hts w (Wg_in hw)
  -- the classes
  have h0 : ∀ c : Nat, ∃ q : ClassId × (Nat → Nat), ∀ r : vw_C, vwCl[c]? = some r → u_Kn s r.1 r.2.1 r.2.2 q.1 q.2 := fun c => by
    cases h : vwCl[c]? with
    | none => exact ⟨(default, fun _ => 0), fun r hr => by cases hr⟩
    | some r =>
      obtain ⟨q, hq⟩ := all_known htg c r h
      exact ⟨q, fun r' hr => by cases hr; exact hq⟩
  obtain ⟨D, hD⟩ := Classical.axiomOfChoice h0
  -- the arrays' classes
  obtain ⟨c0, k0, p0, a0, a1, a2⟩ := Cond.arrayClass_spec (htg _ wArr_int)
  obtain ⟨c1, k1, p1, b0, b1, b2⟩ := Cond.arrayClass_spec (htg _ wArr_long)
  obtain ⟨c2, k2, p2, d0, d1, d2⟩ := Cond.arrayClass_spec (htg _ wArr_boolean)
  let A : Nat → Prop := fun q => s.heap.size ≤ q
  have hA : ∀ a : Nat, a < s.heap.size → ¬ A a := fun a h => Nat.not_le.mpr h
  -- the words
  obtain ⟨adK, adV, hS, hSe⟩ := vk_Sof (N := 5) (tm := tmS) (len := lenW) (byt := bytW) (A := A) (by decide) (fun i hi => hs _ (fw_ex i hi)) (fun i hi => hs _ (fw_co i hi)) (fun i hi => hs _ (fw_ar i hi)) (fun i hi => hs _ (fw_le i hi)) (fun i hi j hj => hs _ (fw_el i hi j hj)) (fun i j hi hj hij => (fw_ne i hi j hj hij).imp (fun h => hs _ h) (fun h => hs _ h)) hA
  -- the table of factorials
  obtain ⟨tF, hF1, hF2⟩ := va_Tof (tm := tmF) (ty := .long) (N := 21) (f := fun j => .long (facL.getD j 0)) (A := A) (by decide) (hs _ fw_a) (va_eqt (hs _ fw_l)) (fun j hj => va_eqtl (hs _ (fw_F j hj))) hA
  have hF3 := va_Zof (A := A) (hts _ fw_z1) (hts _ fw_i1) hF1 hA
  have hC := va_Zof (A := A) (hts _ fw_z2) (hts _ fw_i2) (va_eqi (hs _ fw_c)) hA
  have hQ := va_Zqof (A := A) (hts _ fw_z3) (hts _ fw_i3) (hs _ fw_p) hA
  obtain ⟨tP, hP⟩ : ∃ t, va_Z "jdk/internal/util/Preconditions" "SIOOBE_FORMATTER" "Ljava/util/function/BiFunction;" .null A s s.heap ∨ va_Z "jdk/internal/util/Preconditions" "SIOOBE_FORMATTER" "Ljava/util/function/BiFunction;" (.ref t) A s s.heap := by
    rcases hQ with h | ⟨t, h⟩
    · exact ⟨0, Or.inl h⟩
    · exact ⟨t, Or.inr h⟩
  let cf : Nat → ClassId := fun t => if t = 0 then c0 else if t = 1 then c1 else c2
  let pf : Nat → Nat := fun k => if k < 5 then adK k else if k < 10 then adV (k - 5) else if k = 10 then tF else if k = 11 then b else tP
  let g : GX := (l, (fun c => (D c).1, fun c => (D c).2), cf, s.heap.size, pf, fun k => 16 ≤ k, L, xs)
  have aK : ∀ i, i < 5 → ad g i = adK i := fun i hi => by
    show (if i < 16 then (if i < 5 then adK i else _) else _) = _
    rw [if_pos (by omega), if_pos hi]
  have aV : ∀ i, i < 5 → ad g (5 + i) = adV i := fun i hi => by
    show (if 5 + i < 16 then (if 5 + i < 5 then adK (5 + i) else if 5 + i < 10 then adV (5 + i - 5) else _) else _) = _
    rw [if_pos (by omega), if_neg (by omega), if_pos (by omega), Nat.add_sub_cancel_left]
  have a10 : ad g 10 = tF := rfl
  have a11 : ad g 11 = b := rfl
  have a12 : ad g 12 = tP := rfl
  refine ⟨g, rfl, rfl, rfl, a11, fun k hk => hk, ⟨⟨fun c q hq => hD c q hq, fun k q hk => ?_⟩, fun w hw => va_Nw.of (Wn_tabs hw) (hts w (Wn_in w hw)), fun i hi => ⟨?_, ?_⟩, trivial⟩, ?_, ?_, ?_, hC, ?_, hX, ?_, hbl⟩
  · have hk4 : k < 3 := (List.getElem?_eq_some_iff.mp hk).1
    rcases (show k = 0 ∨ k = 1 ∨ k = 2 by omega) with rfl | rfl | rfl
    · cases hk; exact ⟨arrT_of a1 a2, a0⟩
    · cases hk; exact ⟨arrT_of b1 b2, b0⟩
    · cases hk; exact ⟨arrT_of d1 d2, d0⟩
  · rw [aK i hi]; exact vk_R.of (A := #[Value.ref b]) (hts _ (fw_sR i hi)) (hSe i hi)
  · rw [aK i hi]; exact vk_R.of (A := #[Value.ref b]) (hts _ (fw_sM i hi)) (va_eqR (hs _ (fw_eq i hi)) (hSe i hi))
  · rw [a10]; exact hF3
  · rw [a10]; exact hF2
  · refine ⟨fun i hi => ?_, fun i j hi hj e => ?_⟩
    · have z := hS.1 i hi
      rw [← aK i hi, ← aV i hi] at z
      exact z
    · rw [aK i hi, aK j hj] at e; exact hS.2 i j hi hj e
  · rw [a12]; exact hP
  · show ¬ s.heap.size ≤ b
    omega
/-- from the entry, for every script of at most 3072 ints, the law comes to its end with true -/
theorem whole_start {p : Program} {e : Env} {s : State} {m : MethodId} {below : List Frame} {meth : Method} {c : Code} (l : Launch) (_ : l.flags = flags0) {b L : Nat} {xs : Nat → Int32} (hL : L ≤ 3072) (C0 : lw_At p s m meth c b L xs) : W p l e room_1 s m #[Value.ref b] below meth c s.heap [] 0 0 (lw_Z below #[Value.ref b] s) (entryFrame m ([Value.ref b] : List Value).toArray 4) := by
  obtain ⟨hx, hb, hr, hml, hown, hts, hX, hbl, hlk, hgv, hnm⟩ := C0
  obtain ⟨g, e1, e2, e3, e4, hF16, hV, hP⟩ := start_world l hts hX hbl hgv
  subst e1
  obtain ⟨ρ', h1, h2, h3⟩ := law_whole (g := g) (d := 0) hF16 (aOk g) (by rw [e2]; exact hL)
  have hF : Fx g mL_law p s m #[Value.ref b] meth c := ⟨hx, hb, hr, hml, hown, fun w hw => hts w (Wg_in hw), hlk, hnm, hV, hP, by rw [e3]; exact Nat.le_refl _⟩
  have hl := lv_entry [Value.ref b] (n := 4) (Nat.le_of_ble_eq_true rfl)
  rw [lg_entry_eq]
  generalize (lg_sl [Value.ref b] ++ List.replicate (4 - (lg_sl [Value.ref b]).length) Slot.unset).toArray = la at hl ⊢
  have hR : Rep g zr0 (fun _ _ => 0, fun _ _ => 0) s.heap := ⟨Nat.le_refl 16, by rw [e3]; rfl, fun k q hq => absurd (wsO_at hq).1 (by show ¬ k < pl 16; rw [show pl 16 = 0 from rfl]; omega)⟩
  refine h3 (fun _ _ => 0, fun _ _ => 0) p e room_1 s m _ below meth c s.heap [] 0 0 0 0 _ la hF (by decide) (by decide) (by show rc ρ' ≤ 600000 + 0; omega) (by show ru ρ' ≤ 7302250 + 0; omega) rfl rfl hR va_S.rf ?_ ?_
  · show lv_has la 4 [(0, .ref (ad g 11))]
    rw [e4]
    exact hl
  · intro r S' H' locs' la' pc' st' hrt hQ hf hR' hS'
    obtain ⟨v, rfl, rfl⟩ := hQ
    rcases hrt with ⟨v, q1, q2, rfl, -⟩ | ⟨v, -, q2, -⟩ | ⟨v, -, q2, -⟩ | ⟨v, -, q2, -⟩ | ⟨k, ty, -, q2, -⟩ | ⟨-, q2, -⟩
    · cases q2
      refine fun T hT X => ?_
      have X2 := Jvm.Stand.dropFresh (locs := []) (J := locs') X (fun x hx => by
        have h := hS'.2.2 x hx
        rw [← e3]
        exact h)
      exact (W.base (W.widen (by omega) (by omega) (lw_ret (Drawn.sameBut.refl s.drawn lw_cs) hx hb hr hlk q1))) T hT X2
    · cases q2
    · cases q2
    · cases q2
    · cases q2
    · cases q2
