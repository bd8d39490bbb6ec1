-- helps of the generated rules
def refTab : List (Nat × Nat × Nat) := [(16, 0, 17), (16, 1, 19), (16, 2, 21), (16, 3, 25), (16, 4, 26), (16, 5, 31), (16, 6, 54), (16, 7, 70), (17, 0, 18), (19, 6, 20), (21, 5, 22), (21, 6, 23), (21, 9, 24), (26, 3, 27), (26, 4, 28), (26, 5, 29), (26, 6, 30), (31, 0, 32), (31, 3, 43), (31, 4, 44), (31, 5, 45), (31, 6, 46), (31, 7, 47), (31, 8, 48), (31, 9, 49), (31, 10, 50), (31, 11, 51), (31, 12, 52), (31, 13, 53), (32, 0, 33), (32, 1, 34), (32, 2, 35), (32, 3, 36), (32, 4, 37), (32, 5, 42), (54, 0, 31), (54, 1, 55), (54, 2, 60), (54, 3, 65), (54, 4, 66), (54, 5, 67), (54, 6, 68), (54, 7, 69), (70, 0, 31), (70, 1, 26), (70, 4, 71), (70, 5, 72), (70, 8, 74), (70, 9, 75), (70, 12, 76), (70, 14, 77), (80, 0, 81), (80, 1, 82), (80, 2, 83), (80, 3, 84), (80, 18, 85), (80, 19, 86), (80, 20, 87), (80, 21, 88), (80, 31, 89), (80, 33, 90), (80, 34, 91), (80, 35, 92), (80, 37, 93), (80, 38, 94)]
def Ok (ρ : Rs) : Prop := N0 ≤ rn ρ ∧ ∀ q ∈ refTab, rR ρ q.1 q.2.1 = some q.2.2
theorem okn {ρ : Rs} (h : Ok ρ) {k : Nat} (hk : k < N0) : k < rn ρ := Nat.lt_of_lt_of_le hk h.1
theorem okR {ρ : Rs} (h : Ok ρ) (i : Nat) {k j l : Nat} (hi : refTab[i]? = some (k, j, l)) : rR ρ k j = some l := h.2 (k, j, l) (List.mem_of_getElem? hi)
theorem fvR {ρ : Rs} {S : St} {k j l : Nat} (h : rR ρ k j = some l) : ∀ g, fval g ρ S k 2 j = vmv g (.ref l) := fun g => by
  show va_rf ((rR ρ k j).map (ad g)) = _
  rw [h]; rfl
theorem fvI_o {g : GX} {ρ : Rs} {S : St} {k j : Nat} {v : Int32} {u i : Nat} (h : i ≠ j) : fval g ρ (setI S k j v) k u i = fval g ρ S k u i := by
  unfold fval
  split
  · rfl
  · rfl
  · rw [setI_at, if_neg (fun q => h q.2)]
theorem fvL_o {g : GX} {ρ : Rs} {S : St} {k j : Nat} {v : Int64} {u i : Nat} (h : i ≠ j) : fval g ρ (setL S k j v) k u i = fval g ρ S k u i := by
  unfold fval
  split
  · rw [setL_at, if_neg (fun q => h q.2)]
  · rfl
  · rfl
theorem i32n {x y : Int32} (h : ¬ x = y) {k : Int} (hk : y.toInt = k) : x.toInt ≠ k := fun e => h (Int32.toInt_inj.mp (e.trans hk.symm))
def Bz (v : Int32) : Prop := v = 0 ∨ v = 1
theorem Bz.nar {v : Int32} (h : Bz v) : narrow .boolean (.int v) = .int v := by rcases h with rfl | rfl <;> rfl
theorem Bz.fits {v : Int32} (h : Bz v) : fits .boolean (.int v) = true := by rcases h with rfl | rfl <;> rfl
theorem Bz0 : Bz 0 := Or.inl rfl
theorem Bz1 : Bz 1 := Or.inr rfl
def QI (Q : Int32 → St → Prop) : Option Value → St → Prop := fun r S' => ∃ v, r = some (.int v) ∧ Q v S'
def QJ (Q : Int64 → St → Prop) : Option Value → St → Prop := fun r S' => ∃ v, r = some (.long v) ∧ Q v S'
def QF (Q : UInt32 → St → Prop) : Option Value → St → Prop := fun r S' => ∃ v, r = some (.float v) ∧ Q v S'
def QD (Q : UInt64 → St → Prop) : Option Value → St → Prop := fun r S' => ∃ v, r = some (.double v) ∧ Q v S'
def QA (Q : Nat → St → Prop) : Option Value → St → Prop := fun r S' => ∃ v, r = some (.ref v) ∧ Q v S'
def QV (Q : St → Prop) : Option Value → St → Prop := fun r S' => r = none ∧ Q S'
section Help
variable {g : GX} {ρ' : Rs} {Q : Option Value → St → Prop} {d : Nat} {M : MD} {pc : Nat} {ls : List (Nat × Value)} {st : List Value} {ρ : Rs} {S : St}
theorem iteC {c c' : Prop} [Decidable c] [Decidable c'] (e : c ↔ c') {A B : Prop} (h : if c' then A else B) : if c then A else B := by
  by_cases q : c
  · rw [if_pos q]; rw [if_pos (e.mp q)] at h; exact h
  · rw [if_neg q]; rw [if_neg (fun z => q (e.mpr z))] at h; exact h
theorem lc_eq (x y : Int64) : lg_cmp x y = 0 ↔ x = y := by
  unfold lg_cmp
  simp only [gt_iff_lt, Int64.lt_iff_toInt_lt, ← Int64.toInt_inj]
  repeat' split
  · constructor
    · intro h; exact absurd h (by decide)
    · intro h; omega
  · simp_all
  · constructor
    · intro h; exact absurd h (by decide)
    · intro h; omega
theorem lc_gt (x y : Int64) : 0 < lg_cmp x y ↔ y < x := by
  unfold lg_cmp
  simp only [gt_iff_lt, Int64.lt_iff_toInt_lt, ← Int64.toInt_inj]
  repeat' split
  · rename_i h; exact ⟨fun _ => h, fun _ => by decide⟩
  · rename_i h h2; exact ⟨fun q => absurd q (by decide), fun q => by omega⟩
  · rename_i h h2; exact ⟨fun q => absurd q (by decide), fun q => by omega⟩
theorem lc_lt (x y : Int64) : lg_cmp x y < 0 ↔ x < y := by
  unfold lg_cmp
  simp only [gt_iff_lt, Int64.lt_iff_toInt_lt, ← Int64.toInt_inj]
  repeat' split
  · rename_i h; exact ⟨fun q => absurd q (by decide), fun q => by omega⟩
  · rename_i h h2; exact ⟨fun q => absurd q (by decide), fun q => by omega⟩
  · rename_i h h2; exact ⟨fun q => by omega, fun q => by decide⟩
theorem lc_ge (x y : Int64) : 0 ≤ lg_cmp x y ↔ y ≤ x := lg_cmp_ge x y
theorem lc_le (x y : Int64) : lg_cmp x y ≤ 0 ↔ x ≤ y := by
  unfold lg_cmp
  simp only [gt_iff_lt, Int64.lt_iff_toInt_lt, Int64.le_iff_toInt_le, ← Int64.toInt_inj]
  repeat' split
  · rename_i h; exact ⟨fun q => absurd q (by decide), fun q => by omega⟩
  · rename_i h h2; exact ⟨fun q => by omega, fun q => by decide⟩
  · rename_i h h2; exact ⟨fun q => by omega, fun q => by decide⟩
theorem AW_lc_eq {off : Int} {tgt : Nat} {x y : Int64} (hd1 : decode M.2.1 pc = .ok (.lcmp, 1)) (hd0 : decode M.2.1 (pc + 1) = .ok (.ifCond .eq off, 3)) (ht : ((pc + 1 : Nat) : Int) + off = (tgt : Int)) (h : if x = y then AW g ρ' Q d M tgt ls st ρ S else AW g ρ' Q d M (pc + 1 + 3) ls st ρ S) : AW g ρ' Q d M pc ls (.long y :: .long x :: st) ρ S :=
  AW_lcmp hd1 (AW_if_eq hd0 ht (iteC (lc_eq x y) h))
theorem AW_lc_ne {off : Int} {tgt : Nat} {x y : Int64} (hd1 : decode M.2.1 pc = .ok (.lcmp, 1)) (hd0 : decode M.2.1 (pc + 1) = .ok (.ifCond .ne off, 3)) (ht : ((pc + 1 : Nat) : Int) + off = (tgt : Int)) (h : if x = y then AW g ρ' Q d M (pc + 1 + 3) ls st ρ S else AW g ρ' Q d M tgt ls st ρ S) : AW g ρ' Q d M pc ls (.long y :: .long x :: st) ρ S :=
  AW_lcmp hd1 (AW_if_ne hd0 ht (iteC (lc_eq x y) h))
theorem AW_lc_lt {off : Int} {tgt : Nat} {x y : Int64} (hd1 : decode M.2.1 pc = .ok (.lcmp, 1)) (hd0 : decode M.2.1 (pc + 1) = .ok (.ifCond .lt off, 3)) (ht : ((pc + 1 : Nat) : Int) + off = (tgt : Int)) (h : if x < y then AW g ρ' Q d M tgt ls st ρ S else AW g ρ' Q d M (pc + 1 + 3) ls st ρ S) : AW g ρ' Q d M pc ls (.long y :: .long x :: st) ρ S :=
  AW_lcmp hd1 (AW_if_lt hd0 ht (iteC (lc_lt x y) h))
theorem AW_lc_ge {off : Int} {tgt : Nat} {x y : Int64} (hd1 : decode M.2.1 pc = .ok (.lcmp, 1)) (hd0 : decode M.2.1 (pc + 1) = .ok (.ifCond .ge off, 3)) (ht : ((pc + 1 : Nat) : Int) + off = (tgt : Int)) (h : if y ≤ x then AW g ρ' Q d M tgt ls st ρ S else AW g ρ' Q d M (pc + 1 + 3) ls st ρ S) : AW g ρ' Q d M pc ls (.long y :: .long x :: st) ρ S :=
  AW_lcmp hd1 (AW_if_ge hd0 ht (iteC (lc_ge x y) h))
theorem AW_lc_gt {off : Int} {tgt : Nat} {x y : Int64} (hd1 : decode M.2.1 pc = .ok (.lcmp, 1)) (hd0 : decode M.2.1 (pc + 1) = .ok (.ifCond .gt off, 3)) (ht : ((pc + 1 : Nat) : Int) + off = (tgt : Int)) (h : if y < x then AW g ρ' Q d M tgt ls st ρ S else AW g ρ' Q d M (pc + 1 + 3) ls st ρ S) : AW g ρ' Q d M pc ls (.long y :: .long x :: st) ρ S :=
  AW_lcmp hd1 (AW_if_gt hd0 ht (iteC (lc_gt x y) h))
theorem AW_lc_le {off : Int} {tgt : Nat} {x y : Int64} (hd1 : decode M.2.1 pc = .ok (.lcmp, 1)) (hd0 : decode M.2.1 (pc + 1) = .ok (.ifCond .le off, 3)) (ht : ((pc + 1 : Nat) : Int) + off = (tgt : Int)) (h : if x ≤ y then AW g ρ' Q d M tgt ls st ρ S else AW g ρ' Q d M (pc + 1 + 3) ls st ρ S) : AW g ρ' Q d M pc ls (.long y :: .long x :: st) ρ S :=
  AW_lcmp hd1 (AW_if_le hd0 ht (iteC (lc_le x y) h))
theorem AW_reti {Q : Int32 → St → Prop} {v : Int32} (hd0 : decode M.2.1 pc = .ok (.ireturn, 1)) (hr : M.2.2.2 = some .int) (h : Q v S) : AW g ρ (QI Q) d M pc ls [.int v] ρ S := AW_ireturn hd0 hr rfl ⟨v, rfl, h⟩
theorem AW_retz {Q : Int32 → St → Prop} {v : Int32} (hd0 : decode M.2.1 pc = .ok (.ireturn, 1)) (hr : M.2.2.2 = some .boolean) (hv : Bz v) (h : Q v S) : AW g ρ (QI Q) d M pc ls [.int v] ρ S := AW_ireturn hd0 hr hv.nar ⟨v, rfl, h⟩
theorem AW_retc {Q : Int32 → St → Prop} {v : Int32} (hd0 : decode M.2.1 pc = .ok (.ireturn, 1)) (hr : M.2.2.2 = some .char) (hv : narrow .char (.int v) = .int v) (h : Q v S) : AW g ρ (QI Q) d M pc ls [.int v] ρ S := AW_ireturn hd0 hr hv ⟨v, rfl, h⟩
theorem AW_retb {Q : Int32 → St → Prop} {v : Int32} (hd0 : decode M.2.1 pc = .ok (.ireturn, 1)) (hr : M.2.2.2 = some .byte) (hv : narrow .byte (.int v) = .int v) (h : Q v S) : AW g ρ (QI Q) d M pc ls [.int v] ρ S := AW_ireturn hd0 hr hv ⟨v, rfl, h⟩
theorem AW_retl {Q : Int64 → St → Prop} {v : Int64} (hd0 : decode M.2.1 pc = .ok (.lreturn, 1)) (hr : M.2.2.2 = some .long) (h : Q v S) : AW g ρ (QJ Q) d M pc ls [.long v] ρ S := AW_lreturn hd0 hr ⟨v, rfl, h⟩
theorem AW_retf {Q : UInt32 → St → Prop} {v : UInt32} (hd0 : decode M.2.1 pc = .ok (.freturn, 1)) (hr : M.2.2.2 = some .float) (h : Q v S) : AW g ρ (QF Q) d M pc ls [.float v] ρ S := AW_freturn hd0 hr ⟨v, rfl, h⟩
theorem AW_retd {Q : UInt64 → St → Prop} {v : UInt64} (hd0 : decode M.2.1 pc = .ok (.dreturn, 1)) (hr : M.2.2.2 = some .double) (h : Q v S) : AW g ρ (QD Q) d M pc ls [.double v] ρ S := AW_dreturn hd0 hr ⟨v, rfl, h⟩
theorem AW_reta {Q : Nat → St → Prop} {v : Nat} {ty : FieldType} (hd0 : decode M.2.1 pc = .ok (.areturn, 1)) (hr : M.2.2.2 = some ty) (hn : (∃ n, ty = FieldType.object n) ∨ ∃ t, ty = FieldType.array t) (h : Q v S) : AW g ρ (QA Q) d M pc ls [.ref v] ρ S := AW_areturn hd0 hr hn ⟨v, rfl, h⟩
theorem AW_retv {Q : St → Prop} (hd0 : decode M.2.1 pc = .ok (.return_, 1)) (hr : M.2.2.2 = none) (h : Q S) : AW g ρ (QV Q) d M pc ls [] ρ S := AW_return hd0 hr ⟨rfl, h⟩
theorem AW_callVi {idx n : Nat} {M2 : MD} {As : List Value} {ρ1 : Rs} {C : String} {k : Nat} (hd0 : decode M.2.1 pc = .ok (.invokevirtual idx, 3)) (hM : Md M2) (hC : M2.1.cls = C) (hlk : Cond.methodLink M.1.cls idx M2.1 ∈ Wg) (hin : Cond.instanceMethod M2.1 ∈ Wg) (hse : Cond.selects C M2.1 M2.1 ∈ Wg) (hrc : ∀ (s : State) (H : Heap) (locs : List Loc), VX g s → PX g s s.heap → va_S (gA g) s.heap H locs → Rep g ρ S H → ∃ cell : Cell, H[ad g k]? = some cell ∧ cell.vm.isStatics = false ∧ s.vm.findClass C = some cell.cls) (hn : As.length = n ∧ (parseMethodDescriptor M2.1.desc).map (fun d => d.parameters.length) = some n) (hw : (st.map fun v => v.category).sum ≤ 8) (hc1 : rc ρ1 ≤ rc ρ') (hu1 : ru ρ1 ≤ ru ρ') {st0 : List Value} (hst : st0 = As.reverse ++ .ref k :: st) (h : CALLi g d M2 (.ref k :: As) ρ ρ1 S (fun v S' => AW g ρ' Q (d + 1) M (pc + 3) ls (.int v :: st) ρ1 S')) : AW g ρ' Q (d + 1) M pc ls st0 ρ S :=
  AW_callV hd0 hM hC hlk hin hse hrc hn hw hc1 hu1 hst (CALL.mono h (fun _ S' _ ⟨v, e, q⟩ => e ▸ q))
theorem AW_callVl {idx n : Nat} {M2 : MD} {As : List Value} {ρ1 : Rs} {C : String} {k : Nat} (hd0 : decode M.2.1 pc = .ok (.invokevirtual idx, 3)) (hM : Md M2) (hC : M2.1.cls = C) (hlk : Cond.methodLink M.1.cls idx M2.1 ∈ Wg) (hin : Cond.instanceMethod M2.1 ∈ Wg) (hse : Cond.selects C M2.1 M2.1 ∈ Wg) (hrc : ∀ (s : State) (H : Heap) (locs : List Loc), VX g s → PX g s s.heap → va_S (gA g) s.heap H locs → Rep g ρ S H → ∃ cell : Cell, H[ad g k]? = some cell ∧ cell.vm.isStatics = false ∧ s.vm.findClass C = some cell.cls) (hn : As.length = n ∧ (parseMethodDescriptor M2.1.desc).map (fun d => d.parameters.length) = some n) (hw : (st.map fun v => v.category).sum ≤ 8) (hc1 : rc ρ1 ≤ rc ρ') (hu1 : ru ρ1 ≤ ru ρ') {st0 : List Value} (hst : st0 = As.reverse ++ .ref k :: st) (h : CALLl g d M2 (.ref k :: As) ρ ρ1 S (fun v S' => AW g ρ' Q (d + 1) M (pc + 3) ls (.long v :: st) ρ1 S')) : AW g ρ' Q (d + 1) M pc ls st0 ρ S :=
  AW_callV hd0 hM hC hlk hin hse hrc hn hw hc1 hu1 hst (CALL.mono h (fun _ S' _ ⟨v, e, q⟩ => e ▸ q))
theorem AW_callVf {idx n : Nat} {M2 : MD} {As : List Value} {ρ1 : Rs} {C : String} {k : Nat} (hd0 : decode M.2.1 pc = .ok (.invokevirtual idx, 3)) (hM : Md M2) (hC : M2.1.cls = C) (hlk : Cond.methodLink M.1.cls idx M2.1 ∈ Wg) (hin : Cond.instanceMethod M2.1 ∈ Wg) (hse : Cond.selects C M2.1 M2.1 ∈ Wg) (hrc : ∀ (s : State) (H : Heap) (locs : List Loc), VX g s → PX g s s.heap → va_S (gA g) s.heap H locs → Rep g ρ S H → ∃ cell : Cell, H[ad g k]? = some cell ∧ cell.vm.isStatics = false ∧ s.vm.findClass C = some cell.cls) (hn : As.length = n ∧ (parseMethodDescriptor M2.1.desc).map (fun d => d.parameters.length) = some n) (hw : (st.map fun v => v.category).sum ≤ 8) (hc1 : rc ρ1 ≤ rc ρ') (hu1 : ru ρ1 ≤ ru ρ') {st0 : List Value} (hst : st0 = As.reverse ++ .ref k :: st) (h : CALLf g d M2 (.ref k :: As) ρ ρ1 S (fun v S' => AW g ρ' Q (d + 1) M (pc + 3) ls (.float v :: st) ρ1 S')) : AW g ρ' Q (d + 1) M pc ls st0 ρ S :=
  AW_callV hd0 hM hC hlk hin hse hrc hn hw hc1 hu1 hst (CALL.mono h (fun _ S' _ ⟨v, e, q⟩ => e ▸ q))
theorem AW_callVd {idx n : Nat} {M2 : MD} {As : List Value} {ρ1 : Rs} {C : String} {k : Nat} (hd0 : decode M.2.1 pc = .ok (.invokevirtual idx, 3)) (hM : Md M2) (hC : M2.1.cls = C) (hlk : Cond.methodLink M.1.cls idx M2.1 ∈ Wg) (hin : Cond.instanceMethod M2.1 ∈ Wg) (hse : Cond.selects C M2.1 M2.1 ∈ Wg) (hrc : ∀ (s : State) (H : Heap) (locs : List Loc), VX g s → PX g s s.heap → va_S (gA g) s.heap H locs → Rep g ρ S H → ∃ cell : Cell, H[ad g k]? = some cell ∧ cell.vm.isStatics = false ∧ s.vm.findClass C = some cell.cls) (hn : As.length = n ∧ (parseMethodDescriptor M2.1.desc).map (fun d => d.parameters.length) = some n) (hw : (st.map fun v => v.category).sum ≤ 8) (hc1 : rc ρ1 ≤ rc ρ') (hu1 : ru ρ1 ≤ ru ρ') {st0 : List Value} (hst : st0 = As.reverse ++ .ref k :: st) (h : CALLd g d M2 (.ref k :: As) ρ ρ1 S (fun v S' => AW g ρ' Q (d + 1) M (pc + 3) ls (.double v :: st) ρ1 S')) : AW g ρ' Q (d + 1) M pc ls st0 ρ S :=
  AW_callV hd0 hM hC hlk hin hse hrc hn hw hc1 hu1 hst (CALL.mono h (fun _ S' _ ⟨v, e, q⟩ => e ▸ q))
theorem AW_callVa {idx n : Nat} {M2 : MD} {As : List Value} {ρ1 : Rs} {C : String} {k : Nat} (hd0 : decode M.2.1 pc = .ok (.invokevirtual idx, 3)) (hM : Md M2) (hC : M2.1.cls = C) (hlk : Cond.methodLink M.1.cls idx M2.1 ∈ Wg) (hin : Cond.instanceMethod M2.1 ∈ Wg) (hse : Cond.selects C M2.1 M2.1 ∈ Wg) (hrc : ∀ (s : State) (H : Heap) (locs : List Loc), VX g s → PX g s s.heap → va_S (gA g) s.heap H locs → Rep g ρ S H → ∃ cell : Cell, H[ad g k]? = some cell ∧ cell.vm.isStatics = false ∧ s.vm.findClass C = some cell.cls) (hn : As.length = n ∧ (parseMethodDescriptor M2.1.desc).map (fun d => d.parameters.length) = some n) (hw : (st.map fun v => v.category).sum ≤ 8) (hc1 : rc ρ1 ≤ rc ρ') (hu1 : ru ρ1 ≤ ru ρ') {st0 : List Value} (hst : st0 = As.reverse ++ .ref k :: st) (h : CALLa g d M2 (.ref k :: As) ρ ρ1 S (fun v S' => AW g ρ' Q (d + 1) M (pc + 3) ls (.ref v :: st) ρ1 S')) : AW g ρ' Q (d + 1) M pc ls st0 ρ S :=
  AW_callV hd0 hM hC hlk hin hse hrc hn hw hc1 hu1 hst (CALL.mono h (fun _ S' _ ⟨v, e, q⟩ => e ▸ q))
theorem AW_callVv {idx n : Nat} {M2 : MD} {As : List Value} {ρ1 : Rs} {C : String} {k : Nat} (hd0 : decode M.2.1 pc = .ok (.invokevirtual idx, 3)) (hM : Md M2) (hC : M2.1.cls = C) (hlk : Cond.methodLink M.1.cls idx M2.1 ∈ Wg) (hin : Cond.instanceMethod M2.1 ∈ Wg) (hse : Cond.selects C M2.1 M2.1 ∈ Wg) (hrc : ∀ (s : State) (H : Heap) (locs : List Loc), VX g s → PX g s s.heap → va_S (gA g) s.heap H locs → Rep g ρ S H → ∃ cell : Cell, H[ad g k]? = some cell ∧ cell.vm.isStatics = false ∧ s.vm.findClass C = some cell.cls) (hn : As.length = n ∧ (parseMethodDescriptor M2.1.desc).map (fun d => d.parameters.length) = some n) (hw : (st.map fun v => v.category).sum ≤ 8) (hc1 : rc ρ1 ≤ rc ρ') (hu1 : ru ρ1 ≤ ru ρ') {st0 : List Value} (hst : st0 = As.reverse ++ .ref k :: st) (h : CALLv g d M2 (.ref k :: As) ρ ρ1 S (fun S' => AW g ρ' Q (d + 1) M (pc + 3) ls st ρ1 S')) : AW g ρ' Q (d + 1) M pc ls st0 ρ S :=
  AW_callV hd0 hM hC hlk hin hse hrc hn hw hc1 hu1 hst (CALL.mono h (fun _ S' _ ⟨e, q⟩ => e ▸ q))
theorem AW_callSi {idx n : Nat} {M2 : MD} {As : List Value} {ρ1 : Rs}  (hd0 : decode M.2.1 pc = .ok (.invokestatic idx, 3)) (hM : Md M2) (hlk : Cond.methodLink M.1.cls idx M2.1 ∈ Wg) (hse : Cond.static M2.1 ∈ Wg) (hn : As.length = n ∧ (parseMethodDescriptor M2.1.desc).map (fun d => d.parameters.length) = some n) (hw : (st.map fun v => v.category).sum ≤ 8) (hc1 : rc ρ1 ≤ rc ρ') (hu1 : ru ρ1 ≤ ru ρ') {st0 : List Value} (hst : st0 = As.reverse ++ st) (h : CALLi g d M2 As ρ ρ1 S (fun v S' => AW g ρ' Q (d + 1) M (pc + 3) ls (.int v :: st) ρ1 S')) : AW g ρ' Q (d + 1) M pc ls st0 ρ S :=
  AW_callS hd0 hM hlk hse hn hw hc1 hu1 hst (CALL.mono h (fun _ S' _ ⟨v, e, q⟩ => e ▸ q))
theorem AW_callSl {idx n : Nat} {M2 : MD} {As : List Value} {ρ1 : Rs}  (hd0 : decode M.2.1 pc = .ok (.invokestatic idx, 3)) (hM : Md M2) (hlk : Cond.methodLink M.1.cls idx M2.1 ∈ Wg) (hse : Cond.static M2.1 ∈ Wg) (hn : As.length = n ∧ (parseMethodDescriptor M2.1.desc).map (fun d => d.parameters.length) = some n) (hw : (st.map fun v => v.category).sum ≤ 8) (hc1 : rc ρ1 ≤ rc ρ') (hu1 : ru ρ1 ≤ ru ρ') {st0 : List Value} (hst : st0 = As.reverse ++ st) (h : CALLl g d M2 As ρ ρ1 S (fun v S' => AW g ρ' Q (d + 1) M (pc + 3) ls (.long v :: st) ρ1 S')) : AW g ρ' Q (d + 1) M pc ls st0 ρ S :=
  AW_callS hd0 hM hlk hse hn hw hc1 hu1 hst (CALL.mono h (fun _ S' _ ⟨v, e, q⟩ => e ▸ q))
theorem AW_callSf {idx n : Nat} {M2 : MD} {As : List Value} {ρ1 : Rs}  (hd0 : decode M.2.1 pc = .ok (.invokestatic idx, 3)) (hM : Md M2) (hlk : Cond.methodLink M.1.cls idx M2.1 ∈ Wg) (hse : Cond.static M2.1 ∈ Wg) (hn : As.length = n ∧ (parseMethodDescriptor M2.1.desc).map (fun d => d.parameters.length) = some n) (hw : (st.map fun v => v.category).sum ≤ 8) (hc1 : rc ρ1 ≤ rc ρ') (hu1 : ru ρ1 ≤ ru ρ') {st0 : List Value} (hst : st0 = As.reverse ++ st) (h : CALLf g d M2 As ρ ρ1 S (fun v S' => AW g ρ' Q (d + 1) M (pc + 3) ls (.float v :: st) ρ1 S')) : AW g ρ' Q (d + 1) M pc ls st0 ρ S :=
  AW_callS hd0 hM hlk hse hn hw hc1 hu1 hst (CALL.mono h (fun _ S' _ ⟨v, e, q⟩ => e ▸ q))
theorem AW_callSd {idx n : Nat} {M2 : MD} {As : List Value} {ρ1 : Rs}  (hd0 : decode M.2.1 pc = .ok (.invokestatic idx, 3)) (hM : Md M2) (hlk : Cond.methodLink M.1.cls idx M2.1 ∈ Wg) (hse : Cond.static M2.1 ∈ Wg) (hn : As.length = n ∧ (parseMethodDescriptor M2.1.desc).map (fun d => d.parameters.length) = some n) (hw : (st.map fun v => v.category).sum ≤ 8) (hc1 : rc ρ1 ≤ rc ρ') (hu1 : ru ρ1 ≤ ru ρ') {st0 : List Value} (hst : st0 = As.reverse ++ st) (h : CALLd g d M2 As ρ ρ1 S (fun v S' => AW g ρ' Q (d + 1) M (pc + 3) ls (.double v :: st) ρ1 S')) : AW g ρ' Q (d + 1) M pc ls st0 ρ S :=
  AW_callS hd0 hM hlk hse hn hw hc1 hu1 hst (CALL.mono h (fun _ S' _ ⟨v, e, q⟩ => e ▸ q))
theorem AW_callSa {idx n : Nat} {M2 : MD} {As : List Value} {ρ1 : Rs}  (hd0 : decode M.2.1 pc = .ok (.invokestatic idx, 3)) (hM : Md M2) (hlk : Cond.methodLink M.1.cls idx M2.1 ∈ Wg) (hse : Cond.static M2.1 ∈ Wg) (hn : As.length = n ∧ (parseMethodDescriptor M2.1.desc).map (fun d => d.parameters.length) = some n) (hw : (st.map fun v => v.category).sum ≤ 8) (hc1 : rc ρ1 ≤ rc ρ') (hu1 : ru ρ1 ≤ ru ρ') {st0 : List Value} (hst : st0 = As.reverse ++ st) (h : CALLa g d M2 As ρ ρ1 S (fun v S' => AW g ρ' Q (d + 1) M (pc + 3) ls (.ref v :: st) ρ1 S')) : AW g ρ' Q (d + 1) M pc ls st0 ρ S :=
  AW_callS hd0 hM hlk hse hn hw hc1 hu1 hst (CALL.mono h (fun _ S' _ ⟨v, e, q⟩ => e ▸ q))
theorem AW_callSv {idx n : Nat} {M2 : MD} {As : List Value} {ρ1 : Rs}  (hd0 : decode M.2.1 pc = .ok (.invokestatic idx, 3)) (hM : Md M2) (hlk : Cond.methodLink M.1.cls idx M2.1 ∈ Wg) (hse : Cond.static M2.1 ∈ Wg) (hn : As.length = n ∧ (parseMethodDescriptor M2.1.desc).map (fun d => d.parameters.length) = some n) (hw : (st.map fun v => v.category).sum ≤ 8) (hc1 : rc ρ1 ≤ rc ρ') (hu1 : ru ρ1 ≤ ru ρ') {st0 : List Value} (hst : st0 = As.reverse ++ st) (h : CALLv g d M2 As ρ ρ1 S (fun S' => AW g ρ' Q (d + 1) M (pc + 3) ls st ρ1 S')) : AW g ρ' Q (d + 1) M pc ls st0 ρ S :=
  AW_callS hd0 hM hlk hse hn hw hc1 hu1 hst (CALL.mono h (fun _ S' _ ⟨e, q⟩ => e ▸ q))
theorem AW_callIv {idx n : Nat} {M2 : MD} {As : List Value} {ρ1 : Rs} {k : Nat} (hd0 : decode M.2.1 pc = .ok (.invokespecial idx, 3)) (hM : Md M2) (hlk : Cond.methodLink M.1.cls idx M2.1 ∈ Wg) (hin : Cond.instanceMethod M2.1 ∈ Wg) (hnm : M2.1.name = "<init>") (hrt : M2.2.2.2 = none) (hn : As.length = n ∧ (parseMethodDescriptor M2.1.desc).map (fun d => d.parameters.length) = some n) (hw : (st.map fun v => v.category).sum ≤ 8) (hc1 : rc ρ1 ≤ rc ρ') (hu1 : ru ρ1 ≤ ru ρ') {st0 : List Value} (hst : st0 = As.reverse ++ .ref k :: st) (h : CALLv g d M2 (.ref k :: As) ρ ρ1 S (fun S' => AW g ρ' Q (d + 1) M (pc + 3) ls st ρ1 S')) : AW g ρ' Q (d + 1) M pc ls st0 ρ S :=
  AW_callI hd0 hM hlk hin hnm hrt hn hw hc1 hu1 hst (CALL.mono h (fun _ S' _ ⟨e, q⟩ => e ▸ q))
theorem AW_callNv {idx n : Nat} {M2 : MD} {As : List Value} {ρ1 : Rs} {k : Nat} {host : String} (hd0 : decode M.2.1 pc = .ok (.invokespecial idx, 3)) (hM : Md M2) (hlk : Cond.methodLinkNest M.1.cls idx M2.1 host ∈ Wn) (hin : Cond.instanceMethod M2.1 ∈ Wg) (hnm : M2.1.name = "<init>") (hrt : M2.2.2.2 = none) (hn : As.length = n ∧ (parseMethodDescriptor M2.1.desc).map (fun d => d.parameters.length) = some n) (hw : (st.map fun v => v.category).sum ≤ 8) (hc1 : rc ρ1 ≤ rc ρ') (hu1 : ru ρ1 ≤ ru ρ') {st0 : List Value} (hst : st0 = As.reverse ++ .ref k :: st) (h : CALLv g d M2 (.ref k :: As) ρ ρ1 S (fun S' => AW g ρ' Q (d + 1) M (pc + 3) ls st ρ1 S')) : AW g ρ' Q (d + 1) M pc ls st0 ρ S :=
  AW_callN hd0 hM hlk hin hnm hrt hn hw hc1 hu1 hst (CALL.mono h (fun _ S' _ ⟨e, q⟩ => e ▸ q))
end Help
