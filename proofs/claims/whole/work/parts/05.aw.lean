-- THE MACHINE'S SIDE. What holds of the tables and of what was there before the run, at any state of it
def txW : List String := ["table", "rows", "columns", "row", "hole"]
def kRW : List Nat := [70, 76, 84, 88, 98]
def kMW : List Nat := [115, 121, 126, 128, 136]
def lenW : List Nat := [5, 4, 7, 3, 4]
def bytW : List (List Int32) := [[116, 97, 98, 108, 101], [114, 111, 119, 115], [99, 111, 108, 117, 109, 110, 115], [114, 111, 119], [104, 111, 108, 101]]
def facL : List Int64 := [1, 1, 2, 6, 24, 120, 720, 5040, 40320, 362880, 3628800, 39916800, 479001600, 6227020800, 87178291200, 1307674368000, 20922789888000, 355687428096000, 6402373705728000, 121645100408832000, 2432902008176640000]
def Wn : List Cond := [.methodLinkNest "CountTables" 11 ⟨"CountTables$Tape", "<init>", "()V"⟩ "CountTables", .methodLinkNest "CountTables" 18 ⟨"CountTables$Reader", "<init>", "()V"⟩ "CountTables", .methodLinkNest "CountTables" 25 ⟨"CountTables$Sheet", "<init>", "()V"⟩ "CountTables", .methodLinkNest "CountTables" 32 ⟨"CountTables$Dice", "<init>", "()V"⟩ "CountTables", .methodLinkNest "CountTables" 39 ⟨"CountTables$Moves", "<init>", "()V"⟩ "CountTables", .methodLinkNest "CountTables" 46 ⟨"CountTables$Fiber", "<init>", "()V"⟩ "CountTables", .methodLinkNest "CountTables$Fiber" 11 ⟨"CountTables$Fills", "<init>", "()V"⟩ "CountTables"]
def Wg : List Cond := lw_tbl.filter goodWord
def VX (g : GX) (U : State) : Prop := va_K (gD g) vwCl (tysO g) U ∧ (∀ w ∈ Wn, va_Nw w U) ∧ (∀ i, i < 5 → vk_R "CountTables$Reader" (kRW.getD i 0) (txW.getD i "") (ad g i) U ∧ vk_R "CountTablesModel" (kMW.getD i 0) (txW.getD i "") (ad g i) U) ∧ True
def PX (g : GX) (U : State) (H : Heap) : Prop := va_Z "CountTables$Fills" "FACTORIALS" "[J" (.ref (ad g 10)) (gA g) U H ∧ va_T .long (ad g 10) 21 (fun j => .long (facL.getD j 0)) (gA g) U H ∧ vk_S 5 lenW bytW (ad g) (fun i => ad g (5 + i)) (gA g) U H ∧ va_Z "java/lang/String" "COMPACT_STRINGS" "Z" (.int 1) (gA g) U H ∧ (va_Z "jdk/internal/util/Preconditions" "SIOOBE_FORMATTER" "Ljava/util/function/BiFunction;" .null (gA g) U H ∨ va_Z "jdk/internal/util/Preconditions" "SIOOBE_FORMATTER" "Ljava/util/function/BiFunction;" (.ref (ad g 12)) (gA g) U H) ∧ va_X (ad g 11) (gN g) (gX g) U H ∧ ¬ gA g (ad g 11) ∧ ad g 11 < H.size
theorem Wn_warm {w : Cond} (hw : w ∈ Wn) {s U : State} (hW : s.WarmedH U.vm) (h : va_Nw w s) : va_Nw w U := by
  simp only [Wn, List.mem_cons, List.not_mem_nil, or_false] at hw
  rcases hw with rfl | rfl | rfl | rfl | rfl | rfl | rfl <;> exact va_Nw.warmM hW h
theorem VX.warm {g : GX} {s U : State} (hW : s.WarmedH U.vm) (h : VX g s) : VX g U :=
  ⟨va_K.moved hW.alike h.1, fun w hw => Wn_warm hw hW (h.2.1 w hw), fun i hi => ⟨(h.2.2.1 i hi).1.warm hW, (h.2.2.1 i hi).2.warm hW⟩, trivial⟩
theorem Wn_tabs {w : Cond} (hw : w ∈ Wn) : w.onTables = true := by
  simp only [Wn, List.mem_cons, List.not_mem_nil, or_false] at hw
  rcases hw with rfl | rfl | rfl | rfl | rfl | rfl | rfl <;> rfl
theorem VX.same {g : GX} {u U : State} (h : u.vm = U.vm) (hv : VX g u) : VX g U :=
  ⟨va_K.moved (by rw [h]; exact Vm.Alike.refl U.vm) hv.1, fun w hw => va_Nw.same (Wn_tabs hw) h (hv.2.1 w hw), fun i hi => ⟨(hv.2.2.1 i hi).1.same h.symm, (hv.2.2.1 i hi).2.same h.symm⟩, trivial⟩
theorem PX.moved {g : GX} {s U : State} {H : Heap} (hvm : s.vm.Alike U.vm) (h : PX g s H) : PX g U H :=
  ⟨h.1.moved hvm, h.2.1.moved hvm, h.2.2.1.moved hvm, h.2.2.2.1.moved hvm, h.2.2.2.2.1.imp (fun q => q.moved hvm) (fun q => q.moved hvm), h.2.2.2.2.2.1.moved hvm, h.2.2.2.2.2.2⟩
theorem PX.kept {g : GX} {U : State} {H H1 : Heap} (h : PX g U H) (hs : H.size ≤ H1.size) (hq : ∀ a : Nat, a < H.size → ¬ gA g a → H1[a]? = H[a]?) : PX g U H1 :=
  ⟨h.1.kept hq, h.2.1.kept hq, h.2.2.1.kept hq, h.2.2.2.1.kept hq, h.2.2.2.2.1.imp (fun q => q.kept hq) (fun q => q.kept hq), h.2.2.2.2.2.1.kept (hq _ h.2.2.2.2.2.2.2 h.2.2.2.2.2.2.1), h.2.2.2.2.2.2.1, Nat.lt_of_lt_of_le h.2.2.2.2.2.2.2 hs⟩
/-- at the start of a method -/
def Fx (g : GX) (M : MD) (p : Program) (s : State) (m : MethodId) (args : Array Value) (meth : Method) (c : Code) : Prop :=
  p.tables.exec = Jvm.exec ∧ c.code = M.2.1 ∧ meth.sig.returnType = M.2.2.2 ∧ c.maxLocals = M.2.2.1 ∧ s.vm.findClass M.1.cls = some m.cls ∧ (∀ w ∈ Wg, w.before args s = true) ∧ meth.locks = false ∧ meth.name = M.1.name ∧ VX g s ∧ PX g s s.heap ∧ gB g ≤ s.heap.size
/-- at a return instruction, with the answer r on the stack -/
def Rt (M : MD) (pc : Nat) (r : Option Value) (st : List Value) : Prop :=
  (∃ v, decode M.2.1 pc = .ok (.ireturn, 1) ∧ r = some (.int v) ∧ st = [.int v] ∧ ∃ ty, M.2.2.2 = some ty ∧ narrow ty (.int v) = .int v) ∨
  (∃ v, decode M.2.1 pc = .ok (.lreturn, 1) ∧ r = some (.long v) ∧ st = [.long v] ∧ M.2.2.2 = some .long) ∨
  (∃ v, decode M.2.1 pc = .ok (.freturn, 1) ∧ r = some (.float v) ∧ st = [.float v] ∧ M.2.2.2 = some .float) ∨
  (∃ v, decode M.2.1 pc = .ok (.dreturn, 1) ∧ r = some (.double v) ∧ st = [.double v] ∧ M.2.2.2 = some .double) ∨
  (∃ k ty, decode M.2.1 pc = .ok (.areturn, 1) ∧ r = some (.ref k) ∧ st = [.ref k] ∧ M.2.2.2 = some ty ∧ ((∃ n, ty = FieldType.object n) ∨ ∃ t, ty = FieldType.array t)) ∨
  (decode M.2.1 pc = .ok (.return_, 1) ∧ r = none ∧ st = [] ∧ M.2.2.2 = none)
def AW (g : GX) (ρ' : Rs) (Q : Option Value → St → Prop) (d : Nat) (M : MD) (pc : Nat) (ls : List (Nat × Value)) (st : List Value) (ρ : Rs) (S : St) : Prop :=
  ∀ (p : Program) (e : Env) (R : Room) (s : State) (m : MethodId) (args : Array Value) (below : List Frame) (meth : Method) (c : Code) (H : Heap) (locs : List Loc) (cells slots c0 u0 : Nat) (Z : State → Prop) (la : Array Slot),
    Fx g M p s m args meth c → d ≤ R.frames → 40 * d ≤ R.locals → rc ρ' ≤ R.cells + c0 → ru ρ' ≤ R.slots + u0 → cells + c0 = rc ρ → slots + u0 = ru ρ →
    Rep g ρ S H → va_S (gA g) s.heap H locs → lv_has la M.2.2.1 (ls.map (vmp g)) →
    (∀ (r : Option Value) (S' : St) (H' : Heap) (locs' : List Loc) (la' : Array Slot) (pc' : Nat) (st' : List Value), Rt M pc' r st' → Q r S' → Fr (gF g) S S' → Rep g ρ' S' H' → va_S (gA g) s.heap H' locs' →
      W p (gL g) e R s m args below meth c H' locs' (rc ρ' - c0) (ru ρ' - u0) Z (F0 m pc' la' (st'.map (vmv g)))) →
    W p (gL g) e R s m args below meth c H locs cells slots Z (F0 m pc la (st.map (vmv g)))
def Pco (g : GX) (ρ : Rs) (S : St) (av : List Value) : Array Value → State → Prop := fun v U => v = (av.map (vmv g)).toArray ∧ Rep g ρ S U.heap ∧ VX g U ∧ PX g U U.heap ∧ gB g ≤ U.heap.size
def Qco (g : GX) (ρ' : Rs) (Q : Option Value → St → Prop) : Array Value → State → Outcome → State → Prop := fun _ st oc t => ∃ (r : Option Value) (S' : St), oc = .returned (r.map (vmv g)) ∧ Q r S' ∧ Rep g ρ' S' t.heap ∧ va_F (gA g) st t
def rmo (d : Nat) (ρ ρ' : Rs) : Room := { frames := d, cells := rc ρ' - rc ρ, slots := ru ρ' - ru ρ, locals := 40 * d }
def CALL (g : GX) (d : Nat) (M : MD) (av : List Value) (ρ ρ' : Rs) (S : St) (Q : Option Value → St → Prop) : Prop :=
  rc ρ ≤ rc ρ' ∧ ru ρ ≤ ru ρ' ∧ ∀ Q2 : Option Value → St → Prop, (∀ r S', Q r S' → Fr (gF g) S S' → Q2 r S') →
    Met (gL g) M.1 (.code M.1 M.2.1 M.2.2.1 M.2.2.2 :: Wg) (rmo d ρ ρ') (Pco g ρ S av) (Qco g ρ' Q2) (rc ρ' - rc ρ) (ru ρ' - ru ρ) (gA g)
def CALLi (g : GX) (d : Nat) (M : MD) (av : List Value) (ρ ρ' : Rs) (S : St) (Q : Int32 → St → Prop) : Prop := CALL g d M av ρ ρ' S (fun r S' => ∃ v, r = some (.int v) ∧ Q v S')
def CALLl (g : GX) (d : Nat) (M : MD) (av : List Value) (ρ ρ' : Rs) (S : St) (Q : Int64 → St → Prop) : Prop := CALL g d M av ρ ρ' S (fun r S' => ∃ v, r = some (.long v) ∧ Q v S')
def CALLf (g : GX) (d : Nat) (M : MD) (av : List Value) (ρ ρ' : Rs) (S : St) (Q : UInt32 → St → Prop) : Prop := CALL g d M av ρ ρ' S (fun r S' => ∃ v, r = some (.float v) ∧ Q v S')
def CALLd (g : GX) (d : Nat) (M : MD) (av : List Value) (ρ ρ' : Rs) (S : St) (Q : UInt64 → St → Prop) : Prop := CALL g d M av ρ ρ' S (fun r S' => ∃ v, r = some (.double v) ∧ Q v S')
def CALLa (g : GX) (d : Nat) (M : MD) (av : List Value) (ρ ρ' : Rs) (S : St) (Q : Nat → St → Prop) : Prop := CALL g d M av ρ ρ' S (fun r S' => ∃ v, r = some (.ref v) ∧ Q v S')
def CALLv (g : GX) (d : Nat) (M : MD) (av : List Value) (ρ ρ' : Rs) (S : St) (Q : St → Prop) : Prop := CALL g d M av ρ ρ' S (fun r S' => r = none ∧ Q S')
theorem CALL.mono {g : GX} {d : Nat} {M : MD} {av : List Value} {ρ ρ' : Rs} {S : St} {Q Q' : Option Value → St → Prop} (h : CALL g d M av ρ ρ' S Q) (hq : ∀ r S', Fr (gF g) S S' → Q r S' → Q' r S') : CALL g d M av ρ ρ' S Q' :=
  ⟨h.1, h.2.1, fun Q2 h2 => h.2.2 Q2 (fun r S' a f => h2 r S' (hq r S' f a) f)⟩
theorem CALLi.mono {g : GX} {d : Nat} {M : MD} {av : List Value} {ρ ρ' : Rs} {S : St} {Q Q' : Int32 → St → Prop} (h : CALLi g d M av ρ ρ' S Q) (hq : ∀ v S', Fr (gF g) S S' → Q v S' → Q' v S') : CALLi g d M av ρ ρ' S Q' :=
  CALL.mono h (fun _ S' f ⟨v, e, q⟩ => ⟨v, e, hq v S' f q⟩)
theorem CALLl.mono {g : GX} {d : Nat} {M : MD} {av : List Value} {ρ ρ' : Rs} {S : St} {Q Q' : Int64 → St → Prop} (h : CALLl g d M av ρ ρ' S Q) (hq : ∀ v S', Fr (gF g) S S' → Q v S' → Q' v S') : CALLl g d M av ρ ρ' S Q' :=
  CALL.mono h (fun _ S' f ⟨v, e, q⟩ => ⟨v, e, hq v S' f q⟩)
theorem CALLf.mono {g : GX} {d : Nat} {M : MD} {av : List Value} {ρ ρ' : Rs} {S : St} {Q Q' : UInt32 → St → Prop} (h : CALLf g d M av ρ ρ' S Q) (hq : ∀ v S', Fr (gF g) S S' → Q v S' → Q' v S') : CALLf g d M av ρ ρ' S Q' :=
  CALL.mono h (fun _ S' f ⟨v, e, q⟩ => ⟨v, e, hq v S' f q⟩)
theorem CALLd.mono {g : GX} {d : Nat} {M : MD} {av : List Value} {ρ ρ' : Rs} {S : St} {Q Q' : UInt64 → St → Prop} (h : CALLd g d M av ρ ρ' S Q) (hq : ∀ v S', Fr (gF g) S S' → Q v S' → Q' v S') : CALLd g d M av ρ ρ' S Q' :=
  CALL.mono h (fun _ S' f ⟨v, e, q⟩ => ⟨v, e, hq v S' f q⟩)
theorem CALLa.mono {g : GX} {d : Nat} {M : MD} {av : List Value} {ρ ρ' : Rs} {S : St} {Q Q' : Nat → St → Prop} (h : CALLa g d M av ρ ρ' S Q) (hq : ∀ v S', Fr (gF g) S S' → Q v S' → Q' v S') : CALLa g d M av ρ ρ' S Q' :=
  CALL.mono h (fun _ S' f ⟨v, e, q⟩ => ⟨v, e, hq v S' f q⟩)
theorem CALLv.mono {g : GX} {d : Nat} {M : MD} {av : List Value} {ρ ρ' : Rs} {S : St} {Q Q' : St → Prop} (h : CALLv g d M av ρ ρ' S Q) (hq : ∀ S', Fr (gF g) S S' → Q S' → Q' S') : CALLv g d M av ρ ρ' S Q' :=
  CALL.mono h (fun _ S' f ⟨e, q⟩ => ⟨e, hq S' f q⟩)
theorem vmv_cat (g : GX) (v : Value) : (vmv g v).category = v.category := by cases v <;> rfl
theorem vmv_args (g : GX) : ∀ (av : List Value) (i : Nat), (lv_args i av).map (vmp g) = lv_args i (av.map (vmv g))
  | [], _ => rfl
  | v :: vs, i => by
    simp only [lv_args, List.map_cons, vmv_cat]
    rw [vmv_args g vs]
    rfl
theorem AW.mono {g : GX} {ρ' : Rs} {Q Q' : Option Value → St → Prop} {d : Nat} {M : MD} {pc : Nat} {ls : List (Nat × Value)} {st : List Value} {ρ : Rs} {S : St} (h : AW g ρ' Q d M pc ls st ρ S) (hq : ∀ r S', Fr (gF g) S S' → Q r S' → Q' r S') : AW g ρ' Q' d M pc ls st ρ S := by
  intro p e R s m args below meth c H locs cells slots c0 u0 Z la hF hd hl hc hu ec eu hR hS hv hz
  exact h p e R s m args below meth c H locs cells slots c0 u0 Z la hF hd hl hc hu ec eu hR hS hv (fun r S' H' locs' la' pc' st' h1 h2 h3 h4 h5 => hz r S' H' locs' la' pc' st' h1 (hq r S' h3 h2) h3 h4 h5)
theorem lg_len (av : List Value) : (lg_sl av).length = (av.map fun v => v.category).sum := by
  induction av with
  | nil => rfl
  | cons v vs ih =>
    simp only [lg_sl, List.flatMap_cons, List.length_append, List.map_cons, List.sum_cons]
    rw [show (List.flatMap (fun v => if v.category = 2 then [Slot.val v, Slot.second] else [Slot.val v]) vs).length = _ from ih]
    rcases lv_cat v with h | h <;> simp [h]
theorem ofWF {l : Launch} {y : MethodName} {ws ws' : List Cond} {rm : Room} {Pc : Array Value → State → Prop} {Qc : Array Value → State → Outcome → State → Prop} {mc ms : Nat} {free : Addr → Prop} {cc : ByteArray} {maxL : Nat} {ret : Option FieldType}
    (hy : plainFor y = true) (hw : ws = Cond.code y cc maxL ret :: ws')
    (body : ∀ p e s m args below meth c s₁, BodyLoose p l y (headSpec ws rm) cc maxL ret e s m args below meth c s₁ → c.maxLocals = maxL → Pc args s →
      W p l e (headSpec ws rm).room s m args below meth c s.heap [] 0 0 (MQ below Qc args s mc ms free) (entryFrame m args maxL)) : Met l y ws rm Pc Qc mc ms free := by
  refine MetFree.of_bodySF (code := cc) (maxLocals := maxL) (ret := ret) hy ?_ ?_
  · intro args s m h hn
    obtain ⟨meth, c, h1, h2, h3, h4, h5, h6, -, -⟩ := Cond.code_spec hn (atoms_spec (ws := ws) h _ (by rw [hw]; exact List.mem_cons_self))
    exact ⟨meth, c, h1, h2, h3, h4, h5, h6⟩
  · intro p e s m args below meth c s₁ B hml hP _
    have hh0 : s₁.heap = s.heap := by rw [B.state]; rfl
    obtain ⟨t, a1, o, b1, b2, b3⟩ := body p e s m args below meth c s₁ B hml hP s₁ hh0 (Stand.of_body B)
    exact ⟨t, o, a1, b1, b2, ⟨b3.1, b3.2⟩⟩
/-- a method's contract out of its walk -/
theorem CALL.of {g : GX} {ρ ρ' : Rs} {Q : Option Value → St → Prop} {d : Nat} {M : MD} {av : List Value} {S : St} (hpl : plainFor M.1 = true) (hn : (av.map fun v => v.category).sum ≤ M.2.2.1) (hc : rc ρ ≤ rc ρ') (hu : ru ρ ≤ ru ρ')
    (h : AW g ρ' Q d M 0 (lv_args 0 av) [] ρ S) : CALL g d M av ρ ρ' S Q := by
  refine ⟨hc, hu, fun Q2 hq => ?_⟩
  refine ofWF (cc := M.2.1) (maxL := M.2.2.1) (ret := M.2.2.2) hpl rfl ?_
  intro p e s m args below meth c s₁ B hml hv
  obtain ⟨rfl, hR, hV, hP, hB⟩ := hv
  have hlk := B.notSynchronized
  have hnm : meth.name = M.1.name := (name_of_methodNamed B.named B.method).1
  have hts : ∀ w ∈ Wg, w.before _ s = true := fun w hw => atoms_spec (ws := .code M.1 M.2.1 M.2.2.1 M.2.2.2 :: Wg) B.pre w (List.mem_cons_of_mem _ hw)
  have hF : Fx g M p s m (av.map (vmv g)).toArray meth c := ⟨B.exec, B.bytes, B.returns, hml, findClass_of_methodNamed B.named, hts, hlk, hnm, hV, hP, hB⟩
  have hlen : (lg_sl (av.map (vmv g))).length ≤ M.2.2.1 := by
    rw [lg_len, List.map_map]
    refine Nat.le_trans (Nat.le_of_eq (congrArg List.sum (List.map_congr_left fun v _ => vmv_cat g v))) hn
  have hl := lv_entry (av.map (vmv g)) (n := M.2.2.1) hlen
  rw [lg_entry_eq]
  generalize (lg_sl (av.map (vmv g)) ++ List.replicate (M.2.2.1 - (lg_sl (av.map (vmv g))).length) Slot.unset).toArray = ls at hl ⊢
  rw [← vmv_args] at hl
  refine h p e (rmo d ρ ρ') s m _ below meth c s.heap [] 0 0 (rc ρ) (ru ρ) _ ls hF (Nat.le_refl _) (Nat.le_refl _) ?_ ?_ (Nat.zero_add _) (Nat.zero_add _) hR va_S.rf hl ?_
  · show rc ρ' ≤ rc ρ' - rc ρ + rc ρ; omega
  · show ru ρ' ≤ ru ρ' - ru ρ + ru ρ; omega
  · intro r S' H' locs' la' pc' st' hrt hQ hf hR' hS'
    have hq2 := hq r S' hQ hf
    rcases hrt with ⟨v, h1, rfl, rfl, ty, h2, h3⟩ | ⟨v, h1, rfl, rfl, h2⟩ | ⟨v, h1, rfl, rfl, h2⟩ | ⟨v, h1, rfl, rfl, h2⟩ | ⟨k, ty, h1, rfl, rfl, h2, h3⟩ | ⟨h1, rfl, rfl, h2⟩
    · exact W.zret (ty := ty) hF.1 hF.2.1 (hF.2.2.1.trans h2) h3 (fun t ht _ => ⟨_, S', rfl, hq2, by rw [ht]; exact hR', hS'.F ht⟩) hS'.2.2 h1 hlk
    · exact W.lret hF.1 hF.2.1 (hF.2.2.1.trans h2) (fun t ht _ => ⟨_, S', rfl, hq2, by rw [ht]; exact hR', hS'.F ht⟩) hS'.2.2 h1 hlk
    · exact W.fret hF.1 hF.2.1 (hF.2.2.1.trans h2) (fun t ht _ => ⟨_, S', rfl, hq2, by rw [ht]; exact hR', hS'.F ht⟩) hS'.2.2 h1 hlk
    · exact W.dret hF.1 hF.2.1 (hF.2.2.1.trans h2) (fun t ht _ => ⟨_, S', rfl, hq2, by rw [ht]; exact hR', hS'.F ht⟩) hS'.2.2 h1 hlk
    · exact W.aret hF.1 hF.2.1 (hF.2.2.1.trans h2) h3 (Or.inr ⟨_, rfl⟩) (fun t ht _ => ⟨_, S', rfl, hq2, by rw [ht]; exact hR', hS'.F ht⟩) hS'.2.2 h1 hlk
    · exact W.vret hF.1 hF.2.1 (hF.2.2.1.trans h2) (fun t ht _ => ⟨_, S', rfl, hq2, by rw [ht]; exact hR', hS'.F ht⟩) hS'.2.2 h1 hlk
