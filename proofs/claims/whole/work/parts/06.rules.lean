section Rules
variable {g : GX} {ρ' : Rs} {Q : Option Value → St → Prop} {d : Nat} {M : MD} {pc : Nat} {ls : List (Nat × Value)} {st : List Value} {ρ : Rs} {S : St}
theorem AW.pure {pc' : Nat} {st' : List Value} (h : ∀ (p : Program) (e : Env) (R : Room) (s : State) (m : MethodId) (args : Array Value) (below : List Frame) (meth : Method) (c : Code) (H : Heap) (locs : List Loc) (cells slots : Nat) (Z : State → Prop) (la : Array Slot), p.tables.exec = Jvm.exec → c.code = M.2.1 →
      W p (gL g) e R s m args below meth c H locs cells slots Z (F0 m pc' la (st'.map (vmv g))) → W p (gL g) e R s m args below meth c H locs cells slots Z (F0 m pc la (st.map (vmv g))))
    (k : AW g ρ' Q d M pc' ls st' ρ S) : AW g ρ' Q d M pc ls st ρ S := by
  intro p e R s m args below meth c H locs cells slots c0 u0 Z la hF hd hL hc hu ec eu hR hS hv hz
  exact h p e R s m args below meth c H locs cells slots Z la hF.1 hF.2.1 (k p e R s m args below meth c H locs cells slots c0 u0 Z la hF hd hL hc hu ec eu hR hS hv hz)
/-- the same, with what the tables say -/
theorem AW.tabl {pc' : Nat} {st' : List Value} (h : ∀ (p : Program) (e : Env) (R : Room) (s : State) (m : MethodId) (args : Array Value) (below : List Frame) (meth : Method) (c : Code) (H : Heap) (locs : List Loc) (cells slots : Nat) (Z : State → Prop) (la : Array Slot), Fx g M p s m args meth c →
      W p (gL g) e R s m args below meth c H locs cells slots Z (F0 m pc' la (st'.map (vmv g))) → W p (gL g) e R s m args below meth c H locs cells slots Z (F0 m pc la (st.map (vmv g))))
    (k : AW g ρ' Q d M pc' ls st' ρ S) : AW g ρ' Q d M pc ls st ρ S := by
  intro p e R s m args below meth c H locs cells slots c0 u0 Z la hF hd hL hc hu ec eu hR hS hv hz
  exact h p e R s m args below meth c H locs cells slots Z la hF (k p e R s m args below meth c H locs cells slots c0 u0 Z la hF hd hL hc hu ec eu hR hS hv hz)
theorem lv_pick_map (f : Nat × Value → Nat × Value) (l : List (Nat × Value)) (ks : List Nat) : lv_pick (l.map f) ks = (lv_pick l ks).map f := by
  unfold lv_pick
  induction ks with
  | nil => rfl
  | cons k ks ih =>
    rw [List.filterMap_cons, List.filterMap_cons, List.getElem?_map]
    cases l[k]? with
    | none => exact ih
    | some q => exact congrArg (f q :: ·) ih
/-- fewer locals, by their places -/
theorem AW.sub {ls' : List (Nat × Value)} (ks : List Nat) (h : lv_pick ls ks = ls') (k : AW g ρ' Q d M pc ls' st ρ S) : AW g ρ' Q d M pc ls st ρ S := by
  intro p e R s m args below meth c H locs cells slots c0 u0 Z la hF hd hL hc hu ec eu hR hS hv hz
  exact k p e R s m args below meth c H locs cells slots c0 u0 Z la hF hd hL hc hu ec eu hR hS (lv_sub hv ks (by rw [lv_pick_map, h])) hz
theorem iteM {c : Prop} [Decidable c] {A B A2 B2 : Prop} (h : if c then A else B) (f : A → A2) (f2 : B → B2) : if c then A2 else B2 := by
  split
  · rename_i h1; rw [if_pos h1] at h; exact f h
  · rename_i h1; rw [if_neg h1] at h; exact f2 h
theorem AW_iadd {x y : Int32} (hd : decode M.2.1 pc = .ok (.iadd, 1)) (k : AW g ρ' Q d M (pc + 1) ls (.int (x + y) :: st) ρ S) : AW g ρ' Q d M pc ls (.int y :: .int x :: st) ρ S :=
  AW.pure (fun p e R s m args below meth c H locs cells slots Z la hx hb k => lv_iadd hx hb hd k) k
theorem AW_isub {x y : Int32} (hd : decode M.2.1 pc = .ok (.isub, 1)) (k : AW g ρ' Q d M (pc + 1) ls (.int (x - y) :: st) ρ S) : AW g ρ' Q d M pc ls (.int y :: .int x :: st) ρ S :=
  AW.pure (fun p e R s m args below meth c H locs cells slots Z la hx hb k => lv_isub hx hb hd k) k
theorem AW_imul {x y : Int32} (hd : decode M.2.1 pc = .ok (.imul, 1)) (k : AW g ρ' Q d M (pc + 1) ls (.int (x * y) :: st) ρ S) : AW g ρ' Q d M pc ls (.int y :: .int x :: st) ρ S :=
  AW.pure (fun p e R s m args below meth c H locs cells slots Z la hx hb k => lv_imul hx hb hd k) k
theorem AW_iand {x y : Int32} (hd : decode M.2.1 pc = .ok (.iand, 1)) (k : AW g ρ' Q d M (pc + 1) ls (.int (x &&& y) :: st) ρ S) : AW g ρ' Q d M pc ls (.int y :: .int x :: st) ρ S :=
  AW.pure (fun p e R s m args below meth c H locs cells slots Z la hx hb k => lv_iand hx hb hd k) k
theorem AW_ior {x y : Int32} (hd : decode M.2.1 pc = .ok (.ior, 1)) (k : AW g ρ' Q d M (pc + 1) ls (.int (x ||| y) :: st) ρ S) : AW g ρ' Q d M pc ls (.int y :: .int x :: st) ρ S :=
  AW.pure (fun p e R s m args below meth c H locs cells slots Z la hx hb k => lv_ior hx hb hd k) k
theorem AW_ixor {x y : Int32} (hd : decode M.2.1 pc = .ok (.ixor, 1)) (k : AW g ρ' Q d M (pc + 1) ls (.int (x ^^^ y) :: st) ρ S) : AW g ρ' Q d M pc ls (.int y :: .int x :: st) ρ S :=
  AW.pure (fun p e R s m args below meth c H locs cells slots Z la hx hb k => lv_ixor hx hb hd k) k
theorem AW_ishl {x y : Int32} (hd : decode M.2.1 pc = .ok (.ishl, 1)) (k : AW g ρ' Q d M (pc + 1) ls (.int (x <<< (y &&& 31)) :: st) ρ S) : AW g ρ' Q d M pc ls (.int y :: .int x :: st) ρ S :=
  AW.pure (fun p e R s m args below meth c H locs cells slots Z la hx hb k => lv_ishl hx hb hd k) k
theorem AW_ishr {x y : Int32} (hd : decode M.2.1 pc = .ok (.ishr, 1)) (k : AW g ρ' Q d M (pc + 1) ls (.int (x >>> (y &&& 31)) :: st) ρ S) : AW g ρ' Q d M pc ls (.int y :: .int x :: st) ρ S :=
  AW.pure (fun p e R s m args below meth c H locs cells slots Z la hx hb k => lv_ishr hx hb hd k) k
theorem AW_iushr {x y : Int32} (hd : decode M.2.1 pc = .ok (.iushr, 1)) (k : AW g ρ' Q d M (pc + 1) ls (.int ((x.toUInt32 >>> (y.toUInt32 &&& Int32.toUInt32 31)).toInt32) :: st) ρ S) : AW g ρ' Q d M pc ls (.int y :: .int x :: st) ρ S :=
  AW.pure (fun p e R s m args below meth c H locs cells slots Z la hx hb k => lv_iushr hx hb hd rfl k) k
theorem AW_ineg {x : Int32} (hd : decode M.2.1 pc = .ok (.ineg, 1)) (k : AW g ρ' Q d M (pc + 1) ls (.int (-x) :: st) ρ S) : AW g ρ' Q d M pc ls (.int x :: st) ρ S :=
  AW.pure (fun p e R s m args below meth c H locs cells slots Z la hx hb k => lv_ineg hx hb hd k) k
theorem AW_idiv {x y : Int32} (hd : decode M.2.1 pc = .ok (.idiv, 1)) (hne : ¬ y = 0) (k : AW g ρ' Q d M (pc + 1) ls (.int (x / y) :: st) ρ S) : AW g ρ' Q d M pc ls (.int y :: .int x :: st) ρ S :=
  AW.pure (fun p e R s m args below meth c H locs cells slots Z la hx hb k => lv_idiv hx hb hd hne k) k
theorem AW_irem {x y : Int32} (hd : decode M.2.1 pc = .ok (.irem, 1)) (hne : ¬ y = 0) (k : AW g ρ' Q d M (pc + 1) ls (.int (x - x / y * y) :: st) ρ S) : AW g ρ' Q d M pc ls (.int y :: .int x :: st) ρ S :=
  AW.pure (fun p e R s m args below meth c H locs cells slots Z la hx hb k => lv_irem hx hb hd hne k) k
theorem AW_ladd {x y : Int64} (hd : decode M.2.1 pc = .ok (.ladd, 1)) (k : AW g ρ' Q d M (pc + 1) ls (.long (x + y) :: st) ρ S) : AW g ρ' Q d M pc ls (.long y :: .long x :: st) ρ S :=
  AW.pure (fun p e R s m args below meth c H locs cells slots Z la hx hb k => lv_ladd hx hb hd k) k
theorem AW_lsub {x y : Int64} (hd : decode M.2.1 pc = .ok (.lsub, 1)) (k : AW g ρ' Q d M (pc + 1) ls (.long (x - y) :: st) ρ S) : AW g ρ' Q d M pc ls (.long y :: .long x :: st) ρ S :=
  AW.pure (fun p e R s m args below meth c H locs cells slots Z la hx hb k => lv_lsub hx hb hd k) k
theorem AW_lmul {x y : Int64} (hd : decode M.2.1 pc = .ok (.lmul, 1)) (k : AW g ρ' Q d M (pc + 1) ls (.long (x * y) :: st) ρ S) : AW g ρ' Q d M pc ls (.long y :: .long x :: st) ρ S :=
  AW.pure (fun p e R s m args below meth c H locs cells slots Z la hx hb k => lv_lmul hx hb hd k) k
theorem AW_land {x y : Int64} (hd : decode M.2.1 pc = .ok (.land, 1)) (k : AW g ρ' Q d M (pc + 1) ls (.long (x &&& y) :: st) ρ S) : AW g ρ' Q d M pc ls (.long y :: .long x :: st) ρ S :=
  AW.pure (fun p e R s m args below meth c H locs cells slots Z la hx hb k => lv_land hx hb hd k) k
theorem AW_lor {x y : Int64} (hd : decode M.2.1 pc = .ok (.lor, 1)) (k : AW g ρ' Q d M (pc + 1) ls (.long (x ||| y) :: st) ρ S) : AW g ρ' Q d M pc ls (.long y :: .long x :: st) ρ S :=
  AW.pure (fun p e R s m args below meth c H locs cells slots Z la hx hb k => lv_lor hx hb hd k) k
theorem AW_lxor {x y : Int64} (hd : decode M.2.1 pc = .ok (.lxor, 1)) (k : AW g ρ' Q d M (pc + 1) ls (.long (x ^^^ y) :: st) ρ S) : AW g ρ' Q d M pc ls (.long y :: .long x :: st) ρ S :=
  AW.pure (fun p e R s m args below meth c H locs cells slots Z la hx hb k => lv_lxor hx hb hd k) k
theorem AW_ldiv {x y : Int64} (hd : decode M.2.1 pc = .ok (.ldiv, 1)) (hne : ¬ y = 0) (k : AW g ρ' Q d M (pc + 1) ls (.long (x / y) :: st) ρ S) : AW g ρ' Q d M pc ls (.long y :: .long x :: st) ρ S :=
  AW.pure (fun p e R s m args below meth c H locs cells slots Z la hx hb k => lv_ldiv hx hb hd hne k) k
theorem AW_lrem {x y : Int64} (hd : decode M.2.1 pc = .ok (.lrem, 1)) (hne : ¬ y = 0) (k : AW g ρ' Q d M (pc + 1) ls (.long (x - x / y * y) :: st) ρ S) : AW g ρ' Q d M pc ls (.long y :: .long x :: st) ρ S :=
  AW.pure (fun p e R s m args below meth c H locs cells slots Z la hx hb k => lv_lrem hx hb hd hne k) k
theorem AW_lshl {x : Int64} {y : Int32} (hd : decode M.2.1 pc = .ok (.lshl, 1)) (k : AW g ρ' Q d M (pc + 1) ls (.long (x <<< (y.toInt64 &&& 63)) :: st) ρ S) : AW g ρ' Q d M pc ls (.int y :: .long x :: st) ρ S :=
  AW.pure (fun p e R s m args below meth c H locs cells slots Z la hx hb k => lv_lshl hx hb hd rfl k) k
theorem AW_lshr {x : Int64} {y : Int32} (hd : decode M.2.1 pc = .ok (.lshr, 1)) (k : AW g ρ' Q d M (pc + 1) ls (.long (x >>> (y.toInt64 &&& 63)) :: st) ρ S) : AW g ρ' Q d M pc ls (.int y :: .long x :: st) ρ S :=
  AW.pure (fun p e R s m args below meth c H locs cells slots Z la hx hb k => lv_lshr hx hb hd rfl k) k
theorem AW_lushr {x : Int64} {y : Int32} (hd : decode M.2.1 pc = .ok (.lushr, 1)) (k : AW g ρ' Q d M (pc + 1) ls (.long ((x.toUInt64 >>> (y.toInt64.toUInt64 &&& Int64.toUInt64 63)).toInt64) :: st) ρ S) : AW g ρ' Q d M pc ls (.int y :: .long x :: st) ρ S :=
  AW.pure (fun p e R s m args below meth c H locs cells slots Z la hx hb k => lv_lushr hx hb hd rfl k) k
theorem AW_lcmp {x y : Int64} (hd : decode M.2.1 pc = .ok (.lcmp, 1)) (k : AW g ρ' Q d M (pc + 1) ls (.int (lg_cmp x y) :: st) ρ S) : AW g ρ' Q d M pc ls (.long y :: .long x :: st) ρ S :=
  AW.pure (fun p e R s m args below meth c H locs cells slots Z la hx hb k => W.lcmp hx hb hd k) k
theorem AW_i2l {x : Int32} (hd : decode M.2.1 pc = .ok (.i2l, 1)) (k : AW g ρ' Q d M (pc + 1) ls (.long x.toInt64 :: st) ρ S) : AW g ρ' Q d M pc ls (.int x :: st) ρ S :=
  AW.pure (fun p e R s m args below meth c H locs cells slots Z la hx hb k => lv_i2l hx hb hd rfl k) k
theorem AW_l2i {x : Int64} (hd : decode M.2.1 pc = .ok (.l2i, 1)) (k : AW g ρ' Q d M (pc + 1) ls (.int x.toInt32 :: st) ρ S) : AW g ρ' Q d M pc ls (.long x :: st) ρ S :=
  AW.pure (fun p e R s m args below meth c H locs cells slots Z la hx hb k => lv_l2i hx hb hd rfl k) k
theorem AW_i2c {x : Int32} (hd : decode M.2.1 pc = .ok (.i2c, 1)) (k : AW g ρ' Q d M (pc + 1) ls (.int (x.toUInt32 % 65536).toInt32 :: st) ρ S) : AW g ρ' Q d M pc ls (.int x :: st) ρ S :=
  AW.pure (fun p e R s m args below meth c H locs cells slots Z la hx hb k => lv_i2c hx hb hd rfl k) k
theorem AW_i2d {x : Int32} (hd : decode M.2.1 pc = .ok (.i2d, 1)) (k : AW g ρ' Q d M (pc + 1) ls (.double (FP.i2d x) :: st) ρ S) : AW g ρ' Q d M pc ls (.int x :: st) ρ S :=
  AW.pure (fun p e R s m args below meth c H locs cells slots Z la hx hb k => lv_i2d hx hb hd k) k
theorem AW_i2f {x : Int32} (hd : decode M.2.1 pc = .ok (.i2f, 1)) (k : AW g ρ' Q d M (pc + 1) ls (.float (FP.i2f x) :: st) ρ S) : AW g ρ' Q d M pc ls (.int x :: st) ρ S :=
  AW.pure (fun p e R s m args below meth c H locs cells slots Z la hx hb k => lv_i2f hx hb hd k) k
theorem AW_l2d {x : Int64} (hd : decode M.2.1 pc = .ok (.l2d, 1)) (k : AW g ρ' Q d M (pc + 1) ls (.double (FP.l2d x) :: st) ρ S) : AW g ρ' Q d M pc ls (.long x :: st) ρ S :=
  AW.pure (fun p e R s m args below meth c H locs cells slots Z la hx hb k => lv_l2d hx hb hd k) k
theorem AW_d2l {x : UInt64} (hd : decode M.2.1 pc = .ok (.d2l, 1)) (k : AW g ρ' Q d M (pc + 1) ls (.long (FP.d2l x) :: st) ρ S) : AW g ρ' Q d M pc ls (.double x :: st) ρ S :=
  AW.pure (fun p e R s m args below meth c H locs cells slots Z la hx hb k => lv_d2l hx hb hd k) k
theorem AW_f2d {x : UInt32} (hd : decode M.2.1 pc = .ok (.f2d, 1)) (hne : vf_n64 (FP.f2d x)) (k : AW g ρ' Q d M (pc + 1) ls (.double (FP.f2d x) :: st) ρ S) : AW g ρ' Q d M pc ls (.float x :: st) ρ S :=
  AW.pure (fun p e R s m args below meth c H locs cells slots Z la hx hb k => lv_f2d hx hb hd hne k) k
theorem AW_fneg {x : UInt32} (hd : decode M.2.1 pc = .ok (.fneg, 1)) (k : AW g ρ' Q d M (pc + 1) ls (.float (FP.fneg x) :: st) ρ S) : AW g ρ' Q d M pc ls (.float x :: st) ρ S :=
  AW.pure (fun p e R s m args below meth c H locs cells slots Z la hx hb k => lv_fneg hx hb hd k) k
theorem AW_dadd {x y : UInt64} (hd : decode M.2.1 pc = .ok (.dadd, 1)) (hne : vf_n64 (FP.dadd x y)) (k : AW g ρ' Q d M (pc + 1) ls (.double (FP.dadd x y) :: st) ρ S) : AW g ρ' Q d M pc ls (.double y :: .double x :: st) ρ S :=
  AW.pure (fun p e R s m args below meth c H locs cells slots Z la hx hb k => lv_dadd hx hb hd hne k) k
theorem AW_dsub {x y : UInt64} (hd : decode M.2.1 pc = .ok (.dsub, 1)) (hne : vf_n64 (FP.dsub x y)) (k : AW g ρ' Q d M (pc + 1) ls (.double (FP.dsub x y) :: st) ρ S) : AW g ρ' Q d M pc ls (.double y :: .double x :: st) ρ S :=
  AW.pure (fun p e R s m args below meth c H locs cells slots Z la hx hb k => lv_dsub hx hb hd hne k) k
theorem AW_dmul {x y : UInt64} (hd : decode M.2.1 pc = .ok (.dmul, 1)) (hne : vf_n64 (FP.dmul x y)) (k : AW g ρ' Q d M (pc + 1) ls (.double (FP.dmul x y) :: st) ρ S) : AW g ρ' Q d M pc ls (.double y :: .double x :: st) ρ S :=
  AW.pure (fun p e R s m args below meth c H locs cells slots Z la hx hb k => lv_dmul hx hb hd hne k) k
theorem AW_ddiv {x y : UInt64} (hd : decode M.2.1 pc = .ok (.ddiv, 1)) (hne : vf_n64 (FP.ddiv x y)) (k : AW g ρ' Q d M (pc + 1) ls (.double (FP.ddiv x y) :: st) ρ S) : AW g ρ' Q d M pc ls (.double y :: .double x :: st) ρ S :=
  AW.pure (fun p e R s m args below meth c H locs cells slots Z la hx hb k => lv_ddiv hx hb hd hne k) k
theorem AW_fsub {x y : UInt32} (hd : decode M.2.1 pc = .ok (.fsub, 1)) (hne : vf_n32 (FP.fsub x y)) (k : AW g ρ' Q d M (pc + 1) ls (.float (FP.fsub x y) :: st) ρ S) : AW g ρ' Q d M pc ls (.float y :: .float x :: st) ρ S :=
  AW.pure (fun p e R s m args below meth c H locs cells slots Z la hx hb k => lv_fsub hx hb hd hne k) k
theorem AW_fdiv {x y : UInt32} (hd : decode M.2.1 pc = .ok (.fdiv, 1)) (hne : vf_n32 (FP.fdiv x y)) (k : AW g ρ' Q d M (pc + 1) ls (.float (FP.fdiv x y) :: st) ρ S) : AW g ρ' Q d M pc ls (.float y :: .float x :: st) ρ S :=
  AW.pure (fun p e R s m args below meth c H locs cells slots Z la hx hb k => lv_fdiv hx hb hd hne k) k
theorem AW_dcmp {x y : UInt64} {op : CmpOp} (hd : decode M.2.1 pc = .ok (.dcmp op, 1)) (k : AW g ρ' Q d M (pc + 1) ls (.int (Op.cmpValue (FP.dcmp x y) op) :: st) ρ S) : AW g ρ' Q d M pc ls (.double y :: .double x :: st) ρ S :=
  AW.pure (fun p e R s m args below meth c H locs cells slots Z la hx hb k => lv_dcmp hx hb hd k) k
theorem AW_fcmp {x y : UInt32} {op : CmpOp} (hd : decode M.2.1 pc = .ok (.fcmp op, 1)) (k : AW g ρ' Q d M (pc + 1) ls (.int (Op.cmpValue (FP.fcmp x y) op) :: st) ρ S) : AW g ρ' Q d M pc ls (.float y :: .float x :: st) ρ S :=
  AW.pure (fun p e R s m args below meth c H locs cells slots Z la hx hb k => lv_fcmp hx hb hd k) k
theorem AW_dconst0 (hd : decode M.2.1 pc = .ok (.dconst 0, 1)) (k : AW g ρ' Q d M (pc + 1) ls (.double FP.dconst0 :: st) ρ S) : AW g ρ' Q d M pc ls (st) ρ S :=
  AW.pure (fun p e R s m args below meth c H locs cells slots Z la hx hb k => lv_dconst0 hx hb hd k) k
theorem AW_dconst1 (hd : decode M.2.1 pc = .ok (.dconst 1, 1)) (k : AW g ρ' Q d M (pc + 1) ls (.double FP.dconst1 :: st) ρ S) : AW g ρ' Q d M pc ls (st) ρ S :=
  AW.pure (fun p e R s m args below meth c H locs cells slots Z la hx hb k => lv_dconst1 hx hb hd k) k
theorem AW_fconst0 (hd : decode M.2.1 pc = .ok (.fconst 0, 1)) (k : AW g ρ' Q d M (pc + 1) ls (.float FP.fconst0 :: st) ρ S) : AW g ρ' Q d M pc ls (st) ρ S :=
  AW.pure (fun p e R s m args below meth c H locs cells slots Z la hx hb k => lv_fconst0 hx hb hd k) k
theorem AW_iconst {n : Int} {v : Int32} (hd : decode M.2.1 pc = .ok (.iconst n, 1)) (hw : Int32.ofInt n = v) (k : AW g ρ' Q d M (pc + 1) ls (.int v :: st) ρ S) : AW g ρ' Q d M pc ls (st) ρ S :=
  AW.pure (fun p e R s m args below meth c H locs cells slots Z la hx hb k => lv_iconst hx hb hd hw k) k
theorem AW_lconst {n : Fin 2} {v : Int64} (hd : decode M.2.1 pc = .ok (.lconst n, 1)) (hw : Int64.ofNat (n : Nat) = v) (k : AW g ρ' Q d M (pc + 1) ls (.long v :: st) ρ S) : AW g ρ' Q d M pc ls (st) ρ S :=
  AW.pure (fun p e R s m args below meth c H locs cells slots Z la hx hb k => lv_lconst hx hb hd hw k) k
theorem AW_bipush {n : Int} {v : Int32} (hd : decode M.2.1 pc = .ok (.bipush n, 2)) (hw : (Int8.ofInt n).toInt32 = v) (k : AW g ρ' Q d M (pc + 2) ls (.int v :: st) ρ S) : AW g ρ' Q d M pc ls (st) ρ S :=
  AW.pure (fun p e R s m args below meth c H locs cells slots Z la hx hb k => lv_bipush hx hb hd hw k) k
theorem AW_sipush {n : Int} {v : Int32} (hd : decode M.2.1 pc = .ok (.sipush n, 3)) (hw : (Int16.ofInt n).toInt32 = v) (k : AW g ρ' Q d M (pc + 3) ls (.int v :: st) ρ S) : AW g ρ' Q d M pc ls (st) ρ S :=
  AW.pure (fun p e R s m args below meth c H locs cells slots Z la hx hb k => lv_sipush hx hb hd hw k) k
theorem AW_goto {off : Int} {tgt : Nat} (hd : decode M.2.1 pc = .ok (.goto off, 3)) (ht : (pc : Int) + off = (tgt : Int)) (k : AW g ρ' Q d M (tgt) ls (st) ρ S) : AW g ρ' Q d M pc ls (st) ρ S :=
  AW.pure (fun p e R s m args below meth c H locs cells slots Z la hx hb k => lv_goto hx hb hd ht k) k
theorem AW_dup {a : Value} (hd : decode M.2.1 pc = .ok (.dup, 1)) (ha : a.category = 1) (k : AW g ρ' Q d M (pc + 1) ls (a :: a :: st) ρ S) : AW g ρ' Q d M pc ls (a :: st) ρ S :=
  AW.pure (fun p e R s m args below meth c H locs cells slots Z la hx hb k => lv_dup hx hb hd (by rw [vmv_cat]; exact ha) k) k
theorem AW_dup2_11 {a b : Value} (hd : decode M.2.1 pc = .ok (.dup2, 1)) (ha : a.category = 1) (hb2 : b.category = 1) (k : AW g ρ' Q d M (pc + 1) ls (a :: b :: a :: b :: st) ρ S) : AW g ρ' Q d M pc ls (a :: b :: st) ρ S :=
  AW.pure (fun p e R s m args below meth c H locs cells slots Z la hx hb k => lv_dup2_11 hx hb hd (by rw [vmv_cat]; exact ha) (by rw [vmv_cat]; exact hb2) k) k
theorem AW_dup2_2 {a : Value} (hd : decode M.2.1 pc = .ok (.dup2, 1)) (ha : a.category = 2) (k : AW g ρ' Q d M (pc + 1) ls (a :: a :: st) ρ S) : AW g ρ' Q d M pc ls (a :: st) ρ S :=
  AW.pure (fun p e R s m args below meth c H locs cells slots Z la hx hb k => lv_dup2_2 hx hb hd (by rw [vmv_cat]; exact ha) k) k
theorem AW_pop {a : Value} (hd : decode M.2.1 pc = .ok (.pop, 1)) (ha : a.category = 1) (k : AW g ρ' Q d M (pc + 1) ls (st) ρ S) : AW g ρ' Q d M pc ls (a :: st) ρ S :=
  AW.pure (fun p e R s m args below meth c H locs cells slots Z la hx hb k => lv_pop hx hb hd (by rw [vmv_cat]; exact ha) k) k
theorem AW_icmp_eq {off : Int} {tgt : Nat} {x y : Int32} (hd0 : decode M.2.1 pc = .ok (.if_icmp .eq off, 3)) (ht : (pc : Int) + off = (tgt : Int)) (h : if x = y then AW g ρ' Q d M tgt ls st ρ S else AW g ρ' Q d M (pc + 3) ls st ρ S) : AW g ρ' Q d M pc ls (.int y :: .int x :: st) ρ S := by
  intro p e R s m args below meth c H locs cells slots c0 u0 Z la hF hd hL hc hu ec eu hR hS hv hz
  by_cases q : x = y
  · rw [if_pos q] at h
    exact lv_icmp_eq hF.1 hF.2.1 hd0 ht (fun z => h p e R s m args below meth c H locs cells slots c0 u0 Z la hF hd hL hc hu ec eu hR hS hv hz) (fun z => absurd q z)
  · rw [if_neg q] at h
    exact lv_icmp_eq hF.1 hF.2.1 hd0 ht (fun z => absurd z q) (fun z => h p e R s m args below meth c H locs cells slots c0 u0 Z la hF hd hL hc hu ec eu hR hS hv hz)
theorem AW_icmp_ne {off : Int} {tgt : Nat} {x y : Int32} (hd0 : decode M.2.1 pc = .ok (.if_icmp .ne off, 3)) (ht : (pc : Int) + off = (tgt : Int)) (h : if x = y then AW g ρ' Q d M (pc + 3) ls st ρ S else AW g ρ' Q d M tgt ls st ρ S) : AW g ρ' Q d M pc ls (.int y :: .int x :: st) ρ S := by
  intro p e R s m args below meth c H locs cells slots c0 u0 Z la hF hd hL hc hu ec eu hR hS hv hz
  by_cases q : x = y
  · rw [if_pos q] at h
    exact lv_icmp_ne hF.1 hF.2.1 hd0 ht (fun z => absurd q z) (fun z => h p e R s m args below meth c H locs cells slots c0 u0 Z la hF hd hL hc hu ec eu hR hS hv hz)
  · rw [if_neg q] at h
    exact lv_icmp_ne hF.1 hF.2.1 hd0 ht (fun z => h p e R s m args below meth c H locs cells slots c0 u0 Z la hF hd hL hc hu ec eu hR hS hv hz) (fun z => absurd z q)
theorem AW_icmp_lt {off : Int} {tgt : Nat} {x y : Int32} (hd0 : decode M.2.1 pc = .ok (.if_icmp .lt off, 3)) (ht : (pc : Int) + off = (tgt : Int)) (h : if x < y then AW g ρ' Q d M tgt ls st ρ S else AW g ρ' Q d M (pc + 3) ls st ρ S) : AW g ρ' Q d M pc ls (.int y :: .int x :: st) ρ S := by
  intro p e R s m args below meth c H locs cells slots c0 u0 Z la hF hd hL hc hu ec eu hR hS hv hz
  by_cases q : x < y
  · rw [if_pos q] at h
    exact lv_icmp_lt hF.1 hF.2.1 hd0 ht (fun z => h p e R s m args below meth c H locs cells slots c0 u0 Z la hF hd hL hc hu ec eu hR hS hv hz) (fun z => absurd q z)
  · rw [if_neg q] at h
    exact lv_icmp_lt hF.1 hF.2.1 hd0 ht (fun z => absurd z q) (fun z => h p e R s m args below meth c H locs cells slots c0 u0 Z la hF hd hL hc hu ec eu hR hS hv hz)
theorem AW_icmp_ge {off : Int} {tgt : Nat} {x y : Int32} (hd0 : decode M.2.1 pc = .ok (.if_icmp .ge off, 3)) (ht : (pc : Int) + off = (tgt : Int)) (h : if y ≤ x then AW g ρ' Q d M tgt ls st ρ S else AW g ρ' Q d M (pc + 3) ls st ρ S) : AW g ρ' Q d M pc ls (.int y :: .int x :: st) ρ S := by
  intro p e R s m args below meth c H locs cells slots c0 u0 Z la hF hd hL hc hu ec eu hR hS hv hz
  by_cases q : y ≤ x
  · rw [if_pos q] at h
    exact lv_icmp_ge hF.1 hF.2.1 hd0 ht (fun z => h p e R s m args below meth c H locs cells slots c0 u0 Z la hF hd hL hc hu ec eu hR hS hv hz) (fun z => absurd q z)
  · rw [if_neg q] at h
    exact lv_icmp_ge hF.1 hF.2.1 hd0 ht (fun z => absurd z q) (fun z => h p e R s m args below meth c H locs cells slots c0 u0 Z la hF hd hL hc hu ec eu hR hS hv hz)
theorem AW_icmp_gt {off : Int} {tgt : Nat} {x y : Int32} (hd0 : decode M.2.1 pc = .ok (.if_icmp .gt off, 3)) (ht : (pc : Int) + off = (tgt : Int)) (h : if y < x then AW g ρ' Q d M tgt ls st ρ S else AW g ρ' Q d M (pc + 3) ls st ρ S) : AW g ρ' Q d M pc ls (.int y :: .int x :: st) ρ S := by
  intro p e R s m args below meth c H locs cells slots c0 u0 Z la hF hd hL hc hu ec eu hR hS hv hz
  by_cases q : y < x
  · rw [if_pos q] at h
    exact lv_icmp_gt hF.1 hF.2.1 hd0 ht (fun z => h p e R s m args below meth c H locs cells slots c0 u0 Z la hF hd hL hc hu ec eu hR hS hv hz) (fun z => absurd q z)
  · rw [if_neg q] at h
    exact lv_icmp_gt hF.1 hF.2.1 hd0 ht (fun z => absurd z q) (fun z => h p e R s m args below meth c H locs cells slots c0 u0 Z la hF hd hL hc hu ec eu hR hS hv hz)
theorem AW_icmp_le {off : Int} {tgt : Nat} {x y : Int32} (hd0 : decode M.2.1 pc = .ok (.if_icmp .le off, 3)) (ht : (pc : Int) + off = (tgt : Int)) (h : if x ≤ y then AW g ρ' Q d M tgt ls st ρ S else AW g ρ' Q d M (pc + 3) ls st ρ S) : AW g ρ' Q d M pc ls (.int y :: .int x :: st) ρ S := by
  intro p e R s m args below meth c H locs cells slots c0 u0 Z la hF hd hL hc hu ec eu hR hS hv hz
  by_cases q : x ≤ y
  · rw [if_pos q] at h
    exact lv_icmp_le hF.1 hF.2.1 hd0 ht (fun z => h p e R s m args below meth c H locs cells slots c0 u0 Z la hF hd hL hc hu ec eu hR hS hv hz) (fun z => absurd q z)
  · rw [if_neg q] at h
    exact lv_icmp_le hF.1 hF.2.1 hd0 ht (fun z => absurd z q) (fun z => h p e R s m args below meth c H locs cells slots c0 u0 Z la hF hd hL hc hu ec eu hR hS hv hz)
theorem AW_if_eq {off : Int} {tgt : Nat} {x : Int32} (hd0 : decode M.2.1 pc = .ok (.ifCond .eq off, 3)) (ht : (pc : Int) + off = (tgt : Int)) (h : if x = 0 then AW g ρ' Q d M tgt ls st ρ S else AW g ρ' Q d M (pc + 3) ls st ρ S) : AW g ρ' Q d M pc ls (.int x :: st) ρ S := by
  intro p e R s m args below meth c H locs cells slots c0 u0 Z la hF hd hL hc hu ec eu hR hS hv hz
  by_cases q : x = 0
  · rw [if_pos q] at h
    exact lv_if_eq hF.1 hF.2.1 hd0 ht (fun z => h p e R s m args below meth c H locs cells slots c0 u0 Z la hF hd hL hc hu ec eu hR hS hv hz) (fun z => absurd q z)
  · rw [if_neg q] at h
    exact lv_if_eq hF.1 hF.2.1 hd0 ht (fun z => absurd z q) (fun z => h p e R s m args below meth c H locs cells slots c0 u0 Z la hF hd hL hc hu ec eu hR hS hv hz)
theorem AW_if_ne {off : Int} {tgt : Nat} {x : Int32} (hd0 : decode M.2.1 pc = .ok (.ifCond .ne off, 3)) (ht : (pc : Int) + off = (tgt : Int)) (h : if x = 0 then AW g ρ' Q d M (pc + 3) ls st ρ S else AW g ρ' Q d M tgt ls st ρ S) : AW g ρ' Q d M pc ls (.int x :: st) ρ S := by
  intro p e R s m args below meth c H locs cells slots c0 u0 Z la hF hd hL hc hu ec eu hR hS hv hz
  by_cases q : x = 0
  · rw [if_pos q] at h
    exact lv_if_ne hF.1 hF.2.1 hd0 ht (fun z => absurd q z) (fun z => h p e R s m args below meth c H locs cells slots c0 u0 Z la hF hd hL hc hu ec eu hR hS hv hz)
  · rw [if_neg q] at h
    exact lv_if_ne hF.1 hF.2.1 hd0 ht (fun z => h p e R s m args below meth c H locs cells slots c0 u0 Z la hF hd hL hc hu ec eu hR hS hv hz) (fun z => absurd z q)
theorem AW_if_lt {off : Int} {tgt : Nat} {x : Int32} (hd0 : decode M.2.1 pc = .ok (.ifCond .lt off, 3)) (ht : (pc : Int) + off = (tgt : Int)) (h : if x < 0 then AW g ρ' Q d M tgt ls st ρ S else AW g ρ' Q d M (pc + 3) ls st ρ S) : AW g ρ' Q d M pc ls (.int x :: st) ρ S := by
  intro p e R s m args below meth c H locs cells slots c0 u0 Z la hF hd hL hc hu ec eu hR hS hv hz
  by_cases q : x < 0
  · rw [if_pos q] at h
    exact lv_if_lt hF.1 hF.2.1 hd0 ht (fun z => h p e R s m args below meth c H locs cells slots c0 u0 Z la hF hd hL hc hu ec eu hR hS hv hz) (fun z => absurd q z)
  · rw [if_neg q] at h
    exact lv_if_lt hF.1 hF.2.1 hd0 ht (fun z => absurd z q) (fun z => h p e R s m args below meth c H locs cells slots c0 u0 Z la hF hd hL hc hu ec eu hR hS hv hz)
theorem AW_if_ge {off : Int} {tgt : Nat} {x : Int32} (hd0 : decode M.2.1 pc = .ok (.ifCond .ge off, 3)) (ht : (pc : Int) + off = (tgt : Int)) (h : if 0 ≤ x then AW g ρ' Q d M tgt ls st ρ S else AW g ρ' Q d M (pc + 3) ls st ρ S) : AW g ρ' Q d M pc ls (.int x :: st) ρ S := by
  intro p e R s m args below meth c H locs cells slots c0 u0 Z la hF hd hL hc hu ec eu hR hS hv hz
  by_cases q : 0 ≤ x
  · rw [if_pos q] at h
    exact lv_if_ge hF.1 hF.2.1 hd0 ht (fun z => h p e R s m args below meth c H locs cells slots c0 u0 Z la hF hd hL hc hu ec eu hR hS hv hz) (fun z => absurd q z)
  · rw [if_neg q] at h
    exact lv_if_ge hF.1 hF.2.1 hd0 ht (fun z => absurd z q) (fun z => h p e R s m args below meth c H locs cells slots c0 u0 Z la hF hd hL hc hu ec eu hR hS hv hz)
theorem AW_if_gt {off : Int} {tgt : Nat} {x : Int32} (hd0 : decode M.2.1 pc = .ok (.ifCond .gt off, 3)) (ht : (pc : Int) + off = (tgt : Int)) (h : if 0 < x then AW g ρ' Q d M tgt ls st ρ S else AW g ρ' Q d M (pc + 3) ls st ρ S) : AW g ρ' Q d M pc ls (.int x :: st) ρ S := by
  intro p e R s m args below meth c H locs cells slots c0 u0 Z la hF hd hL hc hu ec eu hR hS hv hz
  by_cases q : 0 < x
  · rw [if_pos q] at h
    exact lv_if_gt hF.1 hF.2.1 hd0 ht (fun z => h p e R s m args below meth c H locs cells slots c0 u0 Z la hF hd hL hc hu ec eu hR hS hv hz) (fun z => absurd q z)
  · rw [if_neg q] at h
    exact lv_if_gt hF.1 hF.2.1 hd0 ht (fun z => absurd z q) (fun z => h p e R s m args below meth c H locs cells slots c0 u0 Z la hF hd hL hc hu ec eu hR hS hv hz)
theorem AW_if_le {off : Int} {tgt : Nat} {x : Int32} (hd0 : decode M.2.1 pc = .ok (.ifCond .le off, 3)) (ht : (pc : Int) + off = (tgt : Int)) (h : if x ≤ 0 then AW g ρ' Q d M tgt ls st ρ S else AW g ρ' Q d M (pc + 3) ls st ρ S) : AW g ρ' Q d M pc ls (.int x :: st) ρ S := by
  intro p e R s m args below meth c H locs cells slots c0 u0 Z la hF hd hL hc hu ec eu hR hS hv hz
  by_cases q : x ≤ 0
  · rw [if_pos q] at h
    exact lv_if_le hF.1 hF.2.1 hd0 ht (fun z => h p e R s m args below meth c H locs cells slots c0 u0 Z la hF hd hL hc hu ec eu hR hS hv hz) (fun z => absurd q z)
  · rw [if_neg q] at h
    exact lv_if_le hF.1 hF.2.1 hd0 ht (fun z => absurd z q) (fun z => h p e R s m args below meth c H locs cells slots c0 u0 Z la hF hd hL hc hu ec eu hR hS hv hz)
theorem AW_iload_n (q : Nat) {n : Fin 4} {i : Nat} {x : Int32} (hi : (n : Nat) = i) (hd0 : decode M.2.1 pc = .ok (.iload_n n, 1)) (hq : ls[q]? = some (i, .int x)) (k : AW g ρ' Q d M (pc + 1) ls (.int x :: st) ρ S) : AW g ρ' Q d M pc ls st ρ S := by
  intro p e R s m args below meth c H locs cells slots c0 u0 Z la hF hd hL hc hu ec eu hR hS hv hz
  have hk : (ls.map (vmp g))[q]? = some (vmp g (i, .int x)) := by rw [List.getElem?_map, hq]; rfl
  exact lv_iload_n hF.1 hF.2.1 hd0 hi (lv_at hv q hk) (k p e R s m args below meth c H locs cells slots c0 u0 Z la hF hd hL hc hu ec eu hR hS hv hz)
theorem AW_iload (q : Nat) {i : Nat} {x : Int32} (hd0 : decode M.2.1 pc = .ok (.iload i, 2)) (hq : ls[q]? = some (i, .int x)) (k : AW g ρ' Q d M (pc + 2) ls (.int x :: st) ρ S) : AW g ρ' Q d M pc ls st ρ S := by
  intro p e R s m args below meth c H locs cells slots c0 u0 Z la hF hd hL hc hu ec eu hR hS hv hz
  have hk : (ls.map (vmp g))[q]? = some (vmp g (i, .int x)) := by rw [List.getElem?_map, hq]; rfl
  exact lv_iload hF.1 hF.2.1 hd0 (lv_at hv q hk) (k p e R s m args below meth c H locs cells slots c0 u0 Z la hF hd hL hc hu ec eu hR hS hv hz)
theorem AW_lload_n (q : Nat) {n : Fin 4} {i : Nat} {x : Int64} (hi : (n : Nat) = i) (hd0 : decode M.2.1 pc = .ok (.lload_n n, 1)) (hq : ls[q]? = some (i, .long x)) (k : AW g ρ' Q d M (pc + 1) ls (.long x :: st) ρ S) : AW g ρ' Q d M pc ls st ρ S := by
  intro p e R s m args below meth c H locs cells slots c0 u0 Z la hF hd hL hc hu ec eu hR hS hv hz
  have hk : (ls.map (vmp g))[q]? = some (vmp g (i, .long x)) := by rw [List.getElem?_map, hq]; rfl
  exact lv_lload_n hF.1 hF.2.1 hd0 hi (lv_at hv q hk) (k p e R s m args below meth c H locs cells slots c0 u0 Z la hF hd hL hc hu ec eu hR hS hv hz)
theorem AW_lload (q : Nat) {i : Nat} {x : Int64} (hd0 : decode M.2.1 pc = .ok (.lload i, 2)) (hq : ls[q]? = some (i, .long x)) (k : AW g ρ' Q d M (pc + 2) ls (.long x :: st) ρ S) : AW g ρ' Q d M pc ls st ρ S := by
  intro p e R s m args below meth c H locs cells slots c0 u0 Z la hF hd hL hc hu ec eu hR hS hv hz
  have hk : (ls.map (vmp g))[q]? = some (vmp g (i, .long x)) := by rw [List.getElem?_map, hq]; rfl
  exact lv_lload hF.1 hF.2.1 hd0 (lv_at hv q hk) (k p e R s m args below meth c H locs cells slots c0 u0 Z la hF hd hL hc hu ec eu hR hS hv hz)
theorem AW_fload_n (q : Nat) {n : Fin 4} {i : Nat} {x : UInt32} (hi : (n : Nat) = i) (hd0 : decode M.2.1 pc = .ok (.fload_n n, 1)) (hq : ls[q]? = some (i, .float x)) (k : AW g ρ' Q d M (pc + 1) ls (.float x :: st) ρ S) : AW g ρ' Q d M pc ls st ρ S := by
  intro p e R s m args below meth c H locs cells slots c0 u0 Z la hF hd hL hc hu ec eu hR hS hv hz
  have hk : (ls.map (vmp g))[q]? = some (vmp g (i, .float x)) := by rw [List.getElem?_map, hq]; rfl
  exact lv_fload_n hF.1 hF.2.1 hd0 hi (lv_at hv q hk) (k p e R s m args below meth c H locs cells slots c0 u0 Z la hF hd hL hc hu ec eu hR hS hv hz)
theorem AW_fload (q : Nat) {i : Nat} {x : UInt32} (hd0 : decode M.2.1 pc = .ok (.fload i, 2)) (hq : ls[q]? = some (i, .float x)) (k : AW g ρ' Q d M (pc + 2) ls (.float x :: st) ρ S) : AW g ρ' Q d M pc ls st ρ S := by
  intro p e R s m args below meth c H locs cells slots c0 u0 Z la hF hd hL hc hu ec eu hR hS hv hz
  have hk : (ls.map (vmp g))[q]? = some (vmp g (i, .float x)) := by rw [List.getElem?_map, hq]; rfl
  exact lv_fload hF.1 hF.2.1 hd0 (lv_at hv q hk) (k p e R s m args below meth c H locs cells slots c0 u0 Z la hF hd hL hc hu ec eu hR hS hv hz)
theorem AW_dload_n (q : Nat) {n : Fin 4} {i : Nat} {x : UInt64} (hi : (n : Nat) = i) (hd0 : decode M.2.1 pc = .ok (.dload_n n, 1)) (hq : ls[q]? = some (i, .double x)) (k : AW g ρ' Q d M (pc + 1) ls (.double x :: st) ρ S) : AW g ρ' Q d M pc ls st ρ S := by
  intro p e R s m args below meth c H locs cells slots c0 u0 Z la hF hd hL hc hu ec eu hR hS hv hz
  have hk : (ls.map (vmp g))[q]? = some (vmp g (i, .double x)) := by rw [List.getElem?_map, hq]; rfl
  exact lv_dload_n hF.1 hF.2.1 hd0 hi (lv_at hv q hk) (k p e R s m args below meth c H locs cells slots c0 u0 Z la hF hd hL hc hu ec eu hR hS hv hz)
theorem AW_dload (q : Nat) {i : Nat} {x : UInt64} (hd0 : decode M.2.1 pc = .ok (.dload i, 2)) (hq : ls[q]? = some (i, .double x)) (k : AW g ρ' Q d M (pc + 2) ls (.double x :: st) ρ S) : AW g ρ' Q d M pc ls st ρ S := by
  intro p e R s m args below meth c H locs cells slots c0 u0 Z la hF hd hL hc hu ec eu hR hS hv hz
  have hk : (ls.map (vmp g))[q]? = some (vmp g (i, .double x)) := by rw [List.getElem?_map, hq]; rfl
  exact lv_dload hF.1 hF.2.1 hd0 (lv_at hv q hk) (k p e R s m args below meth c H locs cells slots c0 u0 Z la hF hd hL hc hu ec eu hR hS hv hz)
theorem AW_aload_n (q : Nat) {n : Fin 4} {i : Nat} {x : Nat} (hi : (n : Nat) = i) (hd0 : decode M.2.1 pc = .ok (.aload_n n, 1)) (hq : ls[q]? = some (i, .ref x)) (k : AW g ρ' Q d M (pc + 1) ls (.ref x :: st) ρ S) : AW g ρ' Q d M pc ls st ρ S := by
  intro p e R s m args below meth c H locs cells slots c0 u0 Z la hF hd hL hc hu ec eu hR hS hv hz
  have hk : (ls.map (vmp g))[q]? = some (vmp g (i, .ref x)) := by rw [List.getElem?_map, hq]; rfl
  exact lv_aload_n hF.1 hF.2.1 hd0 hi (lv_at hv q hk) (k p e R s m args below meth c H locs cells slots c0 u0 Z la hF hd hL hc hu ec eu hR hS hv hz)
theorem AW_aload (q : Nat) {i : Nat} {x : Nat} (hd0 : decode M.2.1 pc = .ok (.aload i, 2)) (hq : ls[q]? = some (i, .ref x)) (k : AW g ρ' Q d M (pc + 2) ls (.ref x :: st) ρ S) : AW g ρ' Q d M pc ls st ρ S := by
  intro p e R s m args below meth c H locs cells slots c0 u0 Z la hF hd hL hc hu ec eu hR hS hv hz
  have hk : (ls.map (vmp g))[q]? = some (vmp g (i, .ref x)) := by rw [List.getElem?_map, hq]; rfl
  exact lv_aload hF.1 hF.2.1 hd0 (lv_at hv q hk) (k p e R s m args below meth c H locs cells slots c0 u0 Z la hF hd hL hc hu ec eu hR hS hv hz)
theorem fl_map (g : GX) (f : Nat × Value → Bool) (hf : ∀ q, f (vmp g q) = f q) (l : List (Nat × Value)) : (l.map (vmp g)).filter f = (l.filter f).map (vmp g) := by
  rw [List.filter_map]
  congr 1
  apply List.filter_congr
  intro q _
  exact hf q
theorem fl_1 (g : GX) (i : Nat) (q : Nat × Value) : (fun q => !(q.1 == i) && !(q.1 + 1 == i && q.2.category == 2)) (vmp g q) = (fun q => !(q.1 == i) && !(q.1 + 1 == i && q.2.category == 2)) q := by simp only [vmp, vmv_cat]
theorem fl_2 (g : GX) (i : Nat) (q : Nat × Value) : (fun q => !(q.1 == i) && (!(q.1 == i + 1) && !(q.1 + 1 == i && q.2.category == 2))) (vmp g q) = (fun q => !(q.1 == i) && (!(q.1 == i + 1) && !(q.1 + 1 == i && q.2.category == 2))) q := by simp only [vmp, vmv_cat]
theorem AW_istore_n {ls' : List (Nat × Value)} {n : Fin 4} {i : Nat} {x : Int32} (hi : (n : Nat) = i) (hd0 : decode M.2.1 pc = .ok (.istore_n n, 1)) (hn : i < M.2.2.1) (hl : (i, .int x) :: ls.filter (fun q => !(q.1 == i) && !(q.1 + 1 == i && q.2.category == 2)) = ls') (k : AW g ρ' Q d M (pc + 1) ls' st ρ S) : AW g ρ' Q d M pc ls (.int x :: st) ρ S := by
  intro p e R s m args below meth c H locs cells slots c0 u0 Z la hF hd hL hc hu ec eu hR hS hv hz
  refine lv_istore_n hF.1 hF.2.1 hd0 hi hv hn (lv' := ls'.map (vmp g)) ?_ (fun la hv => k p e R s m args below meth c H locs cells slots c0 u0 Z la hF hd hL hc hu ec eu hR hS hv hz)
  rw [← hl, fl_map g _ (fl_1 g i)]
  rfl
theorem AW_istore {ls' : List (Nat × Value)} {i : Nat} {x : Int32} (hd0 : decode M.2.1 pc = .ok (.istore i, 2)) (hn : i < M.2.2.1) (hl : (i, .int x) :: ls.filter (fun q => !(q.1 == i) && !(q.1 + 1 == i && q.2.category == 2)) = ls') (k : AW g ρ' Q d M (pc + 2) ls' st ρ S) : AW g ρ' Q d M pc ls (.int x :: st) ρ S := by
  intro p e R s m args below meth c H locs cells slots c0 u0 Z la hF hd hL hc hu ec eu hR hS hv hz
  refine lv_istore hF.1 hF.2.1 hd0 hv hn (lv' := ls'.map (vmp g)) ?_ (fun la hv => k p e R s m args below meth c H locs cells slots c0 u0 Z la hF hd hL hc hu ec eu hR hS hv hz)
  rw [← hl, fl_map g _ (fl_1 g i)]
  rfl
theorem AW_lstore_n {ls' : List (Nat × Value)} {n : Fin 4} {i : Nat} {x : Int64} (hi : (n : Nat) = i) (hd0 : decode M.2.1 pc = .ok (.lstore_n n, 1)) (hn : i + 1 < M.2.2.1) (hl : (i, .long x) :: ls.filter (fun q => !(q.1 == i) && (!(q.1 == i + 1) && !(q.1 + 1 == i && q.2.category == 2))) = ls') (k : AW g ρ' Q d M (pc + 1) ls' st ρ S) : AW g ρ' Q d M pc ls (.long x :: st) ρ S := by
  intro p e R s m args below meth c H locs cells slots c0 u0 Z la hF hd hL hc hu ec eu hR hS hv hz
  refine lv_lstore_n hF.1 hF.2.1 hd0 hi hv hn (lv' := ls'.map (vmp g)) ?_ (fun la hv => k p e R s m args below meth c H locs cells slots c0 u0 Z la hF hd hL hc hu ec eu hR hS hv hz)
  rw [← hl, fl_map g _ (fl_2 g i)]
  rfl
theorem AW_lstore {ls' : List (Nat × Value)} {i : Nat} {x : Int64} (hd0 : decode M.2.1 pc = .ok (.lstore i, 2)) (hn : i + 1 < M.2.2.1) (hl : (i, .long x) :: ls.filter (fun q => !(q.1 == i) && (!(q.1 == i + 1) && !(q.1 + 1 == i && q.2.category == 2))) = ls') (k : AW g ρ' Q d M (pc + 2) ls' st ρ S) : AW g ρ' Q d M pc ls (.long x :: st) ρ S := by
  intro p e R s m args below meth c H locs cells slots c0 u0 Z la hF hd hL hc hu ec eu hR hS hv hz
  refine lv_lstore hF.1 hF.2.1 hd0 hv hn (lv' := ls'.map (vmp g)) ?_ (fun la hv => k p e R s m args below meth c H locs cells slots c0 u0 Z la hF hd hL hc hu ec eu hR hS hv hz)
  rw [← hl, fl_map g _ (fl_2 g i)]
  rfl
theorem AW_fstore_n {ls' : List (Nat × Value)} {n : Fin 4} {i : Nat} {x : UInt32} (hi : (n : Nat) = i) (hd0 : decode M.2.1 pc = .ok (.fstore_n n, 1)) (hn : i < M.2.2.1) (hl : (i, .float x) :: ls.filter (fun q => !(q.1 == i) && !(q.1 + 1 == i && q.2.category == 2)) = ls') (k : AW g ρ' Q d M (pc + 1) ls' st ρ S) : AW g ρ' Q d M pc ls (.float x :: st) ρ S := by
  intro p e R s m args below meth c H locs cells slots c0 u0 Z la hF hd hL hc hu ec eu hR hS hv hz
  refine lv_fstore_n hF.1 hF.2.1 hd0 hi hv hn (lv' := ls'.map (vmp g)) ?_ (fun la hv => k p e R s m args below meth c H locs cells slots c0 u0 Z la hF hd hL hc hu ec eu hR hS hv hz)
  rw [← hl, fl_map g _ (fl_1 g i)]
  rfl
theorem AW_fstore {ls' : List (Nat × Value)} {i : Nat} {x : UInt32} (hd0 : decode M.2.1 pc = .ok (.fstore i, 2)) (hn : i < M.2.2.1) (hl : (i, .float x) :: ls.filter (fun q => !(q.1 == i) && !(q.1 + 1 == i && q.2.category == 2)) = ls') (k : AW g ρ' Q d M (pc + 2) ls' st ρ S) : AW g ρ' Q d M pc ls (.float x :: st) ρ S := by
  intro p e R s m args below meth c H locs cells slots c0 u0 Z la hF hd hL hc hu ec eu hR hS hv hz
  refine lv_fstore hF.1 hF.2.1 hd0 hv hn (lv' := ls'.map (vmp g)) ?_ (fun la hv => k p e R s m args below meth c H locs cells slots c0 u0 Z la hF hd hL hc hu ec eu hR hS hv hz)
  rw [← hl, fl_map g _ (fl_1 g i)]
  rfl
theorem AW_dstore_n {ls' : List (Nat × Value)} {n : Fin 4} {i : Nat} {x : UInt64} (hi : (n : Nat) = i) (hd0 : decode M.2.1 pc = .ok (.dstore_n n, 1)) (hn : i + 1 < M.2.2.1) (hl : (i, .double x) :: ls.filter (fun q => !(q.1 == i) && (!(q.1 == i + 1) && !(q.1 + 1 == i && q.2.category == 2))) = ls') (k : AW g ρ' Q d M (pc + 1) ls' st ρ S) : AW g ρ' Q d M pc ls (.double x :: st) ρ S := by
  intro p e R s m args below meth c H locs cells slots c0 u0 Z la hF hd hL hc hu ec eu hR hS hv hz
  refine lv_dstore_n hF.1 hF.2.1 hd0 hi hv hn (lv' := ls'.map (vmp g)) ?_ (fun la hv => k p e R s m args below meth c H locs cells slots c0 u0 Z la hF hd hL hc hu ec eu hR hS hv hz)
  rw [← hl, fl_map g _ (fl_2 g i)]
  rfl
theorem AW_dstore {ls' : List (Nat × Value)} {i : Nat} {x : UInt64} (hd0 : decode M.2.1 pc = .ok (.dstore i, 2)) (hn : i + 1 < M.2.2.1) (hl : (i, .double x) :: ls.filter (fun q => !(q.1 == i) && (!(q.1 == i + 1) && !(q.1 + 1 == i && q.2.category == 2))) = ls') (k : AW g ρ' Q d M (pc + 2) ls' st ρ S) : AW g ρ' Q d M pc ls (.double x :: st) ρ S := by
  intro p e R s m args below meth c H locs cells slots c0 u0 Z la hF hd hL hc hu ec eu hR hS hv hz
  refine lv_dstore hF.1 hF.2.1 hd0 hv hn (lv' := ls'.map (vmp g)) ?_ (fun la hv => k p e R s m args below meth c H locs cells slots c0 u0 Z la hF hd hL hc hu ec eu hR hS hv hz)
  rw [← hl, fl_map g _ (fl_2 g i)]
  rfl
theorem AW_astore_n {ls' : List (Nat × Value)} {n : Fin 4} {i : Nat} {x : Nat} (hi : (n : Nat) = i) (hd0 : decode M.2.1 pc = .ok (.astore_n n, 1)) (hn : i < M.2.2.1) (hl : (i, .ref x) :: ls.filter (fun q => !(q.1 == i) && !(q.1 + 1 == i && q.2.category == 2)) = ls') (k : AW g ρ' Q d M (pc + 1) ls' st ρ S) : AW g ρ' Q d M pc ls (.ref x :: st) ρ S := by
  intro p e R s m args below meth c H locs cells slots c0 u0 Z la hF hd hL hc hu ec eu hR hS hv hz
  refine lv_astore_n hF.1 hF.2.1 hd0 hi hv hn (lv' := ls'.map (vmp g)) ?_ (fun la hv => k p e R s m args below meth c H locs cells slots c0 u0 Z la hF hd hL hc hu ec eu hR hS hv hz)
  rw [← hl, fl_map g _ (fl_1 g i)]
  rfl
theorem AW_astore {ls' : List (Nat × Value)} {i : Nat} {x : Nat} (hd0 : decode M.2.1 pc = .ok (.astore i, 2)) (hn : i < M.2.2.1) (hl : (i, .ref x) :: ls.filter (fun q => !(q.1 == i) && !(q.1 + 1 == i && q.2.category == 2)) = ls') (k : AW g ρ' Q d M (pc + 2) ls' st ρ S) : AW g ρ' Q d M pc ls (.ref x :: st) ρ S := by
  intro p e R s m args below meth c H locs cells slots c0 u0 Z la hF hd hL hc hu ec eu hR hS hv hz
  refine lv_astore hF.1 hF.2.1 hd0 hv hn (lv' := ls'.map (vmp g)) ?_ (fun la hv => k p e R s m args below meth c H locs cells slots c0 u0 Z la hF hd hL hc hu ec eu hR hS hv hz)
  rw [← hl, fl_map g _ (fl_1 g i)]
  rfl
theorem AW_iinc (q : Nat) {ls' : List (Nat × Value)} {i : Nat} {n : Int} {x v : Int32} (hd0 : decode M.2.1 pc = .ok (.iinc i n, 3)) (hq : ls[q]? = some (i, .int x)) (hw : x + Int32.ofInt n = v) (hn : i < M.2.2.1) (hl : (i, .int v) :: ls.filter (fun q => !(q.1 == i) && !(q.1 + 1 == i && q.2.category == 2)) = ls') (k : AW g ρ' Q d M (pc + 3) ls' st ρ S) : AW g ρ' Q d M pc ls st ρ S := by
  intro p e R s m args below meth c H locs cells slots c0 u0 Z la hF hd hL hc hu ec eu hR hS hv hz
  have hk : (ls.map (vmp g))[q]? = some (i, .int x) := by rw [List.getElem?_map, hq]; rfl
  refine lv_iinc hF.1 hF.2.1 hd0 hv hk hw hn (lv' := ls'.map (vmp g)) ?_ (fun la hv => k p e R s m args below meth c H locs cells slots c0 u0 Z la hF hd hL hc hu ec eu hR hS hv hz)
  rw [← hl, fl_map g _ (fl_1 g i)]
  rfl
theorem AW_ireturn {v : Int32} {ty : FieldType} (hd0 : decode M.2.1 pc = .ok (.ireturn, 1)) (hr : M.2.2.2 = some ty) (hn : narrow ty (.int v) = .int v) (h : Q (some (.int v)) S) : AW g ρ Q d M pc ls [.int v] ρ S := by
  intro p e R s m args below meth c H locs cells slots c0 u0 Z la hF hd hL hc hu ec eu hR hS hv hz
  refine W.widen (k := rc ρ - c0) (n := ru ρ - u0) (by omega) (by omega) ?_
  exact hz _ S H locs la pc _ (Or.inl ⟨v, hd0, rfl, rfl, ty, hr, hn⟩) h (Fr.rf S) hR hS
theorem AW_lreturn {v : Int64} (hd0 : decode M.2.1 pc = .ok (.lreturn, 1)) (hr : M.2.2.2 = some .long) (h : Q (some (.long v)) S) : AW g ρ Q d M pc ls [.long v] ρ S := by
  intro p e R s m args below meth c H locs cells slots c0 u0 Z la hF hd hL hc hu ec eu hR hS hv hz
  refine W.widen (k := rc ρ - c0) (n := ru ρ - u0) (by omega) (by omega) ?_
  exact hz _ S H locs la pc _ (Or.inr (Or.inl ⟨v, hd0, rfl, rfl, hr⟩)) h (Fr.rf S) hR hS
theorem AW_freturn {v : UInt32} (hd0 : decode M.2.1 pc = .ok (.freturn, 1)) (hr : M.2.2.2 = some .float) (h : Q (some (.float v)) S) : AW g ρ Q d M pc ls [.float v] ρ S := by
  intro p e R s m args below meth c H locs cells slots c0 u0 Z la hF hd hL hc hu ec eu hR hS hv hz
  refine W.widen (k := rc ρ - c0) (n := ru ρ - u0) (by omega) (by omega) ?_
  exact hz _ S H locs la pc _ (Or.inr (Or.inr (Or.inl ⟨v, hd0, rfl, rfl, hr⟩))) h (Fr.rf S) hR hS
theorem AW_dreturn {v : UInt64} (hd0 : decode M.2.1 pc = .ok (.dreturn, 1)) (hr : M.2.2.2 = some .double) (h : Q (some (.double v)) S) : AW g ρ Q d M pc ls [.double v] ρ S := by
  intro p e R s m args below meth c H locs cells slots c0 u0 Z la hF hd hL hc hu ec eu hR hS hv hz
  refine W.widen (k := rc ρ - c0) (n := ru ρ - u0) (by omega) (by omega) ?_
  exact hz _ S H locs la pc _ (Or.inr (Or.inr (Or.inr (Or.inl ⟨v, hd0, rfl, rfl, hr⟩)))) h (Fr.rf S) hR hS
theorem AW_areturn {v : Nat} {ty : FieldType} (hd0 : decode M.2.1 pc = .ok (.areturn, 1)) (hr : M.2.2.2 = some ty) (hn : (∃ n, ty = FieldType.object n) ∨ ∃ t, ty = FieldType.array t) (h : Q (some (.ref v)) S) : AW g ρ Q d M pc ls [.ref v] ρ S := by
  intro p e R s m args below meth c H locs cells slots c0 u0 Z la hF hd hL hc hu ec eu hR hS hv hz
  refine W.widen (k := rc ρ - c0) (n := ru ρ - u0) (by omega) (by omega) ?_
  exact hz _ S H locs la pc _ (Or.inr (Or.inr (Or.inr (Or.inr (Or.inl ⟨v, ty, hd0, rfl, rfl, hr, hn⟩))))) h (Fr.rf S) hR hS
theorem AW_return  (hd0 : decode M.2.1 pc = .ok (.return_, 1)) (hr : M.2.2.2 = none) (h : Q none S) : AW g ρ Q d M pc ls [] ρ S := by
  intro p e R s m args below meth c H locs cells slots c0 u0 Z la hF hd hL hc hu ec eu hR hS hv hz
  refine W.widen (k := rc ρ - c0) (n := ru ρ - u0) (by omega) (by omega) ?_
  exact hz _ S H locs la pc _ (Or.inr (Or.inr (Or.inr (Or.inr (Or.inr ⟨hd0, rfl, rfl, hr⟩))))) h (Fr.rf S) hR hS
end Rules
