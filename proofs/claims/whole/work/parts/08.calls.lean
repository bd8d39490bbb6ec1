-- rules of calls
theorem Pco_blind (g : GX) (ρ : Rs) (S : St) (av : List Value) : FrameBlind (Pco g ρ S av) := by
  intro a U gf mk h
  obtain ⟨h1, h2, h3, h4, h5⟩ := h
  exact ⟨h1, h2, h3.same (u := U) (U := U.calling gf mk a) rfl, h4.moved (s := U) (U := U.calling gf mk a) (Vm.Alike.refl U.vm), h5⟩
/-- what a callee's start is, at any state that the machine has come to here -/
theorem Pco_here {g : GX} {M : MD} {p : Program} {s : State} {m : MethodId} {args : Array Value} {meth : Method} {c : Code} {H : Heap} {locs : List Loc} {ρ : Rs} {S : St} (av : List Value) (hF : Fx g M p s m args meth c) (hR : Rep g ρ S H) (hS : va_S (gA g) s.heap H locs) :
    ∀ U : State, U.heap = H → s.WarmedH U.vm → Pco g ρ S av (av.map (vmv g)).toArray U := by
  intro U hU hW
  refine ⟨rfl, by rw [hU]; exact hR, hF.2.2.2.2.2.2.2.2.1.warm hW, ?_, ?_⟩
  · rw [hU]
    exact (hF.2.2.2.2.2.2.2.2.2.1.kept hS.1 hS.2.1).moved hW.alike
  · rw [hU]
    exact Nat.le_trans hF.2.2.2.2.2.2.2.2.2.2 hS.1
/-- a row of a method among the words -/
def Md (M : MD) : Prop := Cond.code M.1 M.2.1 M.2.2.1 M.2.2.2 ∈ Wg ∧ Cond.initialized M.1.cls ∈ Wg ∧ (M.1.cls ≠ "java/lang/invoke/MethodHandle" ∧ M.1.cls ≠ "java/lang/invoke/VarHandle") ∧ M.2.2.1 ≤ 21 ∧ plainFor M.1 = true
theorem Wg_good {w : Cond} (h : w ∈ Wg) : (w.onTables && w.keeps) = true ∨ ∃ ty, w = .arrayClass ty := good_of_word (List.mem_filter.mp h).2
theorem Wg_pay {M : MD} (hM : Md M) {args : Array Value} {s : State} (hts : ∀ w ∈ Wg, w.before args s = true) : ∀ w ∈ (Cond.code M.1 M.2.1 M.2.2.1 M.2.2.2 :: Wg), ∀ (a' : Array Value) (U : State), s.WarmedH U.vm → w.before a' U = true := by
  refine pay_in hts (fun w hw => ?_)
  rcases List.mem_cons.mp hw with rfl | h
  · exact ⟨hM.1, Wg_good hM.1⟩
  · exact ⟨h, Wg_good h⟩
theorem cat_map (g : GX) (st : List Value) : ((st.map (vmv g)).map fun v => v.category).sum = (st.map fun v => v.category).sum := by
  rw [List.map_map]
  exact congrArg List.sum (List.map_congr_left fun v _ => vmv_cat g v)
section Calls
variable {g : GX} {ρ' : Rs} {Q : Option Value → St → Prop} {d : Nat} {M : MD} {pc : Nat} {ls : List (Nat × Value)} {st : List Value} {ρ : Rs} {S : St}
/-- behind a call -/
theorem AW.cont {rest : List Value} {ρ1 : Rs} {p : Program} {e : Env} {R : Room} {s : State} {m : MethodId} {args : Array Value} {below : List Frame} {meth : Method} {c : Code} {H : Heap} {locs : List Loc} {cells slots c0 u0 : Nat} {Z : State → Prop} {la : Array Slot} {st0 : List Value}
    {Q2 : Option Value → St → Prop} {a : Array Value}
    (hr : va_Run p (gL g) e R s m args below meth c H locs cells slots (rc ρ1 - rc ρ) (ru ρ1 - ru ρ) (F0 m pc la st0) (rest.map (vmv g)) (Qco g ρ1 Q2 a) (gA g))
    (hm : rc ρ ≤ rc ρ1) (hm2 : ru ρ ≤ ru ρ1) (hF : Fx g M p s m args meth c) (hd : d ≤ R.frames) (hL : 40 * d ≤ R.locals) (hc : rc ρ' ≤ R.cells + c0) (hu : ru ρ' ≤ R.slots + u0) (ec : cells + c0 = rc ρ) (eu : slots + u0 = ru ρ) (hS : va_S (gA g) s.heap H locs) (hv : lv_has la M.2.2.1 (ls.map (vmp g)))
    (hz : ∀ (r : Option Value) (S' : St) (H' : Heap) (locs' : List Loc) (la' : Array Slot) (pc' : Nat) (st' : List Value), Rt M pc' r st' → Q r S' → Fr (gF g) S S' → Rep g ρ' S' H' → va_S (gA g) s.heap H' locs' →
      W p (gL g) e R s m args below meth c H' locs' (rc ρ' - c0) (ru ρ' - u0) Z (F0 m pc' la' (st'.map (vmv g))))
    (h2 : ∀ r S', Q2 r S' → Fr (gF g) S S' ∧ AW g ρ' Q d M (pc + 3) ls (r.toList ++ rest) ρ1 S') : W p (gL g) e R s m args below meth c H locs cells slots Z (F0 m pc la st0) := by
  intro T hT X
  obtain ⟨v, s0, t, T', L, h0, X', hLf, e1, e2, ⟨r, S', hv2, hq, hR', hfr⟩, go⟩ := hr T hT X
  cases hv2
  obtain ⟨hfr2, hA⟩ := h2 r S' hq
  have hS' : va_S (gA g) s.heap T'.heap (locs ++ L) := by
    obtain ⟨z1, z2⟩ := hfr
    rw [h0] at z1 z2
    refine ⟨Nat.le_trans hS.1 (by rw [e1]; exact z1), fun q q1 q2 => ?_, fun q hq => ?_⟩
    · rw [e1, z2 q (Nat.lt_of_lt_of_le q1 hS.1) q2]
      exact hS.2.1 q q1 q2
    · rcases List.mem_append.mp hq with w | w
      · exact hS.2.2 q w
      · exact hLf q w
  have k := hA p e R s m args below meth c T'.heap (locs ++ L) (cells + (rc ρ1 - rc ρ)) (slots + (ru ρ1 - ru ρ)) c0 u0 Z la hF hd hL hc hu (by omega) (by omega) (by rw [e1]; exact hR') hS' hv (fun r S'' H' locs' la' pc' st' q1 q2 q3 => hz r S'' H' locs' la' pc' st' q1 q2 (Fr.tr hfr2 q3))
  obtain ⟨t2, a1, b1⟩ := k T' rfl X'
  refine ⟨t2, go t2 ?_, b1⟩
  have e3 : (r.toList ++ rest).map (vmv g) = (r.map (vmv g)).toList ++ rest.map (vmv g) := by cases r <;> rfl
  rw [e3] at a1
  exact a1
theorem AW_callV {idx n : Nat} {M2 : MD} {As : List Value} {ρ1 : Rs} {C : String} {k : Nat} (hd0 : decode M.2.1 pc = .ok (.invokevirtual idx, 3)) (hM : Md M2) (hC : M2.1.cls = C) (hlk : Cond.methodLink M.1.cls idx M2.1 ∈ Wg) (hin : Cond.instanceMethod M2.1 ∈ Wg) (hse : Cond.selects C M2.1 M2.1 ∈ Wg) (hrc : ∀ (s : State) (H : Heap) (locs : List Loc), VX g s → PX g s s.heap → va_S (gA g) s.heap H locs → Rep g ρ S H → ∃ cell : Cell, H[ad g k]? = some cell ∧ cell.vm.isStatics = false ∧ s.vm.findClass C = some cell.cls) (hn : As.length = n ∧ (parseMethodDescriptor M2.1.desc).map (fun d => d.parameters.length) = some n) (hw : (st.map fun v => v.category).sum ≤ 8) (hc1 : rc ρ1 ≤ rc ρ') (hu1 : ru ρ1 ≤ ru ρ') {st0 : List Value} (hst : st0 = As.reverse ++ .ref k :: st)
    (h : CALL g d M2 (.ref k :: As) ρ ρ1 S (fun r S' => AW g ρ' Q (d + 1) M (pc + 3) ls (r.toList ++ st) ρ1 S')) : AW g ρ' Q (d + 1) M pc ls st0 ρ S := by
  subst hst
  intro p e R s m args below meth c H locs cells slots c0 u0 Z la hF hd hL hc hu ec eu hR hS hv hz
  obtain ⟨z1, z2, hmet⟩ := h
  have hmet := hmet (fun r S' => Fr (gF g) S S' ∧ AW g ρ' Q (d + 1) M (pc + 3) ls (r.toList ++ st) ρ1 S') (fun r S' a b => ⟨b, a⟩)
  have hts := hF.2.2.2.2.2.1
  have hpar : ∀ sig, parseMethodDescriptor M2.1.desc = some sig → n = sig.parameters.length := fun sig q => by
    have w := hn.2
    rw [q] at w
    exact (Option.some.inj w).symm
  have hM4 := hM.2.2.2.1
  have hcb : (rmo d ρ ρ1).frames + 1 ≤ R.frames := hd
  have hlb : 8 + (M2.2.2.1 + 11) + (rmo d ρ ρ1).locals ≤ R.locals := by
    show 8 + (M2.2.2.1 + 11) + 40 * d ≤ R.locals
    omega
  have hb := va_runV (p := p) (e := e) (below := below) (meth := meth) (locs := locs) (cells := cells) (slots := slots) (n := n) (index := idx) (C := C) (b := ad g k) (As := As.map (vmv g)) (rest := st.map (vmv g)) (g := F0 m pc la ((As.reverse ++ .ref k :: st).map (vmv g))) (nL := M.2.2.1) (cc := M.2.1) (own := M.1.cls) (Ts := Wg) ⟨hF.1, hF.2.1, hF.2.2.2.1, hF.2.2.2.2.1, hts⟩ hmet
    ⟨⟨rfl, rfl, hcb, hlb, Wg_pay hM hts, List.mem_cons_self, hts _ hM.1, hts _ hM.2.1, hM.2.2.1, hpar, hts _ hlk⟩, hts _ hin, hts _ hse⟩
    ⟨Pco_blind g ρ S _, hrc s H locs hF.2.2.2.2.2.2.2.2.1 hF.2.2.2.2.2.2.2.2.2.1 hS hR, Pco_here (.ref k :: As) hF hR hS⟩ rfl (by rw [List.length_map]; exact hn.1) hv.1 (by simp [vmv]) (lv_room (by rw [cat_map]; exact hw)) hd0 ⟨by show cells + (rc ρ1 - rc ρ) ≤ R.cells; omega, by show slots + (ru ρ1 - ru ρ) ≤ R.slots; omega⟩
  exact AW.cont hb z1 z2 hF hd hL hc hu ec eu hS hv hz (fun r S' q => q)
theorem AW_callS {idx n : Nat} {M2 : MD} {As : List Value} {ρ1 : Rs}  (hd0 : decode M.2.1 pc = .ok (.invokestatic idx, 3)) (hM : Md M2) (hlk : Cond.methodLink M.1.cls idx M2.1 ∈ Wg) (hse : Cond.static M2.1 ∈ Wg) (hn : As.length = n ∧ (parseMethodDescriptor M2.1.desc).map (fun d => d.parameters.length) = some n) (hw : (st.map fun v => v.category).sum ≤ 8) (hc1 : rc ρ1 ≤ rc ρ') (hu1 : ru ρ1 ≤ ru ρ') {st0 : List Value} (hst : st0 = As.reverse ++ st)
    (h : CALL g d M2 As ρ ρ1 S (fun r S' => AW g ρ' Q (d + 1) M (pc + 3) ls (r.toList ++ st) ρ1 S')) : AW g ρ' Q (d + 1) M pc ls st0 ρ S := by
  subst hst
  intro p e R s m args below meth c H locs cells slots c0 u0 Z la hF hd hL hc hu ec eu hR hS hv hz
  obtain ⟨z1, z2, hmet⟩ := h
  have hmet := hmet (fun r S' => Fr (gF g) S S' ∧ AW g ρ' Q (d + 1) M (pc + 3) ls (r.toList ++ st) ρ1 S') (fun r S' a b => ⟨b, a⟩)
  have hts := hF.2.2.2.2.2.1
  have hpar : ∀ sig, parseMethodDescriptor M2.1.desc = some sig → n = sig.parameters.length := fun sig q => by
    have w := hn.2
    rw [q] at w
    exact (Option.some.inj w).symm
  have hM4 := hM.2.2.2.1
  have hcb : (rmo d ρ ρ1).frames + 1 ≤ R.frames := hd
  have hlb : 8 + (M2.2.2.1 + 11) + (rmo d ρ ρ1).locals ≤ R.locals := by
    show 8 + (M2.2.2.1 + 11) + 40 * d ≤ R.locals
    omega
  have hb := va_runS (p := p) (e := e) (below := below) (meth := meth) (locs := locs) (cells := cells) (slots := slots) (n := n) (index := idx) (As := As.map (vmv g)) (rest := st.map (vmv g)) (g := F0 m pc la ((As.reverse ++ st).map (vmv g))) (nL := M.2.2.1) (cc := M.2.1) (own := M.1.cls) (Ts := Wg) ⟨hF.1, hF.2.1, hF.2.2.2.1, hF.2.2.2.2.1, hts⟩ hmet
    ⟨⟨rfl, rfl, hcb, hlb, Wg_pay hM hts, List.mem_cons_self, hts _ hM.1, hts _ hM.2.1, hM.2.2.1, hpar, hts _ hlk⟩, hts _ hse⟩
    ⟨Pco_blind g ρ S _, Pco_here As hF hR hS⟩ rfl (by rw [List.length_map]; exact hn.1) hv.1 (by simp) (lv_room (by rw [cat_map]; exact hw)) hd0 ⟨by show cells + (rc ρ1 - rc ρ) ≤ R.cells; omega, by show slots + (ru ρ1 - ru ρ) ≤ R.slots; omega⟩
  exact AW.cont hb z1 z2 hF hd hL hc hu ec eu hS hv hz (fun r S' q => q)
theorem AW_callI {idx n : Nat} {M2 : MD} {As : List Value} {ρ1 : Rs} {k : Nat} (hd0 : decode M.2.1 pc = .ok (.invokespecial idx, 3)) (hM : Md M2) (hlk : Cond.methodLink M.1.cls idx M2.1 ∈ Wg) (hin : Cond.instanceMethod M2.1 ∈ Wg) (hnm : M2.1.name = "<init>") (hrt : M2.2.2.2 = none) (hn : As.length = n ∧ (parseMethodDescriptor M2.1.desc).map (fun d => d.parameters.length) = some n) (hw : (st.map fun v => v.category).sum ≤ 8) (hc1 : rc ρ1 ≤ rc ρ') (hu1 : ru ρ1 ≤ ru ρ') {st0 : List Value} (hst : st0 = As.reverse ++ .ref k :: st)
    (h : CALL g d M2 (.ref k :: As) ρ ρ1 S (fun r S' => AW g ρ' Q (d + 1) M (pc + 3) ls (r.toList ++ st) ρ1 S')) : AW g ρ' Q (d + 1) M pc ls st0 ρ S := by
  subst hst
  intro p e R s m args below meth c H locs cells slots c0 u0 Z la hF hd hL hc hu ec eu hR hS hv hz
  obtain ⟨z1, z2, hmet⟩ := h
  have hmet := hmet (fun r S' => Fr (gF g) S S' ∧ AW g ρ' Q (d + 1) M (pc + 3) ls (r.toList ++ st) ρ1 S') (fun r S' a b => ⟨b, a⟩)
  have hts := hF.2.2.2.2.2.1
  have hpar : ∀ sig, parseMethodDescriptor M2.1.desc = some sig → n = sig.parameters.length := fun sig q => by
    have w := hn.2
    rw [q] at w
    exact (Option.some.inj w).symm
  have hM4 := hM.2.2.2.1
  have hcb : (rmo d ρ ρ1).frames + 1 ≤ R.frames := hd
  have hlb : 8 + (M2.2.2.1 + 11) + (rmo d ρ ρ1).locals ≤ R.locals := by
    show 8 + (M2.2.2.1 + 11) + 40 * d ≤ R.locals
    omega
  have hb := va_runI (p := p) (e := e) (below := below) (meth := meth) (locs := locs) (cells := cells) (slots := slots) (n := n) (index := idx) (b := ad g k) (As := As.map (vmv g)) (rest := st.map (vmv g)) (g := F0 m pc la ((As.reverse ++ .ref k :: st).map (vmv g))) (nL := M.2.2.1) (cc := M.2.1) (own := M.1.cls) (Ts := Wg) ⟨hF.1, hF.2.1, hF.2.2.2.1, hF.2.2.2.2.1, hts⟩ hmet
    ⟨⟨rfl, rfl, hcb, hlb, Wg_pay hM hts, hrt ▸ List.mem_cons_self, hrt ▸ hts _ hM.1, hts _ hM.2.1, hM.2.2.1, hpar, hts _ hlk⟩, hnm, hts _ hin⟩
    ⟨Pco_blind g ρ S _, Pco_here (.ref k :: As) hF hR hS⟩ rfl (by rw [List.length_map]; exact hn.1) hv.1 (by simp [vmv]) (lv_room (by rw [cat_map]; exact hw)) hd0 ⟨by show cells + (rc ρ1 - rc ρ) ≤ R.cells; omega, by show slots + (ru ρ1 - ru ρ) ≤ R.slots; omega⟩
  exact AW.cont hb z1 z2 hF hd hL hc hu ec eu hS hv hz (fun r S' q => q)
theorem AW_callN {idx n : Nat} {M2 : MD} {As : List Value} {ρ1 : Rs} {k : Nat} {host : String} (hd0 : decode M.2.1 pc = .ok (.invokespecial idx, 3)) (hM : Md M2) (hlk : Cond.methodLinkNest M.1.cls idx M2.1 host ∈ Wn) (hin : Cond.instanceMethod M2.1 ∈ Wg) (hnm : M2.1.name = "<init>") (hrt : M2.2.2.2 = none) (hn : As.length = n ∧ (parseMethodDescriptor M2.1.desc).map (fun d => d.parameters.length) = some n) (hw : (st.map fun v => v.category).sum ≤ 8) (hc1 : rc ρ1 ≤ rc ρ') (hu1 : ru ρ1 ≤ ru ρ') {st0 : List Value} (hst : st0 = As.reverse ++ .ref k :: st)
    (h : CALL g d M2 (.ref k :: As) ρ ρ1 S (fun r S' => AW g ρ' Q (d + 1) M (pc + 3) ls (r.toList ++ st) ρ1 S')) : AW g ρ' Q (d + 1) M pc ls st0 ρ S := by
  subst hst
  intro p e R s m args below meth c H locs cells slots c0 u0 Z la hF hd hL hc hu ec eu hR hS hv hz
  obtain ⟨z1, z2, hmet⟩ := h
  have hmet := hmet (fun r S' => Fr (gF g) S S' ∧ AW g ρ' Q (d + 1) M (pc + 3) ls (r.toList ++ st) ρ1 S') (fun r S' a b => ⟨b, a⟩)
  have hts := hF.2.2.2.2.2.1
  have hpar : ∀ sig, parseMethodDescriptor M2.1.desc = some sig → n = sig.parameters.length := fun sig q => by
    have w := hn.2
    rw [q] at w
    exact (Option.some.inj w).symm
  have hM4 := hM.2.2.2.1
  have hcb : (rmo d ρ ρ1).frames + 1 ≤ R.frames := hd
  have hlb : 8 + (M2.2.2.1 + 11) + (rmo d ρ ρ1).locals ≤ R.locals := by
    show 8 + (M2.2.2.1 + 11) + 40 * d ≤ R.locals
    omega
  have hb := va_runIN (p := p) (e := e) (below := below) (meth := meth) (locs := locs) (cells := cells) (slots := slots) (n := n) (index := idx) (host := host) (b := ad g k) (As := As.map (vmv g)) (rest := st.map (vmv g)) (g := F0 m pc la ((As.reverse ++ .ref k :: st).map (vmv g))) (nL := M.2.2.1) (cc := M.2.1) (own := M.1.cls) (Ts := Wg) ⟨hF.1, hF.2.1, hF.2.2.2.1, hF.2.2.2.2.1, hts⟩ hmet
    ⟨⟨⟨rfl, rfl, hcb, hlb, Wg_pay hM hts, hrt ▸ List.mem_cons_self⟩, hrt ▸ hts _ hM.1, hts _ hM.2.1, hM.2.2.1, hpar, va_Nw.use rfl (hF.2.2.2.2.2.2.2.2.1.2.1 _ hlk)⟩, hnm, hts _ hin⟩
    ⟨Pco_blind g ρ S _, Pco_here (.ref k :: As) hF hR hS⟩ rfl (by rw [List.length_map]; exact hn.1) hv.1 (by simp [vmv]) (lv_room (by rw [cat_map]; exact hw)) hd0 ⟨by show cells + (rc ρ1 - rc ρ) ≤ R.cells; omega, by show slots + (ru ρ1 - ru ρ) ≤ R.slots; omega⟩
  exact AW.cont hb z1 z2 hF hd hL hc hu ec eu hS hv hz (fun r S' q => q)
/-- a receiver of the world -/
theorem rcv_of {k ci : Nat} {q : vw_C} (h1 : 16 ≤ k) (h2 : k < rn ρ) (hs : shp ρ k = .inl ci) (hc : vwCl[ci]? = some q) : ∀ (s : State) (H : Heap) (locs : List Loc), VX g s → PX g s s.heap → va_S (gA g) s.heap H locs → Rep g ρ S H → ∃ cell : Cell, H[ad g k]? = some cell ∧ cell.vm.isStatics = false ∧ s.vm.findClass q.1 = some cell.cls := by
  intro s H locs hK _ _ hR
  exact va_recv hK.1 hR.2.2 hc (q0 := pl k) (by rw [wsO_get h1 (ngO hs) h2, ent_O hs])
theorem rcv_S {i : Nat} (hi : i < 5) : ∀ (s : State) (H : Heap) (locs : List Loc), VX g s → PX g s s.heap → va_S (gA g) s.heap H locs → Rep g ρ S H → ∃ cell : Cell, H[ad g i]? = some cell ∧ cell.vm.isStatics = false ∧ s.vm.findClass "java/lang/String" = some cell.cls := by
  intro s H locs _ hP hS _
  exact vk_recv hP.2.2.1 hi hS
theorem AW_objInit {idx k : Nat} (hd0 : decode M.2.1 pc = .ok (.invokespecial idx, 3)) (h1 : Cond.methodLink M.1.cls idx objectInit ∈ Wg) (h2 : Cond.instanceMethod objectInit ∈ Wg) (h3 : Cond.code objectInit ⟨#[0xb1]⟩ 1 none ∈ Wg) (hw : (st.map fun v => v.category).sum ≤ 8) (kk : AW g ρ' Q (d + 1) M (pc + 3) ls st ρ S) : AW g ρ' Q (d + 1) M pc ls (.ref k :: st) ρ S := by
  intro p e R s m args below meth c H locs cells slots c0 u0 Z la hF hd hL hc hu ec eu hR hS hv hz
  have hts := hF.2.2.2.2.2.1
  refine W.objInit (g := F0 m pc la (.ref (ad g k) :: st.map (vmv g))) hF.1 hF.2.1 hF.2.2.2.2.1 (hts _ h1) (hts _ h2) (hts _ h3) rfl (by rw [hF.2.2.2.1]; exact hv.1) rfl hd0 (by omega) ?_ (kk p e R s m args below meth c H locs cells slots c0 u0 Z la hF hd hL hc hu ec eu hR hS hv hz)
  have := lv_room (m := m) (pc := pc) (ls := la) (rest := .ref (ad g k) :: st.map (vmv g)) (st := st.map (vmv g)) (by rw [cat_map]; exact hw)
  omega
-- Math
def yMax : MethodName := Lib.Math.max.name

theorem AW_mmaxI {idx : Nat} {x y : Int32} (hd0 : decode M.2.1 pc = .ok (.invokestatic idx, 3)) (h1 : Cond.methodLink M.1.cls idx Lib.Math.max.name ∈ Wg) (h2 : Cond.static Lib.Math.max.name ∈ Wg) (h3 : Cond.initialized "java/lang/Math" ∈ Wg) (h4 : Cond.code Lib.Math.max.name Lib.Math.max.code 2 (some .int) ∈ Wg) (hw : (st.map fun v => v.category).sum ≤ 8) (kk : AW g ρ' Q (d + 1) M (pc + 3) ls (.int (if x < y then y else x) :: st) ρ S) (hcc : rc ρ ≤ rc ρ') (huu : ru ρ ≤ ru ρ') : AW g ρ' Q (d + 1) M pc ls (.int y :: .int x :: st) ρ S := by
  intro p e R s m args below meth c H locs cells slots c0 u0 Z la hF hd hL hc hu ec eu hR hS hv hz
  have hts := hF.2.2.2.2.2.1
  have hw2 := hw
  rw [← cat_map g] at hw2
  exact va_mmax hF.1 hF.2.1 (hF.2.2.2.1.trans hv.1.symm) hF.2.2.2.2.1 (hts _ h1) (hts _ h2) (hts _ h3) (hts _ h4) (by omega) (by omega) (by omega) (by omega) hd0 (kk p e R s m args below meth c H locs cells slots c0 u0 Z la hF hd hL hc hu ec eu hR hS hv hz)
theorem AW_mminI {idx : Nat} {x y : Int32} (hd0 : decode M.2.1 pc = .ok (.invokestatic idx, 3)) (h1 : Cond.methodLink M.1.cls idx Lib.Math.min.name ∈ Wg) (h2 : Cond.static Lib.Math.min.name ∈ Wg) (h3 : Cond.initialized "java/lang/Math" ∈ Wg) (h4 : Cond.code Lib.Math.min.name Lib.Math.min.code 2 (some .int) ∈ Wg) (hw : (st.map fun v => v.category).sum ≤ 8) (kk : AW g ρ' Q (d + 1) M (pc + 3) ls (.int (if y < x then y else x) :: st) ρ S) (hcc : rc ρ ≤ rc ρ') (huu : ru ρ ≤ ru ρ') : AW g ρ' Q (d + 1) M pc ls (.int y :: .int x :: st) ρ S := by
  intro p e R s m args below meth c H locs cells slots c0 u0 Z la hF hd hL hc hu ec eu hR hS hv hz
  have hts := hF.2.2.2.2.2.1
  have hw2 := hw
  rw [← cat_map g] at hw2
  exact va_mmin hF.1 hF.2.1 (hF.2.2.2.1.trans hv.1.symm) hF.2.2.2.2.1 (hts _ h1) (hts _ h2) (hts _ h3) (hts _ h4) (by omega) (by omega) (by omega) (by omega) hd0 (kk p e R s m args below meth c H locs cells slots c0 u0 Z la hF hd hL hc hu ec eu hR hS hv hz)
theorem AW_mmaxL {idx : Nat} {x y : Int64} (hd0 : decode M.2.1 pc = .ok (.invokestatic idx, 3)) (h1 : Cond.methodLink M.1.cls idx Lib.MathLoose.max_long.x ∈ Wg) (h2 : Cond.static Lib.MathLoose.max_long.x ∈ Wg) (h3 : Cond.initialized "java/lang/Math" ∈ Wg) (h4 : Cond.code Lib.MathLoose.max_long.x Lib.MathLoose.max_long.code 4 (some .long) ∈ Wg) (hw : (st.map fun v => v.category).sum ≤ 8) (kk : AW g ρ' Q (d + 1) M (pc + 3) ls (.long (if y < x then x else y) :: st) ρ S) (hcc : rc ρ ≤ rc ρ') (huu : ru ρ ≤ ru ρ') : AW g ρ' Q (d + 1) M pc ls (.long y :: .long x :: st) ρ S := by
  intro p e R s m args below meth c H locs cells slots c0 u0 Z la hF hd hL hc hu ec eu hR hS hv hz
  have hts := hF.2.2.2.2.2.1
  have hw2 := hw
  rw [← cat_map g] at hw2
  exact va_mmax_long hF.1 hF.2.1 (hF.2.2.2.1.trans hv.1.symm) hF.2.2.2.2.1 (hts _ h1) (hts _ h2) (hts _ h3) (hts _ h4) (by omega) (by omega) (by omega) (by omega) hd0 (kk p e R s m args below meth c H locs cells slots c0 u0 Z la hF hd hL hc hu ec eu hR hS hv hz)
theorem AW_mminL {idx : Nat} {x y : Int64} (hd0 : decode M.2.1 pc = .ok (.invokestatic idx, 3)) (h1 : Cond.methodLink M.1.cls idx Lib.MathLoose.min_long.x ∈ Wg) (h2 : Cond.static Lib.MathLoose.min_long.x ∈ Wg) (h3 : Cond.initialized "java/lang/Math" ∈ Wg) (h4 : Cond.code Lib.MathLoose.min_long.x Lib.MathLoose.min_long.code 4 (some .long) ∈ Wg) (hw : (st.map fun v => v.category).sum ≤ 8) (kk : AW g ρ' Q (d + 1) M (pc + 3) ls (.long (if y < x then y else x) :: st) ρ S) (hcc : rc ρ ≤ rc ρ') (huu : ru ρ ≤ ru ρ') : AW g ρ' Q (d + 1) M pc ls (.long y :: .long x :: st) ρ S := by
  intro p e R s m args below meth c H locs cells slots c0 u0 Z la hF hd hL hc hu ec eu hR hS hv hz
  have hts := hF.2.2.2.2.2.1
  have hw2 := hw
  rw [← cat_map g] at hw2
  exact va_mmin_long hF.1 hF.2.1 (hF.2.2.2.1.trans hv.1.symm) hF.2.2.2.2.1 (hts _ h1) (hts _ h2) (hts _ h3) (hts _ h4) (by omega) (by omega) (by omega) (by omega) hd0 (kk p e R s m args below meth c H locs cells slots c0 u0 Z la hF hd hL hc hu ec eu hR hS hv hz)
-- switches
theorem AW_tswIn {dflt lo hi : Int} {offs : Array Int} {len : Nat} {x : Int32} {off : Int} {tgt : Nat} (hd0 : decode M.2.1 pc = .ok (.tableswitch dflt lo hi offs, len)) (h1 : ¬ x.toInt < lo) (h2 : ¬ hi < x.toInt) (ho : offs[(x.toInt - lo).toNat]? = some off) (ht : (pc : Int) + off = (tgt : Int)) (k : AW g ρ' Q d M tgt ls st ρ S) : AW g ρ' Q d M pc ls (.int x :: st) ρ S :=
  AW.pure (fun p e R s m args below meth c H locs cells slots Z la hx hb k => lv_tableIn hx hb hd0 h1 h2 ho ht k) k
theorem AW_tswOut {dflt lo hi : Int} {offs : Array Int} {len : Nat} {x : Int32} {tgt : Nat} (hd0 : decode M.2.1 pc = .ok (.tableswitch dflt lo hi offs, len)) (h : x.toInt < lo ∨ hi < x.toInt) (ht : (pc : Int) + dflt = (tgt : Int)) (k : AW g ρ' Q d M tgt ls st ρ S) : AW g ρ' Q d M pc ls (.int x :: st) ρ S :=
  AW.pure (fun p e R s m args below meth c H locs cells slots Z la hx hb k => lv_tableOut hx hb hd0 h ht k) k
theorem AW_lsw {dflt : Int} {ps : Array (Int × Int)} {len : Nat} {x : Int32} {off : Int} {tgt : Nat} (hd0 : decode M.2.1 pc = .ok (.lookupswitch dflt ps, len)) (hp : (ps.toList.zip (ps.toList.drop 1)).all (fun (a, next) => a.1 < next.1) = true) (ho : Op.lookupswitch.offset ps.toList dflt x.toInt = off) (ht : (pc : Int) + off = (tgt : Int)) (k : AW g ρ' Q d M tgt ls st ρ S) : AW g ρ' Q d M pc ls (.int x :: st) ρ S :=
  AW.pure (fun p e R s m args below meth c H locs cells slots Z la hx hb k => lv_lookup hx hb hd0 hp ho ht k) k
end Calls
