-- what is made at the start: arrays of arrays, and fields that are set once
theorem arrV_ext {c : ClassId} {N : Nat} {f f' : Nat → Value} (h : ∀ j, j < N → f j = f' j) : arrV c N f = arrV c N f' := by
  unfold arrV
  rw [show (fun j : Fin N => f j.val) = (fun j : Fin N => f' j.val) from funext fun j => h j.1 j.2]
abbrev wOvr : Cond := .arrayOver (.array .long)
def AOk (g : GX) : Prop := ∀ U : State, VX g U → wOvr.before #[] U = true
theorem aOk (g : GX) : AOk g := fun _ h => h.2.2.2
def mulR (ρ : Rs) (k : Nat) : Rs := (rn ρ + 5, fun a => if a = rn ρ then (fun j => if j < 4 then some (rn ρ + 1 + j) else none) else if rn ρ < a ∧ a < rn ρ + 5 then fun _ => none else rR ρ a, rl ρ, rc ρ + 5, ru ρ + (4 + 4 * k))
def mulS (S : St) (n : Nat) : St := (fun a => if n ≤ a ∧ a < n + 5 then fun _ => 0 else S.1 a, fun a => if n ≤ a ∧ a < n + 5 then fun _ => 0 else S.2 a)
theorem mulS_fr (S : St) (n : Nat) : Fr (fun a => n ≤ a) S (mulS S n) := fun a ha => ⟨if_neg (fun q => ha q.1), if_neg (fun q => ha q.1)⟩
theorem outer4 (cA : ClassId) (h0 : Nat) : Jvm.Free.Multi.outerC cA 4 h0 4 = arrV cA 4 (fun j => .ref (h0 + 1 + j)) := by
  show ((((({ cls := cA, slots := Array.replicate 4 .null, vm := .none } : Cell).setSlot 0 (.ref (h0 + 1 + 0))).setSlot 1 (.ref (h0 + 1 + 1))).setSlot 2 (.ref (h0 + 1 + 2))).setSlot 3 (.ref (h0 + 1 + 3))) = _
  rw [arrV_new, arrV_store, arrV_store, arrV_store, arrV_store]
  refine arrV_ext fun j hj => ?_
  rcases (show j = 0 ∨ j = 1 ∨ j = 2 ∨ j = 3 by omega) with rfl | rfl | rfl | rfl <;> rfl
theorem inner_arr (c : ClassId) (k : Nat) (v : Value) : Jvm.Free.Multi.innerC c k v = arrV c k (fun _ => v) := arrV_new c k v
section Made
variable {g : GX} {ρ' : Rs} {Q : Option Value → St → Prop} {d : Nat} {M : MD} {pc : Nat} {ls : List (Nat × Value)} {st : List Value} {ρ : Rs} {S : St}
theorem AW_multi {idx k : Nat} {i : Int32} (hAO : AOk g) (hd0 : decode M.2.1 pc = .ok (.multianewarray idx 2, 4)) (hl : Cond.classLink M.1.cls idx "[[J" ∈ Wg) (hi : ¬ i < 0) (hn : i.toNatClampNeg = k) (hb : k ≤ 60000) (hs0 : shp ρ (rn ρ) = .inr (3, 4)) (hs : ∀ j, j < 4 → shp ρ (rn ρ + 1 + j) = .inr (1, k)) (hc1 : rc ρ + 5 ≤ rc ρ') (hu1 : ru ρ + (4 + 4 * k) ≤ ru ρ') (hk : ∀ j, 16 ≤ j → gF g j) (h16 : 16 ≤ rn ρ)
    (kk : AW g ρ' Q d M (pc + 4) ls (.ref (rn ρ) :: st) (mulR ρ k) (mulS S (rn ρ))) : AW g ρ' Q d M pc ls (.int i :: .int 4 :: st) ρ S := by
  intro p e R s m args below meth c H locs cells slots c0 u0 Z la hF hd hL hc hu ec eu hR hS hv hz
  intro T hT X
  have hK := hF.2.2.2.2.2.2.2.2.1.1
  have hts := hF.2.2.2.2.2.1
  have e0 : "[" ++ (FieldType.array .long).toString = "[[J" := by decide +kernel
  have e1 : (FieldType.array .long).toString = "[" ++ FieldType.long.toString := by decide +kernel
  have e4 : (4 : Int32).toNatClampNeg = 4 := by decide +kernel
  obtain ⟨vm₁, cA, comp, -, hfA, hfC, -, -, X1, st1⟩ := X.multianewarray2F (ty := .long) (index := idx) (n := 4) (k := i) (rest := st.map (vmv g)) (g := F0 m pc la (.int i :: .int 4 :: st.map (vmv g))) hF.1 hF.2.2.2.2.1 (by rw [e0]; exact hts _ hl) (hAO s hF.2.2.2.2.2.2.2.2.1) (hts _ wArr_long) rfl (by rw [hF.2.1]; exact hd0) rfl (by decide) hi (by rw [e4]; decide) (by rw [hn]; show k * 8 ≤ _; omega) (by rw [hn]; omega) rfl rfl (by rw [e4]; omega) (by rw [e4, hn]; omega)
  rw [e4, hn] at X1 st1
  have hcA : cA = gC g 3 := Option.some.inj (hfA.symm.trans (hK.2 3 _ (tysO_3 g)).2)
  have hcC : comp = gC g 1 := Option.some.inj (hfC.symm.trans (by rw [e1]; exact (hK.2 1 _ (tysO_1 g)).2))
  subst hcA
  subst hcC
  obtain ⟨f1, f2, -, -⟩ := Jvm.Free.Multi.fill_facts (T.setVm vm₁) (gC g 3) (gC g 1) 4 k (defaultValue .long) 4
  have fo := fun (a : Addr) (ha : a < T.heap.size) => Jvm.Free.Multi.fill_old (T.setVm vm₁) (gC g 3) (gC g 1) 4 k (defaultValue .long) (a := a) ha 4
  have fi := fun (j : Nat) (hj : j < 4) => Jvm.Free.Multi.fill_inner (T.setVm vm₁) (gC g 3) (gC g 1) 4 k (defaultValue .long) 4 j hj
  rw [outer4] at f2
  have hTs : (T.setVm vm₁).heap = H := hT
  rw [hTs] at f1 f2 fi
  rw [hT] at st1 fo
  generalize hU : Jvm.Free.Multi.fill (T.setVm vm₁) (gC g 3) (gC g 1) 4 k (defaultValue .long) 4 = U at *
  have fo2 : ∀ q, q < H.size → U.heap[q]? = H[q]? := fun q hq => (fo q hq).trans (by rw [hTs])
  have hadd : ∀ a, 16 ≤ a → ad g a = gB g + (a - 16) := fun a ha => by unfold ad; rw [if_neg (by omega)]
  have hsz := hR.2.1
  have hshp : ∀ a, shp (mulR ρ k) a = shp ρ a := fun a => rfl
  have hold : va_P (gD g) vwCl (wsO g ρ S) U.heap := hR.2.2.kept (fun k q hk => fo2 q.1 ((hR.2.2 k q hk).lt))
  have hR2 : Rep g (mulR ρ k) (mulS S (rn ρ)) U.heap := by
    refine ⟨by show 16 ≤ rn ρ + 5; omega, by rw [f1, hsz]; show gB g + (rn ρ - 16) + 1 + 4 = gB g + (rn ρ + 5 - 16); omega, fun a q hq => ?_⟩
    obtain ⟨ha, rfl⟩ := wsO_at hq
    have ha2 : a < rn ρ + 5 - 16 := ha
    by_cases h1 : a < rn ρ - 16
    · have h2 := wsO_get (g := g) (ρ := ρ) (S := S) (k := 16 + a) (by omega) (by omega)
      have h3 := hold _ _ h2
      rw [hadd _ (by omega), show 16 + a - 16 = a by omega] at h3
      rw [ent_ext (ρ := ρ) (S := S) (hshp _) (if_neg (by omega)) (if_neg (by omega)) (by show (if 16 + a = rn ρ then _ else if _ then _ else rR ρ (16 + a)) = _; rw [if_neg (by omega), if_neg (by omega)])]
      exact h3
    · by_cases h2 : a = rn ρ - 16
      · subst h2
        rw [show 16 + (rn ρ - 16) = rn ρ by omega, ent_R ((hshp _).trans hs0)]
        show U.heap[gB g + (rn ρ - 16)]? = some (vp_cell _ _)
        rw [← hsz, f2, vp_cell_q]
        refine congrArg some (arrV_ext fun j hj => ?_)
        have z : rR (mulR ρ k) (rn ρ) j = some (rn ρ + 1 + j) := by
          show (if rn ρ = rn ρ then (fun j => if j < 4 then some (rn ρ + 1 + j) else none) else _) j = _
          rw [if_pos rfl, if_pos hj]
        rw [z]
        show Value.ref _ = Value.ref (ad g (rn ρ + 1 + j))
        rw [hadd _ (by omega), hsz]
        exact congrArg Value.ref (show gB g + (rn ρ - 16) + 1 + j = gB g + (rn ρ + 1 + j - 16) by omega)
      · obtain ⟨j, hj, rfl⟩ : ∃ j, j < 4 ∧ a = rn ρ - 16 + 1 + j := ⟨a - (rn ρ - 16) - 1, by omega, by omega⟩
        rw [show 16 + (rn ρ - 16 + 1 + j) = rn ρ + 1 + j by omega, ent_J ((hshp _).trans (hs j hj))]
        show U.heap[gB g + (rn ρ - 16 + 1 + j)]? = some (vp_cell _ _)
        rw [show gB g + (rn ρ - 16 + 1 + j) = H.size + 1 + j by omega, fi j hj, vp_cell_l, inner_arr]
        refine congrArg some (arrV_ext fun j2 hj2 => ?_)
        have z : (mulS S (rn ρ)).2 (rn ρ + 1 + j) = fun _ => 0 := if_pos (by omega)
        rw [z]
        rfl
  have hfr : Fr (gF g) S (mulS S (rn ρ)) := (mulS_fr S (rn ρ)).mono (fun a e => hk a (by omega))
  have k9 := kk p e R s m args below meth c U.heap locs (cells + 5) (slots + (4 + 4 * k)) c0 u0 Z la hF hd hL hc hu (by show cells + 5 + c0 = rc ρ + 5; omega) (by show slots + (4 + 4 * k) + u0 = ru ρ + (4 + 4 * k); omega) hR2 ⟨Nat.le_trans hS.1 (by omega), fun q h1 h2 => (fo2 q (Nat.lt_of_lt_of_le h1 hS.1)).trans (hS.2.1 q h1 h2), hS.2.2⟩ hv (fun r S' H' locs' la' pc' st' q1 q2 q3 => hz r S' H' locs' la' pc' st' q1 q2 (Fr.tr hfr q3))
  rw [List.map_cons, show vmv g (.ref (rn ρ)) = .ref H.size from congrArg Value.ref ((hadd _ h16).trans hsz.symm)] at k9
  obtain ⟨t, t1, t2⟩ := k9 U rfl (X1.more (by omega) (by omega))
  exact ⟨t, st1 t t1, t2⟩
/-- a field that holds a reference and is set in a constructor -/
theorem AW_putFR {k ci j idx x : Nat} {ty : FieldType} {ρ2 : Rs} (hd0 : decode M.2.1 pc = .ok (.putfield idx, 3)) (hl : Fl M.1.cls idx ci j 2) (hp : Fp ci j true ty) (hin : M.1.name = "<init>") (hcl : ∀ q, vwCl[ci]? = some q → q.1 = M.1.cls) (h1 : 16 ≤ k) (h2 : k < rn ρ) (hs : shp ρ k = .inl ci) (hn : ∀ a, narrow ty (.ref a) = .ref a) (hfit : ∀ a, fits ty (.ref a) = true) (e : setR ρ k j (some x) = ρ2) (hk : gF g k)
    (kk : AW g ρ' Q d M (pc + 3) ls st ρ2 S) : AW g ρ' Q d M pc ls (.ref x :: .ref k :: st) ρ S := by
  subst e
  refine AW_putF (ρ2 := setR ρ k j (some x)) (S2 := S) hd0 hl hp hin hcl h1 h2 hs (fun g => hn _) (fun g => hfit _) rfl rfl rfl rfl (Fr.rf S) (fun a ha => setR_ne ρ j _ ha) (fun g => ?_) (fun g i u hi _ => fvR_o hi) hk kk
  show va_rf ((rR (setR ρ k j (some x)) k j).map (ad g)) = _
  rw [setR_eq]
  rfl
theorem AW_putR {k ci j idx x : Nat} {ty : FieldType} {ρ2 : Rs} (hd0 : decode M.2.1 pc = .ok (.putfield idx, 3)) (hl : Fl M.1.cls idx ci j 2) (hp : Fp ci j false ty) (h1 : 16 ≤ k) (h2 : k < rn ρ) (hs : shp ρ k = .inl ci) (hn : ∀ a, narrow ty (.ref a) = .ref a) (hfit : ∀ a, fits ty (.ref a) = true) (e : setR ρ k j (some x) = ρ2) (hk : gF g k)
    (kk : AW g ρ' Q d M (pc + 3) ls st ρ2 S) : AW g ρ' Q d M pc ls (.ref x :: .ref k :: st) ρ S := by
  subst e
  refine AW_put (ρ2 := setR ρ k j (some x)) (S2 := S) hd0 hl hp h1 h2 hs (fun g => hn _) (fun g => hfit _) rfl rfl rfl rfl (Fr.rf S) (fun a ha => setR_ne ρ j _ ha) (fun g => ?_) (fun g i u hi _ => fvR_o hi) hk kk
  show va_rf ((rR (setR ρ k j (some x)) k j).map (ad g)) = _
  rw [setR_eq]
  rfl
theorem AW_newarrK {atype : ArrayType} {t n K : Nat} {i : Int32} {ρ1 : Rs} (hd0 : decode M.2.1 pc = .ok (.newarray atype, 2)) (hat : (atype = .int ∧ t = 0) ∨ (atype = .long ∧ t = 1) ∨ (atype = .boolean ∧ t = 2)) (hwd : Cond.arrayClass (newarray.typeOf atype) ∈ Wg) (hi : ¬ i < 0) (hn : i.toNatClampNeg = n) (hb : n ≤ 60000000) (eK : rn ρ = K) (e : newR ρ n n = ρ1) (hs : shp ρ1 K = .inr (t, n)) (hc1 : rc ρ + 1 ≤ rc ρ') (hu1 : ru ρ + n ≤ ru ρ') (hk : gF g K) (h16 : 16 ≤ K)
    (kk : AW g ρ' Q d M (pc + 2) ls (.ref K :: st) ρ1 (newS S K)) : AW g ρ' Q d M pc ls (.int i :: st) ρ S := by
  subst eK
  subst e
  exact AW_newarr hd0 hat hwd hi hn hb hs hc1 hu1 hk h16 kk
theorem AW_multiK {idx k K : Nat} {i : Int32} {ρ1 : Rs} (hAO : AOk g) (hd0 : decode M.2.1 pc = .ok (.multianewarray idx 2, 4)) (hl : Cond.classLink M.1.cls idx "[[J" ∈ Wg) (hi : ¬ i < 0) (hn : i.toNatClampNeg = k) (hb : k ≤ 60000) (eK : rn ρ = K) (e : mulR ρ k = ρ1) (hs0 : shp ρ K = .inr (3, 4)) (hs : ∀ j, j < 4 → shp ρ (K + 1 + j) = .inr (1, k)) (hc1 : rc ρ + 5 ≤ rc ρ') (hu1 : ru ρ + (4 + 4 * k) ≤ ru ρ') (hk : ∀ j, 16 ≤ j → gF g j) (h16 : 16 ≤ K)
    (kk : AW g ρ' Q d M (pc + 4) ls (.ref K :: st) ρ1 (mulS S K)) : AW g ρ' Q d M pc ls (.int i :: .int 4 :: st) ρ S := by
  subst eK
  subst e
  exact AW_multi hAO hd0 hl hi hn hb hs0 hs hc1 hu1 hk h16 kk
theorem AW_newK {idx ci K : Nat} {C : String} {T : u_T} {N : Nat} {ty : Nat → FieldType} {ρ1 : Rs} (hd0 : decode M.2.1 pc = .ok (.new idx, 3)) (hcl : vwCl[ci]? = some (C, T, N)) (hin : ∀ w ∈ u_ws C T N, w ∈ Wg) (hty : ∀ k, k < N → parseFieldDescriptor (T k).2.2.1 = some (ty k)) (h1 : Cond.classLink M.1.cls idx C ∈ Wg) (h2 : Cond.instantiable C N ∈ Wg) (h3 : Cond.initialized C ∈ Wg)
    (hdf : ∀ j, j < N → ∃ t, (fkA ci)[j]? = some t ∧ defaultValue (ty j) = (match t with | 1 => .long 0 | 2 => .null | _ => .int 0)) (eK : rn ρ = K) (e : newR ρ 0 N = ρ1) (hs : shp ρ1 K = .inl ci) (hc1 : rc ρ + 1 ≤ rc ρ') (hu1 : ru ρ + N ≤ ru ρ') (hk : gF g K) (h16 : 16 ≤ K)
    (kk : AW g ρ' Q d M (pc + 3) ls (.ref K :: st) ρ1 (newS S K)) : AW g ρ' Q d M pc ls st ρ S := by
  subst eK
  subst e
  exact AW_new hd0 hcl hin hty h1 h2 h3 hdf hs hc1 hu1 hk h16 kk
end Made
/-- what the store holds in the rows made so far -/
def Zs (n : Nat) (E : Nat → Nat → Int32) (S : St) : Prop := ∀ k, 16 ≤ k → k < n → (∀ j, S.1 k j = E k j) ∧ ∀ j, S.2 k j = 0
def Ez0 : Nat → Nat → Int32 := fun _ _ => 0
def Ez1 : Nat → Nat → Int32 := fun k j => if k = 19 ∧ j = 1 then -1 else 0
def Ez2 : Nat → Nat → Int32 := fun k j => if k = 80 ∧ j = 6 then -1 else Ez1 k j
theorem Zs.newS {n : Nat} {E : Nat → Nat → Int32} {S : St} (h : Zs n E S) (he : ∀ j, E n j = 0) : Zs (n + 1) E (newS S n) := by
  intro k h1 h2
  by_cases hk : k = n
  · subst hk
    refine ⟨fun j => ?_, fun j => ?_⟩
    · rw [he]
      show (if k = k then fun _ => 0 else S.1 k) j = 0
      rw [if_pos rfl]
    · show (if k = k then fun _ => 0 else S.2 k) j = 0
      rw [if_pos rfl]
  · refine ⟨fun j => ?_, fun j => ?_⟩
    · show (if k = n then fun _ => 0 else S.1 k) j = _
      rw [if_neg hk]
      exact (h k h1 (by omega)).1 j
    · show (if k = n then fun _ => 0 else S.2 k) j = 0
      rw [if_neg hk]
      exact (h k h1 (by omega)).2 j
theorem Zs.mulS {n : Nat} {E : Nat → Nat → Int32} {S : St} (h : Zs n E S) (he : ∀ i, i < 5 → ∀ j, E (n + i) j = 0) : Zs (n + 5) E (mulS S n) := by
  intro k h1 h2
  by_cases hk : n ≤ k ∧ k < n + 5
  · refine ⟨fun j => ?_, fun j => ?_⟩
    · have e := he (k - n) (by omega) j
      rw [show n + (k - n) = k by omega] at e
      rw [e]
      show (if n ≤ k ∧ k < n + 5 then fun _ => 0 else S.1 k) j = 0
      rw [if_pos hk]
    · show (if n ≤ k ∧ k < n + 5 then fun _ => 0 else S.2 k) j = 0
      rw [if_pos hk]
  · refine ⟨fun j => ?_, fun j => ?_⟩
    · show (if n ≤ k ∧ k < n + 5 then fun _ => 0 else S.1 k) j = _
      rw [if_neg hk]
      exact (h k h1 (by omega)).1 j
    · show (if n ≤ k ∧ k < n + 5 then fun _ => 0 else S.2 k) j = 0
      rw [if_neg hk]
      exact (h k h1 (by omega)).2 j
theorem Zs.setI {n : Nat} {E E' : Nat → Nat → Int32} {S : St} {a b : Nat} {v : Int32} (h : Zs n E S) (he : ∀ k j, E' k j = if k = a ∧ j = b then v else E k j) : Zs n E' (setI S a b v) := by
  intro k h1 h2
  refine ⟨fun j => ?_, (h k h1 h2).2⟩
  rw [setI_at, he, (h k h1 h2).1 j]
