-- rules of the JDK's own pieces, and of what is made
section Spec
variable {g : GX} {ρ' : Rs} {Q : Option Value → St → Prop} {d : Nat} {M : MD} {pc : Nat} {ls : List (Nat × Value)} {st : List Value} {ρ : Rs} {S : St}
theorem AW_strV {idx i : Nat} (hd0 : decode M.2.1 pc = .ok (.getfield idx, 3)) (hi : i < 5) (hw : Cond.fieldLink M.1.cls idx "java/lang/String" "value" "[B" ∈ Wg) (k : AW g ρ' Q d M (pc + 3) ls (.ref (5 + i) :: st) ρ S) : AW g ρ' Q d M pc ls (.ref i :: st) ρ S := by
  intro p e R s m args below meth c H locs cells slots c0 u0 Z la hF hd hL hc hu ec eu hR hS hv hz
  exact vk_getf hF.1 hF.2.1 (hF.2.2.2.2.2.2.2.2.2.1.2.2.1.1 i hi).2.2.1 hS hF.2.2.2.2.1 (hF.2.2.2.2.2.1 _ hw) (fun _ h => h) hd0 (k p e R s m args below meth c H locs cells slots c0 u0 Z la hF hd hL hc hu ec eu hR hS hv hz)
theorem AW_strC {idx i : Nat} (hd0 : decode M.2.1 pc = .ok (.getfield idx, 3)) (hi : i < 5) (hw : Cond.fieldLink M.1.cls idx "java/lang/String" "coder" "B" ∈ Wg) (k : AW g ρ' Q d M (pc + 3) ls (.int 0 :: st) ρ S) : AW g ρ' Q d M pc ls (.ref i :: st) ρ S := by
  intro p e R s m args below meth c H locs cells slots c0 u0 Z la hF hd hL hc hu ec eu hR hS hv hz
  exact vk_getf hF.1 hF.2.1 (hF.2.2.2.2.2.2.2.2.2.1.2.2.1.1 i hi).2.1 hS hF.2.2.2.2.1 (hF.2.2.2.2.2.1 _ hw) (fun _ h => h) hd0 (k p e R s m args below meth c H locs cells slots c0 u0 Z la hF hd hL hc hu ec eu hR hS hv hz)
theorem AW_strL {i : Nat} (hd0 : decode M.2.1 pc = .ok (.arraylength, 1)) (hi : i < 5) (k : AW g ρ' Q d M (pc + 1) ls (.int (Int32.ofNat (lenW.getD i 0)) :: st) ρ S) : AW g ρ' Q d M pc ls (.ref (5 + i) :: st) ρ S := by
  intro p e R s m args below meth c H locs cells slots c0 u0 Z la hF hd hL hc hu ec eu hR hS hv hz
  exact va_tlen hF.1 hF.2.1 (hF.2.2.2.2.2.2.2.2.2.1.2.2.1.1 i hi).2.2.2 hS rfl hd0 (k p e R s m args below meth c H locs cells slots c0 u0 Z la hF hd hL hc hu ec eu hR hS hv hz)
theorem AW_strB {i : Nat} {j : Int32} (hd0 : decode M.2.1 pc = .ok (.baload, 1)) (hi : i < 5) (hin : vp_in j (lenW.getD i 0)) (k : AW g ρ' Q d M (pc + 1) ls (.int ((bytW.getD i []).getD j.toNatClampNeg 0) :: st) ρ S) : AW g ρ' Q d M pc ls (.int j :: .ref (5 + i) :: st) ρ S := by
  intro p e R s m args below meth c H locs cells slots c0 u0 Z la hF hd hL hc hu ec eu hR hS hv hz
  exact va_tb hF.1 hF.2.1 (hF.2.2.2.2.2.2.2.2.2.1.2.2.1.1 i hi).2.2.2 hS hin rfl hd0 (k p e R s m args below meth c H locs cells slots c0 u0 Z la hF hd hL hc hu ec eu hR hS hv hz)
theorem AW_getCS {idx : Nat} (hd0 : decode M.2.1 pc = .ok (.getstatic idx, 3)) (hw : Cond.fieldLink M.1.cls idx "java/lang/String" "COMPACT_STRINGS" "Z" ∈ Wg) (k : AW g ρ' Q d M (pc + 3) ls (.int 1 :: st) ρ S) : AW g ρ' Q d M pc ls st ρ S := by
  intro p e R s m args below meth c H locs cells slots c0 u0 Z la hF hd hL hc hu ec eu hR hS hv hz
  exact va_gets hF.1 hF.2.1 hF.2.2.2.2.2.2.2.2.2.1.2.2.2.1 hS hF.2.2.2.2.1 (hF.2.2.2.2.2.1 _ hw) (fun _ h => h) hd0 (k p e R s m args below meth c H locs cells slots c0 u0 Z la hF hd hL hc hu ec eu hR hS hv hz)
theorem AW_getFm {idx : Nat} (hd0 : decode M.2.1 pc = .ok (.getstatic idx, 3)) (hw : Cond.fieldLink M.1.cls idx "jdk/internal/util/Preconditions" "SIOOBE_FORMATTER" "Ljava/util/function/BiFunction;" ∈ Wg) (k1 : AW g ρ' Q d M (pc + 3) ls (.null :: st) ρ S) (k2 : AW g ρ' Q d M (pc + 3) ls (.ref 12 :: st) ρ S) : AW g ρ' Q d M pc ls st ρ S := by
  intro p e R s m args below meth c H locs cells slots c0 u0 Z la hF hd hL hc hu ec eu hR hS hv hz
  rcases hF.2.2.2.2.2.2.2.2.2.1.2.2.2.2.1 with h | h
  · exact va_gets hF.1 hF.2.1 h hS hF.2.2.2.2.1 (hF.2.2.2.2.2.1 _ hw) (fun _ h => h) hd0 (k1 p e R s m args below meth c H locs cells slots c0 u0 Z la hF hd hL hc hu ec eu hR hS hv hz)
  · exact va_gets hF.1 hF.2.1 h hS hF.2.2.2.2.1 (hF.2.2.2.2.2.1 _ hw) (fun _ h => h) hd0 (k2 p e R s m args below meth c H locs cells slots c0 u0 Z la hF hd hL hc hu ec eu hR hS hv hz)
theorem AW_rawD {idx : Nat} {b : UInt64} (hd0 : decode M.2.1 pc = .ok (.invokestatic idx, 3)) (h1 : Cond.methodLink M.1.cls idx ⟨"java/lang/Double", "doubleToRawLongBits", "(D)J"⟩ ∈ Wg) (h2 : Cond.native ⟨"java/lang/Double", "doubleToRawLongBits", "(D)J"⟩ ∈ Wg) (h3 : Cond.static ⟨"java/lang/Double", "doubleToRawLongBits", "(D)J"⟩ ∈ Wg) (h4 : Cond.initialized "java/lang/Double" ∈ Wg) (hw : (st.map fun v => v.category).sum ≤ 8) (k : AW g ρ' Q (d + 1) M (pc + 3) ls (.long b.toInt64 :: st) ρ S) : AW g ρ' Q (d + 1) M pc ls (.double b :: st) ρ S := by
  intro p e R s m args below meth c H locs cells slots c0 u0 Z la hF hd hL hc hu ec eu hR hS hv hz
  have hts := hF.2.2.2.2.2.1
  have hw2 := hw
  rw [← cat_map g] at hw2
  exact vn_d2l hF.1 hF.2.1 (hF.2.2.2.1.trans hv.1.symm) hF.2.2.2.2.1 (hts _ h1) (hts _ h2) (hts _ h3) (hts _ h4) (by omega) (by omega) hd0 (k p e R s m args below meth c H locs cells slots c0 u0 Z la hF hd hL hc hu ec eu hR hS hv hz)
theorem AW_rawF {idx : Nat} {b : UInt32} (hd0 : decode M.2.1 pc = .ok (.invokestatic idx, 3)) (h1 : Cond.methodLink M.1.cls idx ⟨"java/lang/Float", "floatToRawIntBits", "(F)I"⟩ ∈ Wg) (h2 : Cond.native ⟨"java/lang/Float", "floatToRawIntBits", "(F)I"⟩ ∈ Wg) (h3 : Cond.static ⟨"java/lang/Float", "floatToRawIntBits", "(F)I"⟩ ∈ Wg) (h4 : Cond.initialized "java/lang/Float" ∈ Wg) (hw : (st.map fun v => v.category).sum ≤ 8) (k : AW g ρ' Q (d + 1) M (pc + 3) ls (.int b.toInt32 :: st) ρ S) : AW g ρ' Q (d + 1) M pc ls (.float b :: st) ρ S := by
  intro p e R s m args below meth c H locs cells slots c0 u0 Z la hF hd hL hc hu ec eu hR hS hv hz
  have hts := hF.2.2.2.2.2.1
  have hw2 := hw
  rw [← cat_map g] at hw2
  exact vn_f2i hF.1 hF.2.1 (hF.2.2.2.1.trans hv.1.symm) hF.2.2.2.2.1 (hts _ h1) (hts _ h2) (hts _ h3) (hts _ h4) (by omega) (by omega) hd0 (k p e R s m args below meth c H locs cells slots c0 u0 Z la hF hd hL hc hu ec eu hR hS hv hz)
-- what is made: a new row of noughts
def newS (S : St) (k : Nat) : St := (fun a => if a = k then fun _ => 0 else S.1 a, fun a => if a = k then fun _ => 0 else S.2 a)
def newR (ρ : Rs) (ln sl : Nat) : Rs := (rn ρ + 1, fun a => if a = rn ρ then fun _ => none else rR ρ a, fun a => if a = rn ρ then ln else rl ρ a, rc ρ + 1, ru ρ + sl)
theorem newS_fr (S : St) (k : Nat) : Fr (fun a => a = k) S (newS S k) := fun a ha => ⟨if_neg ha, if_neg ha⟩
theorem newR_shp {ρ : Rs} {ln sl j : Nat} (h : j < rn ρ) : shp (newR ρ ln sl) j = shp ρ j := by
  unfold shp
  show (if j < N0 then sh0 j else .inr (0, if j = rn ρ then ln else rl ρ j)) = _
  rw [if_neg (show ¬ j = rn ρ by omega)]
theorem Rep.make {ρ : Rs} {S : St} {H H1 : Heap} {ln sl : Nat} (hR : Rep g ρ S H) (hg : ¬ gap (rn ρ)) (he : va_at (gD g) vwCl (gB g + pl (rn ρ), ent g (newR ρ ln sl) (newS S (rn ρ)) (rn ρ)) H1) (hs : H1.size = H.size + 1) (ho : ∀ q, q < H.size → H1[q]? = H[q]?) : Rep g (newR ρ ln sl) (newS S (rn ρ)) H1 := by
  have h16 := hR.1
  have hp := pl_s h16 hg
  refine ⟨by show 16 ≤ rn ρ + 1; omega, by rw [hs, hR.2.1]; show gB g + pl (rn ρ) + 1 = gB g + pl (rn ρ + 1); omega, ?_⟩
  rw [← wsO_push (g := g) (ρ := ρ) (S := S) h16 hg hp rfl rfl (fun j h1 h2 => ent_ext (newR_shp h2) (if_neg (by omega)) (if_neg (by omega)) (if_neg (by omega)) (fun n hn i hi => if_neg (ng_ne hg hn hi)))]
  refine (hR.2.2.kept (fun k q hk => ho q.1 ((hR.2.2 k q hk).lt))).app (fun k q hk => ?_)
  have hz : k < 1 := (List.getElem?_eq_some_iff.mp hk).1
  rw [show k = 0 by omega] at hk
  cases hk
  exact he
theorem va_S.make {g : GX} {H0 H H1 : Heap} {locs : List Loc} (hS : va_S (gA g) H0 H locs) (hs : H1.size = H.size + 1) (ho : ∀ q, q < H.size → H1[q]? = H[q]?) : va_S (gA g) H0 H1 locs :=
  ⟨Nat.le_trans hS.1 (by omega), fun q h1 h2 => (ho q (Nat.lt_of_lt_of_le h1 hS.1)).trans (hS.2.1 q h1 h2), hS.2.2⟩
/-- new int[n], long[n], boolean[n] -/
theorem AW_newarr {atype : ArrayType} {t n : Nat} {i : Int32} (hd0 : decode M.2.1 pc = .ok (.newarray atype, 2)) (hat : (atype = .int ∧ t = 0) ∨ (atype = .long ∧ t = 1) ∨ (atype = .boolean ∧ t = 2)) (hwd : Cond.arrayClass (newarray.typeOf atype) ∈ Wg) (hi : ¬ i < 0) (hn : i.toNatClampNeg = n) (hb : n ≤ 60000000) (hs : shp (newR ρ n n) (rn ρ) = .inr (t, n)) (hc1 : rc ρ + 1 ≤ rc ρ') (hu1 : ru ρ + n ≤ ru ρ') (hk : gF g (rn ρ)) (h16 : 16 ≤ rn ρ)
    (kk : AW g ρ' Q d M (pc + 2) ls (.ref (rn ρ) :: st) (newR ρ n n) (newS S (rn ρ))) : AW g ρ' Q d M pc ls (.int i :: st) ρ S := by
  intro p e R s m args below meth c H locs cells slots c0 u0 Z la hF hd hL hc hu ec eu hR hS hv hz
  have hg : ¬ gap (rn ρ) := ngA (t := t) (by rcases hat with ⟨-, rfl⟩ | ⟨-, rfl⟩ | ⟨-, rfl⟩ <;> decide) hs
  have hK := hF.2.2.2.2.2.2.2.2.1.1
  have hcb : componentBytes (newarray.typeOf atype) ≤ 8 := by rcases hat with ⟨rfl, -⟩ | ⟨rfl, -⟩ | ⟨rfl, -⟩ <;> decide
  refine va_newaK (g := F0 m pc la (.int i :: st.map (vmv g))) hF.1 hF.2.1 (hF.2.2.2.2.2.1 _ hwd) rfl hd0 rfl hi hn (Nat.le_trans (Nat.mul_le_mul_left n hcb) (by omega)) (by omega) (by omega) (h := gB g + pl (rn ρ)) hR.2.1 fun H1 cA w1 w2 w3 w4 w5 => ?_
  have hadd : ad g (rn ρ) = gB g + pl (rn ρ) := by unfold ad; rw [if_neg (by omega)]
  have hent : ent g (newR ρ n n) (newS S (rn ρ)) (rn ρ) = .inl (gC g t, n, if t = 1 then .inr (.inl (fun _ => 0)) else .inl (fun _ => 0)) := by
    have z1 : (newS S (rn ρ)).1 (rn ρ) = fun _ => 0 := if_pos rfl
    have z2 : (newS S (rn ρ)).2 (rn ρ) = fun _ => 0 := if_pos rfl
    rcases hat with ⟨-, rfl⟩ | ⟨-, rfl⟩ | ⟨-, rfl⟩
    · rw [ent_I hs, z1]; rfl
    · rw [ent_J hs, z2]; rfl
    · rw [ent_Z hs, z1]; rfl
  have hcA : cA = gC g t := by
    rcases hat with ⟨rfl, rfl⟩ | ⟨rfl, rfl⟩ | ⟨rfl, rfl⟩
    · exact Option.some.inj (w5.symm.trans (hK.2 0 _ (tysO_0 g)).2)
    · exact Option.some.inj (w5.symm.trans (hK.2 1 _ (tysO_1 g)).2)
    · exact Option.some.inj (w5.symm.trans (hK.2 2 _ (tysO_2 g)).2)
  have hR2 : Rep g (newR ρ n n) (newS S (rn ρ)) H1 := hR.make hg (by
    rw [hent]
    show H1[gB g + pl (rn ρ)]? = some (vp_cell _ _)
    rw [w1, hcA]
    rcases hat with ⟨rfl, rfl⟩ | ⟨rfl, rfl⟩ | ⟨rfl, rfl⟩ <;> rfl) (by rw [w2, hR.2.1]) (fun q hq => w3 q (by rw [← hR.2.1]; exact hq))
  have hfr : Fr (gF g) S (newS S (rn ρ)) := (newS_fr S (rn ρ)).mono (fun a e => by rw [e]; exact hk)
  have k9 := kk p e R s m args below meth c H1 locs (cells + 1) (slots + n) c0 u0 Z la hF hd hL hc hu (by show cells + 1 + c0 = rc ρ + 1; omega) (by show slots + n + u0 = ru ρ + n; omega) hR2 (hS.make (by rw [w2, hR.2.1]) (fun q hq => w3 q (by rw [← hR.2.1]; exact hq))) hv (fun r S' H' locs' la' pc' st' q1 q2 q3 => hz r S' H' locs' la' pc' st' q1 q2 (Fr.tr hfr q3))
  rw [List.map_cons, show vmv g (.ref (rn ρ)) = .ref (gB g + pl (rn ρ)) from congrArg Value.ref hadd] at k9
  exact k9
/-- new C() -/
theorem AW_new {idx ci : Nat} {C : String} {T : u_T} {N : Nat} {ty : Nat → FieldType} (hd0 : decode M.2.1 pc = .ok (.new idx, 3)) (hcl : vwCl[ci]? = some (C, T, N)) (hin : ∀ w ∈ u_ws C T N, w ∈ Wg) (hty : ∀ k, k < N → parseFieldDescriptor (T k).2.2.1 = some (ty k)) (h1 : Cond.classLink M.1.cls idx C ∈ Wg) (h2 : Cond.instantiable C N ∈ Wg) (h3 : Cond.initialized C ∈ Wg)
    (hdf : ∀ j, j < N → ∃ t, (fkA ci)[j]? = some t ∧ defaultValue (ty j) = (match t with | 1 => .long 0 | 2 => .null | _ => .int 0)) (hs : shp (newR ρ 0 N) (rn ρ) = .inl ci) (hc1 : rc ρ + 1 ≤ rc ρ') (hu1 : ru ρ + N ≤ ru ρ') (hk : gF g (rn ρ)) (h16 : 16 ≤ rn ρ)
    (kk : AW g ρ' Q d M (pc + 3) ls (.ref (rn ρ) :: st) (newR ρ 0 N) (newS S (rn ρ))) : AW g ρ' Q d M pc ls st ρ S := by
  intro p e R s m args below meth c H locs cells slots c0 u0 Z la hF hd hL hc hu ec eu hR hS hv hz
  have hg : ¬ gap (rn ρ) := ngO hs
  have hK := hF.2.2.2.2.2.2.2.2.1.1
  have hts := hF.2.2.2.2.2.1
  have hKn := hK.1 ci _ hcl
  refine W.newcK hF.1 hF.2.1 hF.2.2.2.2.1 (hts _ h1) (hts _ h2) (hts _ h3) rfl hd0 (by omega) (by omega) hKn.2.1 (h := gB g + pl (rn ρ)) hR.2.1 fun H1 kC hkC w1 w2 w3 => ?_
  have hadd : ad g (rn ρ) = gB g + pl (rn ρ) := by unfold ad; rw [if_neg (by omega)]
  have hR2 : Rep g (newR ρ 0 N) (newS S (rn ρ)) H1 := hR.make hg (by
    rw [ent_O hs]
    refine ⟨_, hcl, (u_born ty hts hin hKn hkC w1 hty).to (fun j hj => ?_)⟩
    obtain ⟨t, ht, hd⟩ := hdf j hj
    rw [hd]
    unfold vp_V
    rw [List.getD_eq_getElem?_getD, flds_get ht]
    have z1 : (newS S (rn ρ)).1 (rn ρ) = fun _ => 0 := if_pos rfl
    have z2 : (newS S (rn ρ)).2 (rn ρ) = fun _ => 0 := if_pos rfl
    have z3 : rR (newR ρ 0 N) (rn ρ) = fun _ => none := if_pos rfl
    show _ = fval g _ _ _ t j
    unfold fval
    rw [z1, z2, z3]
    rfl) (by rw [w2, hR.2.1]) (fun q hq => w3 q (by rw [← hR.2.1]; exact hq))
  have hfr : Fr (gF g) S (newS S (rn ρ)) := (newS_fr S (rn ρ)).mono (fun a e => by rw [e]; exact hk)
  have k9 := kk p e R s m args below meth c H1 locs (cells + 1) (slots + N) c0 u0 Z la hF hd hL hc hu (by show cells + 1 + c0 = rc ρ + 1; omega) (by show slots + N + u0 = ru ρ + N; omega) hR2 (hS.make (by rw [w2, hR.2.1]) (fun q hq => w3 q (by rw [← hR.2.1]; exact hq))) hv (fun r S' H' locs' la' pc' st' q1 q2 q3 => hz r S' H' locs' la' pc' st' q1 q2 (Fr.tr hfr q3))
  rw [List.map_cons, show vmv g (.ref (rn ρ)) = .ref (gB g + pl (rn ρ)) from congrArg Value.ref hadd] at k9
  exact k9
end Spec

def setR (ρ : Rs) (k j : Nat) (v : Option Nat) : Rs := (rn ρ, fun a => if a = k then fun b => if b = j then v else rR ρ k b else rR ρ a, rl ρ, rc ρ, ru ρ)
theorem setR_ne (ρ : Rs) {k a : Nat} (j : Nat) (v : Option Nat) (h : a ≠ k) : rR (setR ρ k j v) a = rR ρ a := if_neg h
theorem setR_eq (ρ : Rs) (k j : Nat) (v : Option Nat) : rR (setR ρ k j v) k j = v := by
  show (if k = k then fun b => if b = j then v else rR ρ k b else rR ρ k) j = v
  rw [if_pos rfl, if_pos rfl]
theorem setR_at (ρ : Rs) (k j : Nat) (v : Option Nat) (a b : Nat) : rR (setR ρ k j v) a b = if a = k ∧ b = j then v else rR ρ a b := by
  show (if a = k then fun b => if b = j then v else rR ρ k b else rR ρ a) b = _
  by_cases h : a = k
  · subst h
    rw [if_pos rfl]
    by_cases h2 : b = j <;> simp [h2]
  · simp [h]
theorem fvR_o {g : GX} {ρ : Rs} {S : St} {k j : Nat} {v : Option Nat} {u i : Nat} (h : i ≠ j) : fval g (setR ρ k j v) S k u i = fval g ρ S k u i := by
  unfold fval
  split
  · rfl
  · rw [setR_at, if_neg (fun q => h q.2)]
  · rfl
theorem Ok.setR {ρ : Rs} (h : Ok ρ) {k j : Nat} {v : Option Nat} (hk : ∀ q ∈ refTab, ¬ (q.1 = k ∧ q.2.1 = j)) : Ok (setR ρ k j v) := by
  refine ⟨h.1, fun q hq => ?_⟩
  rw [setR_at, if_neg (hk q hq)]
  exact h.2 q hq
theorem Ok.newR {ρ : Rs} (h : Ok ρ) (ln sl : Nat) : Ok (newR ρ ln sl) := by
  refine ⟨Nat.le_succ_of_le h.1, fun q hq => ?_⟩
  have hb : q.1 < N0 := by
    have : ∀ q ∈ refTab, q.1 < N0 := by decide +kernel
    exact this q hq
  have hn := h.1
  show (if q.1 = rn ρ then fun _ => none else rR ρ q.1) q.2.1 = _
  rw [if_neg (by omega)]
  exact h.2 q hq
/-- the first n of one row at the beginning of another -/
def cpyS (S : St) (k k2 n : Nat) : St := (fun a => if a = k2 then fun j => if j < n then S.1 k j else S.1 k2 j else S.1 a, S.2)
theorem cpyS_fr (S : St) (k k2 n : Nat) : Fr (fun a => a = k2) S (cpyS S k k2 n) := fun a ha => ⟨if_neg ha, rfl⟩
section Copy
variable {g : GX} {ρ' : Rs} {Q : Option Value → St → Prop} {d : Nat} {M : MD} {pc : Nat} {ls : List (Nat × Value)} {st : List Value} {ρ : Rs} {S : St}
theorem i32_nat {z : Int32} (hz : ¬ z < 0) : z.toInt = (z.toNatClampNeg : Int) := by
  have h0 : (0 : Int) ≤ z.toInt := by
    have := Int32.not_lt.mp hz
    simpa using Int32.le_iff_toInt_le.mp this
  show z.toInt = ((z.toInt.toNat : Nat) : Int)
  omega
theorem AW_acopy {idx k k2 n0 n1 : Nat} {n : Int32} (hd0 : decode M.2.1 pc = .ok (.invokestatic idx, 3)) (w1 : Cond.methodLink M.1.cls idx arraycopyName ∈ Wg) (w2 : Cond.native arraycopyName ∈ Wg) (w3 : Cond.static arraycopyName ∈ Wg) (w4 : Cond.initialized "java/lang/System" ∈ Wg)
    (h1 : 16 ≤ k) (h2 : k < rn ρ) (hs : shp ρ k = .inr (0, n0)) (j1 : 16 ≤ k2) (j2 : k2 < rn ρ) (js : shp ρ k2 = .inr (0, n1)) (hn : ¬ n < 0) (hl0 : n.toNatClampNeg ≤ n0) (hl1 : n.toNatClampNeg ≤ n1) (hw : (st.map fun v => v.category).sum ≤ 8) (hk : gF g k2)
    (kk : AW g ρ' Q (d + 1) M (pc + 3) ls st ρ (cpyS S k k2 n.toNatClampNeg)) : AW g ρ' Q (d + 1) M pc ls (.int n :: .int 0 :: .ref k2 :: .int 0 :: .ref k :: st) ρ S := by
  intro p e R s m args below meth c H locs cells slots c0 u0 Z la hF hd hL hc hu ec eu hR hS hv hz
  have hts := hF.2.2.2.2.2.1
  have hK := hF.2.2.2.2.2.2.2.2.1.1
  have hc0 : H[ad g k]? = some (vp_cell (gC g 0) (n0, .inl (S.1 k))) := hR.arr h1 (ngA (by decide) hs) h2 (ent_I hs)
  have hc1 : H[ad g k2]? = some (vp_cell (gC g 0) (n1, .inl (S.1 k2))) := hR.arr j1 (ngA (by decide) js) j2 (ent_I js)
  have hA0 := (hK.2 0 _ (tysO_0 g)).1
  obtain ⟨-, ka, hka, cma, hkka⟩ := hA0 n0 (fun j => .int (S.1 k j))
  obtain ⟨-, kb, hkb, cmb, hkkb⟩ := hA0 n1 (fun j => .int (S.1 k2 j))
  have hw2 := hw
  rw [← cat_map g] at hw2
  have hnf : nativeFrameWords "java/lang/System" "arraycopy" 5 = 7 := by decide
  refine W.of (H' := H.setIfInBounds (ad g k2) (vp_cell (gC g 0) (n1, .inl ((cpyS S k k2 n.toNatClampNeg).1 k2)))) (locs' := locs ++ ((vp_cell (gC g 0) (n0, .inl (S.1 k))).stretch (0 : Int32).toNatClampNeg n.toNatClampNeg).zipIdx.map (fun q : Value × Nat => ⟨ad g k2, (0 : Int32).toNatClampNeg + q.2⟩)) (cells' := cells) (slots' := slots) (g2 := F0 m (pc + 3) la (st.map (vmv g))) (fun T hT X => ?_) ?_
  · obtain ⟨vm', X', step⟩ := X.arraycopy hF.1 hF.2.2.2.2.1 (hts _ w1) (hts _ w2) (hts _ w3) (hts _ w4) (src := ad g k) (dst := ad g k2) (cs := vp_cell (gC g 0) (n0, .inl (S.1 k))) (cd := vp_cell (gC g 0) (n1, .inl (S.1 k2))) (srcPos := 0) (destPos := 0) (n := n) (by rw [hT]; exact hc0) (by rw [hT]; exact hc1)
      (fun _ h => by cases h) (fun _ h => by cases h) (fun h => by cases h) (fun h => by cases h) hka hkb hkka hkkb rfl (by decide) (by decide) hn
      (by rw [i32_nat hn]; show ¬ (0 : Int32).toInt + _ > ((arrV _ n0 (fun j => .int (S.1 k j))).slots.size : Int); rw [arrV_size, show (0 : Int32).toInt = 0 from rfl]; omega)
      (by rw [i32_nat hn]; show ¬ (0 : Int32).toInt + _ > ((arrV _ n1 (fun j => .int (S.1 k2 j))).slots.size : Int); rw [arrV_size, show (0 : Int32).toInt = 0 from rfl]; omega)
      (fun vm₁ _ i hi => by
        have z0 : (0 : Int32).toNatClampNeg = 0 := rfl
        have e : (vp_cell (gC g 0) (n0, .inl (S.1 k))).slots.getD ((0 : Int32).toNatClampNeg + i) .null = .int (S.1 k ((0 : Int32).toNatClampNeg + i)) := by
          show (arrV _ n0 (fun j => .int (S.1 k j))).slots.getD _ _ = _
          rw [Array.getD_eq_getD_getElem?, arrV_read _ _ (by omega)]
          rfl
        exact ⟨by rw [e]; rfl, by rw [e]; exact trivial⟩)
      (g := F0 m pc la ((.int n :: .int 0 :: .ref k2 :: .int 0 :: .ref k :: st).map (vmv g))) rfl (by rw [hF.2.2.2.1]; exact hv.1) (rest := st.map (vmv g)) rfl (by rw [hF.2.1]; exact hd0) (by omega) (by show 2 * 0 + _ + _ ≤ _; omega)
    have e1 : copied (vp_cell (gC g 0) (n0, .inl (S.1 k))) (vp_cell (gC g 0) (n1, .inl (S.1 k2))) 0 0 n = vp_cell (gC g 0) (n1, .inl ((cpyS S k k2 n.toNatClampNeg).1 k2)) := by
      refine (va_copied (fun z => .int z) (gC g 0) (gC g 0) (sp := 0) (dp := 0) (S.1 k) (S.1 k2) (by omega)).trans ?_
      rw [vp_cell_i]
      show arrV (gC g 0) n1 _ = _
      congr 1
      funext j
      congr 1
      show (if 0 ≤ j ∧ j < 0 + n.toNatClampNeg then S.1 k (0 + (j - 0)) else S.1 k2 j) = (if k2 = k2 then fun j => if j < n.toNatClampNeg then S.1 k j else S.1 k2 j else S.1 k2) j
      rw [if_pos rfl]
      simp
    rw [e1] at X' step
    exact ⟨_, by rw [← hT]; rfl, X', step⟩
  · have hl : ad g k2 < H.size := (Array.getElem?_eq_some_iff.mp hc1).1
    have oq : ∀ q : Nat, q ≠ ad g k2 → (H.setIfInBounds (ad g k2) (vp_cell (gC g 0) (n1, .inl ((cpyS S k k2 n.toNatClampNeg).1 k2))))[q]? = H[q]? := fun q hq => by simp [Array.getElem?_setIfInBounds, Ne.symm hq]
    have hz2 : (H.setIfInBounds (ad g k2) (vp_cell (gC g 0) (n1, .inl ((cpyS S k k2 n.toNatClampNeg).1 k2)))).size = H.size := by simp
    have hR2 : Rep g ρ (cpyS S k k2 n.toNatClampNeg) (H.setIfInBounds (ad g k2) (vp_cell (gC g 0) (n1, .inl ((cpyS S k k2 n.toNatClampNeg).1 k2)))) := hR.put j1 (ngA (by decide) js) j2 rfl (fun a _ _ ha => ent_ext rfl (if_neg ha) rfl rfl (fun _ _ _ _ => rfl)) (by
      rw [ent_I js]
      show (H.setIfInBounds (ad g k2) _)[ad g k2]? = some _
      simp [Array.getElem?_setIfInBounds, hl]) hz2 oq
    have hS2 : va_S (gA g) s.heap (H.setIfInBounds (ad g k2) (vp_cell (gC g 0) (n1, .inl ((cpyS S k k2 n.toNatClampNeg).1 k2)))) (locs ++ ((vp_cell (gC g 0) (n0, .inl (S.1 k))).stretch (0 : Int32).toNatClampNeg n.toNatClampNeg).zipIdx.map (fun q : Value × Nat => ⟨ad g k2, (0 : Int32).toNatClampNeg + q.2⟩)) := by
      refine ⟨by rw [hz2]; exact hS.1, fun q g1 g2 => ?_, fun q hq => ?_⟩
      · rw [oq q (fun e => g2 (by rw [e]; exact ad_A j1))]
        exact hS.2.1 q g1 g2
      · rcases List.mem_append.mp hq with h | h
        · exact hS.2.2 q h
        · obtain ⟨z, -, rfl⟩ := List.mem_map.mp h
          exact ad_A j1
    have hfr : Fr (gF g) S (cpyS S k k2 n.toNatClampNeg) := (cpyS_fr S k k2 _).mono (fun a e => by rw [e]; exact hk)
    exact kk p e R s m args below meth c _ _ cells slots c0 u0 Z la hF hd hL hc hu ec eu hR2 hS2 hv (fun r S' H' locs' la' pc' st' q1 q2 q3 => hz r S' H' locs' la' pc' st' q1 q2 (Fr.tr hfr q3))
end Copy

theorem AW.rhoE {g : GX} {ρ' : Rs} {Q : Option Value → St → Prop} {d : Nat} {M : MD} {pc : Nat} {ls : List (Nat × Value)} {st : List Value} {ρ : Rs} {S : St} (e : ρ = ρ') (k : AW g ρ Q d M pc ls st ρ S) : AW g ρ' Q d M pc ls st ρ S := by subst e; exact k
theorem newR_new {ρ : Rs} (h : Ok ρ) (ln sl : Nat) : shp (newR ρ ln sl) (rn ρ) = .inr (0, ln) := by
  have hn := h.1
  unfold shp
  rw [if_neg (by omega)]
  show (Sum.inr (0, if rn ρ = rn ρ then ln else rl ρ (rn ρ)) : Sh) = _
  rw [if_pos rfl]
