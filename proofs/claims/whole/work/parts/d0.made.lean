-- what is made at the start: arrays of arrays, and fields that are set once
def AOk (_ : GX) : Prop := True
theorem aOk (g : GX) : AOk g := trivial
def mulR (ρ : Rs) (k : Nat) : Rs := (rn ρ + 5, rR ρ, rl ρ, rc ρ + 1, ru ρ + 4 * k)
def mulS (S : St) (n : Nat) : St := (fun a => if n ≤ a ∧ a < n + 5 then fun _ => 0 else S.1 a, fun a => if n ≤ a ∧ a < n + 5 then fun _ => 0 else S.2 a)
theorem mulS_fr (S : St) (n : Nat) : Fr (fun a => n ≤ a) S (mulS S n) := fun a ha => ⟨if_neg (fun q => ha q.1), if_neg (fun q => ha q.1)⟩
theorem pl_5 {ρ : Rs} {n k : Nat} (h : shp ρ n = .inr (3, k)) : pl (n + 5) = pl n + 1 := by
  rcases flat_of h with ⟨rfl, -⟩ | ⟨rfl, -⟩ | ⟨rfl, -⟩ <;> decide
section Made
variable {g : GX} {ρ' : Rs} {Q : Option Value → St → Prop} {d : Nat} {M : MD} {pc : Nat} {ls : List (Nat × Value)} {st : List Value} {ρ : Rs} {S : St}
theorem AW_newflat {k : Nat} {i : Int32} (hd0 : decode M.2.1 pc = .ok (.newarray .long, 2)) (hi : ¬ i < 0) (hn : i.toNatClampNeg = 4 * k) (hb : k ≤ 60000) (hs0 : shp ρ (rn ρ) = .inr (3, k)) (hc1 : rc ρ + 1 ≤ rc ρ') (hu1 : ru ρ + 4 * k ≤ ru ρ') (hk : ∀ j, 16 ≤ j → gF g j) (h16 : 16 ≤ rn ρ)
    (kk : AW g ρ' Q d M (pc + 2) ls (.ref (rn ρ) :: st) (mulR ρ k) (mulS S (rn ρ))) : AW g ρ' Q d M pc ls (.int i :: st) ρ S := by
  intro p e R s m args below meth c H locs cells slots c0 u0 Z la hF hd hL hc hu ec eu hR hS hv hz
  have hg : ¬ gap (rn ρ) := ngA (t := 3) (by decide) hs0
  have hfl := flat_of hs0
  have hp := pl_5 hs0
  have hK := hF.2.2.2.2.2.2.2.2.1.1
  have hcb : componentBytes (newarray.typeOf .long) ≤ 8 := by decide
  refine va_newaK (g := F0 m pc la (.int i :: st.map (vmv g))) hF.1 hF.2.1 (hF.2.2.2.2.2.1 (Cond.arrayClass (newarray.typeOf .long)) wArr_long) rfl hd0 rfl hi hn (Nat.le_trans (Nat.mul_le_mul_left (4 * k) hcb) (by omega)) (by omega) (by omega) (h := gB g + pl (rn ρ)) hR.2.1 fun H1 cA w1 w2 w3 w4 w5 => ?_
  have hadd : ad g (rn ρ) = gB g + pl (rn ρ) := by unfold ad; rw [if_neg (by omega)]
  have hcA : cA = gC g 1 := Option.some.inj (w5.symm.trans (hK.2 1 _ (tysO_1 g)).2)
  have hz0 : (fun i => (mulS S (rn ρ)).2 (rn ρ + 1 + i / k % 4) (i % k)) = fun _ => (0 : Int64) := funext fun i => by
    have := Nat.mod_lt (i / k) (show 0 < 4 by decide)
    show (if rn ρ ≤ rn ρ + 1 + i / k % 4 ∧ rn ρ + 1 + i / k % 4 < rn ρ + 5 then fun _ => (0 : Int64) else S.2 (rn ρ + 1 + i / k % 4)) (i % k) = 0
    rw [if_pos (by omega)]
  have hold : ∀ q, q < H.size → H1[q]? = H[q]? := fun q hq => w3 q (by rw [← hR.2.1]; exact hq)
  have hR2 : Rep g (mulR ρ k) (mulS S (rn ρ)) H1 := by
    refine ⟨by show 16 ≤ rn ρ + 5; omega, by rw [w2]; show gB g + pl (rn ρ) + 1 = gB g + pl (rn ρ + 5); omega, ?_⟩
    rw [← wsO_push (g := g) (ρ := ρ) (ρ' := mulR ρ k) (S := S) (S' := mulS S (rn ρ)) h16 hg hp rfl rfl (fun j h1 h2 => ent_ext rfl (if_neg (by omega)) (if_neg (by omega)) rfl (fun n hn i hi => if_neg (by have := flat_of hn; omega)))]
    refine (hR.2.2.kept (fun k q hk => hold q.1 ((hR.2.2 k q hk).lt))).app (fun a q ha => ?_)
    have hz : a < 1 := (List.getElem?_eq_some_iff.mp ha).1
    rw [show a = 0 by omega] at ha
    cases ha
    rw [ent_F (ρ := mulR ρ k) hs0, hz0]
    show H1[gB g + pl (rn ρ)]? = some (vp_cell _ _)
    rw [w1, hcA]
    rfl
  have hfr : Fr (gF g) S (mulS S (rn ρ)) := (mulS_fr S (rn ρ)).mono (fun a e => hk a (by omega))
  have k9 := kk p e R s m args below meth c H1 locs (cells + 1) (slots + 4 * k) c0 u0 Z la hF hd hL hc hu (by show cells + 1 + c0 = rc ρ + 1; omega) (by show slots + 4 * k + u0 = ru ρ + 4 * k; omega) hR2 (hS.make (by rw [w2, hR.2.1]) hold) hv (fun r S' H' locs' la' pc' st' q1 q2 q3 => hz r S' H' locs' la' pc' st' q1 q2 (Fr.tr hfr q3))
  rw [List.map_cons, show vmv g (.ref (rn ρ)) = .ref (gB g + pl (rn ρ)) from congrArg Value.ref hadd] at k9
  exact k9
/-- a field that holds a reference and is set in a constructor -/
theorem AW_putFR {k ci j idx x : Nat} {ty : FieldType} {ρ2 : Rs} (hd0 : decode M.2.1 pc = .ok (.putfield idx, 3)) (hl : Fl M.1.cls idx ci j 2) (hp : Fp ci j true ty) (hin : M.1.name = "<init>") (hcl : ∀ q, vwCl[ci]? = some q → q.1 = M.1.cls) (h1 : 16 ≤ k) (h2 : k < rn ρ) (hs : shp ρ k = .inl ci) (hn : ∀ a, narrow ty (.ref a) = .ref a) (hfit : ∀ a, fits ty (.ref a) = true) (e : setR ρ k j (some x) = ρ2) (hk : gF g k)
    (kk : AW g ρ' Q d M (pc + 3) ls st ρ2 S) : AW g ρ' Q d M pc ls (.ref x :: .ref k :: st) ρ S := by
  subst e
  refine AW_putF (ρ2 := setR ρ k j (some x)) (S2 := S) hd0 hl hp hin hcl h1 h2 hs (fun g => hn _) (fun g => hfit _) rfl rfl rfl rfl (Fr.rf S) (fun a ha => setR_ne ρ j _ ha) (fun g => ?_) (fun g i u hi _ => fvR_o hi) hk kk
  show va_rf ((rR (setR ρ k j (some x)) k j).map (ad g)) = _
  rw [setR_eq]
  rfl
theorem AW_putR {k ci j idx x : Nat} {ty : FieldType} {ρ2 : Rs} (hd0 : decode M.2.1 pc = .ok (.putfield idx, 3)) (hl : Fl M.1.cls idx ci j 2) (hp : Fp ci j false ty) (h1 : 16 ≤ k) (h2 : k < rn ρ) (hs : shp ρ k = .inl ci) (hn : ∀ a, narrow ty (.ref a) = .ref a) (hfit : ∀ a, fits ty (.ref a) = true) (e : setR ρ k j (some x) = ρ2) (hk : gF g k)
    (kk : AW g ρ' Q d M (pc + 3) ls st ρ2 S) : AW g ρ' Q d M pc ls (.ref x :: .ref k :: st) ρ S := by
  subst e
  refine AW_put (ρ2 := setR ρ k j (some x)) (S2 := S) hd0 hl hp h1 h2 hs (fun g => hn _) (fun g => hfit _) rfl rfl rfl rfl (Fr.rf S) (fun a ha => setR_ne ρ j _ ha) (fun g => ?_) (fun g i u hi _ => fvR_o hi) hk kk
  show va_rf ((rR (setR ρ k j (some x)) k j).map (ad g)) = _
  rw [setR_eq]
  rfl
theorem AW_newarrK {atype : ArrayType} {t n K : Nat} {i : Int32} {ρ1 : Rs} (hd0 : decode M.2.1 pc = .ok (.newarray atype, 2)) (hat : (atype = .int ∧ t = 0) ∨ (atype = .long ∧ t = 1) ∨ (atype = .boolean ∧ t = 2)) (hwd : Cond.arrayClass (newarray.typeOf atype) ∈ Wg) (hi : ¬ i < 0) (hn : i.toNatClampNeg = n) (hb : n ≤ 60000000) (eK : rn ρ = K) (e : newR ρ n n = ρ1) (hs : shp ρ1 K = .inr (t, n)) (hc1 : rc ρ + 1 ≤ rc ρ') (hu1 : ru ρ + n ≤ ru ρ') (hk : gF g K) (h16 : 16 ≤ K)
    (kk : AW g ρ' Q d M (pc + 2) ls (.ref K :: st) ρ1 (newS S K)) : AW g ρ' Q d M pc ls (.int i :: st) ρ S := by
  subst eK
  subst e
  exact AW_newarr hd0 hat hwd hi hn hb hs hc1 hu1 hk h16 kk
theorem AW_newflatK {k K : Nat} {i : Int32} {ρ1 : Rs} (hd0 : decode M.2.1 pc = .ok (.newarray .long, 2)) (hi : ¬ i < 0) (hn : i.toNatClampNeg = 4 * k) (hb : k ≤ 60000) (eK : rn ρ = K) (e : mulR ρ k = ρ1) (hs0 : shp ρ K = .inr (3, k)) (hc1 : rc ρ + 1 ≤ rc ρ') (hu1 : ru ρ + 4 * k ≤ ru ρ') (hk : ∀ j, 16 ≤ j → gF g j) (h16 : 16 ≤ K)
    (kk : AW g ρ' Q d M (pc + 2) ls (.ref K :: st) ρ1 (mulS S K)) : AW g ρ' Q d M pc ls (.int i :: st) ρ S := by
  subst eK
  subst e
  exact AW_newflat hd0 hi hn hb hs0 hc1 hu1 hk h16 kk
theorem AW_newK {idx ci K : Nat} {C : String} {T : u_T} {N : Nat} {ty : Nat → FieldType} {ρ1 : Rs} (hd0 : decode M.2.1 pc = .ok (.new idx, 3)) (hcl : vwCl[ci]? = some (C, T, N)) (hin : ∀ w ∈ u_ws C T N, w ∈ Wg) (hty : ∀ k, k < N → parseFieldDescriptor (T k).2.2.1 = some (ty k)) (h1 : Cond.classLink M.1.cls idx C ∈ Wg) (h2 : Cond.instantiable C N ∈ Wg) (h3 : Cond.initialized C ∈ Wg)
    (hdf : ∀ j, j < N → ∃ t, (fkA ci)[j]? = some t ∧ defaultValue (ty j) = (match t with | 1 => .long 0 | 2 => .null | _ => .int 0)) (eK : rn ρ = K) (e : newR ρ 0 N = ρ1) (hs : shp ρ1 K = .inl ci) (hc1 : rc ρ + 1 ≤ rc ρ') (hu1 : ru ρ + N ≤ ru ρ') (hk : gF g K) (h16 : 16 ≤ K)
    (kk : AW g ρ' Q d M (pc + 3) ls (.ref K :: st) ρ1 (newS S K)) : AW g ρ' Q d M pc ls st ρ S := by
  subst eK
  subst e
  exact AW_new hd0 hcl hin hty h1 h2 h3 hdf hs hc1 hu1 hk h16 kk
end Made
/-- what the store holds in the rows made so far -/
def Zs (n : Nat) (E : Nat → Nat → Int32) (S : St) : Prop := ∀ k, 16 ≤ k → k < n → (∀ j, S.1 k j = E k j) ∧ ∀ j, S.2 k j = 0
def Ez0 : Nat → Nat → Int32 := fun _ _ => 0
def Ez1 : Nat → Nat → Int32 := fun k j => if k = 19 ∧ j = 1 then -1 else 0
def Ez2 : Nat → Nat → Int32 := fun k j => if k = 80 ∧ j = 6 then -1 else Ez1 k j
theorem Zs.newS {n : Nat} {E : Nat → Nat → Int32} {S : St} (h : Zs n E S) (he : ∀ j, E n j = 0) : Zs (n + 1) E (newS S n) := by
  intro k h1 h2
  by_cases hk : k = n
  · subst hk
    refine ⟨fun j => ?_, fun j => ?_⟩
    · rw [he]
      show (if k = k then fun _ => 0 else S.1 k) j = 0
      rw [if_pos rfl]
    · show (if k = k then fun _ => 0 else S.2 k) j = 0
      rw [if_pos rfl]
  · refine ⟨fun j => ?_, fun j => ?_⟩
    · show (if k = n then fun _ => 0 else S.1 k) j = _
      rw [if_neg hk]
      exact (h k h1 (by omega)).1 j
    · show (if k = n then fun _ => 0 else S.2 k) j = 0
      rw [if_neg hk]
      exact (h k h1 (by omega)).2 j
theorem Zs.mulS {n : Nat} {E : Nat → Nat → Int32} {S : St} (h : Zs n E S) (he : ∀ i, i < 5 → ∀ j, E (n + i) j = 0) : Zs (n + 5) E (mulS S n) := by
  intro k h1 h2
  by_cases hk : n ≤ k ∧ k < n + 5
  · refine ⟨fun j => ?_, fun j => ?_⟩
    · have e := he (k - n) (by omega) j
      rw [show n + (k - n) = k by omega] at e
      rw [e]
      show (if n ≤ k ∧ k < n + 5 then fun _ => 0 else S.1 k) j = 0
      rw [if_pos hk]
    · show (if n ≤ k ∧ k < n + 5 then fun _ => 0 else S.2 k) j = 0
      rw [if_pos hk]
  · refine ⟨fun j => ?_, fun j => ?_⟩
    · show (if n ≤ k ∧ k < n + 5 then fun _ => 0 else S.1 k) j = _
      rw [if_neg hk]
      exact (h k h1 (by omega)).1 j
    · show (if n ≤ k ∧ k < n + 5 then fun _ => 0 else S.2 k) j = 0
      rw [if_neg hk]
      exact (h k h1 (by omega)).2 j
theorem Zs.setI {n : Nat} {E E' : Nat → Nat → Int32} {S : St} {a b : Nat} {v : Int32} (h : Zs n E S) (he : ∀ k j, E' k j = if k = a ∧ j = b then v else E k j) : Zs n E' (setI S a b v) := by
  intro k h1 h2
  refine ⟨fun j => ?_, (h k h1 h2).2⟩
  rw [setI_at, he, (h k h1 h2).1 j]
