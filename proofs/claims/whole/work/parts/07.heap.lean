-- rules of the store
theorem arrV_ext {c : ClassId} {N : Nat} {f f' : Nat → Value} (h : ∀ j, j < N → f j = f' j) : arrV c N f = arrV c N f' := by
  unfold arrV
  rw [show (fun j : Fin N => f j.val) = (fun j : Fin N => f' j.val) from funext fun j => h j.1 j.2]
theorem Rep.put {g : GX} {ρ ρ2 : Rs} {S S2 : St} {H H1 : Heap} {k : Nat} (hR : Rep g ρ S H) (h1 : 16 ≤ k) (hg : ¬ gap k) (h2 : k < rn ρ) (hn : rn ρ2 = rn ρ) (ho : ∀ j, 16 ≤ j → j < rn ρ → j ≠ k → ent g ρ2 S2 j = ent g ρ S j) (he : va_at (gD g) vwCl (ad g k, ent g ρ2 S2 k) H1) (z : H1.size = H.size) (oq : ∀ q : Nat, q ≠ ad g k → H1[q]? = H[q]?) : Rep g ρ2 S2 H1 := by
  refine ⟨by rw [hn]; exact hR.1, by rw [z, hn]; exact hR.2.1, ?_⟩
  have h := hR.2.2.set (wsO_D g ρ S) (wsO_get h1 hg h2) he oq
  rw [wsO_set h1 hg h2 hn rfl rfl ho] at h
  exact h
theorem ad_A {g : GX} {k : Nat} (h : 16 ≤ k) : gA g (ad g k) := by
  show gB g ≤ ad g k
  unfold ad
  rw [if_neg (by omega)]
  omega
theorem Rep.at {g : GX} {ρ : Rs} {S : St} {H : Heap} {k : Nat} (hR : Rep g ρ S H) (h1 : 16 ≤ k) (hg : ¬ gap k) (h2 : k < rn ρ) : va_at (gD g) vwCl (ad g k, ent g ρ S k) H := hR.2.2 _ _ (wsO_get h1 hg h2)
theorem Rep.arr {g : GX} {ρ : Rs} {S : St} {H : Heap} {k : Nat} {x : ClassId × vp_A} (hR : Rep g ρ S H) (h1 : 16 ≤ k) (hg : ¬ gap k) (h2 : k < rn ρ) (he : ent g ρ S k = .inl x) : H[ad g k]? = some (vp_cell x.1 x.2) := by
  have h := hR.at h1 hg h2
  rw [he] at h
  exact h
theorem tysO_0 (g : GX) : (tysO g)[0]? = some (gC g 0, .int) := rfl
theorem tysO_1 (g : GX) : (tysO g)[1]? = some (gC g 1, .long) := rfl
theorem tysO_2 (g : GX) : (tysO g)[2]? = some (gC g 2, .boolean) := rfl
theorem wcl_0 : ∀ w ∈ u_ws RX0 TX0 1, w ∈ Wg := by decide +kernel
theorem wcl_1 : ∀ w ∈ u_ws RX1 TX1 15, w ∈ Wg := by decide +kernel
theorem wcl_2 : ∀ w ∈ u_ws RX2 TX2 8, w ∈ Wg := by decide +kernel
theorem wcl_3 : ∀ w ∈ u_ws RX4 TX4 11, w ∈ Wg := by decide +kernel
theorem wcl_4 : ∀ w ∈ u_ws RX5 TX5 7, w ∈ Wg := by decide +kernel
theorem wcl_5 : ∀ w ∈ u_ws RX6 TX6 18, w ∈ Wg := by decide +kernel
theorem wcl_6 : ∀ w ∈ u_ws RX8 TX8 12, w ∈ Wg := by decide +kernel
theorem wcl_7 : ∀ w ∈ u_ws RX9 TX9 10, w ∈ Wg := by decide +kernel
theorem wcl_8 : ∀ w ∈ u_ws RX10 TX10 2, w ∈ Wg := by decide +kernel
theorem wcl_9 : ∀ w ∈ u_ws RX11 TX11 8, w ∈ Wg := by decide +kernel
theorem wcl_10 : ∀ w ∈ u_ws RX12 TX12 40, w ∈ Wg := by decide +kernel
/-- field j of class ci, with its kind, by the number idx of a pool -/
def Fl (own : String) (idx ci j t : Nat) : Prop := ∃ q : vw_C, vwCl[ci]? = some q ∧ (∀ w ∈ u_ws q.1 q.2.1 q.2.2, w ∈ Wg) ∧ j < q.2.2 ∧ (q.2.1 j).1 = q.1 ∧ Cond.fieldLink own idx q.1 (q.2.1 j).2.1 (q.2.1 j).2.2.1 ∈ Wg ∧ (fkA ci)[j]? = some t
/-- what a store into it needs -/
def Fp (ci j : Nat) (fin : Bool) (ty : FieldType) : Prop := ∃ q : vw_C, vwCl[ci]? = some q ∧ (∃ ty0 : Nat → FieldType, ∀ k, k < q.2.2 → parseFieldDescriptor (q.2.1 k).2.2.1 = some (ty0 k)) ∧ (∀ a, a < q.2.2 → ∀ b, b < q.2.2 → a ≠ b → (q.2.1 a).2.1 ≠ (q.2.1 b).2.1) ∧ (q.2.1 j).2.2.2 = fin ∧ parseFieldDescriptor (q.2.1 j).2.2.1 = some ty
section Heap
variable {g : GX} {ρ' : Rs} {Q : Option Value → St → Prop} {d : Nat} {M : MD} {pc : Nat} {ls : List (Nat × Value)} {st : List Value} {ρ : Rs} {S : St}
theorem AW_get {k ci j idx t : Nat} (hd0 : decode M.2.1 pc = .ok (.getfield idx, 3)) (hl : Fl M.1.cls idx ci j t) (h1 : 16 ≤ k) (h2 : k < rn ρ) (hs : shp ρ k = .inl ci) {v : Value} (hw : ∀ g, fval g ρ S k t j = vmv g v) (kk : AW g ρ' Q d M (pc + 3) ls (v :: st) ρ S) : AW g ρ' Q d M pc ls (.ref k :: st) ρ S := by
  intro p e R s m args below meth c H locs cells slots c0 u0 Z la hF hd hL hc hu ec eu hR hS hv hz
  obtain ⟨⟨C, T, N⟩, a1, a2, a3, a4, a5, a6⟩ := hl
  have he : (wsO g ρ S)[pl k]? = some (ad g k, .inr (ci, flds g ρ S k (fkA ci))) := by rw [wsO_get h1 (ngO hs) h2, ent_O hs]
  exact va_get (T := T) (N := N) hF.1 hF.2.1 hF.2.2.2.2.2.1 a2 hF.2.2.2.2.1 hF.2.2.2.2.2.2.2.2.1.1 hR.2.2 (pl k) he a1 j a3 (hF.2.2.2.2.2.1 _ a5) (fun x hx => by rw [← a4]; exact hx) ((flds_get a6).trans (congrArg some (hw g))) hd0 (kk p e R s m args below meth c H locs cells slots c0 u0 Z la hF hd hL hc hu ec eu hR hS hv hz)
theorem AW_put {k ci j idx t : Nat} {ty : FieldType} {ρ2 : Rs} {S2 : St} {v : Value} (hd0 : decode M.2.1 pc = .ok (.putfield idx, 3)) (hl : Fl M.1.cls idx ci j t) (hp : Fp ci j false ty) (h1 : 16 ≤ k) (h2 : k < rn ρ) (hs : shp ρ k = .inl ci)
    (hn : ∀ g, narrow ty (vmv g v) = vmv g v) (hfit : ∀ g, fits ty (vmv g v) = true) (e1 : rn ρ2 = rn ρ) (e2 : rl ρ2 = rl ρ) (e3 : rc ρ2 = rc ρ) (e4 : ru ρ2 = ru ρ) (hf : Fr (fun a => a = k) S S2) (hr : ∀ a, a ≠ k → rR ρ2 a = rR ρ a)
    (hw : ∀ g, fval g ρ2 S2 k t j = vmv g v) (ho : ∀ g i u, i ≠ j → (fkA ci)[i]? = some u → fval g ρ2 S2 k u i = fval g ρ S k u i) (hk : gF g k) (kk : AW g ρ' Q d M (pc + 3) ls st ρ2 S2) : AW g ρ' Q d M pc ls (v :: .ref k :: st) ρ S := by
  intro p e R s m args below meth c H locs cells slots c0 u0 Z la hF hd hL hc hu ec eu hR hS hv hz
  obtain ⟨⟨C, T, N⟩, a1, a2, a3, a4, a5, a6⟩ := hl
  obtain ⟨q, b1, ⟨ty0, b2⟩, b3, b4, b5⟩ := hp
  cases a1.symm.trans b1
  have hts := hF.2.2.2.2.2.1
  have hown := hF.2.2.2.2.1
  have hK := hF.2.2.2.2.2.2.2.2.1.1
  have hap := va_apart (own := M.1.cls) (C := C) (T := T) (N := N) hts a2 ty0 b2 b3 hK a1
  have hat := hR.at h1 (ngO hs) h2
  rw [ent_O hs] at hat
  obtain ⟨r, g1, cell, q1, q2, q3, q4⟩ := hat
  cases g1.symm.trans a1
  obtain ⟨hSl, hfc, kC, hkC, hkind⟩ := hK.1 ci _ a1
  obtain ⟨cf, kf, fi, f, hi, hsl⟩ := hSl j a3
  have hi2 : s.fieldFound? C (T j).2.1 (T j).2.2.1 = some (cf, kf, fi, f) := by
    have z : (T j).1 = C := a4
    rw [z] at hi
    exact hi
  have hlay := hts _ (a2 _ (u_in_lay a3))
  unfold u_lay at hlay
  rw [if_neg (by rw [b4]; decide)] at hlay
  have hst := (u_facts hfc hkC (u_lays hts a2 a3) hi).1
  have h6 := u_store hfc hkC hkind hlay hi b5 (hn g) (hfit g)
  refine W.putK hF.1 hF.2.1 (f := f) ⟨hown, hts _ a5, ⟨_, _, _, hi2⟩, hst⟩ (by rw [q2]; exact h6) q1 q3 (by rw [hsl]; exact k2_hasslot (q4 j a3)) rfl rfl hd0 fun H1 w1 w2 w3 => ?_
  rw [hsl] at w1 ⊢
  have hlen : j < (flds g ρ S k (fkA ci)).length := by rw [flds_len]; exact (List.getElem?_eq_some_iff.mp a6).1
  have hset : (flds g ρ S k (fkA ci)).set j (vmv g v) = flds g ρ2 S2 k (fkA ci) := flds_set a6 (hw g) (ho g)
  have hshp : ∀ a, shp ρ2 a = shp ρ a := fun a => by unfold shp; rw [e2]
  have hR2 : Rep g ρ2 S2 H1 := hR.put h1 (ngO hs) h2 e1 (fun a _ _ ha => ent_ext (hshp a) (hf a ha).1 (hf a ha).2 (hr a ha) (fun n hn i hi => (hf _ (ng_ne (ngO hs) hn hi)).2)) (by
    rw [ent_O ((hshp k).trans hs), ← hset]
    exact ⟨_, a1, t_OB.to (V := updV (vp_V (flds g ρ S k (fkA ci))) j (vmv g v)) ⟨_, w1, q2, q3, t_set q4 hap a3 _⟩ (fun i _ => vp_updV_set hlen (vmv g v) i)⟩) w2 w3
  have hfr : Fr (gF g) S S2 := hf.mono (fun a e => by rw [e]; exact hk)
  exact kk p e R s m args below meth c H1 _ cells slots c0 u0 Z la hF hd hL hc hu (ec.trans e3.symm) (eu.trans e4.symm) hR2 (hS.put w2 w3 (ad_A h1)) hv (fun r S' H' locs' la' pc' st' q1 q2 q3 => hz r S' H' locs' la' pc' st' q1 q2 (Fr.tr hfr q3))
theorem AW_putF {k ci j idx t : Nat} {ty : FieldType} {ρ2 : Rs} {S2 : St} {v : Value} (hd0 : decode M.2.1 pc = .ok (.putfield idx, 3)) (hl : Fl M.1.cls idx ci j t) (hp : Fp ci j true ty) (hin : M.1.name = "<init>") (hcl : ∀ q, vwCl[ci]? = some q → q.1 = M.1.cls) (h1 : 16 ≤ k) (h2 : k < rn ρ) (hs : shp ρ k = .inl ci)
    (hn : ∀ g, narrow ty (vmv g v) = vmv g v) (hfit : ∀ g, fits ty (vmv g v) = true) (e1 : rn ρ2 = rn ρ) (e2 : rl ρ2 = rl ρ) (e3 : rc ρ2 = rc ρ) (e4 : ru ρ2 = ru ρ) (hf : Fr (fun a => a = k) S S2) (hr : ∀ a, a ≠ k → rR ρ2 a = rR ρ a)
    (hw : ∀ g, fval g ρ2 S2 k t j = vmv g v) (ho : ∀ g i u, i ≠ j → (fkA ci)[i]? = some u → fval g ρ2 S2 k u i = fval g ρ S k u i) (hk : gF g k) (kk : AW g ρ' Q d M (pc + 3) ls st ρ2 S2) : AW g ρ' Q d M pc ls (v :: .ref k :: st) ρ S := by
  intro p e R s m args below meth c H locs cells slots c0 u0 Z la hF hd hL hc hu ec eu hR hS hv hz
  obtain ⟨⟨C, T, N⟩, a1, a2, a3, a4, a5, a6⟩ := hl
  obtain ⟨q, b1, ⟨ty0, b2⟩, b3, b4, b5⟩ := hp
  cases a1.symm.trans b1
  have hts := hF.2.2.2.2.2.1
  have hown := hF.2.2.2.2.1
  have hK := hF.2.2.2.2.2.2.2.2.1.1
  have hap := va_apart (own := M.1.cls) (C := C) (T := T) (N := N) hts a2 ty0 b2 b3 hK a1
  have hat := hR.at h1 (ngO hs) h2
  rw [ent_O hs] at hat
  obtain ⟨r, g1, cell, q1, q2, q3, q4⟩ := hat
  cases g1.symm.trans a1
  obtain ⟨hSl, hfc, kC, hkC, hkind⟩ := hK.1 ci _ a1
  obtain ⟨cf, kf, fi, f, hi, hsl⟩ := hSl j a3
  have hi2 : s.fieldFound? C (T j).2.1 (T j).2.2.1 = some (cf, kf, fi, f) := by
    have z : (T j).1 = C := a4
    rw [z] at hi
    exact hi
  have hlay := hts _ (a2 _ (u_in_lay a3))
  unfold u_lay at hlay
  rw [if_pos b4] at hlay
  have hdecl : (T j).1 = M.1.cls := a4.trans (hcl _ a1)
  have hcf : m.cls = cf := by
    obtain ⟨_, _, c', _, _, _, -, -, hf', -, -, -, hown2, -⟩ := Cond.laysFinal_spec hlay
    have e1 : c' = cf := by have := hi.symm.trans hf'; simp at this; exact this.1.symm
    rw [hdecl] at hown2
    rw [← e1]; exact Option.some.inj (hown.symm.trans hown2)
  have hst := (u_facts hfc hkC (u_lays hts a2 a3) hi).1
  have h6 := u_fits hfc hkC hkind (Or.inr hlay) hi b5 (hn g) (hfit g)
  refine W.putFinK hF.1 hF.2.1 hown (hts _ a5) hi2 hst hcf (hF.2.2.2.2.2.2.2.1.trans hin) (by rw [q2]; exact h6) q1 q3 (by rw [hsl]; exact k2_hasslot (q4 j a3)) rfl rfl hd0 fun H1 w1 w2 w3 => ?_
  rw [hsl] at w1 ⊢
  have hlen : j < (flds g ρ S k (fkA ci)).length := by rw [flds_len]; exact (List.getElem?_eq_some_iff.mp a6).1
  have hset : (flds g ρ S k (fkA ci)).set j (vmv g v) = flds g ρ2 S2 k (fkA ci) := flds_set a6 (hw g) (ho g)
  have hshp : ∀ a, shp ρ2 a = shp ρ a := fun a => by unfold shp; rw [e2]
  have hR2 : Rep g ρ2 S2 H1 := hR.put h1 (ngO hs) h2 e1 (fun a _ _ ha => ent_ext (hshp a) (hf a ha).1 (hf a ha).2 (hr a ha) (fun n hn i hi => (hf _ (ng_ne (ngO hs) hn hi)).2)) (by
    rw [ent_O ((hshp k).trans hs), ← hset]
    exact ⟨_, a1, t_OB.to (V := updV (vp_V (flds g ρ S k (fkA ci))) j (vmv g v)) ⟨_, w1, q2, q3, t_set q4 hap a3 _⟩ (fun i _ => vp_updV_set hlen (vmv g v) i)⟩) w2 w3
  have hfr : Fr (gF g) S S2 := hf.mono (fun a e => by rw [e]; exact hk)
  exact kk p e R s m args below meth c H1 _ cells slots c0 u0 Z la hF hd hL hc hu (ec.trans e3.symm) (eu.trans e4.symm) hR2 (hS.put w2 w3 (ad_A h1)) hv (fun r S' H' locs' la' pc' st' q1 q2 q3 => hz r S' H' locs' la' pc' st' q1 q2 (Fr.tr hfr q3))
theorem AW_iaload {k n : Nat} {i : Int32} (hd0 : decode M.2.1 pc = .ok (.iaload, 1)) (h1 : 16 ≤ k) (h2 : k < rn ρ) (hs : shp ρ k = .inr (0, n)) (hin : vp_in i n) {v : Int32} (hw : S.1 k i.toNatClampNeg = v) (kk : AW g ρ' Q d M (pc + 1) ls (.int v :: st) ρ S) : AW g ρ' Q d M pc ls (.int i :: .ref k :: st) ρ S := by
  subst hw
  intro p e R s m args below meth c H locs cells slots c0 u0 Z la hF hd hL hc hu ec eu hR hS hv hz
  exact va_iald hF.1 hF.2.1 hF.2.2.2.2.2.2.2.2.1.1 hR.2.2 (pl k) 0 (by rw [wsO_get h1 (ngA (by decide) hs) h2, ent_I hs]) rfl hin hd0 (kk p e R s m args below meth c H locs cells slots c0 u0 Z la hF hd hL hc hu ec eu hR hS hv hz)
theorem AW_laload {k n : Nat} {i : Int32} (hd0 : decode M.2.1 pc = .ok (.laload, 1)) (h1 : 16 ≤ k) (h2 : k < rn ρ) (hs : shp ρ k = .inr (1, n)) (hin : vp_in i n) {v : Int64} (hw : S.2 k i.toNatClampNeg = v) (kk : AW g ρ' Q d M (pc + 1) ls (.long v :: st) ρ S) : AW g ρ' Q d M pc ls (.int i :: .ref k :: st) ρ S := by
  subst hw
  intro p e R s m args below meth c H locs cells slots c0 u0 Z la hF hd hL hc hu ec eu hR hS hv hz
  exact va_lald hF.1 hF.2.1 hF.2.2.2.2.2.2.2.2.1.1 hR.2.2 (pl k) 1 (by rw [wsO_get h1 (ngA (by decide) hs) h2, ent_J hs]) rfl hin hd0 (kk p e R s m args below meth c H locs cells slots c0 u0 Z la hF hd hL hc hu ec eu hR hS hv hz)
theorem AW_zaload {k n : Nat} {i : Int32} (hd0 : decode M.2.1 pc = .ok (.baload, 1)) (h1 : 16 ≤ k) (h2 : k < rn ρ) (hs : shp ρ k = .inr (2, n)) (hin : vp_in i n) {v : Int32} (hw : S.1 k i.toNatClampNeg = v) (kk : AW g ρ' Q d M (pc + 1) ls (.int v :: st) ρ S) : AW g ρ' Q d M pc ls (.int i :: .ref k :: st) ρ S := by
  subst hw
  intro p e R s m args below meth c H locs cells slots c0 u0 Z la hF hd hL hc hu ec eu hR hS hv hz
  exact va_zald hF.1 hF.2.1 hF.2.2.2.2.2.2.2.2.1.1 hR.2.2 (pl k) 2 (by rw [wsO_get h1 (ngA (by decide) hs) h2, ent_Z hs]) rfl hin hd0 (kk p e R s m args below meth c H locs cells slots c0 u0 Z la hF hd hL hc hu ec eu hR hS hv hz)
theorem AW_iastore {k n : Nat} {i : Int32} {x : Int32} (hd0 : decode M.2.1 pc = .ok (.iastore, 1)) (h1 : 16 ≤ k) (h2 : k < rn ρ) (hs : shp ρ k = .inr (0, n)) (hin : vp_in i n) (hk : gF g k) {jx : Nat} (hj : i.toNatClampNeg = jx) (kk : AW g ρ' Q d M (pc + 1) ls st ρ (setI S k jx x)) : AW g ρ' Q d M pc ls (.int x :: .int i :: .ref k :: st) ρ S := by
  subst hj
  intro p e R s m args below meth c H locs cells slots c0 u0 Z la hF hd hL hc hu ec eu hR hS hv hz
  have hA := (hF.2.2.2.2.2.2.2.2.1.1.2 0 _ (tysO_0 g)).1 n (fun j => .int (S.1 k j))
  refine W.iast hF.1 hF.2.1 (hR.arr h1 (ngA (by decide) hs) h2 (ent_I hs)) hA (fun q => by cases q) (by show ¬ (i < 0 ∨ (arrV _ _ _).slots.size ≤ _); rw [arrV_size]; exact hin) rfl rfl hd0 fun H1 w1 w2 w3 => ?_
  have hR2 : Rep g ρ (setI S k i.toNatClampNeg x) H1 := hR.put h1 (ngA (by decide) hs) h2 rfl (fun a _ _ ha => ent_ext rfl (setI_ne S _ _ ha) (rfl) rfl (fun _ _ _ _ => rfl)) (by
    rw [ent_I hs]
    show H1[ad g k]? = some (vp_cell _ _)
    rw [w1, vp_cell_i, vp_cell_i, arrV_store, setI_eq]
    congr 2
    funext q
    by_cases hq : q = i.toNatClampNeg
    · subst hq
      simp [updV, upd]
    · simp [updV, upd, hq]) w2 w3
  exact kk p e R s m args below meth c H1 _ cells slots c0 u0 Z la hF hd hL hc hu ec eu hR2 (hS.put w2 w3 (ad_A h1)) hv (fun r S' H' locs' la' pc' st' q1 q2 q3 => hz r S' H' locs' la' pc' st' q1 q2 (Fr.tr (Fr.setI S _ _ hk) q3))
theorem AW_lastore {k n : Nat} {i : Int32} {x : Int64} (hd0 : decode M.2.1 pc = .ok (.lastore, 1)) (h1 : 16 ≤ k) (h2 : k < rn ρ) (hs : shp ρ k = .inr (1, n)) (hin : vp_in i n) (hk : gF g k) {jx : Nat} (hj : i.toNatClampNeg = jx) (kk : AW g ρ' Q d M (pc + 1) ls st ρ (setL S k jx x)) : AW g ρ' Q d M pc ls (.long x :: .int i :: .ref k :: st) ρ S := by
  subst hj
  intro p e R s m args below meth c H locs cells slots c0 u0 Z la hF hd hL hc hu ec eu hR hS hv hz
  have hA := (hF.2.2.2.2.2.2.2.2.1.1.2 1 _ (tysO_1 g)).1 n (fun j => .long (S.2 k j))
  refine W.last hF.1 hF.2.1 (hR.arr h1 (ngA (by decide) hs) h2 (ent_J hs)) hA (fun q => by cases q) (by show ¬ (i < 0 ∨ (arrV _ _ _).slots.size ≤ _); rw [arrV_size]; exact hin) rfl rfl hd0 fun H1 w1 w2 w3 => ?_
  have hR2 : Rep g ρ (setL S k i.toNatClampNeg x) H1 := hR.put h1 (ngA (by decide) hs) h2 rfl (fun a _ _ ha => ent_ext rfl (rfl) (setL_ne S _ _ ha) rfl (fun n hn i hi => setL_ne S _ _ (ng_ne (ngA (by decide) hs) hn hi))) (by
    rw [ent_J hs]
    show H1[ad g k]? = some (vp_cell _ _)
    rw [w1, vp_cell_l, vp_cell_l, arrV_store, setL_eq]
    congr 2
    funext q
    by_cases hq : q = i.toNatClampNeg
    · subst hq
      simp [updV, vp_updL]
    · simp [updV, vp_updL, hq]) w2 w3
  exact kk p e R s m args below meth c H1 _ cells slots c0 u0 Z la hF hd hL hc hu ec eu hR2 (hS.put w2 w3 (ad_A h1)) hv (fun r S' H' locs' la' pc' st' q1 q2 q3 => hz r S' H' locs' la' pc' st' q1 q2 (Fr.tr (Fr.setL S _ _ hk) q3))
theorem AW_zastore {k n : Nat} {i : Int32} {x : Int32} (hd0 : decode M.2.1 pc = .ok (.bastore, 1)) (h1 : 16 ≤ k) (h2 : k < rn ρ) (hs : shp ρ k = .inr (2, n)) (hin : vp_in i n) (hx : narrow .boolean (.int x) = .int x) (hk : gF g k) {jx : Nat} (hj : i.toNatClampNeg = jx) (kk : AW g ρ' Q d M (pc + 1) ls st ρ (setI S k jx x)) : AW g ρ' Q d M pc ls (.int x :: .int i :: .ref k :: st) ρ S := by
  subst hj
  intro p e R s m args below meth c H locs cells slots c0 u0 Z la hF hd hL hc hu ec eu hR hS hv hz
  have hA := (hF.2.2.2.2.2.2.2.2.1.1.2 2 _ (tysO_2 g)).1 n (fun j => .int (S.1 k j))
  refine W.zast hF.1 hF.2.1 (hR.arr h1 (ngA (by decide) hs) h2 (ent_Z hs)) hA (fun q => by cases q) (by show ¬ (i < 0 ∨ (arrV _ _ _).slots.size ≤ _); rw [arrV_size]; exact hin) rfl rfl hd0 fun H1 w1 w2 w3 => ?_
  have hR2 : Rep g ρ (setI S k i.toNatClampNeg x) H1 := hR.put h1 (ngA (by decide) hs) h2 rfl (fun a _ _ ha => ent_ext rfl (setI_ne S _ _ ha) (rfl) rfl (fun _ _ _ _ => rfl)) (by
    rw [ent_Z hs]
    show H1[ad g k]? = some (vp_cell _ _)
    rw [w1, vp_cell_i, vp_cell_i, arrV_store, setI_eq]
    congr 2
    funext q
    by_cases hq : q = i.toNatClampNeg
    · subst hq
      simp [updV, upd, hx]
    · simp [updV, upd, hq]) w2 w3
  exact kk p e R s m args below meth c H1 _ cells slots c0 u0 Z la hF hd hL hc hu ec eu hR2 (hS.put w2 w3 (ad_A h1)) hv (fun r S' H' locs' la' pc' st' q1 q2 q3 => hz r S' H' locs' la' pc' st' q1 q2 (Fr.tr (Fr.setI S _ _ hk) q3))
theorem AW_alen {k t n : Nat} {v : Int32} (hd0 : decode M.2.1 pc = .ok (.arraylength, 1)) (h1 : 16 ≤ k) (h2 : k < rn ρ) (ht : t < 3) (hs : shp ρ k = .inr (t, n)) (hw : Int32.ofNat n = v) (kk : AW g ρ' Q d M (pc + 1) ls (.int v :: st) ρ S) : AW g ρ' Q d M pc ls (.ref k :: st) ρ S := by
  intro p e R s m args below meth c H locs cells slots c0 u0 Z la hF hd hL hc hu ec eu hR hS hv hz
  have hK := hF.2.2.2.2.2.2.2.2.1.1
  have hg := wsO_get (g := g) (ρ := ρ) (S := S) h1 (ngA (by omega) hs) h2
  rcases (show t = 0 ∨ t = 1 ∨ t = 2 by omega) with rfl | rfl | rfl
  · exact va_alen hF.1 hF.2.1 hK hR.2.2 (pl k) 0 (by rw [hg, ent_I hs]) rfl hw hd0 (kk p e R s m args below meth c H locs cells slots c0 u0 Z la hF hd hL hc hu ec eu hR hS hv hz)
  · exact va_alen hF.1 hF.2.1 hK hR.2.2 (pl k) 1 (by rw [hg, ent_J hs]) rfl hw hd0 (kk p e R s m args below meth c H locs cells slots c0 u0 Z la hF hd hL hc hu ec eu hR hS hv hz)
  · exact va_alen hF.1 hF.2.1 hK hR.2.2 (pl k) 2 (by rw [hg, ent_Z hs]) rfl hw hd0 (kk p e R s m args below meth c H locs cells slots c0 u0 Z la hF hd hL hc hu ec eu hR hS hv hz)
-- a long[] of four rows
theorem AW_flen {k n : Nat} {v : Int32} (hd0 : decode M.2.1 pc = .ok (.arraylength, 1)) (h1 : 16 ≤ k) (h2 : k < rn ρ) (hs : shp ρ k = .inr (3, n)) (hw : Int32.ofNat (4 * n) = v) (kk : AW g ρ' Q d M (pc + 1) ls (.int v :: st) ρ S) : AW g ρ' Q d M pc ls (.ref k :: st) ρ S := by
  intro p e R s m args below meth c H locs cells slots c0 u0 Z la hF hd hL hc hu ec eu hR hS hv hz
  exact va_alen hF.1 hF.2.1 hF.2.2.2.2.2.2.2.2.1.1 hR.2.2 (pl k) 1 (by rw [wsO_get h1 (ngA (by decide) hs) h2, ent_F hs]) rfl hw hd0 (kk p e R s m args below meth c H locs cells slots c0 u0 Z la hF hd hL hc hu ec eu hR hS hv hz)
theorem AW_flald {k n : Nat} {i : Int32} (hd0 : decode M.2.1 pc = .ok (.laload, 1)) (h1 : 16 ≤ k) (h2 : k < rn ρ) (hs : shp ρ k = .inr (3, n)) (hin : vp_in i (4 * n)) {r f : Nat} (hr : i.toNatClampNeg / n = r) (hf : i.toNatClampNeg % n = f) {v : Int64} (hw : S.2 (k + 1 + r) f = v) (kk : AW g ρ' Q d M (pc + 1) ls (.long v :: st) ρ S) : AW g ρ' Q d M pc ls (.int i :: .ref k :: st) ρ S := by
  subst hw
  intro p e R s m args below meth c H locs cells slots c0 u0 Z la hF hd hL hc hu ec eu hR hS hv hz
  have hlt : i.toNatClampNeg < 4 * n := Nat.not_le.mp fun q => hin (Or.inr q)
  have hr4 : i.toNatClampNeg / n < 4 := Nat.div_lt_of_lt_mul (by rw [Nat.mul_comm]; exact hlt)
  exact va_lald hF.1 hF.2.1 hF.2.2.2.2.2.2.2.2.1.1 hR.2.2 (pl k) 1 (by rw [wsO_get h1 (ngA (by decide) hs) h2, ent_F hs]) rfl hin hd0 (by
    show W _ _ _ _ _ _ _ _ _ _ _ _ _ _ _ (F0 m (pc + 1) la (.long (S.2 (k + 1 + i.toNatClampNeg / n % 4) (i.toNatClampNeg % n)) :: st.map (vmv g)))
    rw [Nat.mod_eq_of_lt hr4, hr, hf]
    exact kk p e R s m args below meth c H locs cells slots c0 u0 Z la hF hd hL hc hu ec eu hR hS hv hz)
theorem AW_flast {k n : Nat} {i : Int32} {x : Int64} (hd0 : decode M.2.1 pc = .ok (.lastore, 1)) (h1 : 16 ≤ k) (h2 : k < rn ρ) (hs : shp ρ k = .inr (3, n)) (hin : vp_in i (4 * n)) {r f : Nat} (hr : i.toNatClampNeg / n = r) (hf : i.toNatClampNeg % n = f) (hk : gF g (k + 1 + r)) (kk : AW g ρ' Q d M (pc + 1) ls st ρ (setL S (k + 1 + r) f x)) : AW g ρ' Q d M pc ls (.long x :: .int i :: .ref k :: st) ρ S := by
  intro p e R s m args below meth c H locs cells slots c0 u0 Z la hF hd hL hc hu ec eu hR hS hv hz
  have hlt : i.toNatClampNeg < 4 * n := Nat.not_le.mp fun q => hin (Or.inr q)
  have hn0 : 0 < n := by omega
  have hr4 : r < 4 := by rw [← hr]; exact Nat.div_lt_of_lt_mul (by rw [Nat.mul_comm]; exact hlt)
  have hfl := flat_of hs
  have hA := (hF.2.2.2.2.2.2.2.2.1.1.2 1 _ (tysO_1 g)).1 (4 * n) (fun j => .long (S.2 (k + 1 + j / n % 4) (j % n)))
  refine W.last hF.1 hF.2.1 (hR.arr h1 (ngA (by decide) hs) h2 (ent_F hs)) hA (fun q => by cases q) (by show ¬ (i < 0 ∨ (arrV _ _ _).slots.size ≤ _); rw [arrV_size]; exact hin) rfl rfl hd0 fun H1 w1 w2 w3 => ?_
  have hR2 : Rep g ρ (setL S (k + 1 + r) f x) H1 := hR.put h1 (ngA (by decide) hs) h2 rfl (fun a _ _ ha => by
      by_cases hga : gap a
      · unfold ent; rw [shp_gap hga]; rfl
      · refine ent_ext rfl rfl (setL_ne S _ _ (fun e => hga (by unfold gap; omega))) rfl (fun n2 hn2 i2 hi2 => setL_ne S _ _ (fun e => ?_))
        have := flat_of hn2
        omega) (by
    rw [ent_F hs]
    show H1[ad g k]? = some (vp_cell _ _)
    rw [w1, vp_cell_l, vp_cell_l, arrV_store]
    refine congrArg some (arrV_ext fun q hq4 => ?_)
    have hq4' : q / n % 4 = q / n := Nat.mod_eq_of_lt (Nat.div_lt_of_lt_mul (by rw [Nat.mul_comm]; exact hq4))
    by_cases hq : q = i.toNatClampNeg
    · subst hq
      rw [hq4', hr, hf, setL_at, if_pos ⟨rfl, rfl⟩]
      simp [updV]
    · have hne : ¬ (k + 1 + q / n = k + 1 + r ∧ q % n = f) := fun e => hq (by
        have e1 : q / n = r := by omega
        rw [← Nat.div_add_mod q n, ← Nat.div_add_mod i.toNatClampNeg n, e1, e.2, hr, hf])
      rw [hq4', setL_at, if_neg hne]
      simp [updV, hq, hq4']) w2 w3
  exact kk p e R s m args below meth c H1 _ cells slots c0 u0 Z la hF hd hL hc hu ec eu hR2 (hS.put w2 w3 (ad_A h1)) hv (fun r S' H' locs' la' pc' st' q1 q2 q3 => hz r S' H' locs' la' pc' st' q1 q2 (Fr.tr (Fr.setL S _ _ hk) q3))
-- constants of the pool
theorem AW_ldc {idx : Nat} {v : Int32} (hd0 : decode M.2.1 pc = .ok (.ldc idx, 2)) (hw : Cond.constant M.1.cls idx v ∈ Wg) (k : AW g ρ' Q d M (pc + 2) ls (.int v :: st) ρ S) : AW g ρ' Q d M pc ls st ρ S :=
  AW.tabl (fun p e R s m args below meth c H locs cells slots Z la hF k => lv_ldc hF.1 hF.2.1 hF.2.2.2.2.1 (hF.2.2.2.2.2.1 _ hw) hd0 k) k
theorem AW_ldcw {idx : Nat} {v : Int32} (hd0 : decode M.2.1 pc = .ok (.ldc_w idx, 3)) (hw : Cond.constant M.1.cls idx v ∈ Wg) (k : AW g ρ' Q d M (pc + 3) ls (.int v :: st) ρ S) : AW g ρ' Q d M pc ls st ρ S :=
  AW.tabl (fun p e R s m args below meth c H locs cells slots Z la hF k => lv_ldcw hF.1 hF.2.1 hF.2.2.2.2.1 (hF.2.2.2.2.2.1 _ hw) hd0 k) k
theorem AW_ldc2 {idx : Nat} {v : Int64} (hd0 : decode M.2.1 pc = .ok (.ldc2_w idx, 3)) (hw : Cond.constantLong M.1.cls idx v ∈ Wg) (k : AW g ρ' Q d M (pc + 3) ls (.long v :: st) ρ S) : AW g ρ' Q d M pc ls st ρ S :=
  AW.tabl (fun p e R s m args below meth c H locs cells slots Z la hF k => lv_ldc2 hF.1 hF.2.1 hF.2.2.2.2.1 (hF.2.2.2.2.2.1 _ hw) hd0 k) k
theorem AW_ldc2d {idx : Nat} {v : UInt64} (hd0 : decode M.2.1 pc = .ok (.ldc2_w idx, 3)) (hw : Cond.constantDouble M.1.cls idx v ∈ Wg) (k : AW g ρ' Q d M (pc + 3) ls (.double v :: st) ρ S) : AW g ρ' Q d M pc ls st ρ S :=
  AW.tabl (fun p e R s m args below meth c H locs cells slots Z la hF k => lv_ldc2d hF.1 hF.2.1 hF.2.2.2.2.1 (hF.2.2.2.2.2.1 _ hw) hd0 k) k
theorem AW_ldcS {idx i : Nat} (hd0 : decode M.2.1 pc = .ok (.ldc idx, 2)) (hi : i < 5) (hw : (M.1.cls = "CountTables$Reader" ∧ kRW.getD i 0 = idx) ∨ (M.1.cls = "CountTablesModel" ∧ kMW.getD i 0 = idx)) (k : AW g ρ' Q d M (pc + 2) ls (.ref i :: st) ρ S) : AW g ρ' Q d M pc ls st ρ S :=
  AW.tabl (fun p e R s m args below meth c H locs cells slots Z la hF k => by
    have h := hF.2.2.2.2.2.2.2.2.1.2.2.1 i hi
    rcases hw with ⟨e1, e2⟩ | ⟨e1, e2⟩
    · exact va_ldcS hF.1 hF.2.1 hF.2.2.2.2.1 (by rw [e1, ← e2]; exact h.1) hd0 k
    · exact va_ldcS hF.1 hF.2.1 hF.2.2.2.2.1 (by rw [e1, ← e2]; exact h.2) hd0 k) k
-- the table of factorials, the script
theorem AW_getF {idx : Nat} (hd0 : decode M.2.1 pc = .ok (.getstatic idx, 3)) (hw : Cond.fieldLink M.1.cls idx "CountTables$Fills" "FACTORIALS" "[J" ∈ Wg) (k : AW g ρ' Q d M (pc + 3) ls (.ref 10 :: st) ρ S) : AW g ρ' Q d M pc ls st ρ S := by
  intro p e R s m args below meth c H locs cells slots c0 u0 Z la hF hd hL hc hu ec eu hR hS hv hz
  exact va_gets hF.1 hF.2.1 hF.2.2.2.2.2.2.2.2.2.1.1 hS hF.2.2.2.2.1 (hF.2.2.2.2.2.1 _ hw) (fun _ h => h) hd0 (k p e R s m args below meth c H locs cells slots c0 u0 Z la hF hd hL hc hu ec eu hR hS hv hz)
theorem AW_facld {i : Int32} (hd0 : decode M.2.1 pc = .ok (.laload, 1)) (hin : vp_in i 21) (k : AW g ρ' Q d M (pc + 1) ls (.long (facL.getD i.toNatClampNeg 0) :: st) ρ S) : AW g ρ' Q d M pc ls (.int i :: .ref 10 :: st) ρ S := by
  intro p e R s m args below meth c H locs cells slots c0 u0 Z la hF hd hL hc hu ec eu hR hS hv hz
  exact va_tl hF.1 hF.2.1 hF.2.2.2.2.2.2.2.2.2.1.2.1 hS hin rfl hd0 (k p e R s m args below meth c H locs cells slots c0 u0 Z la hF hd hL hc hu ec eu hR hS hv hz)
theorem AW_faclen (hd0 : decode M.2.1 pc = .ok (.arraylength, 1)) (k : AW g ρ' Q d M (pc + 1) ls (.int 21 :: st) ρ S) : AW g ρ' Q d M pc ls (.ref 10 :: st) ρ S := by
  intro p e R s m args below meth c H locs cells slots c0 u0 Z la hF hd hL hc hu ec eu hR hS hv hz
  exact va_tlen hF.1 hF.2.1 hF.2.2.2.2.2.2.2.2.2.1.2.1 hS rfl hd0 (k p e R s m args below meth c H locs cells slots c0 u0 Z la hF hd hL hc hu ec eu hR hS hv hz)
theorem AW_sld {i : Int32} (hd0 : decode M.2.1 pc = .ok (.iaload, 1)) (hin : vp_in i (gN g)) (k : AW g ρ' Q d M (pc + 1) ls (.int (gX g i.toNatClampNeg) :: st) ρ S) : AW g ρ' Q d M pc ls (.int i :: .ref 11 :: st) ρ S := by
  intro p e R s m args below meth c H locs cells slots c0 u0 Z la hF hd hL hc hu ec eu hR hS hv hz
  have h := hF.2.2.2.2.2.2.2.2.2.1.2.2.2.2.2
  exact va_sld hF.1 hF.2.1 h.1 h.2.2 h.2.1 hS hin hd0 (k p e R s m args below meth c H locs cells slots c0 u0 Z la hF hd hL hc hu ec eu hR hS hv hz)
theorem AW_slen (hd0 : decode M.2.1 pc = .ok (.arraylength, 1)) (k : AW g ρ' Q d M (pc + 1) ls (.int (Int32.ofNat (gN g)) :: st) ρ S) : AW g ρ' Q d M pc ls (.ref 11 :: st) ρ S := by
  intro p e R s m args below meth c H locs cells slots c0 u0 Z la hF hd hL hc hu ec eu hR hS hv hz
  have h := hF.2.2.2.2.2.2.2.2.2.1.2.2.2.2.2
  exact va_slen hF.1 hF.2.1 h.1 h.2.2 h.2.1 hS hd0 (k p e R s m args below meth c H locs cells slots c0 u0 Z la hF hd hL hc hu ec eu hR hS hv hz)
end Heap
