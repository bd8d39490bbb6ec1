-- the law's own beginning: both are made, nothing is told
set_option maxRecDepth 20000 in
theorem law_begin {g : GX} {d : Nat} {ρ' : Rs} {Q : Option Value → St → Prop} {S : St} (hA : ∀ k, 16 ≤ k → gF g k) (hAO : AOk g) (hc : rc zr135 ≤ rc ρ') (hu : ru zr135 ≤ ru ρ') (kk : ∀ S', Zs 95 Ez2 S' → AW g ρ' Q (d + 4) mL_law 18 [(0, .ref 11), (1, .ref 16), (2, .ref 80), (3, .int (nI 0))] [] zr135 S') : AW g ρ' Q (d + 4) mL_law 0 [(0, .ref 11)] [] zr0 S := by
  have hZ : Zs 16 Ez0 S := fun k h1 h2 => absurd h2 (by omega)
  refine AW_newK (ci := 9) (C := RX11) (T := TX11) (N := 8) (ty := tyX11) (K := 16) (ρ1 := zr1) dL_law_0 rfl wcl_9 tyX11_ok clL_7 wIns_9 wIni_9 df_9 (by decide +kernel) rfl rfl (Nat.le_trans (by decide +kernel) hc) (Nat.le_trans (by decide +kernel) hu) (hA _ (Nat.le_of_ble_eq_true rfl)) (Nat.le_of_ble_eq_true rfl) ?_
  replace hZ := hZ.newS (ez_Ez0 16 (by decide +kernel))
  generalize newS S 16 = S1 at hZ ⊢
  refine AW_dup dL_law_3 rfl ?_
  refine AW_callIv (As := []) (k := 16) (ρ1 := zr106) dL_law_4 mdX11_init mlL_9 imX11_init rfl rfl ⟨rfl, npX11_init⟩ (by decide) (Nat.le_trans (by decide +kernel) hc) (Nat.le_trans (by decide +kernel) hu) rfl ?_
  refine CALLv.mono (in_X11_init (d := d) hA hAO hZ) (fun S2 _ hZ => ?_)
  refine AW_astore_n (n := 1) (i := 1) rfl dL_law_7 (Nat.le_of_ble_eq_true rfl) rfl ?_
  refine AW_newK (ci := 10) (C := RX12) (T := TX12) (N := 40) (ty := tyX12) (K := 80) (ρ1 := zr107) dL_law_8 rfl wcl_10 tyX12_ok clL_10 wIns_10 wIni_10 df_10 (by decide +kernel) rfl rfl (Nat.le_trans (by decide +kernel) hc) (Nat.le_trans (by decide +kernel) hu) (hA _ (Nat.le_of_ble_eq_true rfl)) (Nat.le_of_ble_eq_true rfl) ?_
  replace hZ := hZ.newS (ez_Ez1 80 (by decide +kernel))
  generalize newS S2 80 = S3 at hZ ⊢
  refine AW_dup dL_law_11 rfl ?_
  refine AW_callIv (As := []) (k := 80) (ρ1 := zr135) dL_law_12 mdX12_init mlL_12 imX12_init rfl rfl ⟨rfl, npX12_init⟩ (by decide) hc hu rfl ?_
  refine CALLv.mono (in_X12_init (d := d + 2) hA hAO hZ) (fun S4 _ hZ => ?_)
  refine AW_astore_n (n := 2) (i := 2) rfl dL_law_15 (Nat.le_of_ble_eq_true rfl) rfl ?_
  refine AW_iconst (v := 0) dL_law_16 rfl ?_
  refine AW_istore_n (n := 3) (i := 3) rfl dL_law_17 (Nat.le_of_ble_eq_true rfl) rfl ?_
  exact AW.sub [3, 2, 1, 0] rfl (kk S4 hZ)
def b00 : AS := ((0, fun _ => 0), (0, -1), (0, 0, 0, fun _ _ => false), fun _ _ => 0, 0, fun _ _ _ => 0)
theorem b00_WF : WF b00 := ⟨by decide, fun i hi => absurd hi (Nat.not_lt_zero _), by decide, Or.inl ⟨rfl, rfl, rfl, rfl, fun _ _ => rfl, fun _ _ => rfl⟩⟩
theorem zr_near : rR zr135 70 6 = some 73 := by decide +kernel
theorem zr_nlen : nlen zr135 = 256 := by decide +kernel
theorem zr_NR : NR zr135 := by
  refine ⟨⟨by decide +kernel, by decide +kernel⟩, ⟨73, zr_near, Or.inl rfl, by decide +kernel, ?_⟩, ?_, ?_, 78, 79, by decide +kernel, by decide +kernel, Or.inl ⟨rfl, rfl⟩⟩
  · rw [zr_nlen]; rfl
  · rw [zr_nlen]; decide
  · rw [zr_nlen]; decide
theorem zr_ru : ru zr135 = 50238 := by decide +kernel
theorem zr_rc : rc zr135 = 67 := by decide +kernel
theorem b00_IB {S : St} (h : Zs 95 Ez2 S) : IB b00 S := by
  have z : ∀ k j, 16 ≤ k → k < 95 → k ≠ 19 → k ≠ 80 → S.1 k j = 0 := fun k j h1 h2 h3 h4 => by
    rw [(h k h1 h2).1 j]
    show (if k = 80 ∧ j = 6 then -1 else if k = 19 ∧ j = 1 then -1 else (0 : Int32)) = 0
    rw [if_neg (fun q => h4 q.1), if_neg (fun q => h3 q.1)]
  refine ⟨z _ _ (by decide) (by decide) (by decide) (by decide), fun i hi => absurd hi (Nat.not_lt_zero _), ?_, ?_, z _ _ (by decide) (by decide) (by decide) (by decide), z _ _ (by decide) (by decide) (by decide) (by decide), z _ _ (by decide) (by decide) (by decide) (by decide), z _ _ (by decide) (by decide) (by decide) (by decide), z _ _ (by decide) (by decide) (by decide) (by decide), fun y _ => z _ _ (by decide) (by decide) (by decide) (by decide), fun y _ => z _ _ (by decide) (by decide) (by decide) (by decide), ?_, z _ _ (by decide) (by decide) (by decide) (by decide), fun i hi => absurd hi (Nat.not_lt_zero _)⟩
  · rw [(h 19 (by decide) (by decide)).1]; rfl
  · rw [(h 19 (by decide) (by decide)).1]; rfl
  · rw [(h 21 (by decide) (by decide)).2]; rfl
theorem b00_IM {S : St} (h : Zs 95 Ez2 S) : IM b00 S := by
  have z : ∀ k j, 16 ≤ k → k < 95 → k ≠ 19 → k ≠ 80 → S.1 k j = 0 := fun k j h1 h2 h3 h4 => by
    rw [(h k h1 h2).1 j]
    show (if k = 80 ∧ j = 6 then -1 else if k = 19 ∧ j = 1 then -1 else (0 : Int32)) = 0
    rw [if_neg (fun q => h4 q.1), if_neg (fun q => h3 q.1)]
  refine ⟨?_, fun i hi => absurd hi (Nat.not_lt_zero _), ?_, ?_, z _ _ (by decide) (by decide) (by decide) (by decide), z _ _ (by decide) (by decide) (by decide) (by decide), z _ _ (by decide) (by decide) (by decide) (by decide), z _ _ (by decide) (by decide) (by decide) (by decide), z _ _ (by decide) (by decide) (by decide) (by decide), fun k _ => z _ _ (by decide) (by decide) (by decide) (by decide), fun i hi => absurd hi (Nat.not_lt_zero _)⟩
  · rw [(h 80 (by decide) (by decide)).1]; rfl
  · rw [(h 80 (by decide) (by decide)).1]; rfl
  · rw [(h 80 (by decide) (by decide)).1]; rfl
theorem b00_ST {S : St} (h : Zs 95 Ez2 S) : ST b00 false zr135 S := by
  refine ⟨b00_WF, zr_NR, ⟨b00_IB h, ?_, fun _ => rfl, fun q => absurd rfl q⟩, b00_IM h⟩
  rw [(h 70 (by decide) (by decide)).1]
  rfl
/-- the whole of the law, as a walk over the store -/
theorem law_whole {g : GX} {d : Nat} (hA : ∀ k, 16 ≤ k → gF g k) (hAO : AOk g) (hL : gN g ≤ 3072) : ∃ ρ', rc ρ' ≤ 600000 ∧ ru ρ' ≤ 600000 ∧ ∀ S, AW g ρ' (QI (fun v _ => v = 1)) (d + 29 + 1) mL_law 0 [(0, .ref 11)] [] zr0 S := by
  obtain ⟨ρ', ⟨h1, h2⟩, h3, h4, h5⟩ := law_loop (d := d) hA hL (B := 268296) 512 0 b00 false zr135 (by omega) (by decide) b00_WF zr_NR (by rw [zr_ru, zr_nlen]; decide) (by rw [zr_ru, zr_rc]; decide)
  refine ⟨ρ', by omega, by omega, fun S => ?_⟩
  exact law_begin (d := d + 26) hA hAO h1 h2 (fun S' hZ => h5 S' (b00_ST hZ))
