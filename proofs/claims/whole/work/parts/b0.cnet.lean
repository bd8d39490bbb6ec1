-- THE CLASS'S NET: all that is come to from one
/-- those one swap apart, in the class's order -/
def NB (a : AS) (i : Nat) : List Nat := ((SWs a).filter (mvC (unp ((KK a).getD i 0)))).map (nxI a i)
def FNo (a : AS) (i : Nat) : Nat := sg (fun k => (NB a k).length) i
theorem FNo_s (a : AS) (i : Nat) : FNo a (i + 1) = FNo a i + (NB a i).length := rfl
theorem NB_adj {a : AS} (hW : WF a) (hR : nR a ≠ 0) {i v : Nat} (hi : i < (KK a).length) : v ∈ NB a i ↔ adjS a i v := by
  unfold NB
  rw [List.mem_map]
  constructor
  · intro ⟨m, h1, h2⟩
    obtain ⟨h3, h4⟩ := List.mem_filter.mp h1
    rw [← h2]
    exact adjS_to hW hR hi h3 h4
  · intro ⟨h1, h2, m, m1, m2, m3⟩
    refine ⟨m, List.mem_filter.mpr ⟨m1, m2⟩, ?_⟩
    unfold nxI
    rw [← m3, KK_rk h2]
theorem NB_len {a : AS} (hW : WF a) (i : Nat) : (NB a i).length ≤ 72 := by
  have hle := hW.le
  unfold NB
  rw [List.length_map]
  have h1 := List.length_filter_le (mvC (unp ((KK a).getD i 0))) (SWs a)
  have h2 := SWs_le a
  have h3 := (swtn (nR a) (by omega) (nC a) (by omega)).1
  omega
theorem FNo_le {a : AS} (hW : WF a) : ∀ i, FNo a i ≤ 72 * i
  | 0 => Nat.le_refl _
  | i + 1 => by
    have := FNo_le hW i
    have := NB_len hW i
    rw [FNo_s]
    omega
/-- the list and who is near whom stand in the store -/
def CN (a : AS) (kn : Nat) (S : St) : Prop := LstC (KK a) S ∧ (∀ i, i ≤ (KK a).length → S.1 72 i = nI (FNo a i)) ∧ ∀ i, i < (KK a).length → ∀ t, t < (NB a i).length → S.1 kn (FNo a i + t) = nI ((NB a i).getD t 0)
/-- nothing has changed but marks, the queue and its length -/
def KP (kM : Nat) (S S' : St) : Prop := (∀ k, k ≠ kM → k ≠ 77 → k ≠ 70 → S'.1 k = S.1 k) ∧ (∀ j, j ≠ 15 → S'.1 70 j = S.1 70 j) ∧ S'.2 = S.2
theorem KP.rf (kM : Nat) (S : St) : KP kM S S := ⟨fun _ _ _ _ => rfl, fun _ _ => rfl, rfl⟩
theorem KP.tr {kM : Nat} {S S1 S2 : St} (h : KP kM S S1) (k : KP kM S1 S2) : KP kM S S2 := ⟨fun j h1 h2 h3 => (k.1 j h1 h2 h3).trans (h.1 j h1 h2 h3), fun j hj => (k.2.1 j hj).trans (h.2.1 j hj), k.2.2.trans h.2.2⟩
/-- kn is near's label -/
def knO (kn : Nat) : Prop := kn = 73 ∨ 95 ≤ kn
theorem LstC.of {L : List Nat} {S S' : St} (h : LstC L S) (e1 : S'.1 70 3 = S.1 70 3) (e2 : S'.2 71 = S.2 71) : LstC L S' := ⟨by rw [e1]; exact h.1, fun i hi => by rw [e2]; exact h.2 i hi⟩
theorem CN.kp {a : AS} {kn kM : Nat} {S S' : St} (h : CN a kn S) (hk : kM = 74 ∨ kM = 76) (ho : knO kn) (p : KP kM S S') : CN a kn S' := by
  refine ⟨h.1.of (p.2.1 3 (by decide)) (by rw [p.2.2]), fun i hi => ?_, fun i hi t ht => ?_⟩
  · rw [p.1 72 (by omega) (by decide) (by decide)]; exact h.2.1 i hi
  · unfold knO at ho
    rw [p.1 kn (by omega) (by omega) (by omega)]; exact h.2.2 i hi t ht
theorem KP.set (kM : Nat) (S : St) (v : Int32) : KP kM S (setI S 70 15 v) := ⟨fun k _ _ h => setI_ne _ _ _ h, fun j hj => by rw [setI_at, if_neg (fun z => hj z.2)], rfl⟩
theorem KP.mk {kM : Nat} (hk : kM = 74 ∨ kM = 76) (S : St) (v w : Nat) (x y z : Int32) : KP kM S (setI (setI (setI S kM v x) 77 w y) 70 15 z) := by
  refine ⟨fun k h1 h2 h3 => ?_, fun j hj => ?_, rfl⟩
  · rw [setI_ne _ _ _ h3, setI_ne _ _ _ h2, setI_ne _ _ _ h1]
  · rw [setI_at, if_neg (fun z => hj z.2), setI_ne _ _ _ (by decide), setI_ne _ _ _ (by omega)]
theorem nI_ne1 {z : Nat} (h : z < 2 ^ 31) : ¬ nI z = -1 := fun e => by
  have h1 : (0 : Int32) ≤ nI z := nI_le (a := 0) (by omega) h
  rw [e] at h1
  exact absurd h1 (by decide)
theorem sh74 {ρ : Rs} {k : Nat} (hk : k = 74 ∨ k = 76) : shp ρ k = .inr (0, 1000) := by
  rcases hk with rfl | rfl
  · unfold shp
    rw [if_pos (by decide)]
    rfl
  · unfold shp
    rw [if_pos (by decide)]
    rfl
section CR
variable {g : GX} {d : Nat} {ρ : Rs} {S : St} {a : AS} {adj : Nat → Nat → Prop} {Q0 : List Nat} {s : Nat} {f : Nat → Nat} {q : List Nat} {h n b w kM : Nat}
theorem rch_of {Q : St → Prop} (hρ : Ok ρ) (hA : ∀ k, 16 ≤ k → gF g k) (hk : kM = 74 ∨ kM = 76) {x2 x3 : Int32} (h : vp_in x2 1000 ∧ (if S.1 kM x2.toNatClampNeg = (-1) then if (S.1 70 15) < 0 then Q S else if (1000 : Int32) ≤ (S.1 70 15) then Q S else vp_in x2 1000 ∧ (vp_in ((setI S kM x2.toNatClampNeg x3).1 70 15) 1000 ∧ (Q (setI (setI (setI S kM x2.toNatClampNeg x3) 77 (((setI S kM x2.toNatClampNeg x3).1 70 15).toNatClampNeg) x2) 70 15 (((setI S kM x2.toNatClampNeg x3).1 70 15) + 1)))) else Q S)) : CALLv g (d + 3) mX6_reach [.ref 70, .ref kM, .int x2, .int x3] ρ ρ S Q := by
  have k16 : 16 ≤ kM := by omega
  have kN : kM < rn ρ := by have := hρ.1; unfold N0 at this; omega
  have hF : ∀ k ∈ ([77, 70] : List Nat), gF g k := fun k hk => hA k (by simp at hk; omega)
  obtain ⟨h1, h2⟩ := h
  refine eX6_reach hρ k16 kN (sh74 hk) ?_
  rw [if_neg (vnn h1), if_neg (vge h1 (by decide))]
  refine ⟨h1, ?_⟩
  by_cases c : S.1 kM x2.toNatClampNeg = (-1)
  · rw [if_pos c] at h2 ⊢
    refine eX6_reach_22 hρ k16 kN (sh74 hk) hF (hA kM k16) ?_
    rw [if_neg (by decide)]
    exact h2
  · rw [if_neg c] at h2 ⊢
    refine eX6_reach_22 hρ k16 kN (sh74 hk) hF (hA kM k16) ?_
    rw [if_pos rfl]
    exact h2
theorem sC_reach {Q : St → Prop} (hρ : Ok ρ) (hA : ∀ k, 16 ≤ k → gF g k) (hk : kM = 74 ∨ kM = 76) (hn : n ≤ 1000) (hP : PB n adj Q0 s f q h) (hS : SB kM 77 70 15 0 b w n Q0 f q S) (hbw : b + w * 1000 < 2 ^ 30) (hh : h < q.length) {v : Nat} (hv : v < n) (ha : adj (q.getD h 0) v) {x : Int32} (hx : x = nI (b + w * (f (q.getD h 0) + 1))) (hq : ∀ S' f' q', KP kM S S' → PB n adj Q0 s f' q' h → SB kM 77 70 15 0 b w n Q0 f' q' S' → h < q'.length → q'.getD h 0 = q.getD h 0 → f' (q.getD h 0) = f (q.getD h 0) → (∀ y, y ∈ q → y ∈ q') → v ∈ Q0 ∨ v ∈ q' → (∀ y, y ∈ Q0 → S'.1 kM y = S.1 kM y) → Q S') : CALLv g (d + 3) mX6_reach [.ref 70, .ref kM, .int (nI v), .int x] ρ ρ S Q := by
  have k16 : 16 ≤ kM := by omega
  have kN : kM < rn ρ := by have := hρ.1; unfold N0 at this; omega
  refine rch_of hρ hA hk ?_
  have vi : vp_in (nI v) 1000 := vp_in_nI (by omega) (by omega)
  rw [nI_clamp (show v < 2 ^ 31 by omega)]
  refine ⟨vi, ?_⟩
  have old : v ∈ Q0 ∨ v ∈ q → Q S := fun z => hq S f q (KP.rf kM S) hP hS hh rfl rfl (fun y hy => hy) z (fun _ _ => rfl)
  by_cases c0 : v ∈ Q0
  · obtain ⟨z, z1, z2⟩ := (hS.2.2 v hv).2.1 c0
    rw [z2, if_neg (nI_ne1 z1)]
    exact old (Or.inl c0)
  · by_cases c1 : v ∈ q
    · have hf := hP.fle c1
      have hw : w * f v ≤ w * 1000 := Nat.mul_le_mul_left _ (by omega)
      rw [(hS.2.2 v hv).1 c1, if_neg (nI_ne1 (by omega))]
      exact old (Or.inr c1)
    · have hl := (hP.new hh c1 c0 hv ha).len
      rw [len1] at hl
      have e15 : (setI S kM v x).1 70 15 = nI q.length := by
        rw [setI_ne _ _ _ (by omega), hS.1, Nat.zero_add]
      rw [(hS.2.2 v hv).2.2 c0 c1, if_pos rfl, e15, hS.1, Nat.zero_add, if_neg (show ¬ nI q.length < (0 : Int32) from nI_nlt (b := 0) (by omega) (by omega)), if_neg (show ¬ (1000 : Int32) ≤ nI q.length from nI_ge (b := 1000) (by omega) (by omega)), nI_clamp (show q.length < 2 ^ 31 by omega), nI_1]
      refine ⟨vi, vp_in_nI (by omega) (by omega), ?_⟩
      refine hq _ _ (q ++ [v]) (KP.mk hk _ _ _ _ _ _) (hP.new hh c1 c0 hv ha) ?_ (by rw [len1]; omega) (getD_l hh) ?_ (fun y hy => by simp [hy]) (Or.inr (by simp)) (fun y hy => by rw [setI_ne _ _ _ (by omega), setI_ne _ _ _ (by omega), setI_at, if_neg (fun z => c0 (by rw [← z.2]; exact hy))])
      · refine hS.new c1 c0 ?_ (fun k => ?_) (fun k => ?_)
        · rw [setI_at, if_pos ⟨rfl, rfl⟩, Nat.zero_add]
        · rw [setI_ne _ _ _ (by decide), setI_at, Nat.zero_add]
          by_cases e : k = q.length
          · rw [if_pos ⟨rfl, e⟩, if_pos e]
          · rw [if_neg (fun z => e z.2), if_neg e, setI_ne _ _ _ (by omega)]
        · rw [setI_ne _ _ _ (by omega), setI_ne _ _ _ (by omega), setI_at]
          by_cases e : k = v
          · rw [if_pos ⟨rfl, e⟩, if_pos e, hx]
          · rw [if_neg (fun z => e z.2), if_neg e]
      · show (if q.getD h 0 = v then _ else f (q.getD h 0)) = _
        rw [if_neg (fun z => c1 (by rw [← z]; exact getD_mem hh))]
theorem sC_reach0 {Q : St → Prop} (hρ : Ok ρ) (hA : ∀ k, 16 ≤ k → gF g k) (hk : kM = 74 ∨ kM = 76) (hn : n ≤ 1000) (hs : s < n) (c0 : s ∉ Q0) (hM : ∀ v, v < n → (v ∈ Q0 → ∃ z, z < 2 ^ 31 ∧ S.1 kM v = nI z) ∧ (v ∉ Q0 → S.1 kM v = -1)) {x : Int32} (hx : x = nI b) (hq : ∀ S', KP kM S S' → SB kM 77 70 15 0 b w n Q0 (fun _ => 0) [s] S' → (∀ y, y ∈ Q0 → S'.1 kM y = S.1 kM y) → Q S') : CALLv g (d + 3) mX6_reach [.ref 70, .ref kM, .int (nI s), .int x] ρ ρ (setI S 70 15 0) Q := by
  have k16 : 16 ≤ kM := by omega
  have kN : kM < rn ρ := by have := hρ.1; unfold N0 at this; omega
  refine rch_of hρ hA hk ?_
  have vi : vp_in (nI s) 1000 := vp_in_nI (by omega) (by omega)
  rw [nI_clamp (show s < 2 ^ 31 by omega)]
  refine ⟨vi, ?_⟩
  have eM : (setI S 70 15 0).1 kM = S.1 kM := setI_ne _ _ _ (by omega)
  have e0 : (setI S 70 15 0).1 70 15 = 0 := by rw [setI_at, if_pos ⟨rfl, rfl⟩]
  have e15 : (setI (setI S 70 15 0) kM s x).1 70 15 = 0 := by rw [setI_ne _ _ _ (by omega), e0]
  rw [eM, (hM s hs).2 c0, if_pos rfl, e15, e0, if_neg (by decide), if_neg (by decide)]
  refine ⟨vi, by exact vp_in_nI (n := 0) (by omega) (by omega), ?_⟩
  refine hq _ ((KP.set kM S 0).tr (KP.mk hk _ _ _ _ _ _)) ⟨?_, fun k hk => ?_, fun v hv => ⟨fun hq => ?_, fun hq => ?_, fun q0 q1 => ?_⟩⟩ (fun y hy => by rw [setI_ne _ _ _ (by omega), setI_ne _ _ _ (by omega), setI_at, if_neg (fun z => c0 (by rw [← z.2]; exact hy)), eM])
  · rw [setI_at, if_pos ⟨rfl, rfl⟩]; rfl
  · have hk : k < 1 := hk
    rw [setI_ne _ _ _ (by decide), setI_at, if_pos ⟨rfl, by rw [Nat.zero_add, show k = 0 by omega]; rfl⟩, show k = 0 by omega]; rfl
  · rw [setI_ne _ _ _ (by omega), setI_ne _ _ _ (by omega), setI_at, if_pos ⟨rfl, List.mem_singleton.mp hq⟩, hx, Nat.mul_zero, Nat.add_zero]
  · rw [setI_ne _ _ _ (by omega), setI_ne _ _ _ (by omega), setI_at, if_neg (fun z => c0 (by rw [← z.2]; exact hq)), eM]
    exact (hM v hv).1 hq
  · rw [setI_ne _ _ _ (by omega), setI_ne _ _ _ (by omega), setI_at, if_neg (fun z => q1 (by rw [z.2]; simp)), eM]
    exact (hM v hv).2 q0
theorem sC_spread {Q : St → Prop} {kn nn : Nat} (hρ : Ok ρ) (hA : ∀ k, 16 ≤ k → gF g k) (hk : kM = 74 ∨ kM = 76) (hR6 : rR ρ 70 6 = some kn) (hkn : kn < rn ρ) (hsn : shp ρ kn = .inr (0, nn)) (hko : knO kn) (hnn : FNo a (KK a).length ≤ nn) (hnx : nn < 2 ^ 31) (hW : WF a) (hR : nR a ≠ 0) (hn : (KK a).length ≤ 1000) (hC : CN a kn S) (hs : s < (KK a).length) (c0 : s ∉ Q0) (h0 : Q0.Nodup) (h0n : ∀ v, v ∈ Q0 → v < (KK a).length) (hM : ∀ v, v < (KK a).length → (v ∈ Q0 → ∃ z, z < 2 ^ 31 ∧ S.1 kM v = nI z) ∧ (v ∉ Q0 → S.1 kM v = -1)) (hbw : b + w * 1000 < 2 ^ 30) (hq : ∀ S' f q, KP kM S S' → PB (KK a).length (adjS a) Q0 s f q q.length → SB kM 77 70 15 0 b w (KK a).length Q0 f q S' → (∀ y, y ∈ Q0 → S'.1 kM y = S.1 kM y) → Q S') : CALLv g (d + 4) mX6_spread [.ref 70, .ref kM, .int (nI s), .int (nI b), .int (nI w)] ρ ρ S Q := by
  have k16 : 16 ≤ kM := by omega
  have kN : kM < rn ρ := by have := hρ.1; unfold N0 at this; omega
  have kn16 : 16 ≤ kn := by unfold knO at hko; omega
  have hFm : ∀ i, i ≤ (KK a).length → FNo a i ≤ FNo a (KK a).length := by
    intro i hi
    have : ∀ t, FNo a i ≤ FNo a (i + t) := by
      intro t
      induction t with
      | zero => exact Nat.le_refl _
      | succ t ih => rw [← Nat.add_assoc, FNo_s]; omega
    have := this ((KK a).length - i)
    rw [show i + ((KK a).length - i) = (KK a).length by omega] at this
    exact this
  refine eX6_spread hρ k16 kN (sh74 hk) (fun k hk => hA k (by simp at hk; omega)) (sC_reach0 (w := w) hρ hA hk hn hs c0 hM rfl (fun S1 p1 s1 o1 => ?_))
  have key : ∀ k h S1 f1 q1, k + h = (KK a).length → h ≤ q1.length → (∀ y, y ∈ Q0 → S1.1 kM y = S.1 kM y) → KP kM S S1 → PB (KK a).length (adjS a) Q0 s f1 q1 h → SB kM 77 70 15 0 b w (KK a).length Q0 f1 q1 S1 → AW g ρ (QV Q) (d + 4) mX6_spread 15 [(0, .ref 70), (1, .ref kM), (4, .int (nI w)), (5, .int (nI h))] [] ρ S1 := by
    intro k
    induction k with
    | zero =>
      intro h S1 f1 q1 hk1 hh o1 p1 pb sb
      have hl := pb.len
      refine eX6_spread_15 hρ k16 kN (sh74 hk) hR6 kn16 hkn hsn ?_
      rw [sb.1, Nat.zero_add, if_pos (nI_le (by omega) (by omega))]
      refine hq S1 f1 q1 p1 ?_ sb o1
      rw [← show h = q1.length by omega]; exact pb
    | succ k ih =>
      intro h S1 f1 q1 hk1 hh o1 p1 pb sb
      have hl := pb.len
      have c1 : CN a kn S1 := hC.kp hk hko p1
      refine eX6_spread_15 hρ k16 kN (sh74 hk) hR6 kn16 hkn hsn ?_
      rw [sb.1, Nat.zero_add]
      by_cases e : h = q1.length
      · rw [if_pos (nI_le (by omega) (by omega))]
        refine hq S1 f1 q1 p1 ?_ sb o1
        rw [← e]; exact pb
      have hh : h < q1.length := by omega
      have hu : q1.getD h 0 < (KK a).length := pb.2.1 _ (getD_mem hh)
      have eq := sb.2.1 h hh
      rw [Nat.zero_add] at eq
      have hmu1 : q1.getD h 0 ∈ q1 := getD_mem hh
      rw [if_neg (nI_ge (by omega) (by omega)), if_neg (show ¬ (1000 : Int32) ≤ nI h from nI_ge (b := 1000) (by omega) (by omega)), nI_clamp (show h < 2 ^ 31 by omega), eq]
      generalize eu : q1.getD h 0 = u at hu hmu1
      have hf1 := hFm (u + 1) (by omega)
      have hf0 := hFm u (by omega)
      have hff := FNo_s a u
      rw [nI_1 u, nI_clamp (show u + 1 < 2 ^ 31 by omega), nI_clamp (show u < 2 ^ 31 by omega), c1.2.1 _ (by omega), c1.2.1 _ (by omega), (sb.2.2 u hu).1 hmu1, nI_add, hff]
      rw [hff] at hf1
      refine ⟨vp_in_nI (by omega) (by omega), by decide, vp_in_nI (by omega) (by omega), vp_in_nI (by omega) (by omega), nI_nlt (b := 0) (by omega) (by omega), nI_nlt (a := nn) (by omega) hnx, vp_in_nI (by omega) (by omega), nI_nlt (b := 0) (by omega) (by omega), nI_nlt (a := nn) (by omega) hnx, ?_⟩
      have inn : ∀ m t S2 f2 q2, m + t = (NB a u).length → (∀ y, y ∈ Q0 → S2.1 kM y = S.1 kM y) → KP kM S S2 → PB (KK a).length (adjS a) Q0 s f2 q2 h → SB kM 77 70 15 0 b w (KK a).length Q0 f2 q2 S2 → h < q2.length → q2.getD h 0 = u → f2 u = f1 u → (∀ t', t' < t → (NB a u).getD t' 0 ∈ Q0 ∨ (NB a u).getD t' 0 ∈ q2) → AW g ρ (QV Q) (d + 4) mX6_spread 72 [(0, .ref 70), (1, .ref kM), (4, .int (nI w)), (5, .int (nI h)), (7, .int (nI (b + w * f1 u + w))), (8, .int (nI (FNo a u + (NB a u).length))), (9, .int (nI (FNo a u + t)))] [] ρ S2 := by
        intro m
        induction m with
        | zero =>
          intro t S2 f2 q2 hm o2 p2 pb2 sb2 h2 e2 hfu d2
          refine eX6_spread_72 hρ k16 kN (sh74 hk) hR6 kn16 hkn hsn ?_
          rw [if_pos (nI_le (by omega) (by omega)), nI_1]
          refine ih (h + 1) S2 f2 q2 (by omega) h2 o2 p2 (pb2.step h2 (fun v hv => ?_)) sb2
          rw [e2, ← NB_adj hW hR hu] at hv
          obtain ⟨t', ht', et⟩ := List.getElem_of_mem hv
          have eg : (NB a u).getD t' 0 = v := by
            rw [List.getD_eq_getElem?_getD, List.getElem?_eq_getElem ht']
            exact et
          rw [← eg]
          exact d2 t' (by omega)
        | succ m ihm =>
          intro t S2 f2 q2 hm o2 p2 pb2 sb2 h2 e2 hfu d2
          have c2 : CN a kn S2 := hC.kp hk hko p2
          have hmu : u ∈ q2 := by rw [← e2]; exact getD_mem h2
          refine eX6_spread_72 hρ k16 kN (sh74 hk) hR6 kn16 hkn hsn ?_
          rw [if_neg (nI_ge (by omega) (by omega)), nI_clamp (show FNo a u + t < 2 ^ 31 by omega), c2.2.2 u hu t (by omega), nI_1]
          refine ⟨vp_in_nI (by omega) (by omega), ?_⟩
          have ha : adjS a u ((NB a u).getD t 0) := (NB_adj hW hR hu).mp (getD_mem (by omega))
          refine sC_reach hρ hA hk hn pb2 sb2 hbw h2 ha.2.1 (by rw [e2]; exact ha) (by rw [e2, hfu, Nat.mul_add, Nat.mul_one, Nat.add_assoc]) (fun S3 f3 q3 p3 pb3 sb3 h3 e3 ef m3 d3 o3 => ?_)
          rw [e2] at ef
          rw [Nat.add_assoc]
          refine ihm (t + 1) S3 f3 q3 (by omega) (fun y hy => (o3 y hy).trans (o2 y hy)) (p2.tr p3) pb3 sb3 h3 (e3.trans e2) (ef.trans hfu) (fun t' ht' => ?_)
          by_cases ct : t' = t
          · rw [ct]; exact d3
          · rcases d2 t' (by omega) with z | z
            · exact Or.inl z
            · exact Or.inr (m3 _ z)
      exact inn (NB a u).length 0 S1 f1 q1 (by omega) o1 p1 pb sb hh eu rfl (fun t' ht' => absurd ht' (by omega))
  exact key (KK a).length 0 S1 (fun _ => 0) [s] (by omega) (Nat.zero_le _) o1 p1 (PB.start c0 hs h0 h0n) s1
end CR
