-- HOW FAR, by the model
def rch (adj : Nat → Nat → Prop) (s v : Nat) : Prop := ∃ m, pth adj m s v
/-- F tells how far all are from s; -1: not to be come to -/
def DM (adj : Nat → Nat → Prop) (n s : Nat) (F : Nat → Int32) : Prop := ∀ v, v < n → (∃ m, m < n ∧ dst adj s v m ∧ F v = nI m) ∨ (¬ rch adj s v ∧ F v = -1)
/-- all that can be come to -/
def RC (adj : Nat → Nat → Prop) (s : Nat) (q : List Nat) : Prop := q.Nodup ∧ ∀ v, v ∈ q ↔ rch adj s v
theorem RC.len {adj : Nat → Nat → Prop} {s : Nat} {p q : List Nat} (h : RC adj s p) (k : RC adj s q) : p.length = q.length := ((List.perm_ext_iff_of_nodup h.1 k.1).mpr (fun v => (h.2 v).trans (k.2 v).symm)).length_eq
theorem PB.dm {n : Nat} {adj : Nat → Nat → Prop} {s : Nat} {f : Nat → Nat} {q : List Nat} (p : PB n adj [] s f q q.length) {F : Nat → Int32} (hF : ∀ v, v < n → (v ∈ q → F v = nI (f v)) ∧ (v ∉ q → F v = -1)) : DM adj n s F ∧ RC adj s q := by
  have d := p.1.done (fun u v z => absurd z (by simp))
  have d2 : ∀ v m, pth adj m s v → v ∈ q ∧ f v ≤ m := fun v m hp => by
    rcases d m v hp with z | z
    · exact absurd z (by simp)
    · exact z
  have hp := p.1.2.2.2.2.2.2.1
  refine ⟨fun v hv => ?_, p.1.1, fun v => ⟨fun z => ⟨f v, hp v z⟩, fun ⟨m, z⟩ => (d2 v m z).1⟩⟩
  by_cases c : v ∈ q
  · exact Or.inl ⟨f v, p.fle c, ⟨hp v c, fun m hm => (d2 v m hm).2⟩, (hF v hv).1 c⟩
  · exact Or.inr ⟨fun ⟨m, z⟩ => c (d2 v m z).1, (hF v hv).2 c⟩
theorem DM.un {adj : Nat → Nat → Prop} {n s : Nat} {F F' : Nat → Int32} (h : DM adj n s F) (k : DM adj n s F') {v : Nat} (hv : v < n) : F v = F' v := by
  rcases h v hv with ⟨m, _, h2, h3⟩ | ⟨h1, h2⟩
  · rcases k v hv with ⟨m', _, k2, k3⟩ | ⟨k1, k2⟩
    · rw [h3, k3, dst_un h2 k2]
    · exact absurd ⟨m, h2.1⟩ k1
  · rcases k v hv with ⟨m', _, k2, k3⟩ | ⟨k1, k2⟩
    · exact absurd ⟨m', k2.1⟩ h1
    · rw [h2, k2]
theorem DM.ge {adj : Nat → Nat → Prop} {n s : Nat} {F : Nat → Int32} (h : DM adj n s F) (hn : n ≤ 1000) {v : Nat} (hv : v < n) : (0 : Int32) ≤ F v ↔ rch adj s v := by
  rcases h v hv with ⟨m, h1, h2, h3⟩ | ⟨h1, h2⟩
  · rw [h3]
    exact ⟨fun _ => ⟨m, h2.1⟩, fun _ => nI_le (a := 0) (by omega) (by omega)⟩
  · rw [h2]
    exact ⟨fun z => absurd z (by decide), fun z => absurd z h1⟩
theorem dst_0 (adj : Nat → Nat → Prop) (s : Nat) : dst adj s s 0 := ⟨rfl, fun m _ => Nat.zero_le m⟩
theorem DM.self {adj : Nat → Nat → Prop} {n s : Nat} {F : Nat → Int32} (h : DM adj n s F) (hs : s < n) : F s = 0 := by
  rcases h s hs with ⟨m, h1, h2, h3⟩ | ⟨h1, h2⟩
  · rw [h3, dst_un h2 (dst_0 adj s)]; rfl
  · exact absurd ⟨0, rfl⟩ h1
/-- the greatest, not less than nought -/
def mxI (F : Nat → Int32) : Nat → Int32
  | 0 => 0
  | k + 1 => if mxI F k < F k then F k else mxI F k
theorem mxI_ge (F : Nat → Int32) : ∀ n k, k < n → F k ≤ mxI F n
  | 0, k, h => absurd h (by omega)
  | n + 1, k, h => by
    show F k ≤ if mxI F n < F n then F n else mxI F n
    by_cases c : k = n
    · rw [c]
      split
      · exact Int32.le_refl _
      · exact Int32.not_lt.mp (by assumption)
    · have := mxI_ge F n k (by omega)
      split
      · exact Int32.le_trans this (Int32.le_of_lt (by assumption))
      · exact this
theorem mxI_ex (F : Nat → Int32) : ∀ n, mxI F n = 0 ∨ ∃ k, k < n ∧ F k = mxI F n
  | 0 => Or.inl rfl
  | n + 1 => by
    show (if mxI F n < F n then F n else mxI F n) = 0 ∨ ∃ k, k < n + 1 ∧ F k = if mxI F n < F n then F n else mxI F n
    split
    · exact Or.inr ⟨n, by omega, rfl⟩
    · rcases mxI_ex F n with z | ⟨k, z1, z2⟩
      · exact Or.inl z
      · exact Or.inr ⟨k, by omega, z2⟩
theorem mxI_cg {F F' : Nat → Int32} : ∀ {n : Nat}, (∀ v, v < n → F v = F' v) → mxI F n = mxI F' n
  | 0, _ => rfl
  | n + 1, h => by
    show (if mxI F n < F n then F n else mxI F n) = if mxI F' n < F' n then F' n else mxI F' n
    rw [mxI_cg (n := n) (fun v hv => h v (by omega)), h n (by omega)]
/-- how many lie within x -/
def wcn (F : Nat → Int32) (x : Int32) : Nat → Nat
  | 0 => 0
  | k + 1 => wcn F x k + if 0 ≤ F k ∧ F k ≤ x then 1 else 0
theorem wcn_cg {F F' : Nat → Int32} {x : Int32} : ∀ {n : Nat}, (∀ v, v < n → F v = F' v) → wcn F x n = wcn F' x n
  | 0, _ => rfl
  | n + 1, h => by
    show wcn F x n + _ = wcn F' x n + _
    rw [wcn_cg (n := n) (fun v hv => h v (by omega)), h n (by omega)]
theorem wcn_le {F : Nat → Int32} {x : Int32} : ∀ n, wcn F x n ≤ n
  | 0 => Nat.le_refl _
  | n + 1 => by
    have := wcn_le (F := F) (x := x) n
    show wcn F x n + (if 0 ≤ F n ∧ F n ≤ x then 1 else 0) ≤ n + 1
    split <;> omega
/-- where the table stands as it is -/
def rkN (a : AS) : Nat := rkK a (pack (cel a))
theorem KK_cel {a : AS} (hW : WF a) (hR : nR a ≠ 0) : rkN a < (KK a).length ∧ (KK a).getD (rkN a) 0 = pack (cel a) ∧ unp ((KK a).getD (rkN a) 0) = cel a := by
  have ht : Told a := by
    rcases hW.2.2.2 with z | z
    · exact absurd z.1 hR
    · exact z
  obtain ⟨k1, k2⟩ := KK_of hW hR ht.2.2.2.2.2.2.2.2.2.1 ⟨fun _ => rfl, fun _ => rfl⟩
  obtain ⟨h1, h2⟩ := KK_idx k1
  have h2' : (KK a).getD (rkN a) 0 = pack (cel a) := h2
  exact ⟨h1, h2', by rw [h2']; exact k2⟩
/-- a refusal, or an answer about a rank -/
def RfR (a : AS) (x : Int32) (C : Nat → Int32 → Prop) (v : Int32) : Prop := (nR a = 0 ∧ v = -2) ∨ (nR a ≠ 0 ∧ 1000 < (KK a).length ∧ v = -3) ∨ (nR a ≠ 0 ∧ (KK a).length ≤ 1000 ∧ ¬ vp_in x (KK a).length ∧ v = -2) ∨ (nR a ≠ 0 ∧ (KK a).length ≤ 1000 ∧ ∃ i, i < (KK a).length ∧ x = nI i ∧ C i v)
def RfN (a : AS) (C : Nat → Int32 → Prop) (v : Int32) : Prop := (nR a = 0 ∧ v = -2) ∨ (nR a ≠ 0 ∧ 1000 < (KK a).length ∧ v = -3) ∨ (nR a ≠ 0 ∧ (KK a).length ≤ 1000 ∧ C (rkN a) v)
theorem RfR.un {a : AS} {x : Int32} {C : Nat → Int32 → Prop} (hC : ∀ i v w, i < (KK a).length → (KK a).length ≤ 1000 → C i v → C i w → v = w) {v w : Int32} (h : RfR a x C v) (k : RfR a x C w) : v = w := by
  have no : ∀ {i : Nat}, i < (KK a).length → (KK a).length ≤ 1000 → x = nI i → ¬ vp_in x (KK a).length → False := fun h1 h2 h3 h4 => h4 (by rw [h3]; exact vp_in_nI h1 (by omega))
  rcases h with ⟨h1, h2⟩ | ⟨h1, h2, h3⟩ | ⟨h1, h2, h3, h4⟩ | ⟨h1, h2, i, h3, h4, h5⟩ <;> rcases k with ⟨k1, k2⟩ | ⟨k1, k2, k3⟩ | ⟨k1, k2, k3, k4⟩ | ⟨k1, k2, j, k3, k4, k5⟩
  · rw [h2, k2]
  · exact absurd h1 k1
  · exact absurd h1 k1
  · exact absurd h1 k1
  · exact absurd k1 h1
  · rw [h3, k3]
  · omega
  · omega
  · exact absurd k1 h1
  · omega
  · rw [h4, k4]
  · exact (no k3 k2 k4 h3).elim
  · exact absurd k1 h1
  · omega
  · exact (no h3 h2 h4 k3).elim
  · have e : i = j := (nI_eq (by omega) (by omega)).mp (h4.symm.trans k4)
    rw [← e] at k5
    exact hC i v w h3 h2 h5 k5
theorem RfN.un {a : AS} {C : Nat → Int32 → Prop} (hC : (KK a).length ≤ 1000 → nR a ≠ 0 → ∀ v w, C (rkN a) v → C (rkN a) w → v = w) {v w : Int32} (h : RfN a C v) (k : RfN a C w) : v = w := by
  rcases h with ⟨h1, h2⟩ | ⟨h1, h2, h3⟩ | ⟨h1, h2, h3⟩ <;> rcases k with ⟨k1, k2⟩ | ⟨k1, k2, k3⟩ | ⟨k1, k2, k3⟩
  · rw [h2, k2]
  · exact absurd h1 k1
  · exact absurd h1 k1
  · exact absurd k1 h1
  · rw [h3, k3]
  · omega
  · exact absurd k1 h1
  · omega
  · exact hC h2 h1 v w h3 k3
-- the answers
def cofC (a : AS) (i : Nat) (v : Int32) : Prop := ∃ k, k < (KK a).length ∧ rch (adjS a) i k ∧ (∀ j, j < k → ¬ rch (adjS a) i j) ∧ v = nI k
def sizC (a : AS) (i : Nat) (v : Int32) : Prop := ∃ q, RC (adjS a) i q ∧ v = nI q.length
def aptC (a : AS) (y : Int32) (i : Nat) (v : Int32) : Prop := (¬ vp_in y (KK a).length ∧ v = -2) ∨ ∃ j, j < (KK a).length ∧ y = nI j ∧ ((∃ m, m < (KK a).length ∧ dst (adjS a) i j m ∧ v = nI m) ∨ (¬ rch (adjS a) i j ∧ v = -1))
def farC (a : AS) (i : Nat) (v : Int32) : Prop := ∃ F, DM (adjS a) (KK a).length i F ∧ v = mxI F (KK a).length
def fthC (a : AS) (i : Nat) (v : Int32) : Prop := ∃ F k, DM (adjS a) (KK a).length i F ∧ k < (KK a).length ∧ F k = mxI F (KK a).length ∧ (∀ j, j < k → F j ≠ mxI F (KK a).length) ∧ v = nI k
def witC (a : AS) (x : Int32) (i : Nat) (v : Int32) : Prop := ∃ F, DM (adjS a) (KK a).length i F ∧ v = nI (wcn F x (KK a).length)
theorem cofC_un {a : AS} {i : Nat} {v w : Int32} (h : cofC a i v) (k : cofC a i w) : v = w := by
  obtain ⟨j, _, h1, h2, h3⟩ := h
  obtain ⟨l, _, k1, k2, k3⟩ := k
  have : j = l := by
    rcases Nat.lt_trichotomy j l with z | z | z
    · exact absurd h1 (k2 j z)
    · exact z
    · exact absurd k1 (h2 l z)
  rw [h3, k3, this]
theorem sizC_un {a : AS} {i : Nat} {v w : Int32} (h : sizC a i v) (k : sizC a i w) : v = w := by
  obtain ⟨q, h1, h2⟩ := h
  obtain ⟨p, k1, k2⟩ := k
  rw [h2, k2, h1.len k1]
theorem aptC_un {a : AS} {y : Int32} {i : Nat} (hn : (KK a).length ≤ 1000) {v w : Int32} (h : aptC a y i v) (k : aptC a y i w) : v = w := by
  rcases h with ⟨h1, h2⟩ | ⟨j, h2, h3, h4⟩ <;> rcases k with ⟨k1, k2⟩ | ⟨l, k2, k3, k4⟩
  · rw [h2, k2]
  · exact absurd (by rw [k3]; exact vp_in_nI k2 (by omega)) h1
  · exact absurd (by rw [h3]; exact vp_in_nI h2 (by omega)) k1
  · have e : j = l := (nI_eq (by omega) (by omega)).mp (h3.symm.trans k3)
    rw [← e] at k4
    rcases h4 with ⟨m, _, m2, m3⟩ | ⟨m1, m2⟩ <;> rcases k4 with ⟨m', _, n2, n3⟩ | ⟨n1, n2⟩
    · rw [m3, n3, dst_un m2 n2]
    · exact absurd ⟨m, m2.1⟩ n1
    · exact absurd ⟨m', n2.1⟩ m1
    · rw [m2, n2]
theorem farC_un {a : AS} {i : Nat} {v w : Int32} (h : farC a i v) (k : farC a i w) : v = w := by
  obtain ⟨F, h1, h2⟩ := h
  obtain ⟨F', k1, k2⟩ := k
  rw [h2, k2]
  exact mxI_cg (fun v hv => h1.un k1 hv)
theorem fthC_un {a : AS} {i : Nat} {v w : Int32} (h : fthC a i v) (k : fthC a i w) : v = w := by
  obtain ⟨F, j, h1, h2, h3, h4, h5⟩ := h
  obtain ⟨F', l, k1, k2, k3, k4, k5⟩ := k
  have e : mxI F (KK a).length = mxI F' (KK a).length := mxI_cg (fun v hv => h1.un k1 hv)
  rw [h5, k5]
  have : j = l := by
    rcases Nat.lt_trichotomy j l with z | z | z
    · exact absurd (by rw [← e, ← h3]; exact (h1.un k1 h2).symm) (k4 j z)
    · exact z
    · exact absurd (by rw [e, ← k3]; exact h1.un k1 k2) (h4 l z)
  rw [this]
theorem witC_un {a : AS} {x : Int32} {i : Nat} {v w : Int32} (h : witC a x i v) (k : witC a x i w) : v = w := by
  obtain ⟨F, h1, h2⟩ := h
  obtain ⟨F', k1, k2⟩ := k
  rw [h2, k2, wcn_cg (fun v hv => h1.un k1 hv)]
