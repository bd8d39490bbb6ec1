-- BREADTH FIRST IN A STORE
def PB (n : Nat) (adj : Nat → Nat → Prop) (Q0 : List Nat) (s : Nat) (f : Nat → Nat) (q : List Nat) (h : Nat) : Prop := BI adj (fun v => v ∈ Q0) s f q h ∧ (∀ v, v ∈ q → v < n) ∧ (∀ j, j < q.length → f (q.getD j 0) ≤ j) ∧ Q0.Nodup ∧ ∀ v, v ∈ Q0 → v < n
def SB (kM kQ kq jq o b w n : Nat) (Q0 : List Nat) (f : Nat → Nat) (q : List Nat) (S : St) : Prop := S.1 kq jq = nI (o + q.length) ∧ (∀ k, k < q.length → S.1 kQ (o + k) = nI (q.getD k 0)) ∧ ∀ v, v < n → (v ∈ q → S.1 kM v = nI (b + w * f v)) ∧ (v ∈ Q0 → ∃ z, z < 2 ^ 31 ∧ S.1 kM v = nI z) ∧ (v ∉ Q0 → v ∉ q → S.1 kM v = -1)
section PBs
variable {n : Nat} {adj : Nat → Nat → Prop} {Q0 : List Nat} {s : Nat} {f : Nat → Nat} {q : List Nat} {h : Nat}
theorem PB.nd (p : PB n adj Q0 s f q h) : (Q0 ++ q).Nodup := by
  rw [List.nodup_append]
  refine ⟨p.2.2.2.1, p.1.1, fun x hx y hy e => ?_⟩
  rw [← e] at hy
  exact p.1.2.1 x hy hx
theorem PB.len (p : PB n adj Q0 s f q h) : Q0.length + q.length ≤ n := by
  have := nodup_len n (Q0 ++ q) p.nd (fun v hv => by
    rcases List.mem_append.mp hv with z | z
    · exact p.2.2.2.2 v z
    · exact p.2.1 v z)
  rw [List.length_append] at this
  exact this
theorem PB.fle (p : PB n adj Q0 s f q h) {v : Nat} (hv : v ∈ q) : f v < n := by
  obtain ⟨j, hj, e⟩ := List.getElem_of_mem hv
  have h1 := p.2.2.1 j hj
  have h2 := p.len
  have eg : q.getD j 0 = v := by
    rw [List.getD_eq_getElem?_getD, List.getElem?_eq_getElem hj]
    exact e
  rw [eg] at h1
  omega
theorem PB.new (p : PB n adj Q0 s f q h) (hh : h < q.length) {v : Nat} (hv : v ∉ q) (h0 : v ∉ Q0) (hn : v < n) (ha : adj (q.getD h 0) v) : PB n adj Q0 s (fun x => if x = v then f (q.getD h 0) + 1 else f x) (q ++ [v]) h := by
  refine ⟨p.1.new hh hv h0 ha, fun x hx => ?_, fun j hj => ?_, p.2.2.2.1, p.2.2.2.2⟩
  · rcases List.mem_append.mp hx with z | z
    · exact p.2.1 x z
    · rw [List.mem_singleton.mp z]; exact hn
  · rw [len1] at hj
    have hp := p.2.2.1 h hh
    show (if (q ++ [v]).getD j 0 = v then _ else _) ≤ j
    by_cases c : j = q.length
    · rw [c, getD_e, if_pos rfl]; omega
    · rw [getD_l (by omega), if_neg (fun z => hv (by rw [← z]; exact getD_mem (by omega)))]
      exact p.2.2.1 j (by omega)
theorem PB.start (hs : s ∉ Q0) (hn : s < n) (h1 : Q0.Nodup) (h2 : ∀ v, v ∈ Q0 → v < n) : PB n adj Q0 s (fun _ => 0) [s] 0 := by
  refine ⟨BI.start hs rfl, fun v hv => ?_, fun j hj => Nat.zero_le _, h1, h2⟩
  rw [List.mem_singleton.mp hv]; exact hn
theorem SB.new {kM kQ kq jq o b w : Nat} {S S' : St} (p : SB kM kQ kq jq o b w n Q0 f q S) {v x : Nat} (hv : v ∉ q) (h0 : v ∉ Q0) (h1 : S'.1 kq jq = nI (o + q.length + 1)) (h2 : ∀ k, S'.1 kQ k = if k = o + q.length then nI v else S.1 kQ k) (h3 : ∀ k, S'.1 kM k = if k = v then nI (b + w * x) else S.1 kM k) : SB kM kQ kq jq o b w n Q0 (fun y => if y = v then x else f y) (q ++ [v]) S' := by
  obtain ⟨p1, p2, p3⟩ := p
  refine ⟨by rw [h1, len1, Nat.add_assoc], fun k hk => ?_, fun y hy => ⟨fun hq => ?_, fun hq => ?_, fun q0 q1 => ?_⟩⟩
  · rw [len1] at hk
    rw [h2]
    by_cases c : k = q.length
    · rw [if_pos (by omega), c, getD_e]
    · rw [if_neg (by omega), p2 k (by omega), getD_l (by omega)]
  · rw [h3]
    show _ = nI (b + w * (if y = v then x else f y))
    by_cases c : y = v
    · rw [if_pos c, if_pos c]
    · rw [if_neg c, if_neg c]
      refine (p3 y hy).1 ?_
      rcases List.mem_append.mp hq with z | z
      · exact z
      · exact absurd (List.mem_singleton.mp z) c
  · rw [h3, if_neg (fun z => h0 (by rw [← z]; exact hq))]
    exact (p3 y hy).2.1 hq
  · have c : y ≠ v := fun z => q1 (by rw [z]; simp)
    rw [h3, if_neg c]
    exact (p3 y hy).2.2 q0 (fun z => q1 (by simp [z]))
theorem SB.fr {kM kQ kq jq o b w : Nat} {S S' : St} (p : SB kM kQ kq jq o b w n Q0 f q S) (h1 : S'.1 kq jq = S.1 kq jq) (h2 : S'.1 kQ = S.1 kQ) (h3 : S'.1 kM = S.1 kM) : SB kM kQ kq jq o b w n Q0 f q S' := by
  unfold SB
  rw [h1, h2, h3]
  exact p
end PBs
/-- the model's list is laid -/
def MG (a : AS) (S : St) : Prop := IM a S ∧ LstM a (KK a) S ∧ S.1 80 32 = nI (KK a).length
theorem MG.fr {a : AS} {S S' : St} (h : MG a S) {F : Nat → Prop} (hF : ∀ k, k = 80 ∨ k = 81 ∨ k = 83 ∨ k = 84 ∨ k = 89 → ¬ F k) (f : Fr F S S') : MG a S' := by
  refine ⟨h.1.fr (F := F) (fun k hk => hF k (by omega)) f, h.2.1.fr (F := F) (hF 89 (by omega)) f, ?_⟩
  rw [(f 80 (hF 80 (by omega))).1]
  exact h.2.2
theorem MG.set {a : AS} {S : St} (h : MG a S) {j : Nat} (hj : j = 36) (v : Int32) : MG a (setI S 80 j v) := by
  have e : ∀ i, i ≠ 36 → (setI S 80 j v).1 80 i = S.1 80 i := fun i hi => by rw [setI_at, if_neg (by omega)]
  refine ⟨h.1.of (e 4 (by decide)) (e 5 (by decide)) (e 6 (by decide)) (setI_ne _ _ _ (by decide)) (setI_ne _ _ _ (by decide)) (setI_ne _ _ _ (by decide)), fun i hi k hk => ?_, ?_⟩
  · rw [setI_ne _ _ _ (by decide)]; exact h.2.1 i hi k hk
  · rw [e 32 (by decide)]; exact h.2.2
def mC (c : Nat) : MVt := (c / 64, c / 16 % 4, c / 16 % 4, c / 4 % 4, c % 4, c / 4 % 4)
def vC (a : AS) (c : Nat) : Prop := c / 64 ≠ c / 16 % 4 ∧ c / 4 % 4 ≠ c % 4 ∧ c / 64 < nR a ∧ c / 16 % 4 < nR a ∧ c / 4 % 4 < nC a ∧ c % 4 < nC a
section MB
variable {g : GX} {d : Nat} {ρ : Rs} {S : St} {a : AS} {adj : Nat → Nat → Prop} {Q0 : List Nat} {s : Nat} {f : Nat → Nat} {q : List Nat} {h o n : Nat}
theorem sM_reachN {Q : St → Prop} (hρ : Ok ρ) (hF : ∀ k ∈ ([91, 92, 80] : List Nat), gF g k) (hG : MG a S) {x y : Int32} (hx : x < 0) (hq : Q S) : CALLv g d mX12_reaches [.ref 80, .int x, .int y] ρ ρ S Q := by
  refine eX12_reaches hρ hF ?_
  rw [if_pos hx]
  exact hq
theorem sM_reach {Q : St → Prop} (hρ : Ok ρ) (hF : ∀ k ∈ ([91, 92, 80] : List Nat), gF g k) (hG : MG a S) (hn : n ≤ 1000) (hP : PB n adj Q0 s f q h) (hS : SB 91 92 80 36 o 0 1 n Q0 f q S) (ho : o ≤ Q0.length) (hh : h < q.length) {v : Nat} (hv : v < n) (ha : adj (q.getD h 0) v) {x : Int32} (hx : x = nI (f (q.getD h 0) + 1)) (hq : ∀ S' f' q', MG a S' → PB n adj Q0 s f' q' h → SB 91 92 80 36 o 0 1 n Q0 f' q' S' → h < q'.length → q'.getD h 0 = q.getD h 0 → (∀ y, y ∈ q → y ∈ q') → v ∈ Q0 ∨ v ∈ q' → Q S') : CALLv g d mX12_reaches [.ref 80, .int (nI v), .int x] ρ ρ S Q := by
  refine eX12_reaches hρ hF ?_
  have vi : vp_in (nI v) 1000 := vp_in_nI (by omega) (by omega)
  rw [if_neg (show ¬ nI v < (0 : Int32) from nI_nlt (b := 0) (by omega) (by omega)), nI_clamp (show v < 2 ^ 31 by omega)]
  refine ⟨vi, ?_⟩
  have old : v ∈ Q0 ∨ v ∈ q → Q S := fun z => hq S f q hG hP hS hh rfl (fun y hy => hy) z
  by_cases c0 : v ∈ Q0
  · obtain ⟨z, z1, z2⟩ := (hS.2.2 v hv).2.1 c0
    rw [z2, if_pos (show (0 : Int32) ≤ nI z from nI_le (a := 0) (by omega) (by omega))]
    exact old (Or.inl c0)
  · by_cases c1 : v ∈ q
    · have hf := hP.fle c1
      rw [(hS.2.2 v hv).1 c1, if_pos (show (0 : Int32) ≤ nI (0 + 1 * f v) from nI_le (a := 0) (by omega) (by omega))]
      exact old (Or.inr c1)
    · rw [(hS.2.2 v hv).2.2 c0 c1, if_neg (by decide)]
      have hl := (hP.new hh c1 c0 hv ha).len
      rw [len1] at hl
      rw [hS.1, nI_clamp (show o + q.length < 2 ^ 31 by omega), nI_1]
      refine ⟨vi, vp_in_nI (by omega) (by omega), ?_⟩
      refine hq _ _ (q ++ [v]) ?_ (hP.new hh c1 c0 hv ha) ?_ (by rw [len1]; omega) (getD_l hh) (fun y hy => by simp [hy]) (Or.inr (by simp))
      · refine MG.set (MG.fr hG (F := fun k => k = 91 ∨ k = 92) (by omega) ((Fr.setI (F := fun k => k = 91 ∨ k = 92) _ _ _ (Or.inl rfl)).tr (Fr.setI (F := fun k => k = 91 ∨ k = 92) _ _ _ (Or.inr rfl)))) rfl _
      · refine hS.new c1 c0 ?_ (fun k => ?_) (fun k => ?_)
        · rw [setI_at, if_pos ⟨rfl, rfl⟩]
        · rw [setI_ne _ _ _ (by decide), setI_at]
          by_cases e : k = o + q.length
          · rw [if_pos ⟨rfl, e⟩, if_pos e]
          · rw [if_neg (fun z => e z.2), if_neg e, setI_ne _ _ _ (by decide)]
        · rw [setI_ne _ _ _ (by decide), setI_ne _ _ _ (by decide), setI_at]
          by_cases e : k = v
          · rw [if_pos ⟨rfl, e⟩, if_pos e, hx, Nat.one_mul, Nat.zero_add]
          · rw [if_neg (fun z => e z.2), if_neg e]
theorem vC_num {c : Nat} (hc : c < 256) : nI c / 64 = nI (c / 64) ∧ nI c / 16 - nI c / 16 / 4 * 4 = nI (c / 16 % 4) ∧ nI c / 4 - nI c / 4 / 4 * 4 = nI (c / 4 % 4) ∧ nI c - nI c / 4 * 4 = nI (c % 4) := by
  have e1 : nI c / 64 = nI (c / 64) := pk_div (d := 64) (by omega) (by omega) (by omega)
  have e2 : nI c / 16 = nI (c / 16) := pk_div (d := 16) (by omega) (by omega) (by omega)
  have e3 : nI c / 4 = nI (c / 4) := pk_div (d := 4) (by omega) (by omega) (by omega)
  rw [e1, e2]
  refine ⟨rfl, pk_rem (d := 4) (by omega) (by omega) (by omega), ?_, pk_rem (d := 4) (by omega) (by omega) (by omega)⟩
  rw [e3]
  exact pk_rem (d := 4) (by omega) (by omega) (by omega)
theorem sM_isChoice {Q : Int32 → St → Prop} (hρ : Ok ρ) (hW : WF a) (hI : IM a S) {c : Nat} (hc : c < 256) (h1 : vC a c → Q 1 S) (h0 : ¬ vC a c → Q 0 S) : CALLi g d mX12_isChoice [.ref 80, .int (nI c)] ρ ρ S Q := by
  have hle := hW.le
  obtain ⟨e1, e2, e3, e4⟩ := vC_num hc
  refine eX12_isChoice hρ ?_
  rw [e1, e2, e3, e4, hI.2.2.2.2.1, hI.2.2.2.2.2.1]
  by_cases c1 : c / 64 = c / 16 % 4
  · rw [if_pos ((nI_eq (by omega) (by omega)).mpr c1)]; exact h0 (fun z => z.1 c1)
  · rw [if_neg (fun z => c1 ((nI_eq (by omega) (by omega)).mp z))]
    by_cases c2 : c / 4 % 4 = c % 4
    · rw [if_pos ((nI_eq (by omega) (by omega)).mpr c2)]; exact h0 (fun z => z.2.1 c2)
    · rw [if_neg (fun z => c2 ((nI_eq (by omega) (by omega)).mp z))]
      by_cases c3 : nR a ≤ c / 64
      · rw [if_pos ((nI_leI (by omega) (by omega)).mpr c3)]; exact h0 (fun z => absurd z.2.2.1 (by omega))
      · rw [if_neg (fun z => c3 ((nI_leI (by omega) (by omega)).mp z))]
        by_cases c4 : nR a ≤ c / 16 % 4
        · rw [if_pos ((nI_leI (by omega) (by omega)).mpr c4)]; exact h0 (fun z => absurd z.2.2.2.1 (by omega))
        · rw [if_neg (fun z => c4 ((nI_leI (by omega) (by omega)).mp z))]
          by_cases c5 : nC a ≤ c / 4 % 4
          · rw [if_pos ((nI_leI (by omega) (by omega)).mpr c5)]; exact h0 (fun z => absurd z.2.2.2.2.1 (by omega))
          · rw [if_neg (fun z => c5 ((nI_leI (by omega) (by omega)).mp z))]
            by_cases c6 : nC a ≤ c % 4
            · rw [if_pos ((nI_leI (by omega) (by omega)).mpr c6)]; exact h0 (fun z => absurd z.2.2.2.2.2 (by omega))
            · rw [if_neg (fun z => c6 ((nI_leI (by omega) (by omega)).mp z))]; exact h1 ⟨c1, c2, by omega, by omega, by omega, by omega⟩
theorem sM_moreOf {Q : Int32 → St → Prop} (hρ : Ok ρ) (hW : WF a) (hI : IM a S) {c : Nat} (hc : c < 256) (h1 : vC a c → Q (nI (2 ^ (c / 64 * nC a + c / 4 % 4) ||| 2 ^ (c / 16 % 4 * nC a + c % 4))) S) (h0 : ¬ vC a c → Q 0 S) : CALLi g (d + 2) mX12_moreOf [.ref 80, .int (nI c)] ρ ρ S Q := by
  obtain ⟨e1, e2, e3, e4⟩ := vC_num hc
  refine eX12_moreOf hρ (sM_isChoice hρ hW hI hc (fun z => ?_) (fun z => ?_))
  · rw [if_neg (by decide), e1, e2, e3, e4]
    exact sM_two hρ hW hI z.2.2.1 z.2.2.2.2.1 z.2.2.2.1 z.2.2.2.2.2 (h1 z)
  · rw [if_pos rfl]; exact h0 z
theorem sM_lessOf {Q : Int32 → St → Prop} (hρ : Ok ρ) (hW : WF a) (hI : IM a S) {c : Nat} (hc : c < 256) (hv : vC a c) (h1 : Q (nI (2 ^ (c / 64 * nC a + c % 4) ||| 2 ^ (c / 16 % 4 * nC a + c / 4 % 4))) S) : CALLi g (d + 2) mX12_lessOf [.ref 80, .int (nI c)] ρ ρ S Q := by
  obtain ⟨e1, e2, e3, e4⟩ := vC_num hc
  refine eX12_lessOf hρ ?_
  rw [e1, e2, e3, e4]
  exact sM_two hρ hW hI hv.2.2.1 hv.2.2.2.2.2 hv.2.2.2.1 hv.2.2.2.2.1 h1
theorem or2_pos (i j : Nat) : 0 < 2 ^ i ||| 2 ^ j := Nat.lt_of_lt_of_le (Nat.two_pow_pos i) Nat.left_le_or
theorem vC_m {c : Nat} (hW : WF a) (hv : vC a c) : inM a (mC c) ∧ okM (mC c) ∧ Sxc (mC c) ∧ Msk (nC a) (mC c) (2 ^ (c / 64 * nC a + c / 4 % 4) ||| 2 ^ (c / 16 % 4 * nC a + c % 4)) (2 ^ (c / 64 * nC a + c % 4) ||| 2 ^ (c / 16 % 4 * nC a + c / 4 % 4)) ∧ 2 ^ (c / 64 * nC a + c / 4 % 4) ||| 2 ^ (c / 16 % 4 * nC a + c % 4) < 65536 ∧ 2 ^ (c / 64 * nC a + c % 4) ||| 2 ^ (c / 16 % 4 * nC a + c / 4 % 4) < 65536 := by
  have hle := hW.le
  have e2 := mul44 hle.1 hle.2.1
  obtain ⟨v1, v2, v3, v4, v5, v6⟩ := hv
  have j1 := idx_lt v3 v5
  have j2 := idx_lt v4 v6
  have j3 := idx_lt v3 v6
  have j4 := idx_lt v4 v5
  exact ⟨⟨v3, v4, v4, v5, v6, v5⟩, okM_sw v1 v2, sxc_sw v1 v2, msk_sw v5 v6 v1 v2, or2_lt (by omega) (by omega), or2_lt (by omega) (by omega)⟩
theorem sM_swapsFrom {Q : St → Prop} (hρ : Ok ρ) (hF : ∀ k ∈ ([80, 90, 91, 92] : List Nat), gF g k) (hW : WF a) (hR : nR a ≠ 0) (hG : MG a S) (hn : (KK a).length ≤ 1000) (hP : PB (KK a).length adj Q0 s f q h) (hS : SB 91 92 80 36 o 0 1 (KK a).length Q0 f q S) (ho : o ≤ Q0.length) (hh : h < q.length) (hadj : ∀ i v, adjS a i v → adj i v) (hq : ∀ S' f' q', MG a S' → PB (KK a).length adj Q0 s f' q' h → SB 91 92 80 36 o 0 1 (KK a).length Q0 f' q' S' → h < q'.length → q'.getD h 0 = q.getD h 0 → (∀ y, y ∈ q → y ∈ q') → (∀ v, adjS a (q.getD h 0) v → v ∈ Q0 ∨ v ∈ q') → Q S') : CALLv g (d + 4) mX12_swapsFrom [.ref 80, .int (nI (q.getD h 0))] ρ ρ S Q := by
  have hu : q.getD h 0 < (KK a).length := hP.2.1 _ (getD_mem hh)
  generalize eu : q.getD h 0 = u at hu hq ⊢
  have hF3 : ∀ k ∈ ([91, 92, 80] : List Nat), gF g k := fun k hk => hF k (by simp at hk; rcases hk with z | z | z <;> simp [z])
  have hF9 : gF g 90 := hF 90 (by simp)
  refine eX12_swapsFrom hρ ?_
  have key : ∀ k c S1 f1 q1, k + c = 256 → MG a S1 → PB (KK a).length adj Q0 s f1 q1 h → SB 91 92 80 36 o 0 1 (KK a).length Q0 f1 q1 S1 → h < q1.length → q1.getD h 0 = u → (∀ y, y ∈ q → y ∈ q1) → (∀ c', c' < c → vC a c' → okC a u (mC c') → nxI a u (mC c') ∈ Q0 ∨ nxI a u (mC c') ∈ q1) → AW g ρ (QV Q) (d + 3 + 1) mX12_swapsFrom 2 [(0, .ref 80), (1, .int (nI u)), (2, .int (nI c))] [] ρ S1 := by
    intro k
    induction k with
    | zero =>
      intro c S1 f1 q1 hk g1 p1 s1 h1 e1 m1 d1
      refine eX12_swapsFrom_2 hρ (eX12_choices hρ ?_)
      rw [if_pos (show (256 : Int32) ≤ nI c from nI_le (a := 256) (by omega) (by omega))]
      refine hq S1 f1 q1 g1 p1 s1 h1 e1 m1 (fun v hv => ?_)
      obtain ⟨r, s', x, w, k1, k2, k3, k4, k5, k6, k7⟩ := adjS_ex hW hv
      have hle := hW.le
      rw [k7]
      have a1 : (64 * r + 16 * s' + 4 * x + w) / 64 = r := by omega
      have a2 : (64 * r + 16 * s' + 4 * x + w) / 16 % 4 = s' := by omega
      have a3 : (64 * r + 16 * s' + 4 * x + w) / 4 % 4 = x := by omega
      have a4 : (64 * r + 16 * s' + 4 * x + w) % 4 = w := by omega
      have em : mC (64 * r + 16 * s' + 4 * x + w) = (r, s', s', x, w, x) := by
        unfold mC
        rw [a1, a2, a3, a4]
      have ev : vC a (64 * r + 16 * s' + 4 * x + w) := by
        unfold vC
        rw [a1, a2, a3, a4]
        exact ⟨by omega, k5, by omega, k2, k3, k4⟩
      have := d1 (64 * r + 16 * s' + 4 * x + w) (by omega) ev
      rw [em] at this
      exact this k6
    | succ k ih =>
      intro c S1 f1 q1 hk g1 p1 s1 h1 e1 m1 d1
      have go : ∀ S2 f2 q2, MG a S2 → PB (KK a).length adj Q0 s f2 q2 h → SB 91 92 80 36 o 0 1 (KK a).length Q0 f2 q2 S2 → h < q2.length → q2.getD h 0 = u → (∀ y, y ∈ q1 → y ∈ q2) → (vC a c → okC a u (mC c) → nxI a u (mC c) ∈ Q0 ∨ nxI a u (mC c) ∈ q2) → AW g ρ (QV Q) (d + 3 + 1) mX12_swapsFrom 2 [(0, .ref 80), (1, .int (nI u)), (2, .int (nI c + 1))] [] ρ S2 := by
        intro S2 f2 q2 g2 p2 s2 h2 e2 m2 d2
        rw [nI_1]
        refine ih (c + 1) S2 f2 q2 (by omega) g2 p2 s2 h2 e2 (fun y hy => m2 y (m1 y hy)) (fun c' hc' hv ho' => ?_)
        by_cases cc : c' = c
        · rw [cc] at hv ho' ⊢; exact d2 hv ho'
        · rcases d1 c' (by omega) hv ho' with z | z
          · exact Or.inl z
          · exact Or.inr (m2 _ z)
      refine eX12_swapsFrom_2 hρ (eX12_choices hρ ?_)
      rw [if_neg (show ¬ (256 : Int32) ≤ nI c from nI_ge (b := 256) (by omega) (by omega))]
      rw [show d + 3 = d + 1 + 2 by omega]
      refine sM_moreOf hρ hW g1.1 (by omega) (fun hv => ?_) (fun hv => ?_)
      · obtain ⟨w1, w2, w3, w4, w5, w6⟩ := vC_m hW hv
        rw [if_neg (show ¬ nI (2 ^ (c / 64 * nC a + c / 4 % 4) ||| 2 ^ (c / 16 % 4 * nC a + c % 4)) ≤ (0 : Int32) from nI_ge (a := 0) (or2_pos _ _) (by omega))]
        refine sM_lessOf hρ hW g1.1 (by omega) hv ?_
        rw [show d + 1 + 2 = d + 3 by omega]
        refine sM_comesOf hρ hF9 hW hR g1.1 g1.2.1 hn g1.2.2 hu w1 w2 w3 w5 w6 w4 (fun hok S2 f2 => ?_) (fun hno => ?_)
        · have g2 : MG a S2 := g1.fr (F := fun k => k = 90) (by omega) f2
          have s2 := s1.fr (S' := S2) (by rw [(f2 80 (by decide)).1]) (f2 92 (by decide)).1 (f2 91 (by decide)).1
          have hnx := nxI_ok hW hR hu (m4_of hW w1) w2 hok
          have ha : adj (q1.getD h 0) (nxI a u (mC c)) := by
            rw [e1]
            exact hadj _ _ (adjS_ch hW hR hu hv.1 hv.2.1 hok)
          have hmu : u ∈ q1 := by rw [← e1]; exact getD_mem h1
          have hx : S2.1 91 (nI u).toNatClampNeg + 1 = nI (f1 (q1.getD h 0) + 1) := by
            rw [nI_clamp (by omega), (s2.2.2 u hu).1 hmu, nI_1, e1, Nat.zero_add, Nat.one_mul]
          refine ⟨vp_in_nI (by omega) (by omega), ?_⟩
          refine sM_reach hρ hF3 g2 hn p1 s2 ho h1 hnx.1 ha hx (fun S3 f3 q3 g3 p3 s3 h3 e3 m3 d3 => ?_)
          exact go S3 f3 q3 g3 p3 s3 h3 (e3.trans e1) m3 (fun _ _ => d3)
        · refine ⟨vp_in_nI (by omega) (by omega), sM_reachN (x := -1) hρ hF3 g1 (by decide) ?_⟩
          exact go S1 f1 q1 g1 p1 s1 h1 e1 (fun y hy => hy) (fun _ z => absurd z hno)
      · rw [if_pos (by decide)]
        exact go S1 f1 q1 g1 p1 s1 h1 e1 (fun y hy => hy) (fun z => absurd z hv)
  exact key 256 0 S f q (by omega) hG hP hS hh eu (fun y hy => hy) (fun c' hc' => absurd hc' (by omega))
end MB
