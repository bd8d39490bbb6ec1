-- A GRAPH GONE THROUGH BREADTH FIRST
def pth (adj : Nat → Nat → Prop) : Nat → Nat → Nat → Prop
  | 0, u, v => u = v
  | n + 1, u, v => ∃ w, pth adj n u w ∧ adj w v
/-- what is kept: q the row of those come to, h how many of them are done, f how far -/
def BI (adj : Nat → Nat → Prop) (V0 : Nat → Prop) (s : Nat) (f : Nat → Nat) (q : List Nat) (h : Nat) : Prop :=
  q.Nodup ∧ (∀ v, v ∈ q → ¬ V0 v) ∧ (∀ i j, i ≤ j → j < q.length → f (q.getD i 0) ≤ f (q.getD j 0)) ∧ h ≤ q.length ∧ (h < q.length → ∀ j, j < q.length → f (q.getD j 0) ≤ f (q.getD h 0) + 1) ∧ (s ∈ q ∧ f s = 0) ∧ (∀ v, v ∈ q → pth adj (f v) s v) ∧ ∀ i, i < h → ∀ v, adj (q.getD i 0) v → V0 v ∨ v ∈ q ∧ f v ≤ f (q.getD i 0) + 1
theorem BI.start {adj : Nat → Nat → Prop} {V0 : Nat → Prop} {s : Nat} {f : Nat → Nat} (hs : ¬ V0 s) (hf : f s = 0) : BI adj V0 s f [s] 0 := by
  refine ⟨by simp, fun v hv => ?_, fun i j hij hj => ?_, Nat.zero_le _, fun _ j hj => ?_, ⟨by simp, hf⟩, fun v hv => ?_, fun i hi => absurd hi (by omega)⟩
  · rw [List.mem_singleton.mp hv]; exact hs
  · have hj : j < 1 := hj
    rw [show i = j by omega]
    exact Nat.le_refl _
  · have hj : j < 1 := hj
    rw [show j = 0 by omega]
    omega
  · rw [List.mem_singleton.mp hv, hf]
    rfl
/-- one who is come to already -/
theorem BI.old {adj : Nat → Nat → Prop} {V0 : Nat → Prop} {s : Nat} {f : Nat → Nat} {q : List Nat} {h : Nat} (b : BI adj V0 s f q h) (hh : h < q.length) {v : Nat} (hv : v ∈ q) : f v ≤ f (q.getD h 0) + 1 := by
  obtain ⟨j, hj, e⟩ := List.getElem_of_mem hv
  have := b.2.2.2.2.1 hh j hj
  rw [List.getD_eq_getElem?_getD, List.getElem?_eq_getElem hj] at this
  have e2 : (some q[j]).getD 0 = v := e
  rw [e2] at this
  exact this
/-- a new one -/
theorem BI.new {adj : Nat → Nat → Prop} {V0 : Nat → Prop} {s : Nat} {f : Nat → Nat} {q : List Nat} {h : Nat} (b : BI adj V0 s f q h) (hh : h < q.length) {v : Nat} (hv : v ∉ q) (h0 : ¬ V0 v) (ha : adj (q.getD h 0) v) : BI adj V0 s (fun x => if x = v then f (q.getD h 0) + 1 else f x) (q ++ [v]) h := by
  obtain ⟨b1, b2, b3, b4, b5, b6, b7, b8⟩ := b
  have fo : ∀ x, x ∈ q → (if x = v then f (q.getD h 0) + 1 else f x) = f x := fun x hx => if_neg (fun (z : x = v) => hv (by rw [← z]; exact hx))
  have fg : ∀ i, i < q.length → (if (q ++ [v]).getD i 0 = v then f (q.getD h 0) + 1 else f ((q ++ [v]).getD i 0)) = f (q.getD i 0) := fun i hi => by
    rw [getD_l hi]
    exact fo _ (getD_mem hi)
  have fe : (if (q ++ [v]).getD q.length 0 = v then f (q.getD h 0) + 1 else f ((q ++ [v]).getD q.length 0)) = f (q.getD h 0) + 1 := by
    rw [getD_e, if_pos rfl]
  refine ⟨?_, fun x hx => ?_, fun i j hij hj => ?_, by rw [len1]; omega, fun _ j hj => ?_, ⟨by simp [b6.1], ?_⟩, fun x hx => ?_, fun i hi x hx => ?_⟩
  · rw [List.nodup_append]
    refine ⟨b1, by simp, fun x hx y hy e => ?_⟩
    rw [List.mem_singleton] at hy
    rw [e, hy] at hx
    exact hv hx
  · rcases List.mem_append.mp hx with z | z
    · exact b2 x z
    · rw [List.mem_singleton.mp z]; exact h0
  · rw [len1] at hj
    show (if (q ++ [v]).getD i 0 = v then _ else _) ≤ (if (q ++ [v]).getD j 0 = v then _ else _)
    by_cases c : j = q.length
    · rw [c, fe]
      by_cases c2 : i = q.length
      · rw [c2, fe]; exact Nat.le_refl _
      · rw [fg i (by omega)]
        exact b5 hh i (by omega)
    · rw [fg i (by omega), fg j (by omega)]
      exact b3 i j hij (by omega)
  · rw [len1] at hj
    show (if (q ++ [v]).getD j 0 = v then _ else _) ≤ (if (q ++ [v]).getD h 0 = v then _ else _) + 1
    rw [fg h hh]
    by_cases c : j = q.length
    · rw [c, fe]; exact Nat.le_refl _
    · rw [fg j (by omega)]
      exact b5 hh j (by omega)
  · show (if s = v then _ else f s) = 0
    rw [fo s b6.1]; exact b6.2
  · show pth adj (if x = v then _ else f x) s x
    rcases List.mem_append.mp hx with z | z
    · rw [fo x z]; exact b7 x z
    · rw [List.mem_singleton.mp z, if_pos rfl]
      exact ⟨q.getD h 0, b7 _ (getD_mem hh), ha⟩
  · rw [getD_l (by omega)] at hx
    show V0 x ∨ x ∈ q ++ [v] ∧ (if x = v then _ else f x) ≤ (if (q ++ [v]).getD i 0 = v then _ else _) + 1
    rw [fg i (by omega)]
    rcases b8 i hi x hx with z | ⟨z1, z2⟩
    · exact Or.inl z
    · exact Or.inr ⟨by simp [z1], by rw [fo x z1]; exact z2⟩
/-- one is done -/
theorem BI.step {adj : Nat → Nat → Prop} {V0 : Nat → Prop} {s : Nat} {f : Nat → Nat} {q : List Nat} {h : Nat} (b : BI adj V0 s f q h) (hh : h < q.length) (hd : ∀ v, adj (q.getD h 0) v → V0 v ∨ v ∈ q) : BI adj V0 s f q (h + 1) := by
  have bo := fun v (hv : v ∈ q) => b.old hh hv
  obtain ⟨b1, b2, b3, b4, b5, b6, b7, b8⟩ := b
  refine ⟨b1, b2, b3, hh, fun hh2 j hj => ?_, b6, b7, fun i hi v hv => ?_⟩
  · have h1 := b5 hh j hj
    have h2 := b3 h (h + 1) (by omega) hh2
    omega
  · by_cases c : i = h
    · rw [c] at hv ⊢
      rcases hd v hv with z | z
      · exact Or.inl z
      · exact Or.inr ⟨z, bo v z⟩
    · exact b8 i (by omega) v hv
/-- at the end all that can be come to is come to, as soon as can be -/
theorem BI.done {adj : Nat → Nat → Prop} {V0 : Nat → Prop} {s : Nat} {f : Nat → Nat} {q : List Nat} (b : BI adj V0 s f q q.length) (hc : ∀ u v, V0 u → adj u v → V0 v) : ∀ n v, pth adj n s v → V0 v ∨ v ∈ q ∧ f v ≤ n
  | 0, v, hp => by
    have hp : s = v := hp
    rw [← hp]
    exact Or.inr ⟨b.2.2.2.2.2.1.1, by rw [b.2.2.2.2.2.1.2]; exact Nat.le_refl _⟩
  | n + 1, v, hp => by
    obtain ⟨w, hw, ha⟩ := hp
    rcases BI.done b hc n w hw with z | ⟨z1, z2⟩
    · exact Or.inl (hc w v z ha)
    · obtain ⟨j, hj, e⟩ := List.getElem_of_mem z1
      have eg : q.getD j 0 = w := by
        rw [List.getD_eq_getElem?_getD, List.getElem?_eq_getElem hj]
        exact e
      have := b.2.2.2.2.2.2.2 j hj v (by rw [eg]; exact ha)
      rw [eg] at this
      rcases this with y | ⟨y1, y2⟩
      · exact Or.inl y
      · exact Or.inr ⟨y1, by omega⟩
/-- how far one is from another -/
def dst (adj : Nat → Nat → Prop) (s v n : Nat) : Prop := pth adj n s v ∧ ∀ m, pth adj m s v → n ≤ m
theorem dst_un {adj : Nat → Nat → Prop} {s v m n : Nat} (h : dst adj s v m) (k : dst adj s v n) : m = n := by
  have h1 := h.2 n k.1
  have h2 := k.2 m h.1
  omega
theorem BI.dst {adj : Nat → Nat → Prop} {s : Nat} {f : Nat → Nat} {q : List Nat} (b : BI adj (fun _ => False) s f q q.length) : (∀ v, v ∈ q → dst adj s v (f v)) ∧ ∀ v, v ∉ q → ∀ n, ¬ pth adj n s v := by
  have d := b.done (fun _ _ z => z.elim)
  refine ⟨fun v hv => ⟨b.2.2.2.2.2.2.1 v hv, fun m hm => ?_⟩, fun v hv n hn => ?_⟩
  · rcases d m v hm with z | z
    · exact z.elim
    · exact z.2
  · rcases d n v hn with z | z
    · exact z.elim
    · exact hv z.1
theorem pth_tr {adj : Nat → Nat → Prop} {u v : Nat} {m : Nat} (h : pth adj m u v) : ∀ n w, pth adj n v w → pth adj (m + n) u w
  | 0, w, k => by
    have k : v = w := k
    rw [← k]; exact h
  | n + 1, w, k => by
    obtain ⟨x, k1, k2⟩ := k
    exact ⟨x, pth_tr h n x k1, k2⟩
theorem pth_sy {adj : Nat → Nat → Prop} (hs : ∀ u v, adj u v → adj v u) : ∀ n u v, pth adj n u v → pth adj n v u
  | 0, u, v, h => by
    have h : u = v := h
    exact h.symm
  | n + 1, u, v, h => by
    obtain ⟨w, h1, h2⟩ := h
    have h3 := pth_sy hs n u w h1
    have h4 : pth adj 1 v w := ⟨v, rfl, hs w v h2⟩
    have := pth_tr h4 n u h3
    rw [Nat.add_comm] at this
    exact this
theorem dst_sy {adj : Nat → Nat → Prop} (hs : ∀ u v, adj u v → adj v u) {s v n : Nat} (h : dst adj s v n) : dst adj v s n := ⟨pth_sy hs n s v h.1, fun m hm => h.2 m (pth_sy hs m v s hm)⟩
