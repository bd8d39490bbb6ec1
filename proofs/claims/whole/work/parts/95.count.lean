-- COUNTING, for the room of the arrays
def vin : List (List Nat) → List Nat → Prop
  | [], [] => True
  | S :: Ss, h :: t => h ∈ S ∧ vin Ss t
  | _, _ => False
def lsm : List Nat → Nat
  | [] => 0
  | h :: t => h + lsm t
def cn : List (List Nat) → Nat → Nat
  | [], k => if k = 0 then 1 else 0
  | S :: Ss, k => sml (fun s => if s ≤ k then cn Ss (k - s) else 0) S
theorem sml_le {f g : Nat → Nat} : ∀ L : List Nat, (∀ s, s ∈ L → f s ≤ g s) → sml f L ≤ sml g L
  | [], _ => Nat.le_refl _
  | p :: L, h => Nat.add_le_add (h p (by simp)) (sml_le L (fun s hs => h s (by simp [hs])))
/-- parted by a key -/
theorem part_len {α : Type} (h : α → Nat) (S : List Nat) : ∀ V : List α, (∀ v, v ∈ V → h v ∈ S) → V.length ≤ sml (fun s => (V.filter (fun v => decide (h v = s))).length) S
  | [], _ => Nat.zero_le _
  | v :: V, hv => by
    have ih := part_len h S V (fun w hw => hv w (by simp [hw]))
    have hm := hv v (by simp)
    have key : ∀ T : List Nat, sml (fun s => (V.filter (fun v => decide (h v = s))).length) T + (if h v ∈ T then 1 else 0) ≤ sml (fun s => ((v :: V).filter (fun v => decide (h v = s))).length) T := by
      intro T
      induction T with
      | nil =>
        rw [if_neg (by simp)]
        exact Nat.le_refl _
      | cons s T iht =>
        show (V.filter (fun v => decide (h v = s))).length + sml _ T + _ ≤ ((v :: V).filter (fun v => decide (h v = s))).length + sml _ T
        by_cases c : h v = s
        · have e : ((v :: V).filter (fun v => decide (h v = s))) = v :: V.filter (fun v => decide (h v = s)) := by simp [c]
          rw [e, List.length_cons]
          have h1 : (if h v ∈ s :: T then 1 else 0) ≤ 1 := by split <;> omega
          have h2 : sml (fun s => (V.filter (fun v => decide (h v = s))).length) T ≤ sml (fun s => ((v :: V).filter (fun v => decide (h v = s))).length) T := by omega
          omega
        · have e : ((v :: V).filter (fun v => decide (h v = s))) = V.filter (fun v => decide (h v = s)) := by simp [c]
          rw [e]
          have h1 : (if h v ∈ s :: T then 1 else 0) = if h v ∈ T then 1 else 0 := by simp [c]
          rw [h1]
          omega
    have k2 := key S
    rw [if_pos hm] at k2
    show V.length + 1 ≤ _
    omega
/-- what has different keys is no more than the ways to choose them -/
theorem cn_len : ∀ (Ss : List (List Nat)) (V : List (List Nat)) (k : Nat), V.Nodup → (∀ v, v ∈ V → vin Ss v ∧ lsm v = k) → V.length ≤ cn Ss k
  | [], V, k, hn, h => by
    show V.length ≤ if k = 0 then 1 else 0
    have all : ∀ v, v ∈ V → v = [] := fun v hv => by
      have := (h v hv).1
      cases v with
      | nil => rfl
      | cons _ _ => exact absurd this (by simp [vin])
    cases V with
    | nil => exact Nat.zero_le _
    | cons v V =>
      have e0 := all v (by simp)
      have hk := (h v (by simp)).2
      rw [e0] at hk
      have hk : 0 = k := hk
      rw [if_pos hk.symm]
      cases V with
      | nil => exact Nat.le_refl _
      | cons w V =>
        have e1 := all w (by simp)
        rw [List.nodup_cons] at hn
        exact absurd (by rw [e0, e1]; simp) hn.1
  | S :: Ss, V, k, hn, h => by
    have hne : ∀ v, v ∈ V → ∃ p t, v = p :: t ∧ p ∈ S ∧ vin Ss t ∧ p + lsm t = k := fun v hv => by
      obtain ⟨h1, h2⟩ := h v hv
      cases v with
      | nil => exact absurd h1 (by simp [vin])
      | cons p t => exact ⟨p, t, rfl, h1.1, h1.2, h2⟩
    have hp := part_len (fun v => v.headD 0) S V (fun v hv => by
      obtain ⟨p, t, rfl, h1, -⟩ := hne v hv
      exact h1)
    refine Nat.le_trans hp (sml_le S fun s hs => ?_)
    generalize hV : V.filter (fun v => decide (v.headD 0 = s)) = W
    have hW : ∀ w, w ∈ W → w ∈ V ∧ w.headD 0 = s := fun w hw => by
      rw [← hV] at hw
      obtain ⟨w1, w2⟩ := List.mem_filter.mp hw
      exact ⟨w1, of_decide_eq_true w2⟩
    have hWn : W.Nodup := by rw [← hV]; exact List.Pairwise.filter _ hn
    by_cases ce : W = []
    · rw [ce]; exact Nat.zero_le _
    · obtain ⟨w, hw⟩ := List.exists_mem_of_ne_nil W ce
      have hsk : s ≤ k := by
        obtain ⟨w1, w2⟩ := hW w hw
        obtain ⟨p, t, rfl, -, -, h3⟩ := hne w w1
        have w2 : p = s := w2
        omega
      show W.length ≤ if s ≤ k then cn Ss (k - s) else 0
      rw [if_pos hsk]
      have hm : (W.map List.tail).Nodup := by
        rw [List.Nodup, List.pairwise_map]
        refine List.Pairwise.imp_of_mem (fun {v v'} hv hv' hne2 e => hne2 ?_) hWn
        obtain ⟨v1, v2⟩ := hW v hv
        obtain ⟨v1', v2'⟩ := hW v' hv'
        obtain ⟨p, t, rfl, -⟩ := hne v v1
        obtain ⟨p', t', rfl, -⟩ := hne v' v1'
        have v2 : p = s := v2
        have v2' : p' = s := v2'
        have e : t = t' := e
        rw [v2, v2', e]
      have := cn_len Ss (W.map List.tail) (k - s) hm (fun v hv => by
        obtain ⟨w, hw, rfl⟩ := List.mem_map.mp hv
        obtain ⟨w1, w2⟩ := hW w hw
        obtain ⟨p, t, rfl, -, h2, h3⟩ := hne w w1
        have w2 : p = s := w2
        exact ⟨h2, by show lsm t = k - s; omega⟩)
      rw [List.length_map] at this
      exact this
-- the same numbers as digits of a product
def ev (Z : Nat) (f : Nat → Nat) : Nat → Nat
  | 0 => 0
  | n + 1 => ev Z f n + f n * Z ^ n
theorem ev_add (Z : Nat) (f f' : Nat → Nat) : ∀ n, ev Z (fun k => f k + f' k) n = ev Z f n + ev Z f' n
  | 0 => rfl
  | n + 1 => by
    show ev Z (fun k => f k + f' k) n + (f n + f' n) * Z ^ n = ev Z f n + f n * Z ^ n + (ev Z f' n + f' n * Z ^ n)
    rw [ev_add Z f f' n, Nat.add_mul]
    omega
theorem ev_zero (Z : Nat) : ∀ n, ev Z (fun _ => 0) n = 0
  | 0 => rfl
  | n + 1 => by
    show ev Z (fun _ => 0) n + 0 * Z ^ n = 0
    rw [ev_zero Z n, Nat.zero_mul]
theorem ev_cut (Z : Nat) {f : Nat → Nat} {m : Nat} (h : ∀ k, m ≤ k → f k = 0) : ∀ n, m ≤ n → ev Z f n = ev Z f m
  | 0, hn => by rw [show m = 0 by omega]
  | n + 1, hn => by
    by_cases c : m = n + 1
    · rw [c]
    · show ev Z f n + f n * Z ^ n = _
      rw [h n (by omega), Nat.zero_mul, Nat.add_zero, ev_cut Z h n (by omega)]
theorem ev_shift (Z s : Nat) (f : Nat → Nat) : ∀ n, ev Z (fun k => if s ≤ k then f (k - s) else 0) (n + s) = Z ^ s * ev Z f n
  | 0 => by
    show ev Z _ (0 + s) = Z ^ s * 0
    rw [Nat.mul_zero, Nat.zero_add]
    have : ∀ m, m ≤ s → ev Z (fun k => if s ≤ k then f (k - s) else 0) m = 0 := by
      intro m
      induction m with
      | zero => intro _; rfl
      | succ m ih =>
        intro hm
        show ev Z _ m + (if s ≤ m then f (m - s) else 0) * Z ^ m = 0
        rw [ih (by omega), if_neg (by omega), Nat.zero_mul]
    exact this s (Nat.le_refl _)
  | n + 1 => by
    rw [show n + 1 + s = (n + s) + 1 by omega]
    show ev Z _ (n + s) + (if s ≤ n + s then f (n + s - s) else 0) * Z ^ (n + s) = Z ^ s * (ev Z f n + f n * Z ^ n)
    rw [ev_shift Z s f n, if_pos (by omega), Nat.add_sub_cancel, Nat.mul_add, Nat.pow_add]
    congr 1
    simp only [Nat.mul_assoc, Nat.mul_comm, Nat.mul_left_comm]
def pz (Z : Nat) (S : List Nat) : Nat := sml (fun s => Z ^ s) S
def gfz (Z : Nat) : List (List Nat) → Nat
  | [] => 1
  | S :: Ss => pz Z S * gfz Z Ss
theorem cn_cut : ∀ (Ss : List (List Nat)) (M : Nat), (∀ S, S ∈ Ss → ∀ s, s ∈ S → s ≤ M) → ∀ k, Ss.length * M + 1 ≤ k → cn Ss k = 0
  | [], M, _, k, hk => by
    show (if k = 0 then 1 else 0) = 0
    rw [if_neg (by omega)]
  | S :: Ss, M, h, k, hk => by
    rw [List.length_cons, Nat.succ_mul] at hk
    have : ∀ T : List Nat, (∀ s, s ∈ T → s ≤ M) → sml (fun s => if s ≤ k then cn Ss (k - s) else 0) T = 0 := by
      intro T
      induction T with
      | nil => intro _; rfl
      | cons t T ih =>
        intro hT
        have h1 := hT t (by simp)
        show (if t ≤ k then cn Ss (k - t) else 0) + sml _ T = 0
        rw [ih (fun s hs => hT s (by simp [hs])), cn_cut Ss M (fun S hS => h S (by simp [hS])) (k - t) (by omega)]
        split <;> rfl
    exact this S (h S (by simp))
theorem gf_ev (Z : Nat) : ∀ (Ss : List (List Nat)) (M : Nat), (∀ S, S ∈ Ss → ∀ s, s ∈ S → s ≤ M) → ∀ K, Ss.length * M + 1 ≤ K → gfz Z Ss = ev Z (cn Ss) K
  | [], M, _, K, hK => by
    have e : ev Z (cn []) K = ev Z (cn []) 1 := ev_cut Z (fun k hk => by show (if k = 0 then 1 else 0) = 0; rw [if_neg (by omega)]) K (by omega)
    rw [e]
    show 1 = 0 + 1 * Z ^ 0
    rw [Nat.pow_zero]
  | S :: Ss, M, h, K, hK => by
    have hK' := hK
    rw [List.length_cons, Nat.succ_mul] at hK'
    have ih := gf_ev Z Ss M (fun S hS => h S (by simp [hS])) (Ss.length * M + 1) (Nat.le_refl _)
    have hcut := cn_cut Ss M (fun S hS => h S (by simp [hS]))
    have : ∀ T : List Nat, (∀ s, s ∈ T → s ≤ M) → pz Z T * gfz Z Ss = ev Z (fun k => sml (fun s => if s ≤ k then cn Ss (k - s) else 0) T) K := by
      intro T
      induction T with
      | nil =>
        intro _
        show 0 * _ = ev Z (fun _ => 0) K
        rw [Nat.zero_mul, ev_zero]
      | cons t T iht =>
        intro hT
        have h1 := hT t (by simp)
        show (Z ^ t + pz Z T) * gfz Z Ss = ev Z (fun k => (if t ≤ k then cn Ss (k - t) else 0) + sml (fun s => if s ≤ k then cn Ss (k - s) else 0) T) K
        rw [ev_add, Nat.add_mul, iht (fun s hs => hT s (by simp [hs])), ih, ← ev_shift]
        congr 1
        refine (ev_cut Z (fun k hk => ?_) K (by omega)).symm
        by_cases c : t ≤ k
        · rw [if_pos c, hcut (k - t) (by omega)]
        · rw [if_neg c]
    exact this S (h S (by simp))
theorem ev_lt {Z : Nat} (hZ : 0 < Z) {f : Nat → Nat} (h : ∀ k, f k < Z) : ∀ n, ev Z f n < Z ^ n
  | 0 => by show 0 < 1; omega
  | n + 1 => by
    have ih := ev_lt hZ h n
    have h1 : (f n + 1) * Z ^ n ≤ Z * Z ^ n := Nat.mul_le_mul_right _ (h n)
    rw [Nat.succ_mul] at h1
    show ev Z f n + f n * Z ^ n < Z ^ (n + 1)
    rw [Nat.pow_succ, Nat.mul_comm (Z ^ n) Z]
    omega
theorem ev_dig {Z : Nat} (hZ : 0 < Z) {f : Nat → Nat} (h : ∀ k, f k < Z) {k : Nat} : ∀ n, k < n → ev Z f n / Z ^ k % Z = f k
  | 0, hk => absurd hk (by omega)
  | n + 1, hk => by
    have hp := Nat.pow_pos (n := k) hZ
    show (ev Z f n + f n * Z ^ n) / Z ^ k % Z = f k
    by_cases c : k = n
    · rw [c, Nat.add_comm, Nat.mul_comm, Nat.mul_add_div (Nat.pow_pos hZ), Nat.div_eq_of_lt (ev_lt hZ h n), Nat.add_zero, Nat.mod_eq_of_lt (h n)]
    · have ih := ev_dig hZ h (k := k) n (by omega)
      have e : f n * Z ^ n = Z ^ k * (Z * (f n * Z ^ (n - k - 1))) := by
        have e2 : Z ^ n = Z ^ k * (Z * Z ^ (n - k - 1)) := by
          rw [← Nat.pow_succ', ← Nat.pow_add]
          congr 1
          omega
        rw [e2]
        simp only [Nat.mul_assoc, Nat.mul_comm, Nat.mul_left_comm]
      rw [e, Nat.add_comm, Nat.mul_add_div hp, Nat.add_comm, Nat.add_mul_mod_self_left]
      exact ih
theorem sml_len {f : Nat → Nat} {b : Nat} : ∀ L : List Nat, (∀ s, f s ≤ b) → sml f L ≤ L.length * b
  | [], _ => Nat.zero_le _
  | p :: L, h => by
    have := sml_len L h
    have := h p
    show f p + sml f L ≤ (L.length + 1) * b
    rw [Nat.succ_mul]
    omega
theorem cn_le : ∀ (Ss : List (List Nat)) (B : Nat), (∀ S, S ∈ Ss → S.length ≤ B) → ∀ k, cn Ss k ≤ B ^ Ss.length
  | [], B, _, k => by
    show (if k = 0 then 1 else 0) ≤ 1
    split <;> omega
  | S :: Ss, B, h, k => by
    have ih := cn_le Ss B (fun S hS => h S (by simp [hS]))
    have h1 := sml_len (f := fun s => if s ≤ k then cn Ss (k - s) else 0) (b := B ^ Ss.length) S (fun s => by
      show (if s ≤ k then cn Ss (k - s) else 0) ≤ _
      split
      · exact ih _
      · exact Nat.zero_le _)
    rw [List.length_cons, Nat.pow_succ, Nat.mul_comm]
    exact Nat.le_trans h1 (Nat.mul_le_mul_right _ (h S (by simp)))
