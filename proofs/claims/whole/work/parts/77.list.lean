-- THE LIST OF TABLES: what is sorted and has the same members is the same
theorem su {α : Type} (f : α → Nat) : ∀ L M : List α, L.Pairwise (fun a b => f a < f b) → M.Pairwise (fun a b => f a < f b) → (∀ a, a ∈ L ↔ a ∈ M) → L = M
  | [], [], _, _, _ => rfl
  | [], b :: M, _, _, h => absurd ((h b).mpr (by simp)) (by simp)
  | a :: L, [], _, _, h => absurd ((h a).mp (by simp)) (by simp)
  | a :: L, b :: M, hL, hM, h => by
    rw [List.pairwise_cons] at hL hM
    have e : a = b := by
      rcases List.mem_cons.mp ((h a).mp (by simp)) with q | q
      · exact q
      · rcases List.mem_cons.mp ((h b).mpr (by simp)) with z | z
        · exact z.symm
        · have h1 := hM.1 a q
          have h2 := hL.1 b z
          omega
    subst e
    have r : L = M := by
      apply su f L M hL.2 hM.2
      intro c
      constructor
      · intro q
        rcases List.mem_cons.mp ((h c).mp (List.mem_cons_of_mem _ q)) with z | z
        · subst z
          have h1 := hL.1 c q
          omega
        · exact z
      · intro q
        rcases List.mem_cons.mp ((h c).mpr (List.mem_cons_of_mem _ q)) with z | z
        · subst z
          have h1 := hM.1 c q
          omega
        · exact z
    rw [r]
/-- what a table packs to tells it, where it is laid -/
theorem pack_inj {t u : Nat → Nat → Nat} (ht : ∀ y x, t y x < 16) (hu : ∀ y x, u y x < 16) (h : pack t = pack u) {y x : Nat} (hy : y < 4) (hx : x < 4) : t y x = u y x := by
  rw [← pack_get ht hy hx, ← pack_get hu hy hx, h]
theorem Tab.eq {R C : Nat} {h : Nat → Nat → Bool} {t u : Nat → Nat → Nat} (hR : R ≤ 4) (hC : C ≤ 4) (hT : Tab R C h t) (hU : Tab R C h u) (ht : ∀ y x, t y x < 16) (hu : ∀ y x, u y x < 16) (e : pack t = pack u) : t = u := by
  funext y x
  by_cases c : y < R ∧ x < C
  · exact pack_inj ht hu e (by omega) (by omega)
  · rw [hT.1 y x c, hU.1 y x c]
