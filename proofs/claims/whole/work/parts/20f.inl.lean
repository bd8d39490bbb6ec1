theorem iX1_isLast {g : GX} {d : Nat} {ρ : Rs} {S : St} {Q : Int32 → St → Prop} {x v : Int32} (hρ : Ok ρ) (hx : vp_in (S.1 31 1) 5) (h1 : ¬ S.1 43 (S.1 31 1).toNatClampNeg < 0) (h2 : ¬ 480 < S.1 43 (S.1 31 1).toNatClampNeg) (hv : (if S.1 43 (S.1 31 1).toNatClampNeg ≤ x then 1 else 0) = v) (h : Q v S) : CALLi g (d + 2) mX1_isLast [.ref 31, .int x] ρ ρ S Q := by
  refine eX1_isLast hρ ⟨hx, h1, h2, ?_⟩
  subst hv
  by_cases c : x < S.1 43 (S.1 31 1).toNatClampNeg
  · rw [if_pos c]
    rw [if_neg (Int32.not_le.mpr c)] at h
    exact h
  · rw [if_neg c]
    rw [if_pos (Int32.not_lt.mp c)] at h
    exact h
