-- the small helpers where their indexes are inside
section Inl
variable {g : GX} {d : Nat} {ρ : Rs} {S : St}
theorem iX7_get {Q : Int32 → St → Prop} {k n : Nat} {x v : Int32} (hρ : Ok ρ) (h16 : 16 ≤ k) (hn : k < rn ρ) (hs : shp ρ k = .inr (0, n)) (hb : n < 2147483648) (hx : vp_in x n) (hv : S.1 k x.toNatClampNeg = v) (h : Q v S) : CALLi g d mX7_get [.ref k, .int x] ρ ρ S Q := by
  refine eX7_get hρ h16 hn hs ?_
  rw [if_neg (vnn hx), if_neg (vge hx hb), hv]
  exact ⟨hx, h⟩
theorem iX7_get_ {Q : Int64 → St → Prop} {k n : Nat} {x : Int32} {v : Int64} (hρ : Ok ρ) (h16 : 16 ≤ k) (hn : k < rn ρ) (hs : shp ρ k = .inr (1, n)) (hb : n < 2147483648) (hx : vp_in x n) (hv : S.2 k x.toNatClampNeg = v) (h : Q v S) : CALLl g d mX7_get_ [.ref k, .int x] ρ ρ S Q := by
  refine eX7_get_ hρ h16 hn hs ?_
  rw [if_neg (vnn hx), if_neg (vge hx hb), hv]
  exact ⟨hx, h⟩
theorem iX7_get__ {Q : Int32 → St → Prop} {k n : Nat} {x v : Int32} (hρ : Ok ρ) (h16 : 16 ≤ k) (hn : k < rn ρ) (hs : shp ρ k = .inr (2, n)) (hb : n < 2147483648) (hx : vp_in x n) (hv : (if S.1 k x.toNatClampNeg = 0 then 0 else 1) = v) (h : Q v S) : CALLi g d mX7_get__ [.ref k, .int x] ρ ρ S Q := by
  refine eX7_get__ hρ h16 hn hs ?_
  rw [if_neg (vnn hx), if_neg (vge hx hb)]
  refine ⟨hx, ?_⟩
  subst hv
  by_cases c : S.1 k x.toNatClampNeg = 0
  · rw [if_pos c] at h ⊢; exact h
  · rw [if_neg c] at h ⊢; exact h
theorem iX7_put {Q : St → Prop} {k n jx : Nat} {x v : Int32} (hρ : Ok ρ) (h16 : 16 ≤ k) (hn : k < rn ρ) (hs : shp ρ k = .inr (0, n)) (hF : gF g k) (hj : x.toNatClampNeg = jx) (hb : n < 2147483648) (hx : vp_in x n) (h : Q (setI S k jx v)) : CALLv g d mX7_put [.ref k, .int x, .int v] ρ ρ S Q := by
  refine eX7_put hρ h16 hn hs hF ?_
  rw [if_neg (vnn hx), if_neg (vge hx hb), hj]
  exact ⟨hx, h⟩
theorem iX7_put_ {Q : St → Prop} {k n jx : Nat} {x : Int32} {v : Int64} (hρ : Ok ρ) (h16 : 16 ≤ k) (hn : k < rn ρ) (hs : shp ρ k = .inr (1, n)) (hF : gF g k) (hj : x.toNatClampNeg = jx) (hb : n < 2147483648) (hx : vp_in x n) (h : Q (setL S k jx v)) : CALLv g d mX7_put_ [.ref k, .int x, .long v] ρ ρ S Q := by
  refine eX7_put_ hρ h16 hn hs hF ?_
  rw [if_neg (vnn hx), if_neg (vge hx hb), hj]
  exact ⟨hx, h⟩
theorem iX7_put__ {Q : St → Prop} {k n jx : Nat} {x v : Int32} (hρ : Ok ρ) (h16 : 16 ≤ k) (hn : k < rn ρ) (hs : shp ρ k = .inr (2, n)) (hF : gF g k) (hj : x.toNatClampNeg = jx) (hb : n < 2147483648) (hx : vp_in x n) (hz : Bz v) (h : Q (setI S k jx v)) : CALLv g d mX7_put__ [.ref k, .int x, .int v] ρ ρ S Q := by
  refine eX7_put__ hρ h16 hn hs hF ?_
  rw [if_neg (vnn hx), if_neg (vge hx hb), hj]
  exact ⟨hx, hz, h⟩
theorem iX7_cut {Q : Int32 → St → Prop} {x t v : Int32} (hρ : Ok ρ) (h1 : ¬ x < 0) (h2 : ¬ t < x) (hv : x = v) (h : Q v S) : CALLi g d mX7_cut [.int x, .int t] ρ ρ S Q := by
  subst hv
  refine eX7_cut hρ ?_
  rw [if_pos (Int32.not_lt.mp h1), if_pos (Int32.not_lt.mp h2)]
  exact h
theorem iX4_slot {Q : Int32 → St → Prop} {w f v : Int32} (hρ : Ok ρ) (hv : w * 480 + f = v) (h : Q v S) : CALLi g d mX4_slot [.int w, .int f] ρ ρ S Q := by
  subst hv
  exact eX4_slot hρ h
theorem iX7_getF {Q : Int64 → St → Prop} {k : Nat} {w f : Int32} {v : Int64} (hρ : Ok ρ) (h16 : 16 ≤ k) (hn : k < rn ρ) (hs : shp ρ k = .inr (3, 480)) (hw : vp_in w 4) (hf : vp_in f 480) (hv : S.2 (k + 1 + w.toNatClampNeg) f.toNatClampNeg = v) (h : Q v S) : CALLl g d mX7_get_ [.ref k, .int (w * 480 + f)] ρ ρ S Q := by
  obtain ⟨a, b, c⟩ := slot_in (c := 480) rfl (Nat.le_refl 480) hw hf
  refine eX7_get_F hρ h16 hn hs ?_
  rw [if_neg (vnn a), if_neg (vge a (by decide)), b, c, hv]
  exact ⟨a, h⟩
theorem iX7_putF {Q : St → Prop} {k : Nat} {w f : Int32} {v : Int64} (hρ : Ok ρ) (h16 : 16 ≤ k) (hn : k < rn ρ) (hs : shp ρ k = .inr (3, 480)) (hF : ∀ i, i < 4 → gF g (k + 1 + i)) (hw : vp_in w 4) (hf : vp_in f 480) (h : Q (setL S (k + 1 + w.toNatClampNeg) f.toNatClampNeg v)) : CALLv g d mX7_put_ [.ref k, .int (w * 480 + f), .long v] ρ ρ S Q := by
  obtain ⟨a, b, c⟩ := slot_in (c := 480) rfl (Nat.le_refl 480) hw hf
  refine eX7_put_F hρ h16 hn hs hF ?_
  rw [if_neg (vnn a), if_neg (vge a (by decide)), b, c]
  exact ⟨a, h⟩
theorem iX2_partOf {Q : Int64 → St → Prop} {w f : Int32} {v : Int64} (hρ : Ok ρ) (hw : vp_in w 4) (hf : vp_in f 320) (hv : S.2 (38 + w.toNatClampNeg) f.toNatClampNeg = v) (h : Q v S) : CALLl g d mX2_partOf [.ref 32, .int w, .int f] ρ ρ S Q := by
  obtain ⟨a, b, c⟩ := slot_in (c := 320) (n := 320) rfl (by decide) hw hf
  refine eX2_partOf hρ ?_
  rw [if_neg (vnn a), if_neg (show ¬ (1280 : Int32) ≤ _ from vge a (by decide)), b, c, hv]
  exact ⟨a, h⟩
theorem iX1_aheadOf {Q : Int64 → St → Prop} {x : Int32} {v : Int64} (hρ : Ok ρ) (hx : vp_in x 480) (hv : S.2 47 x.toNatClampNeg = v) (h : Q v S) : CALLl g d mX1_aheadOf [.ref 31, .int x] ρ ρ S Q := by
  refine eX1_aheadOf hρ ?_
  rw [if_neg (vnn hx), if_neg (show ¬ (480 : Int32) ≤ _ from vge hx (by decide)), hv]
  exact ⟨hx, h⟩
theorem iX5_moved {Q : Int64 → St → Prop} {c : Int64} {x : Int32} {v : Int64} (hρ : Ok ρ) (hx : vp_in x 264) (hv : c + S.2 27 x.toNatClampNeg = v) (h : Q v S) : CALLl g d mX5_moved [.ref 26, .long c, .int x] ρ ρ S Q := by
  refine eX5_moved hρ ?_
  rw [if_neg (vnn hx), if_neg (show ¬ (264 : Int32) ≤ _ from vge hx (by decide)), hv]
  exact ⟨hx, h⟩
theorem iX6_firstNearOf {Q : Int32 → St → Prop} {kn nn : Nat} {x v : Int32} (hρ : Ok ρ) (hR : rR ρ 70 6 = some kn) (h16 : 16 ≤ kn) (hn : kn < rn ρ) (hs : shp ρ kn = .inr (0, nn)) (hx : vp_in x 1001) (h1 : ¬ S.1 72 x.toNatClampNeg < 0) (h2 : ¬ Int32.ofNat nn < S.1 72 x.toNatClampNeg) (hv : S.1 72 x.toNatClampNeg = v) (h : Q v S) : CALLi g d mX6_firstNearOf [.ref 70, .int x] ρ ρ S Q := by
  refine eX6_firstNearOf hρ hR h16 hn hs ?_
  have h3 : ¬ (1000 : Int32) < x := by
    obtain ⟨j, q1, q2, rfl⟩ := vnI hx
    exact nI_nlt (a := 1000) (b := j) (by omega) (by decide)
  rw [if_neg (vnn hx), if_neg h3, if_neg h1, if_neg h2, hv]
  exact ⟨hx, h⟩
theorem part_at {x : Int32} {w : Nat} {c : Int32} (hc : c = nI (320 * w)) (hw : w < 4) (hx : vp_in x 320) : vp_in (c + x) (4 * 320) ∧ 38 + (c + x).toNatClampNeg / 320 = 38 + w ∧ (c + x).toNatClampNeg % 320 = x.toNatClampNeg := by
  obtain ⟨j, q1, q2, rfl⟩ := vnI hx
  rw [hc, nI_add, nI_clamp (by omega), nI_clamp q2]
  exact ⟨vp_in_nI (by omega) (by decide), by omega, by omega⟩
theorem iX2_putParts {Q : St → Prop} {a b c e : Int64} (hρ : Ok ρ) (hF : ∀ i, i < 4 → gF g (38 + i)) (hx : vp_in (S.1 32 7) 320) (h : Q (setL (setL (setL (setL S 38 (S.1 32 7).toNatClampNeg a) 39 (S.1 32 7).toNatClampNeg b) 40 (S.1 32 7).toNatClampNeg c) 41 (S.1 32 7).toNatClampNeg e)) : CALLv g d mX2_putParts [.ref 32, .long a, .long b, .long c, .long e] ρ ρ S Q := by
  refine eX2_putParts hρ hF ?_
  have z0 := part_at (c := 0) (w := 0) rfl (by decide) hx
  rw [Int32.zero_add] at z0
  have z1 := part_at (c := 320) (w := 1) rfl (by decide) hx
  have z2 := part_at (c := 640) (w := 2) rfl (by decide) hx
  have z3 := part_at (c := 960) (w := 3) rfl (by decide) hx
  rw [if_neg (vnn hx), if_neg (show ¬ (320 : Int32) ≤ _ from vge hx (by decide)), z0.2.1, z0.2.2, z1.2.1, z1.2.2, z2.2.1, z2.2.2, z3.2.1, z3.2.2]
  exact ⟨z0.1, z1.1, z2.1, z3.1, h⟩
end Inl
