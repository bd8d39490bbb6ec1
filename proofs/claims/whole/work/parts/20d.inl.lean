section Inl
variable {g : GX} {d : Nat} {ρ : Rs} {S : St}
theorem iX9_rowSum {Q : Int32 → St → Prop} {x v : Int32} (hρ : Ok ρ) (hx : vp_in x 4) (hv : S.1 22 x.toNatClampNeg = v) (h : Q v S) : CALLi g (d + 1) mX9_rowSum [.ref 21, .int x] ρ ρ S Q := eX9_rowSum hρ ⟨hx, by rw [hv]; exact h⟩
theorem iX9_columnSum {Q : Int32 → St → Prop} {x v : Int32} (hρ : Ok ρ) (hx : vp_in x 4) (hv : S.1 23 x.toNatClampNeg = v) (h : Q v S) : CALLi g (d + 1) mX9_columnSum [.ref 21, .int x] ρ ρ S Q := eX9_columnSum hρ ⟨hx, by rw [hv]; exact h⟩
theorem iX1_nodeBy {Q : Int32 → St → Prop} {x v : Int32} (hρ : Ok ρ) (hx : vp_in x 4800) (hv : S.1 46 x.toNatClampNeg = v) (h : Q v S) : CALLi g (d + 1) mX1_nodeBy [.ref 31, .int x] ρ ρ S Q := eX1_nodeBy hρ ⟨hx, by rw [hv]; exact h⟩
theorem iX6_cellsAt {Q : Int64 → St → Prop} {x : Int32} {v : Int64} (hρ : Ok ρ) (hx : vp_in x 1000) (hv : S.2 71 x.toNatClampNeg = v) (h : Q v S) : CALLl g (d + 1) mX6_cellsAt [.ref 70, .int x] ρ ρ S Q := eX6_cellsAt hρ ⟨hx, by rw [hv]; exact h⟩
theorem iX6_distanceOf {Q : Int32 → St → Prop} {x v : Int32} (hρ : Ok ρ) (hx : vp_in x 1000) (hv : S.1 76 x.toNatClampNeg = v) (h : Q v S) : CALLi g (d + 1) mX6_distanceOf [.ref 70, .int x] ρ ρ S Q := eX6_distanceOf hρ ⟨hx, by rw [hv]; exact h⟩
theorem iX8_countAt {Q : Int32 → St → Prop} {y x v : Int32} (hρ : Ok ρ) (hx : vp_in (4 * y + x) 16) (hv : S.1 20 (4 * y + x).toNatClampNeg = v) (h : Q v S) : CALLi g (d + 1) mX8_countAt [.ref 19, .int y, .int x] ρ ρ S Q := eX8_countAt hρ ⟨hx, by rw [hv]; exact h⟩
theorem iX2_firstOf {Q : Int32 → St → Prop} {x v : Int32} (hρ : Ok ρ) (hx : vp_in x 5) (h1 : ¬ S.1 33 x.toNatClampNeg < 0) (h2 : ¬ 320 < S.1 33 x.toNatClampNeg) (hv : S.1 33 x.toNatClampNeg = v) (h : Q v S) : CALLi g (d + 1) mX2_firstOf [.ref 32, .int x] ρ ρ S Q := eX2_firstOf hρ ⟨hx, h1, h2, by rw [hv]; exact h⟩
theorem iX1_firstNode {Q : Int32 → St → Prop} {x v : Int32} (hρ : Ok ρ) (hx : vp_in x 5) (h1 : ¬ S.1 43 x.toNatClampNeg < 0) (h2 : ¬ 480 < S.1 43 x.toNatClampNeg) (hv : S.1 43 x.toNatClampNeg = v) (h : Q v S) : CALLi g (d + 1) mX1_firstNode [.ref 31, .int x] ρ ρ S Q := eX1_firstNode hρ ⟨hx, h1, h2, by rw [hv]; exact h⟩
theorem iX1_firstLinkOf {Q : Int32 → St → Prop} {x v : Int32} (hρ : Ok ρ) (hx : vp_in x 481) (h1 : ¬ S.1 44 x.toNatClampNeg < 0) (h2 : ¬ 4800 < S.1 44 x.toNatClampNeg) (hv : S.1 44 x.toNatClampNeg = v) (h : Q v S) : CALLi g (d + 1) mX1_firstLinkOf [.ref 31, .int x] ρ ρ S Q := eX1_firstLinkOf hρ ⟨hx, h1, h2, by rw [hv]; exact h⟩
theorem iX1_lineBy {Q : Int32 → St → Prop} {x v : Int32} (hρ : Ok ρ) (hx : vp_in x 4800) (h2 : vp_in (S.1 45 x.toNatClampNeg) 320) (hv : S.1 34 (S.1 45 x.toNatClampNeg).toNatClampNeg = v) (h : Q v S) : CALLi g (d + 1) mX1_lineBy [.ref 31, .int x] ρ ρ S Q := eX1_lineBy hρ ⟨hx, h2, by rw [hv]; exact h⟩
theorem iX1_partBy {Q : Int64 → St → Prop} {w x : Int32} {v : Int64} (hρ : Ok ρ) (hw : vp_in w 4) (hx : vp_in x 4800) (h2 : vp_in (S.1 45 x.toNatClampNeg) 320) (hv : S.2 (38 + w.toNatClampNeg) (S.1 45 x.toNatClampNeg).toNatClampNeg = v) (h : Q v S) : CALLl g (d + 1) mX1_partBy [.ref 31, .int w, .int x] ρ ρ S Q := by
  refine eX1_partBy hρ ?_
  rw [if_neg (vnn hx), if_neg (show ¬ (4800 : Int32) ≤ _ from vge hx (by decide)), hv]
  exact ⟨hx, hw, h2, h⟩
end Inl
