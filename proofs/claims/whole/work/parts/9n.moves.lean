-- THE CLASS'S MOVES: a swap of rows r, s and columns c, d is the turn (r, s, s, c, d, c)
abbrev MVt : Type := Nat × Nat × Nat × Nat × Nat × Nat
def shN (y x : Nat) : Nat := 4 * (15 - 4 * y - x)
def oneV (y x : Nat) : Int64 := lN (2 ^ shN y x)
/-- what a move adds -/
def stepV (m : MVt) : Int64 := if m.2.1 = m.2.2.1 then ((oneV m.1 m.2.2.2.1 + oneV m.2.1 m.2.2.2.2.1) - oneV m.1 m.2.2.2.2.1) - oneV m.2.1 m.2.2.2.1 else ((oneV m.1 m.2.2.2.1 + oneV m.2.1 m.2.2.2.2.1) + oneV m.2.2.1 m.2.2.2.2.2) - ((oneV m.1 m.2.2.2.2.1 + oneV m.2.1 m.2.2.2.2.2) + oneV m.2.2.1 m.2.2.2.1)
def mvAt (m : MVt) (i : Nat) (S : St) : Prop := S.2 27 i = stepV m ∧ S.1 28 i = nI (shN m.1 m.2.2.2.2.1) ∧ S.1 29 i = nI (shN m.2.1 m.2.2.2.2.2) ∧ S.1 30 i = nI (shN m.2.2.1 m.2.2.2.1)
def mv0 : MVt := (0, 0, 0, 0, 0, 0)
def MVI (L : List MVt) (S : St) : Prop := S.1 26 1 = nI L.length ∧ ∀ i, i < L.length → mvAt (L.getD i mv0) i S
def freS (a : AS) (r s c d : Nat) : Bool := !hol a r c && (!hol a r d && (!hol a s c && !hol a s d))
def freT (a : AS) (r s t c d e : Nat) : Bool := !hol a r c && (!hol a r d && (!hol a s d && (!hol a s e && (!hol a t e && !hol a t c))))
def swL1 (a : AS) (r s c d : Nat) : List MVt := if c ≠ d ∧ freS a r s c d = true then [(r, s, s, c, d, c)] else []
def swL2 (a : AS) (r s : Nat) : List MVt := upF (fun c => upF (swL1 a r s c) (nC a) 0) (nC a) 0
/-- all swaps in their order -/
def SWs (a : AS) : List MVt := upF (fun r => upF (fun s => swL2 a r s) (nR a - (r + 1)) (r + 1)) (nR a) 0
def tnL1 (a : AS) (r s t c d e : Nat) : List MVt := if c ≠ d ∧ d ≠ e ∧ e ≠ c ∧ freT a r s t c d e = true then [(r, s, t, c, d, e)] else []
def tnL2 (a : AS) (r s t : Nat) : List MVt := if s = t then [] else upF (fun c => upF (fun d => upF (tnL1 a r s t c d) (nC a) 0) (nC a) 0) (nC a) 0
/-- all turns in their order -/
def TNs (a : AS) : List MVt := upF (fun r => upF (fun s => upF (fun t => tnL2 a r s t) (nR a - (r + 1)) (r + 1)) (nR a - (r + 1)) (r + 1)) (nR a) 0
def upN (f : Nat → Nat) : Nat → Nat → Nat
  | 0, _ => 0
  | n + 1, v => f v + upN f n (v + 1)
theorem upF_len {α : Type} {f : Nat → List α} {k : Nat → Nat} (h : ∀ v, (f v).length ≤ k v) : ∀ n v, (upF f n v).length ≤ upN k n v
  | 0, _ => Nat.le_refl _
  | n + 1, v => by
    have ih := upF_len h n (v + 1)
    have := h v
    show (f v ++ upF f n (v + 1)).length ≤ k v + upN k n (v + 1)
    rw [List.length_append]
    omega
def swN (R C : Nat) : Nat := upN (fun r => upN (fun _ => upN (fun c => upN (fun d => if c ≠ d then 1 else 0) C 0) C 0) (R - (r + 1)) (r + 1)) R 0
def tnN (R C : Nat) : Nat := upN (fun r => upN (fun s => upN (fun t => if s = t then 0 else upN (fun c => upN (fun d => upN (fun e => if c ≠ d ∧ d ≠ e ∧ e ≠ c then 1 else 0) C 0) C 0) C 0) (R - (r + 1)) (r + 1)) (R - (r + 1)) (r + 1)) R 0
theorem swtn : ∀ R, R < 5 → ∀ C, C < 5 → swN R C ≤ 72 ∧ swN R C + tnN R C ≤ 264 := by decide +kernel
theorem SWs_le (a : AS) : (SWs a).length ≤ swN (nR a) (nC a) := by
  refine upF_len (fun r => upF_len (fun s => upF_len (fun c => upF_len (fun d => ?_) _ _) _ _) _ _) _ _
  unfold swL1
  by_cases q : c ≠ d
  · rw [if_pos q]
    split
    · exact Nat.le_refl _
    · exact Nat.zero_le _
  · rw [if_neg q, if_neg (fun z => q z.1)]
    exact Nat.le_refl _
theorem TNs_le (a : AS) : (TNs a).length ≤ tnN (nR a) (nC a) := by
  refine upF_len (fun r => upF_len (fun s => upF_len (fun t => ?_) _ _) _ _) _ _
  unfold tnL2
  by_cases q : s = t
  · rw [if_pos q, if_pos q]; exact Nat.le_refl _
  · rw [if_neg q, if_neg q]
    refine upF_len (fun c => upF_len (fun d => upF_len (fun e => ?_) _ _) _ _) _ _
    unfold tnL1
    by_cases q2 : c ≠ d ∧ d ≠ e ∧ e ≠ c
    · rw [if_pos q2]
      split
      · exact Nat.le_refl _
      · exact Nat.zero_le _
    · rw [if_neg q2, if_neg (fun z => q2 ⟨z.1, z.2.1, z.2.2.1⟩)]
      exact Nat.le_refl _
theorem mv_l {L M : List MVt} {i : Nat} (h : i < L.length) : (L ++ M).getD i mv0 = L.getD i mv0 := by
  rw [List.getD_eq_getElem?_getD, List.getD_eq_getElem?_getD, List.getElem?_append_left h]
theorem mv_e {L : List MVt} {p : MVt} : (L ++ [p]).getD L.length mv0 = p := by
  rw [List.getD_eq_getElem?_getD, List.getElem?_append_right (Nat.le_refl _), Nat.sub_self]
  rfl
def FMv (k : Nat) : Prop := 26 ≤ k ∧ k ≤ 30
section MV
variable {g : GX} {d : Nat} {ρ : Rs} {S : St} {a : AS}
theorem sC_add {Q : St → Prop} (hρ : Ok ρ) (hF : ∀ k ∈ ([27, 28, 29, 30, 26] : List Nat), gF g k) {L : List MVt} {m : MVt} {v : Int64} {x y z : Int32} (hL : L.length < 264) (hI : MVI L S) (e0 : v = stepV m) (e1 : x = nI (shN m.1 m.2.2.2.2.1)) (e2 : y = nI (shN m.2.1 m.2.2.2.2.2)) (e3 : z = nI (shN m.2.2.1 m.2.2.2.1)) (h : ∀ S', MVI (L ++ [m]) S' → Fr FMv S S' → (∀ j, j ≠ 1 → S'.1 26 j = S.1 26 j) → Q S') : CALLv g (d + 3) mX5_add [.ref 26, .long v, .int x, .int y, .int z] ρ ρ S Q := by
  refine eX5_add hρ hF ?_
  rw [hI.1, if_neg (show ¬ nI L.length < (0 : Int32) from nI_nlt (b := 0) (by omega) (by omega)), if_pos (show nI L.length < (264 : Int32) from nI_lt (b := 264) (by omega) (by omega)), nI_clamp (show L.length < 2 ^ 31 by omega), nI_1]
  have vi : vp_in (nI L.length) 264 := vp_in_nI hL (by omega)
  have q : ∀ k, 26 ≤ k → k ≤ 30 → FMv k := fun k a b => ⟨a, b⟩
  refine ⟨vi, vi, vi, vi, h _ ⟨?_, fun i hi => ?_⟩ (Fr.tr (Fr.tr (Fr.tr (Fr.tr (Fr.setL (F := FMv) _ _ _ (q 27 (by omega) (by omega))) (Fr.setI (F := FMv) _ _ _ (q 28 (by omega) (by omega)))) (Fr.setI (F := FMv) _ _ _ (q 29 (by omega) (by omega)))) (Fr.setI (F := FMv) _ _ _ (q 30 (by omega) (by omega)))) (Fr.setI (F := FMv) _ _ _ (q 26 (by omega) (by omega)))) (fun j hj => ?_)⟩
  · rw [setI_at, if_pos ⟨rfl, rfl⟩, List.length_append]; rfl
  · rw [List.length_append] at hi
    have hi : i < L.length + 1 := hi
    unfold mvAt
    have r27 : (setI (setI (setI (setI (setL S 27 L.length v) 28 L.length x) 29 L.length y) 30 L.length z) 26 1 (nI (L.length + 1))).2 27 i = if 27 = 27 ∧ i = L.length then v else S.2 27 i := by
      show (setL S 27 L.length v).2 27 i = _
      rw [setL_at]
    have r28 : (setI (setI (setI (setI (setL S 27 L.length v) 28 L.length x) 29 L.length y) 30 L.length z) 26 1 (nI (L.length + 1))).1 28 i = if 28 = 28 ∧ i = L.length then x else S.1 28 i := by
      rw [setI_ne _ _ _ (by decide), setI_ne _ _ _ (by decide), setI_ne _ _ _ (by decide), setI_at]
      rfl
    have r29 : (setI (setI (setI (setI (setL S 27 L.length v) 28 L.length x) 29 L.length y) 30 L.length z) 26 1 (nI (L.length + 1))).1 29 i = if 29 = 29 ∧ i = L.length then y else S.1 29 i := by
      rw [setI_ne _ _ _ (by decide), setI_ne _ _ _ (by decide), setI_at, setI_ne _ _ _ (by decide)]
      rfl
    have r30 : (setI (setI (setI (setI (setL S 27 L.length v) 28 L.length x) 29 L.length y) 30 L.length z) 26 1 (nI (L.length + 1))).1 30 i = if 30 = 30 ∧ i = L.length then z else S.1 30 i := by
      rw [setI_ne _ _ _ (by decide), setI_at, setI_ne _ _ _ (by decide), setI_ne _ _ _ (by decide)]
      rfl
    rw [r27, r28, r29, r30]
    by_cases c : i = L.length
    · rw [if_pos ⟨rfl, c⟩, if_pos ⟨rfl, c⟩, if_pos ⟨rfl, c⟩, if_pos ⟨rfl, c⟩, c, mv_e]
      exact ⟨e0, e1, e2, e3⟩
    · rw [if_neg (fun z => c z.2), if_neg (fun z => c z.2), if_neg (fun z => c z.2), if_neg (fun z => c z.2), mv_l (by omega)]
      exact hI.2 i (by omega)
  · rw [setI_at, if_neg (fun z => hj z.2), setI_ne _ _ _ (by decide), setI_ne _ _ _ (by decide), setI_ne _ _ _ (by decide)]; rfl
theorem sC_swapStep {Q : Int64 → St → Prop} (hρ : Ok ρ) {r s c e : Nat} (hr : r < 4) (hs : s < 4) (hc : c < 4) (he : e < 4) (h : Q (((oneV r c + oneV s e) - oneV r e) - oneV s c) S) : CALLl g (d + 5) mX3_swapStep [.int (nI r), .int (nI s), .int (nI c), .int (nI e)] ρ ρ S Q := by
  refine eX3_swapStep hρ (sC_one hρ hr hc (sC_one hρ hs he (sC_one hρ hr he (sC_one hρ hs hc ?_))))
  exact h
/-- a loop over one number that appends -/
theorem sC_addSwaps {Q : St → Prop} (hρ : Ok ρ) (hF : ∀ k ∈ ([27, 28, 29, 30, 26] : List Nat), gF g k) (hW : WF a) (hI : IB a S) {L : List MVt} {r s : Nat} (hr : r < nR a) (hs : s < nR a) (hL : L.length + (swL2 a r s).length ≤ 264) (hM : MVI L S) (h : ∀ S', MVI (L ++ swL2 a r s) S' → Fr FMv S S' → (∀ j, j ≠ 1 → S'.1 26 j = S.1 26 j) → Q S') : CALLv g (d + 6) mX5_addSwaps [.ref 26, .ref 21, .int (nI r), .int (nI s)] ρ ρ S Q := by
  have hle := hW.le
  have hIm : ∀ {S'}, Fr FMv S S' → IB a S' := fun f => hI.fr (fun k hk z => by unfold FMv at z; omega) f
  refine eX5_addSwaps hρ ?_
  have cs : ∀ n c L' S1, n + c = nC a → L ++ swL2 a r s = L' ++ upF (fun c => upF (swL1 a r s c) (nC a) 0) n c → MVI L' S1 → Fr FMv S S1 → (∀ j, j ≠ 1 → S1.1 26 j = S.1 26 j) → AW g ρ (QV Q) (d + 5 + 1) mX5_addSwaps 3 [(0, .ref 26), (1, .ref 21), (2, .int (nI r)), (3, .int (nI s)), (4, .int (nI c))] [] ρ S1 := by
    intro n
    induction n with
    | zero =>
      intro c L' S1 hc eL m1 m2 m3
      refine eX5_addSwaps_3 hρ ?_
      rw [(hIm m2).2.2.2.2.2.1, if_pos (nI_le (by omega) (by omega))]
      rw [show upF (fun c => upF (swL1 a r s c) (nC a) 0) 0 c = [] from rfl, List.append_nil] at eL
      rw [← eL] at m1
      exact h S1 m1 m2 m3
    | succ n ih =>
      intro c L' S1 hc eL m1 m2 m3
      refine eX5_addSwaps_3 hρ ?_
      rw [(hIm m2).2.2.2.2.2.1, if_neg (nI_ge (by omega) (by omega))]
      have eL2 : L ++ swL2 a r s = L' ++ (upF (swL1 a r s c) (nC a) 0 ++ upF (fun c => upF (swL1 a r s c) (nC a) 0) n (c + 1)) := eL
      have ds : ∀ k e L2 S2, k + e = nC a → L ++ swL2 a r s = L2 ++ (upF (swL1 a r s c) k e ++ upF (fun c => upF (swL1 a r s c) (nC a) 0) n (c + 1)) → MVI L2 S2 → Fr FMv S S2 → (∀ j, j ≠ 1 → S2.1 26 j = S.1 26 j) → AW g ρ (QV Q) (d + 5 + 1) mX5_addSwaps 15 [(0, .ref 26), (1, .ref 21), (2, .int (nI r)), (3, .int (nI s)), (4, .int (nI c)), (5, .int (nI e))] [] ρ S2 := by
        intro k
        induction k with
        | zero =>
          intro e L2 S2 he eL3 p1 p2 p3
          refine eX5_addSwaps_15 hρ ?_
          rw [(hIm p2).2.2.2.2.2.1, if_pos (nI_le (by omega) (by omega)), nI_1]
          exact ih (c + 1) L2 S2 (by omega) eL3 p1 p2 p3
        | succ k ihk =>
          intro e L2 S2 he eL3 p1 p2 p3
          have hI2 := hIm p2
          have eL4 : L ++ swL2 a r s = L2 ++ ((swL1 a r s c e ++ upF (swL1 a r s c) k (e + 1)) ++ upF (fun c => upF (swL1 a r s c) (nC a) 0) n (c + 1)) := eL3
          have skip : ¬ (c ≠ e ∧ freS a r s c e = true) → AW g ρ (QV Q) (d + 5 + 1) mX5_addSwaps 15 [(0, .ref 26), (1, .ref 21), (2, .int (nI r)), (3, .int (nI s)), (4, .int (nI c)), (5, .int (nI e + 1))] [] ρ S2 := by
            intro z
            rw [nI_1]
            have e0 : swL1 a r s c e = [] := by unfold swL1; rw [if_neg z]
            rw [e0, List.nil_append] at eL4
            exact ihk (e + 1) L2 S2 (by omega) eL4 p1 p2 p3
          have no : freS a r s c e = false → AW g ρ (QV Q) (d + 5 + 1) mX5_addSwaps 69 [(0, .ref 26), (1, .ref 21), (2, .int (nI r)), (3, .int (nI s)), (4, .int (nI c)), (5, .int (nI e))] [.int 0] ρ S2 := by
            intro z
            refine eX5_addSwaps_69 hρ ?_
            have sk := skip (fun q => by rw [z] at q; exact absurd q.2 (by decide))
            by_cases ce : nI c = nI e
            · rw [if_pos ce]; exact sk
            · rw [if_neg ce, if_pos rfl]; exact sk
          refine eX5_addSwaps_15 hρ ?_
          rw [hI2.2.2.2.2.2.1, if_neg (nI_ge (by omega) (by omega))]
          refine sC_isHole hρ hI2 (show r < 4 by omega) (show c < 4 by omega) ?_
          cases h1 : hol a r c with
          | true => rw [if_neg (by decide)]; exact no (by unfold freS; rw [h1]; rfl)
          | false =>
            rw [if_pos (show (if false = true then (1 : Int32) else 0) = 0 from rfl)]
            refine sC_isHole hρ hI2 (show r < 4 by omega) (show e < 4 by omega) ?_
            cases h2 : hol a r e with
            | true => rw [if_neg (by decide)]; exact no (by unfold freS; rw [h1, h2]; rfl)
            | false =>
              rw [if_pos (show (if false = true then (1 : Int32) else 0) = 0 from rfl)]
              refine sC_isHole hρ hI2 (show s < 4 by omega) (show c < 4 by omega) ?_
              cases h3 : hol a s c with
              | true => rw [if_neg (by decide)]; exact no (by unfold freS; rw [h1, h2, h3]; rfl)
              | false =>
                rw [if_pos (show (if false = true then (1 : Int32) else 0) = 0 from rfl)]
                refine sC_isHole hρ hI2 (show s < 4 by omega) (show e < 4 by omega) ?_
                cases h4 : hol a s e with
                | true => rw [if_neg (by decide)]; exact no (by unfold freS; rw [h1, h2, h3, h4]; rfl)
                | false =>
                  rw [if_pos (show (if false = true then (1 : Int32) else 0) = 0 from rfl)]
                  have hfr : freS a r s c e = true := by unfold freS; rw [h1, h2, h3, h4]; rfl
                  refine eX5_addSwaps_69 hρ ?_
                  by_cases ce : c = e
                  · rw [if_pos (by rw [ce])]
                    exact skip (fun q => q.1 ce)
                  · rw [if_neg (by rw [nI_eq (by omega) (by omega)]; exact ce), if_neg (by decide)]
                    have e0 : swL1 a r s c e = [(r, s, s, c, e, c)] := by unfold swL1; rw [if_pos ⟨ce, hfr⟩]
                    rw [e0] at eL4
                    have hlen := congrArg List.length eL4
                    rw [List.length_append, List.length_append, List.length_append, List.length_append] at hlen
                    have h1l : ([(r, s, s, c, e, c)] : List MVt).length = 1 := rfl
                    refine sC_shift hρ (show s < 4 by omega) (show c < 4 by omega) (sC_swapStep hρ (show r < 4 by omega) (show s < 4 by omega) (show c < 4 by omega) (show e < 4 by omega) (sC_shift hρ (show r < 4 by omega) (show e < 4 by omega) ?_))
                    refine sC_add (m := (r, s, s, c, e, c)) hρ hF (by omega) p1 (by unfold stepV; rw [if_pos rfl]) rfl rfl rfl (fun S3 t1 t2 t3 => ?_)
                    rw [nI_1]
                    exact ihk (e + 1) (L2 ++ [(r, s, s, c, e, c)]) S3 (by omega) (by rw [eL4, List.append_assoc, List.append_assoc]) t1 (Fr.tr p2 t2) (fun j hj => (t3 j hj).trans (p3 j hj))
      exact ds (nC a) 0 L' S1 (by omega) eL2 m1 m2 m3
  exact cs (nC a) 0 L S (by omega) rfl hM (Fr.rf S) (fun _ _ => rfl)
end MV
