-- CHOICES COUNTED
noncomputable def ind (p : Prop) : Nat := @ite Nat p (Classical.propDecidable p) 1 0
theorem ind_y {p : Prop} (h : p) : ind p = 1 := if_pos h
theorem ind_n {p : Prop} (h : ¬ p) : ind p = 0 := if_neg h
theorem ind_iff {p q : Prop} (h : p ↔ q) : ind p = ind q := by rw [propext h]
def sg (f : Nat → Nat) : Nat → Nat
  | 0 => 0
  | n + 1 => sg f n + f n
theorem sg_cg {f f' : Nat → Nat} : ∀ {n : Nat}, (∀ i, i < n → f i = f' i) → sg f n = sg f' n
  | 0, _ => rfl
  | n + 1, h => by
    show sg f n + f n = sg f' n + f' n
    rw [sg_cg (n := n) (fun i hi => h i (by omega)), h n (by omega)]
theorem sg_add {f f' : Nat → Nat} : ∀ n, sg (fun i => f i + f' i) n = sg f n + sg f' n
  | 0 => rfl
  | n + 1 => by
    show sg (fun i => f i + f' i) n + (f n + f' n) = (sg f n + f n) + (sg f' n + f' n)
    rw [sg_add n]; omega
theorem sg_mul {f : Nat → Nat} (c : Nat) : ∀ n, sg (fun i => c * f i) n = c * sg f n
  | 0 => rfl
  | n + 1 => by
    show sg (fun i => c * f i) n + c * f n = c * (sg f n + f n)
    rw [sg_mul c n, Nat.mul_add]
theorem sg_0 : ∀ n, sg (fun _ => 0) n = 0
  | 0 => rfl
  | n + 1 => sg_0 n
theorem sg_sw {f : Nat → Nat → Nat} {m : Nat} : ∀ n, sg (fun i => sg (fun j => f i j) m) n = sg (fun j => sg (fun i => f i j) n) m
  | 0 => (sg_0 m).symm
  | n + 1 => by
    show sg (fun i => sg (fun j => f i j) m) n + sg (fun j => f n j) m = sg (fun j => sg (fun i => f i j) n + f n j) m
    rw [sg_sw n, sg_add]
theorem sg_ind {f : Nat → Nat} {x : Nat} : ∀ {n : Nat}, x < n → sg (fun k => f k * ind (x = k)) n = f x
  | 0, h => absurd h (by omega)
  | n + 1, h => by
    show sg (fun k => f k * ind (x = k)) n + f n * ind (x = n) = f x
    by_cases c : x = n
    · rw [ind_y c, Nat.mul_one, c]
      have : sg (fun k => f k * ind (n = k)) n = sg (fun _ => 0) n := sg_cg (fun i hi => by rw [ind_n (by omega), Nat.mul_zero])
      rw [this, sg_0, Nat.zero_add]
    · rw [ind_n c, Nat.mul_zero, Nat.add_zero]
      exact sg_ind (by omega)
theorem sg_app (f : Nat → Nat) (m : Nat) : ∀ n, sg f (m + n) = sg f m + sg (fun j => f (m + j)) n
  | 0 => rfl
  | n + 1 => by
    show sg f (m + n) + f (m + n) = sg f m + (sg (fun j => f (m + j)) n + f (m + n))
    rw [sg_app f m n]; omega
theorem sg_blk (f : Nat → Nat) (n : Nat) : ∀ m, sg f (m * n) = sg (fun i => sg (fun j => f (i * n + j)) n) m
  | 0 => by rw [Nat.zero_mul]; rfl
  | m + 1 => by
    rw [Nat.succ_mul, sg_app, sg_blk f n m]
    rfl
theorem sg256 (f : Nat → Nat) : sg f 256 = sg (fun r => sg (fun s => sg (fun x => sg (fun w => f (64 * r + 16 * s + 4 * x + w)) 4) 4) 4) 4 := by
  rw [show 256 = 4 * 64 from rfl, sg_blk]
  refine sg_cg (fun r _ => ?_)
  rw [show 64 = 4 * 16 from rfl, sg_blk]
  refine sg_cg (fun s _ => ?_)
  rw [show 16 = 4 * 4 from rfl, sg_blk]
  refine sg_cg (fun x _ => sg_cg (fun w _ => ?_))
  congr 1
  omega
theorem sg4 (f : Nat → Nat) : sg f 4 = f 0 + f 1 + f 2 + f 3 := by
  show 0 + f 0 + f 1 + f 2 + f 3 = _
  omega
/-- a choice of rows and columns -/
def vS (a : AS) (r s x w : Nat) : Prop := r ≠ s ∧ x ≠ w ∧ r < nR a ∧ s < nR a ∧ x < nC a ∧ w < nC a
theorem vC_S {a : AS} {r s x w : Nat} (hr : r < 4) (hs : s < 4) (hx : x < 4) (hw : w < 4) : (vC a (64 * r + 16 * s + 4 * x + w) ↔ vS a r s x w) ∧ mC (64 * r + 16 * s + 4 * x + w) = (r, s, s, x, w, x) := by
  have a1 : (64 * r + 16 * s + 4 * x + w) / 64 = r := by omega
  have a2 : (64 * r + 16 * s + 4 * x + w) / 16 % 4 = s := by omega
  have a3 : (64 * r + 16 * s + 4 * x + w) / 4 % 4 = x := by omega
  have a4 : (64 * r + 16 * s + 4 * x + w) % 4 = w := by omega
  unfold vC mC vS
  rw [a1, a2, a3, a4]
  exact ⟨Iff.rfl, rfl⟩
/-- a sum over all choices -/
theorem sg_ch {a : AS} (P : MVt → Prop) (F : MVt → Nat) : sg (fun c => ind (vC a c ∧ P (mC c)) * F (mC c)) 256 = sg (fun r => sg (fun s => sg (fun x => sg (fun w => ind (vS a r s x w ∧ P (r, s, s, x, w, x)) * F (r, s, s, x, w, x)) 4) 4) 4) 4 := by
  rw [sg256]
  refine sg_cg (fun r hr => sg_cg (fun s hs => sg_cg (fun x hx => sg_cg (fun w hw => ?_))))
  obtain ⟨h1, h2⟩ := vC_S (a := a) hr hs hx hw
  rw [h2, ind_iff (and_congr_left (fun _ => h1))]
theorem sq4 (G : Nat → Nat → Nat) : sg (fun x => sg (fun w => G x w) 4) 4 = G 0 0 + G 0 1 + G 0 2 + G 0 3 + G 1 0 + G 1 1 + G 1 2 + G 1 3 + G 2 0 + G 2 1 + G 2 2 + G 2 3 + G 3 0 + G 3 1 + G 3 2 + G 3 3 := by
  rw [sg4, sg4, sg4, sg4, sg4]
  omega
theorem sym4 {H : Nat → Nat → Nat} (h0 : ∀ i, H i i = 0) (hs : ∀ i j, H i j = H j i) : sg (fun r => sg (fun s => H r s) 4) 4 = 2 * (H 0 1 + H 0 2 + H 0 3 + H 1 2 + H 1 3 + H 2 3) := by
  rw [sq4, h0 0, h0 1, h0 2, h0 3, hs 1 0, hs 2 0, hs 3 0, hs 2 1, hs 3 1, hs 3 2]
  omega
def Fs (p : MVt → Bool) (F : MVt → Nat) (L : List MVt) : Nat := ((L.filter p).map F).sum
theorem Fs_up (p : MVt → Bool) (F : MVt → Nat) (f : Nat → List MVt) : ∀ n v, Fs p F (upF f n v) = upN (fun v => Fs p F (f v)) n v
  | 0, _ => rfl
  | n + 1, v => by
    show Fs p F (f v ++ upF f n (v + 1)) = Fs p F (f v) + upN (fun v => Fs p F (f v)) n (v + 1)
    rw [← Fs_up p F f n (v + 1)]
    unfold Fs
    rw [List.filter_append, List.map_append, List.sum_append]
theorem upN_4 {f : Nat → Nat} {m k : Nat} (hm : m ≤ 4) (hk : k ≤ 4) (h : ∀ i, m ≤ i → f i = 0) : upN f (m - k) k = sg (fun s => if k ≤ s then f s else 0) 4 := by
  rw [sg4]
  have h0 : m ≤ 0 → f 0 = 0 := h 0
  have h1 : m ≤ 1 → f 1 = 0 := h 1
  have h2 : m ≤ 2 → f 2 = 0 := h 2
  have h3 : m ≤ 3 → f 3 = 0 := h 3
  have u0 : ∀ v, upN f 0 v = 0 := fun _ => rfl
  have us : ∀ n v, upN f (n + 1) v = f v + upN f n (v + 1) := fun _ _ => rfl
  rcases (show k = 0 ∨ k = 1 ∨ k = 2 ∨ k = 3 ∨ k = 4 by omega) with rfl | rfl | rfl | rfl | rfl <;> rcases (show m = 0 ∨ m = 1 ∨ m = 2 ∨ m = 3 ∨ m = 4 by omega) with rfl | rfl | rfl | rfl | rfl <;> simp only [Nat.reduceSub, u0, us, Nat.reduceAdd, Nat.reduceLeDiff, if_true, if_false] <;> omega
section WY
variable {a : AS}
/-- what a swap of SWs counts -/
theorem sw_sum (hW : WF a) (k : Nat) (F : MVt → Nat) (hF : ∀ r s x w, vS a r s x w → okC a k (r, s, s, x, w, x) → F (s, r, r, w, x, w) = F (r, s, s, x, w, x)) : sg (fun c => ind (vC a c ∧ okC a k (mC c)) * F (mC c)) 256 = 2 * Fs (mvC (unp ((KK a).getD k 0))) F (SWs a) := by
  have hle := hW.le
  rw [sg_ch (okC a k) F]
  have hG : ∀ r s x w, ind (vS a r s x w ∧ okC a k (r, s, s, x, w, x)) * F (r, s, s, x, w, x) = ind (vS a s r w x ∧ okC a k (s, r, r, w, x, w)) * F (s, r, r, w, x, w) := by
    have one : ∀ r s x w, vS a r s x w ∧ okC a k (r, s, s, x, w, x) → vS a s r w x ∧ okC a k (s, r, r, w, x, w) := fun r s x w h => ⟨⟨Ne.symm h.1.1, Ne.symm h.1.2.1, h.1.2.2.2.1, h.1.2.2.1, h.1.2.2.2.2.2, h.1.2.2.2.2.1⟩, (okC_mir h.1.1 h.1.2.1 h.2).1⟩
    intro r s x w
    by_cases c : vS a r s x w ∧ okC a k (r, s, s, x, w, x)
    · rw [ind_y c, ind_y (one r s x w c), hF r s x w c.1 c.2]
    · rw [ind_n c, ind_n (fun z => c (one s r w x z)), Nat.zero_mul, Nat.zero_mul]
  have g0 : ∀ r s x w, (¬ (r ≠ s ∧ x ≠ w ∧ r < nR a ∧ s < nR a ∧ x < nC a ∧ w < nC a)) → ind (vS a r s x w ∧ okC a k (r, s, s, x, w, x)) * F (r, s, s, x, w, x) = 0 := fun r s x w h => by rw [ind_n (fun z => h z.1), Nat.zero_mul]
  generalize eG : (fun r s x w => ind (vS a r s x w ∧ okC a k (r, s, s, x, w, x)) * F (r, s, s, x, w, x)) = G
  have eg : ∀ r s x w, ind (vS a r s x w ∧ okC a k (r, s, s, x, w, x)) * F (r, s, s, x, w, x) = G r s x w := fun r s x w => by rw [← eG]
  simp only [eg] at hG g0 ⊢
  have hs4 := sym4 (H := fun r s => sg (fun x => sg (fun w => G r s x w) 4) 4) (fun i => by
    show sg (fun x => sg (fun w => G i i x w) 4) 4 = 0
    rw [sq4]
    have z : ∀ x w, G i i x w = 0 := fun x w => g0 i i x w (fun q => q.1 rfl)
    simp only [z]) (fun i j => by
    show sg (fun x => sg (fun w => G i j x w) 4) 4 = sg (fun x => sg (fun w => G j i x w) 4) 4
    rw [sg_sw (f := fun x w => G j i x w)]
    exact sg_cg (fun x _ => sg_cg (fun w _ => hG i j x w)))
  rw [hs4]
  congr 1
  have e1 : ∀ r s c d, r < s → s < nR a → c < nC a → d < nC a → Fs (mvC (unp ((KK a).getD k 0))) F (swL1 a r s c d) = G r s c d := by
    intro r s c e hrs hs hc he
    rw [← eg]
    unfold swL1
    by_cases q : c ≠ e ∧ freS a r s c e = true
    · rw [if_pos q]
      have hf : frM a (r, s, s, c, e, c) := by
        have q2 := q.2
        unfold freS at q2
        simp at q2
        exact frM_sw.mpr ⟨⟨by omega, hs, hc, he⟩, q2.1, q2.2.2.2, q2.2.1, q2.2.2.1⟩
      unfold Fs
      by_cases q3 : mvC (unp ((KK a).getD k 0)) (r, s, s, c, e, c) = true
      · rw [ind_y ⟨⟨by omega, q.1, by omega, hs, hc, he⟩, hf, q3⟩, List.filter_cons, if_pos q3, List.filter_nil, List.map_cons, List.map_nil, List.sum_cons, List.sum_nil, Nat.one_mul, Nat.add_zero]
      · rw [ind_n (fun z => q3 z.2.2), List.filter_cons, if_neg q3, List.filter_nil, List.map_nil, List.sum_nil, Nat.zero_mul]
    · rw [if_neg q, ind_n (fun z => q ⟨z.1.2.1, ?_⟩), Nat.zero_mul]
      · rfl
      · have z2 := frM_sw.mp z.2.1
        unfold freS
        rw [z2.2.1, z2.2.2.1, z2.2.2.2.1, z2.2.2.2.2]
        rfl
  have u4 : ∀ {f : Nat → Nat}, (∀ i, nC a ≤ i → f i = 0) → upN f (nC a) 0 = sg f 4 := fun h => by
    have := upN_4 (m := nC a) (k := 0) (by omega) (by omega) h
    rw [Nat.sub_zero] at this
    rw [this]
    exact sg_cg (fun i _ => if_pos (Nat.zero_le _))
  have e2 : ∀ r s, r < s → s < nR a → Fs (mvC (unp ((KK a).getD k 0))) F (swL2 a r s) = sg (fun x => sg (fun w => G r s x w) 4) 4 := by
    intro r s hrs hs
    unfold swL2
    rw [Fs_up]
    rw [upN_cg (f' := fun c => sg (fun w => G r s c w) 4) (nC a) 0 (fun c _ hc => by
      rw [Fs_up, upN_cg (f' := fun w => G r s c w) (nC a) 0 (fun w _ hw => e1 r s c w hrs hs (by omega) (by omega)), u4 (fun i hi => g0 r s c i (fun q => absurd q.2.2.2.2.2 (by omega)))])]
    exact u4 (fun i hi => by
      have z : ∀ w, G r s i w = 0 := fun w => g0 r s i w (fun q => absurd q.2.2.2.2.1 (by omega))
      rw [sg4, z, z, z, z])
  unfold SWs
  rw [Fs_up]
  have hz : ∀ r s, nR a ≤ s → sg (fun x => sg (fun w => G r s x w) 4) 4 = 0 := fun r s h => by
    have z : ∀ x w, G r s x w = 0 := fun x w => g0 r s x w (fun q => absurd q.2.2.2.1 (by omega))
    rw [sq4]
    simp only [z]
  have hz2 : ∀ r s, nR a ≤ r → sg (fun x => sg (fun w => G r s x w) 4) 4 = 0 := fun r s h => by
    have z : ∀ x w, G r s x w = 0 := fun x w => g0 r s x w (fun q => absurd q.2.2.1 (by omega))
    rw [sq4]
    simp only [z]
  rw [upN_cg (f' := fun r => sg (fun s => if r + 1 ≤ s then sg (fun x => sg (fun w => G r s x w) 4) 4 else 0) 4) (nR a) 0 (fun r _ hr => by
    rw [Fs_up, upN_cg (f' := fun s => sg (fun x => sg (fun w => G r s x w) 4) 4) (nR a - (r + 1)) (r + 1) (fun s hs1 hs2 => e2 r s (by omega) (by omega))]
    exact upN_4 (m := nR a) (k := r + 1) (by omega) (by omega) (fun i hi => hz r i hi))]
  have := upN_4 (f := fun r => sg (fun s => if r + 1 ≤ s then sg (fun x => sg (fun w => G r s x w) 4) 4 else 0) 4) (m := nR a) (k := 0) (by omega) (by omega) (fun r hr => by
    rw [sg4]
    simp only [hz2 r _ hr]
    simp)
  rw [Nat.sub_zero] at this
  rw [this]
  generalize eH : (fun r s => sg (fun x => sg (fun w => G r s x w) 4) 4) = H
  have eh : ∀ r s, sg (fun x => sg (fun w => G r s x w) 4) 4 = H r s := fun r s => by rw [← eH]
  simp only [eh, sg4]
  simp only [Nat.reduceAdd, Nat.reduceLeDiff, if_true, if_false, Nat.zero_le]
  omega
end WY
