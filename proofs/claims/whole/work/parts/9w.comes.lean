-- WHICH LISTED TABLE COMES OF ONE, by the model
/-- M has the cells with one more, N those with one less -/
def Msk (C : Nat) (m : MVt) (M N : Nat) : Prop := ∀ y x, x < C → (M.testBit (y * C + x) = true ↔ moN m y x = leN m y x + 1) ∧ (N.testBit (y * C + x) = true ↔ leN m y x = moN m y x + 1) ∧ (moN m y x = leN m y x ∨ moN m y x = leN m y x + 1 ∨ leN m y x = moN m y x + 1)
/-- its own six cells -/
def Sxc (m : MVt) : Prop := leN m m.1 m.2.2.2.2.1 = moN m m.1 m.2.2.2.2.1 + 1 ∧ leN m m.2.1 m.2.2.2.2.2 = moN m m.2.1 m.2.2.2.2.2 + 1 ∧ leN m m.2.2.1 m.2.2.2.1 = moN m m.2.2.1 m.2.2.2.1 + 1 ∧ moN m m.1 m.2.2.2.1 ≠ leN m m.1 m.2.2.2.1 ∧ moN m m.2.1 m.2.2.2.2.1 ≠ leN m m.2.1 m.2.2.2.2.1 ∧ moN m m.2.2.1 m.2.2.2.2.2 ≠ leN m m.2.2.1 m.2.2.2.2.2
theorem sxc_sw {r s c e : Nat} (hrs : r ≠ s) (hce : c ≠ e) : Sxc (r, s, s, c, e, c) := by
  have a1 : mo1 r c r e = 0 := mo1_0 (fun z => hce z.2.symm)
  have a2 : mo1 s e r e = 0 := mo1_0 (fun z => hrs z.1)
  have a3 : mo1 s c r e = 0 := mo1_0 (fun z => hrs z.1)
  have a4 : mo1 r e r e = 1 := mo1_1 ⟨rfl, rfl⟩
  have b1 : mo1 r c s c = 0 := mo1_0 (fun z => hrs z.1.symm)
  have b2 : mo1 s e s c = 0 := mo1_0 (fun z => hce z.2)
  have b3 : mo1 s c s c = 1 := mo1_1 ⟨rfl, rfl⟩
  have b4 : mo1 r e s c = 0 := mo1_0 (fun z => hrs z.1.symm)
  have c1 : mo1 r c r c = 1 := mo1_1 ⟨rfl, rfl⟩
  have c2 : mo1 s e r c = 0 := mo1_0 (fun z => hrs z.1)
  have c3 : mo1 s c r c = 0 := mo1_0 (fun z => hrs z.1)
  have c4 : mo1 r e r c = 0 := mo1_0 (fun z => hce z.2)
  have d1 : mo1 r c s e = 0 := mo1_0 (fun z => hrs z.1.symm)
  have d2 : mo1 s e s e = 1 := mo1_1 ⟨rfl, rfl⟩
  have d3 : mo1 s c s e = 0 := mo1_0 (fun z => hce z.2.symm)
  have d4 : mo1 r e s e = 0 := mo1_0 (fun z => hrs z.1.symm)
  unfold Sxc moN leN
  dsimp only
  omega
theorem sxc_tn {r s t c e f : Nat} (h1 : r ≠ s) (h2 : r ≠ t) (h3 : s ≠ t) (k1 : c ≠ e) (k2 : c ≠ f) (k3 : e ≠ f) : Sxc (r, s, t, c, e, f) := by
  have z : ∀ y x y' x', y' ≠ y → mo1 y x y' x' = 0 := fun y x y' x' q => mo1_0 (fun w => q w.1)
  have z2 : ∀ y x y' x', x' ≠ x → mo1 y x y' x' = 0 := fun y x y' x' q => mo1_0 (fun w => q w.2)
  have o : ∀ y x, mo1 y x y x = 1 := fun y x => mo1_1 ⟨rfl, rfl⟩
  unfold Sxc moN leN
  dsimp only
  refine ⟨?_, ?_, ?_, ?_, ?_, ?_⟩
  · rw [z2 r c r e (Ne.symm k1), z s e r e h1, z t f r e h2, o r e, z s f r e h1, z t c r e h2]
  · rw [z r c s f (Ne.symm h1), z2 s e s f (Ne.symm k3), z t f s f h3, z r e s f (Ne.symm h1), o s f, z t c s f h3]
  · rw [z r c t c (Ne.symm h2), z s e t c (Ne.symm h3), z2 t f t c k2, z r e t c (Ne.symm h2), z s f t c (Ne.symm h3), o t c]
  · rw [o r c, z s e r c h1, z t f r c h2, z2 r e r c k1, z s f r c h1, z t c r c h2]; decide
  · rw [z r c s e (Ne.symm h1), o s e, z t f s e h3, z r e s e (Ne.symm h1), z2 s f s e k3, z t c s e h3]; decide
  · rw [z r c t f (Ne.symm h2), z s e t f (Ne.symm h3), o t f, z r e t f (Ne.symm h2), z s f t f (Ne.symm h3), z2 t c t f (Ne.symm k2)]; decide
theorem bitc {C y x r c : Nat} (hx : x < C) (hc : c < C) : r * C + c = y * C + x ↔ y = r ∧ x = c := by
  have i1 := (idx_iff (y := y) (k := y * C + x) hx).mpr rfl
  have i2 := idx_iff (y := r) (k := y * C + x) hc
  rw [i1.1, i1.2] at i2
  exact ⟨fun z => i2.mpr z.symm, fun z => (i2.mp z).symm⟩
theorem mo1_p {y x a b : Nat} : mo1 y x a b = 1 ↔ a = y ∧ b = x := by
  constructor
  · intro h
    by_cases q : a = y ∧ b = x
    · exact q
    · rw [mo1_0 q] at h; exact absurd h (by decide)
  · exact mo1_1
theorem msk_sw {C r s c e : Nat} (hc : c < C) (he : e < C) (hrs : r ≠ s) (hce : c ≠ e) : Msk C (r, s, s, c, e, c) (2 ^ (r * C + c) ||| 2 ^ (s * C + e)) (2 ^ (r * C + e) ||| 2 ^ (s * C + c)) := by
  intro y x hx
  rw [bit2, bit2]
  simp only [Bool.or_eq_true, decide_eq_true_eq, bitc hx hc, bitc hx he]
  have h1 := mo1_le r c y x
  have h2 := mo1_le s e y x
  have h3 := mo1_le r e y x
  have h4 := mo1_le s c y x
  rw [← mo1_p, ← mo1_p, ← mo1_p, ← mo1_p]
  have q1 : ¬ (mo1 r c y x = 1 ∧ mo1 s e y x = 1) := fun z => hrs ((mo1_p.mp z.1).1.symm.trans (mo1_p.mp z.2).1)
  have q2 : ¬ (mo1 r c y x = 1 ∧ mo1 r e y x = 1) := fun z => hce ((mo1_p.mp z.1).2.symm.trans (mo1_p.mp z.2).2)
  have q3 : ¬ (mo1 r c y x = 1 ∧ mo1 s c y x = 1) := fun z => hrs ((mo1_p.mp z.1).1.symm.trans (mo1_p.mp z.2).1)
  have q4 : ¬ (mo1 s e y x = 1 ∧ mo1 r e y x = 1) := fun z => hrs ((mo1_p.mp z.2).1.symm.trans (mo1_p.mp z.1).1)
  have q5 : ¬ (mo1 s e y x = 1 ∧ mo1 s c y x = 1) := fun z => hce ((mo1_p.mp z.2).2.symm.trans (mo1_p.mp z.1).2)
  have q6 : ¬ (mo1 r e y x = 1 ∧ mo1 s c y x = 1) := fun z => hrs ((mo1_p.mp z.1).1.symm.trans (mo1_p.mp z.2).1)
  show (_ ↔ mo1 r c y x + mo1 s e y x + mo1 s c y x = mo1 r e y x + mo1 s c y x + mo1 s c y x + 1) ∧ (_ ↔ mo1 r e y x + mo1 s c y x + mo1 s c y x = mo1 r c y x + mo1 s e y x + mo1 s c y x + 1) ∧ (mo1 r c y x + mo1 s e y x + mo1 s c y x = mo1 r e y x + mo1 s c y x + mo1 s c y x ∨ mo1 r c y x + mo1 s e y x + mo1 s c y x = mo1 r e y x + mo1 s c y x + mo1 s c y x + 1 ∨ mo1 r e y x + mo1 s c y x + mo1 s c y x = mo1 r c y x + mo1 s e y x + mo1 s c y x + 1)
  omega
theorem bit3 {i j l k : Nat} : ((2 ^ i ||| 2 ^ j) ||| 2 ^ l).testBit k = ((decide (i = k) || decide (j = k)) || decide (l = k)) := by
  rw [Nat.testBit_or, bit2, Nat.testBit_two_pow]
theorem msk_tn {C r s t c e f : Nat} (hc : c < C) (he : e < C) (hf : f < C) (h1 : r ≠ s) (h2 : r ≠ t) (h3 : s ≠ t) (k1 : c ≠ e) (k2 : c ≠ f) (k3 : e ≠ f) : Msk C (r, s, t, c, e, f) ((2 ^ (r * C + c) ||| 2 ^ (s * C + e)) ||| 2 ^ (t * C + f)) ((2 ^ (r * C + e) ||| 2 ^ (s * C + f)) ||| 2 ^ (t * C + c)) := by
  intro y x hx
  rw [bit3, bit3]
  simp only [Bool.or_eq_true, decide_eq_true_eq, bitc hx hc, bitc hx he, bitc hx hf]
  rw [← mo1_p, ← mo1_p, ← mo1_p, ← mo1_p, ← mo1_p, ← mo1_p]
  show (_ ↔ mo1 r c y x + mo1 s e y x + mo1 t f y x = mo1 r e y x + mo1 s f y x + mo1 t c y x + 1) ∧ (_ ↔ mo1 r e y x + mo1 s f y x + mo1 t c y x = mo1 r c y x + mo1 s e y x + mo1 t f y x + 1) ∧ (mo1 r c y x + mo1 s e y x + mo1 t f y x = mo1 r e y x + mo1 s f y x + mo1 t c y x ∨ mo1 r c y x + mo1 s e y x + mo1 t f y x = mo1 r e y x + mo1 s f y x + mo1 t c y x + 1 ∨ mo1 r e y x + mo1 s f y x + mo1 t c y x = mo1 r c y x + mo1 s e y x + mo1 t f y x + 1)
  have z : ∀ y2 x2, y ≠ y2 → mo1 y2 x2 y x = 0 := fun y2 x2 q => mo1_0 (fun w => q w.1)
  by_cases y1 : y = r
  · rw [z s e (fun w => h1 (y1.symm.trans w)), z t f (fun w => h2 (y1.symm.trans w)), z s f (fun w => h1 (y1.symm.trans w)), z t c (fun w => h2 (y1.symm.trans w))]
    have q : ¬ (mo1 r c y x = 1 ∧ mo1 r e y x = 1) := fun z => k1 ((mo1_p.mp z.1).2.symm.trans (mo1_p.mp z.2).2)
    have := mo1_le r c y x
    have := mo1_le r e y x
    omega
  · rw [z r c y1, z r e y1]
    by_cases y2 : y = s
    · rw [z t f (fun w => h3 (y2.symm.trans w)), z t c (fun w => h3 (y2.symm.trans w))]
      have q : ¬ (mo1 s e y x = 1 ∧ mo1 s f y x = 1) := fun z => k3 ((mo1_p.mp z.1).2.symm.trans (mo1_p.mp z.2).2)
      have := mo1_le s e y x
      have := mo1_le s f y x
      omega
    · rw [z s e y2, z s f y2]
      have q : ¬ (mo1 t c y x = 1 ∧ mo1 t f y x = 1) := fun z => k2 ((mo1_p.mp z.1).2.symm.trans (mo1_p.mp z.2).2)
      have := mo1_le t c y x
      have := mo1_le t f y x
      omega
theorem chG_mv {C : Nat} (hC : 0 < C) {m : MVt} {M N : Nat} (hk : Msk C m M N) (u : Nat → Nat → Nat) (k : Nat) : chG M N (flt C u) k = flt C (mvT m u) k := by
  obtain ⟨h1, h2, h3⟩ := hk (k / C) (k % C) (Nat.mod_lt _ hC)
  rw [show k / C * C + k % C = k from by rw [Nat.mul_comm]; exact Nat.div_add_mod k C] at h1 h2
  unfold chG
  show _ = u (k / C) (k % C) + moN m (k / C) (k % C) - leN m (k / C) (k % C)
  have ef : flt C u k = u (k / C) (k % C) := rfl
  rw [ef]
  cases c1 : M.testBit k with
  | true =>
    have := h1.mp c1
    have c2 : N.testBit k = false := by
      cases c2 : N.testBit k with
      | true => have := h2.mp c2; omega
      | false => rfl
    rw [c2, if_pos rfl, if_neg (by decide)]
    omega
  | false =>
    have n1 : ¬ moN m (k / C) (k % C) = leN m (k / C) (k % C) + 1 := fun z => by rw [h1.mpr z] at c1; exact absurd c1 (by decide)
    rw [if_neg (by decide)]
    cases c2 : N.testBit k with
    | true =>
      have := h2.mp c2
      rw [if_pos rfl]
      omega
    | false =>
      have n2 : ¬ leN m (k / C) (k % C) = moN m (k / C) (k % C) + 1 := fun z => by rw [h2.mpr z] at c2; exact absurd c2 (by decide)
      rw [if_neg (by decide)]
      omega
/-- rows and columns are there -/
def inM (a : AS) (m : MVt) : Prop := m.1 < nR a ∧ m.2.1 < nR a ∧ m.2.2.1 < nR a ∧ m.2.2.2.1 < nC a ∧ m.2.2.2.2.1 < nC a ∧ m.2.2.2.2.2 < nC a
theorem okG_mv {a : AS} {m : MVt} (hb : inM a m) (hx : Sxc m) {M N : Nat} (hk : Msk (nC a) m M N) (u : Nat → Nat → Nat) : (∀ k, k < nR a * nC a → okG (hM a) M N (flt (nC a) u) k) ↔ frM a m ∧ mvC u m = true := by
  obtain ⟨b1, b2, b3, b4, b5, b6⟩ := hb
  have ho : ∀ y x, y < nR a → x < nC a → (okG (hM a) M N (flt (nC a) u) (y * nC a + x) ↔ (moN m y x ≠ leN m y x → hol a y x = false) ∧ (leN m y x = moN m y x + 1 → u y x ≠ 0)) := by
    intro y x hy hx
    obtain ⟨k1, k2, k3⟩ := hk y x hx
    unfold okG
    rw [hM_bit hy hx, flt_a2 hx, k1, k2]
    constructor
    · intro h
      exact ⟨fun q => h.1 (by omega), h.2⟩
    · intro h
      exact ⟨fun q => h.1 (by omega), h.2⟩
  constructor
  · intro h
    have g := fun y x hy hx => (ho y x hy hx).mp (h _ (idx_lt hy hx))
    obtain ⟨x1, x2, x3, x4, x5, x6⟩ := hx
    refine ⟨⟨⟨b1, b2, b3, b4, b5, b6⟩, (g _ _ b1 b4).1 x4, (g _ _ b2 b5).1 x5, (g _ _ b3 b6).1 x6, (g _ _ b1 b5).1 (by omega), (g _ _ b2 b6).1 (by omega), (g _ _ b3 b4).1 (by omega)⟩, mvC_iff.mpr ⟨Nat.pos_of_ne_zero ((g _ _ b1 b5).2 x1), Nat.pos_of_ne_zero ((g _ _ b2 b6).2 x2), Nat.pos_of_ne_zero ((g _ _ b3 b4).2 x3)⟩⟩
  · intro h k hk2
    obtain ⟨⟨-, f1, f2, f3, f4, f5, f6⟩, hc⟩ := h
    obtain ⟨g1, g2, g3⟩ := mvC_iff.mp hc
    have hC : 0 < nC a := by omega
    have e : k / nC a * nC a + k % nC a = k := by rw [Nat.mul_comm]; exact Nat.div_add_mod k (nC a)
    have hkx := Nat.mod_lt k hC
    have hky : k / nC a < nR a := Nat.div_lt_of_lt_mul (by rw [Nat.mul_comm]; exact hk2)
    have := ho (k / nC a) (k % nC a) hky hkx
    rw [e] at this
    rw [this]
    generalize k / nC a = y
    generalize k % nC a = x
    have lp : leN m y x ≠ 0 → (y = m.1 ∧ x = m.2.2.2.2.1) ∨ (y = m.2.1 ∧ x = m.2.2.2.2.2) ∨ (y = m.2.2.1 ∧ x = m.2.2.2.1) := by
      intro q
      by_cases q1 : y = m.1 ∧ x = m.2.2.2.2.1
      · exact Or.inl q1
      · by_cases q2 : y = m.2.1 ∧ x = m.2.2.2.2.2
        · exact Or.inr (Or.inl q2)
        · by_cases q3 : y = m.2.2.1 ∧ x = m.2.2.2.1
          · exact Or.inr (Or.inr q3)
          · exact absurd (by unfold leN; rw [mo1_0 q1, mo1_0 q2, mo1_0 q3]) q
    have mp : moN m y x ≠ 0 → (y = m.1 ∧ x = m.2.2.2.1) ∨ (y = m.2.1 ∧ x = m.2.2.2.2.1) ∨ (y = m.2.2.1 ∧ x = m.2.2.2.2.2) := by
      intro q
      by_cases q1 : y = m.1 ∧ x = m.2.2.2.1
      · exact Or.inl q1
      · by_cases q2 : y = m.2.1 ∧ x = m.2.2.2.2.1
        · exact Or.inr (Or.inl q2)
        · by_cases q3 : y = m.2.2.1 ∧ x = m.2.2.2.2.2
          · exact Or.inr (Or.inr q3)
          · exact absurd (by unfold moN; rw [mo1_0 q1, mo1_0 q2, mo1_0 q3]) q
    refine ⟨fun q => ?_, fun q => ?_⟩
    · by_cases l0 : leN m y x = 0
      · rcases mp (by omega) with z | z | z <;> rw [z.1, z.2] <;> assumption
      · rcases lp l0 with z | z | z <;> rw [z.1, z.2] <;> assumption
    · rcases lp (by omega) with z | z | z <;> rw [z.1, z.2] <;> exact Nat.ne_of_gt (by assumption)
/-- a move can be done at a listed table; where it leads -/
def okC (a : AS) (i : Nat) (m : MVt) : Prop := frM a m ∧ mvC (unp ((KK a).getD i 0)) m = true
def nxI (a : AS) (i : Nat) (m : MVt) : Nat := rkK a (pack (mvT m (unp ((KK a).getD i 0))))
theorem nxI_ok {a : AS} (hW : WF a) (hR : nR a ≠ 0) {i : Nat} (hi : i < (KK a).length) {m : MVt} (h4 : m4 m) (ho : okM m) (h : okC a i m) : nxI a i m < (KK a).length ∧ (KK a).getD (nxI a i m) 0 = pack (mvT m (unp ((KK a).getD i 0))) ∧ unp ((KK a).getD (nxI a i m) 0) = mvT m (unp ((KK a).getD i 0)) := by
  obtain ⟨k1, k2, -⟩ := mvT_KK hW hR ⟨h.1, h4, ho⟩ (getD_mem hi) h.2
  have k3 := KK_idx k1
  refine ⟨k3.1, k3.2, ?_⟩
  have e : (KK a).getD (nxI a i m) 0 = pack (mvT m (unp ((KK a).getD i 0))) := k3.2
  rw [e, k2]
theorem sh89 {ρ : Rs} : shp ρ 89 = .inr (0, 16000) := by
  unfold shp
  rw [if_pos (by decide)]
  rfl
theorem sh90 {ρ : Rs} : shp ρ 90 = .inr (0, 16) := by
  unfold shp
  rw [if_pos (by decide)]
  rfl
section CM
variable {g : GX} {d : Nat} {ρ : Rs} {S : St} {a : AS}
theorem LstM.fr {L : List Nat} {F : Nat → Prop} {S' : St} (h : LstM a L S) (hF : ¬ F 89) (f : Fr F S S') : LstM a L S' := by
  intro i hi k hk
  rw [(f 89 hF).1]
  exact h i hi k hk
theorem sM_comesOf {Q : Int32 → St → Prop} (hρ : Ok ρ) (hF : gF g 90) (hW : WF a) (hR : nR a ≠ 0) (hI : IM a S) (hLs : LstM a (KK a) S) (hLl : (KK a).length ≤ 1000) (h32 : S.1 80 32 = nI (KK a).length) {i : Nat} (hi : i < (KK a).length) {m : MVt} (hb : inM a m) (ho : okM m) (hx : Sxc m) {M N : Nat} (hM1 : M < 65536) (hN1 : N < 65536) (hk0 : Msk (nC a) m M N) (hy : okC a i m → ∀ S', Fr (fun k => k = 90) S S' → Q (nI (nxI a i m)) S') (hn : ¬ okC a i m → Q (-1) S) : CALLi g (d + 3) mX12_comesOf [.ref 80, .int (nI i), .int (nI M), .int (nI N)] ρ ρ S Q := by
  have hle := hW.le
  have e2 := mul44 hle.1 hle.2.1
  have l3 := hM_lt a hW
  have hC : 0 < nC a := by have := hb.2.2.2.1; omega
  have h4 : m4 m := ⟨by have := hb.1; omega, by have := hb.2.1; omega, by have := hb.2.2.1; omega, by have := hb.2.2.2.1; omega, by have := hb.2.2.2.2.1; omega, by have := hb.2.2.2.2.2; omega⟩
  have hg := okG_mv hb hx hk0 (unp ((KK a).getD i 0))
  have lt : ∀ k, flt (nC a) (unp ((KK a).getD i 0)) k < 16 := fun k => unp_lt _ _ _
  refine eX12_comesOf hρ ?_
  rw [show (16 : Int32) * nI i = nI (16 * i) from pk_mul 16 i]
  refine sM_canGo (f := flt (nC a) (unp ((KK a).getD i 0))) (b := 16 * i) (m := nR a * nC a) (H := hM a) hρ (by decide) (okn hρ (by decide)) sh89 (by omega) (by decide) e2 (by omega) (by omega) (by omega) (fun k _ => by have := lt k; omega) (fun q => sM_many hρ hI q) hI.2.2.2.2.2.2.1 (fun k hk => hLs i hi k hk) (fun q => ?_) (fun k hk q => ?_)
  rotate_left
  · rw [if_pos rfl]
    exact hn (fun z => q (hg.mpr z k hk))
  rw [if_neg (by decide)]
  have hC2 : okC a i m := hg.mp q
  have hnx := nxI_ok hW hR hi h4 ho hC2
  have key : ∀ n k S1, k + n = nR a * nC a → (∀ j, j < k → S1.1 90 j = nI (flt (nC a) (unp ((KK a).getD i 0)) j)) → Fr (fun k => k = 90) S S1 → AW g ρ (QI Q) (d + 2 + 1) mX12_comesOf 22 [(0, .ref 80), (1, .int (nI i)), (2, .int (nI M)), (3, .int (nI N)), (4, .int (nI k))] [] ρ S1 := by
    intro n
    induction n with
    | zero =>
      intro k S1 hk e1 f1
      have hI1 : IM a S1 := hI.fr (F := fun k => k = 90) (by omega) f1
      refine eX12_comesOf_22 hρ (fun k hk => by simp at hk; rw [hk]; exact hF) (sM_many hρ hI1 ?_)
      rw [if_pos (nI_le (by omega) (by omega))]
      refine sM_changes (f := flt (nC a) (unp ((KK a).getD i 0))) (b := 0) (R := nR a) (C := nC a) (k1 := 90) (n1 := 16) hρ (by decide) (okn hρ (by decide)) sh90 hF (by omega) (by decide) e2 (fun z => absurd z (by decide)) (by omega) (by omega) hI1.2.2.2.2.1 hI1.2.2.2.2.2.1 (fun k hk z => Nat.pos_of_ne_zero ((q k hk).2 z)) (fun j hj => by rw [Nat.zero_add]; exact e1 j (by omega)) (fun S' e' f' => ?_)
      have f2 := f1.tr f'
      have hI2 : IM a S' := hI.fr (F := fun k => k = 90) (by omega) f2
      refine sM_listedAt (i := nxI a i m) (L := KK a) (k2 := 90) (n2 := 16) hρ hW hR hI2 (by decide) (okn hρ (by decide)) sh90 (by decide) (by decide) (fun p hp => hp) (KK_sorted a) (hLs.fr (F := fun k => k = 90) (by decide) f2) hLl (by rw [(f2 80 (by decide)).1]; exact h32) hnx.1 (fun j hj => ?_) (hy hC2 S' f2)
      rw [e' (0 + j), if_pos (by omega), Nat.add_sub_cancel_left, chG_mv hC hk0, hnx.2.2]
    | succ n ih =>
      intro k S1 hk e1 f1
      have hI1 : IM a S1 := hI.fr (F := fun k => k = 90) (by omega) f1
      refine eX12_comesOf_22 hρ (fun k hk => by simp at hk; rw [hk]; exact hF) (sM_many hρ hI1 ?_)
      rw [if_neg (nI_ge (by omega) (by omega)), show (16 : Int32) * nI i = nI (16 * i) from pk_mul 16 i, nI_add, nI_1, nI_clamp (show 16 * i + k < 2 ^ 31 by omega), nI_clamp (show k < 2 ^ 31 by omega)]
      refine ⟨vp_in_nI (by omega) (by omega), vp_in_nI (by omega) (by omega), ?_⟩
      refine ih (k + 1) _ (by omega) (fun j hj => ?_) (f1.tr (Fr.setI (F := fun k => k = 90) _ _ _ rfl))
      rw [setI_at]
      by_cases c : j = k
      · rw [if_pos ⟨rfl, c⟩, (f1 89 (by decide)).1, hLs i hi k (by omega), c]
      · rw [if_neg (fun z => c z.2)]
        exact e1 j (by omega)
  exact key (nR a * nC a) 0 S (by omega) (fun j hj => absurd hj (by omega)) (Fr.rf S)
end CM
