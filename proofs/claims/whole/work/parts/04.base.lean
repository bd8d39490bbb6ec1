-- THE STORE. A label is a place of the world: 0..4 the five words, 5..9 their bytes, 10 the table of factorials, 11 the script; from 16 on what the run makes, in its order
abbrev MD : Type := MethodName × ByteArray × Nat × Option FieldType
abbrev St : Type := (Nat → Nat → Int32) × (Nat → Nat → Int64)
abbrev Rs : Type := Nat × (Nat → Nat → Option Nat) × (Nat → Nat) × Nat × Nat
abbrev GX : Type := Launch × va_G × (Nat → ClassId) × Nat × (Nat → Nat) × (Nat → Prop) × Nat × (Nat → Int32)
abbrev Sh : Type := Nat ⊕ (Nat × Nat)
abbrev gL (g : GX) : Launch := g.1
abbrev gD (g : GX) : va_G := g.2.1
abbrev gC (g : GX) : Nat → ClassId := g.2.2.1
abbrev gB (g : GX) : Nat := g.2.2.2.1
abbrev gP (g : GX) : Nat → Nat := g.2.2.2.2.1
abbrev gF (g : GX) : Nat → Prop := g.2.2.2.2.2.1
abbrev gN (g : GX) : Nat := g.2.2.2.2.2.2.1
abbrev gX (g : GX) : Nat → Int32 := g.2.2.2.2.2.2.2
abbrev rn (ρ : Rs) : Nat := ρ.1
abbrev rR (ρ : Rs) : Nat → Nat → Option Nat := ρ.2.1
abbrev rl (ρ : Rs) : Nat → Nat := ρ.2.2.1
abbrev rc (ρ : Rs) : Nat := ρ.2.2.2.1
abbrev ru (ρ : Rs) : Nat := ρ.2.2.2.2
def gA (g : GX) : Nat → Prop := fun q => gB g ≤ q
/-- the place of a label on the heap: 38..41, 56..59, 61..64 have none of their own (they are the rows of 37, 55, 60) -/
def pl (k : Nat) : Nat := if k ≤ 38 then k - 16 else if k ≤ 42 then 22 else if k ≤ 56 then k - 20 else if k ≤ 60 then 36 else if k ≤ 65 then 37 else k - 28
def lb (i : Nat) : Nat := if i < 22 then i + 16 else if i < 36 then i + 20 else if i < 37 then 60 else i + 28
def gap (k : Nat) : Prop := (38 ≤ k ∧ k ≤ 41) ∨ (56 ≤ k ∧ k ≤ 59) ∨ (61 ≤ k ∧ k ≤ 64)
theorem pl_lb (i : Nat) : pl (lb i) = i := by unfold pl lb; (repeat' split) <;> omega
theorem lb_pl {k : Nat} (h : 16 ≤ k) (hg : ¬ gap k) : lb (pl k) = k := by unfold gap at hg; unfold pl lb; (repeat' split) <;> omega
theorem lb_16 (i : Nat) : 16 ≤ lb i := by unfold lb; (repeat' split) <;> omega
theorem lb_lt {i n : Nat} (h : i < pl n) : lb i < n := by unfold pl at h; unfold lb; (repeat' split at h) <;> (repeat' split) <;> omega
theorem lb_gap (i : Nat) : ¬ gap (lb i) := by
  have h : lb i = i + 16 ∧ i < 22 ∨ lb i = i + 20 ∧ 22 ≤ i ∧ i < 36 ∨ lb i = 60 ∨ lb i = i + 28 ∧ 37 ≤ i := by unfold lb; (repeat' split) <;> omega
  unfold gap
  omega
theorem pl_lt {k n : Nat} (h : 16 ≤ k) (hg : ¬ gap k) (hn : k < n) : pl k < pl n := by unfold gap at hg; unfold pl; (repeat' split) <;> omega
theorem pl_s {n : Nat} (h : 16 ≤ n) (hg : ¬ gap n) : pl (n + 1) = pl n + 1 := by unfold gap at hg; unfold pl; (repeat' split) <;> omega
def ad (g : GX) (k : Nat) : Nat := if k < 16 then gP g k else gB g + pl k
def vmv (g : GX) (v : Value) : Value := match v with
  | .ref k => .ref (ad g k)
  | v => v
def vmp (g : GX) (q : Nat × Value) : Nat × Value := (q.1, vmv g q.2)
/-- a method's own row -/
def N0 : Nat := 95
def sh0L : List Sh := [.inl 9, .inl 8, .inr (0, 300), .inl 6, .inr (0, 16), .inl 7, .inr (0, 4), .inr (0, 4), .inr (1, 20), .inl 0, .inl 4, .inr (1, 264), .inr (0, 264), .inr (0, 264), .inr (0, 264), .inl 1, .inl 2, .inr (0, 5), .inr (0, 320), .inr (0, 320), .inr (0, 320), .inr (3, 320), .inr (9, 0), .inr (9, 0), .inr (9, 0), .inr (9, 0), .inr (0, 4), .inr (0, 5), .inr (0, 481), .inr (0, 4800), .inr (0, 4800), .inr (1, 480), .inr (1, 480), .inr (1, 480), .inr (0, 480), .inr (0, 480), .inr (0, 480), .inr (1, 336), .inl 3, .inr (3, 480), .inr (9, 0), .inr (9, 0), .inr (9, 0), .inr (9, 0), .inr (3, 480), .inr (9, 0), .inr (9, 0), .inr (9, 0), .inr (9, 0), .inr (2, 4), .inr (2, 4), .inr (1, 4), .inr (1, 4), .inr (1, 4), .inl 5, .inr (1, 1000), .inr (0, 1001), .inr (0, 256), .inr (0, 1000), .inr (0, 1000), .inr (0, 1000), .inr (0, 1000), .inr (1, 1000), .inr (1, 1000), .inl 10, .inr (0, 21), .inr (0, 21), .inr (0, 320), .inr (0, 300), .inr (0, 16), .inr (0, 4), .inr (0, 4), .inr (1, 336), .inr (0, 16000), .inr (0, 16), .inr (0, 1000), .inr (0, 1000), .inr (1, 1000), .inr (1, 1000)]
def sh0 (k : Nat) : Sh := sh0L.getD (k - 16) (.inr (0, 0))
def shp (ρ : Rs) (k : Nat) : Sh := if k < N0 then sh0 k else .inr (0, rl ρ k)
/-- kinds of fields, class by class (as vwCl has them): 0 int, 1 long, 2 a reference, 3 boolean -/
def fkL : List (List Nat) := [[1], [2, 0, 0, 2, 2, 2, 2, 2, 2, 2, 2, 2, 2, 2, 0], [2, 2, 2, 2, 2, 2, 1, 0], [2, 2, 2, 2, 2, 2, 2, 2, 1, 1, 1], [0, 0, 0, 2, 2, 2, 2], [2, 2, 3, 0, 2, 2, 2, 0, 2, 2, 0, 0, 2, 0, 2, 0, 2, 2], [0, 0, 0, 0, 0, 0, 2, 0, 0, 0, 0, 0], [0, 0, 0, 0, 0, 2, 2, 1, 0, 2], [2, 0], [2, 2, 2, 2, 2, 2, 2, 2], [2, 2, 2, 2, 0, 0, 0, 0, 0, 0, 0, 0, 3, 0, 3, 1, 1, 1, 2, 2, 2, 2, 1, 1, 1, 1, 1, 0, 1, 1, 1, 2, 0, 2, 2, 2, 0, 2, 2, 1]]
def fkA (ci : Nat) : List Nat := fkL.getD ci []
def fval (g : GX) (ρ : Rs) (S : St) (k t j : Nat) : Value := match t with
  | 1 => .long (S.2 k j)
  | 2 => va_rf ((rR ρ k j).map (ad g))
  | _ => .int (S.1 k j)
def flds (g : GX) (ρ : Rs) (S : St) (k : Nat) (ts : List Nat) : List Value := ts.zipIdx.map (fun q => fval g ρ S k q.1 q.2)
def ent (g : GX) (ρ : Rs) (S : St) (k : Nat) : va_E := match shp ρ k with
  | .inl ci => .inr (ci, flds g ρ S k (fkA ci))
  | .inr (1, n) => .inl (gC g 1, n, .inr (.inl (S.2 k)))
  | .inr (3, n) => .inl (gC g 1, 4 * n, .inr (.inl (fun i => S.2 (k + 1 + i / n % 4) (i % n))))
  | .inr (t, n) => .inl (gC g t, n, .inl (S.1 k))
def wsO (g : GX) (ρ : Rs) (S : St) : va_W := (List.range (pl (rn ρ))).map (fun i => (gB g + i, ent g ρ S (lb i)))
def tysO (g : GX) : List (ClassId × FieldType) := [(gC g 0, .int), (gC g 1, .long), (gC g 2, .boolean)]
def Rep (g : GX) (ρ : Rs) (S : St) (H : Heap) : Prop := 16 ≤ rn ρ ∧ H.size = gB g + pl (rn ρ) ∧ va_P (gD g) vwCl (wsO g ρ S) H
def setI (S : St) (k j : Nat) (v : Int32) : St := (fun a => if a = k then upd (S.1 k) j v else S.1 a, S.2)
def setL (S : St) (k j : Nat) (v : Int64) : St := (S.1, fun a => if a = k then vp_updL (S.2 k) j v else S.2 a)
def Fr (F : Nat → Prop) (S S' : St) : Prop := ∀ k, ¬ F k → S'.1 k = S.1 k ∧ S'.2 k = S.2 k
theorem Fr.rf {F : Nat → Prop} (S : St) : Fr F S S := fun _ _ => ⟨rfl, rfl⟩
theorem Fr.tr {F : Nat → Prop} {S S1 S2 : St} (h : Fr F S S1) (h2 : Fr F S1 S2) : Fr F S S2 := fun k hk => ⟨(h2 k hk).1.trans (h k hk).1, (h2 k hk).2.trans (h k hk).2⟩
theorem Fr.mono {F F' : Nat → Prop} {S S' : St} (h : Fr F S S') (hF : ∀ k, F k → F' k) : Fr F' S S' := fun k hk => h k (fun q => hk (hF k q))
theorem Fr.setI {F : Nat → Prop} (S : St) {k : Nat} (j : Nat) (v : Int32) (hk : F k) : Fr F S (setI S k j v) := by
  intro a ha
  refine ⟨?_, rfl⟩
  show (if a = k then _ else S.1 a) = S.1 a
  rw [if_neg (show ¬ a = k from fun e => ha (by rw [e]; exact hk))]
theorem Fr.setL {F : Nat → Prop} (S : St) {k : Nat} (j : Nat) (v : Int64) (hk : F k) : Fr F S (setL S k j v) := by
  intro a ha
  refine ⟨rfl, ?_⟩
  show (if a = k then _ else S.2 a) = S.2 a
  rw [if_neg (show ¬ a = k from fun e => ha (by rw [e]; exact hk))]
theorem setI_at (S : St) (k j : Nat) (v : Int32) (a b : Nat) : (setI S k j v).1 a b = if a = k ∧ b = j then v else S.1 a b := by
  show (if a = k then upd (S.1 k) j v else S.1 a) b = _
  by_cases h : a = k
  · subst h
    rw [if_pos rfl]
    by_cases h2 : b = j
    · simp [upd, h2]
    · simp [upd, h2]
  · simp [h]
theorem setL_at (S : St) (k j : Nat) (v : Int64) (a b : Nat) : (setL S k j v).2 a b = if a = k ∧ b = j then v else S.2 a b := by
  show (if a = k then vp_updL (S.2 k) j v else S.2 a) b = _
  by_cases h : a = k
  · subst h
    rw [if_pos rfl]
    by_cases h2 : b = j
    · simp [vp_updL, h2]
    · simp [vp_updL, h2]
  · simp [h]
theorem setI_L (S : St) (k j : Nat) (v : Int32) : (setI S k j v).2 = S.2 := rfl
theorem setL_I (S : St) (k j : Nat) (v : Int64) : (setL S k j v).1 = S.1 := rfl
-- the world's places
theorem shp_gap {ρ : Rs} {k : Nat} (h : gap k) : shp ρ k = .inr (9, 0) := by
  have h95 : k < N0 := by unfold gap at h; unfold N0; omega
  unfold shp
  rw [if_pos h95]
  unfold gap at h
  rcases (show k = 38 ∨ k = 39 ∨ k = 40 ∨ k = 41 ∨ k = 56 ∨ k = 57 ∨ k = 58 ∨ k = 59 ∨ k = 61 ∨ k = 62 ∨ k = 63 ∨ k = 64 by omega) with rfl | rfl | rfl | rfl | rfl | rfl | rfl | rfl | rfl | rfl | rfl | rfl <;> rfl
theorem ngA {ρ : Rs} {k t n : Nat} (ht : t ≠ 9) (hs : shp ρ k = .inr (t, n)) : ¬ gap k := fun h => by
  rw [shp_gap h] at hs
  simp only [Sum.inr.injEq, Prod.mk.injEq] at hs
  exact ht hs.1.symm
theorem ngO {ρ : Rs} {k ci : Nat} (hs : shp ρ k = .inl ci) : ¬ gap k := fun h => by
  rw [shp_gap h] at hs
  cases hs
def isFl (s : Sh) (j : Nat) : Bool := match s with
  | .inr (3, n) => (j == 37 && n == 320) || (j == 55 && n == 480) || (j == 60 && n == 480)
  | _ => true
theorem flat_all : ∀ j, j < 95 → isFl (sh0 j) j = true := by decide +kernel
theorem flat_of {ρ : Rs} {j n : Nat} (h : shp ρ j = .inr (3, n)) : (j = 37 ∧ n = 320) ∨ (j = 55 ∧ n = 480) ∨ (j = 60 ∧ n = 480) := by
  unfold shp at h
  by_cases c : j < N0
  · rw [if_pos c] at h
    have z := flat_all j c
    rw [h] at z
    simpa [isFl, or_assoc] using z
  · rw [if_neg c] at h
    simp at h
theorem ng_ne {ρ : Rs} {j n k i : Nat} (hg : ¬ gap k) (h : shp ρ j = .inr (3, n)) (hi : i < 4) : j + 1 + i ≠ k := fun e => by
  apply hg
  have := flat_of h
  unfold gap
  omega
theorem wsO_len (g : GX) (ρ : Rs) (S : St) : (wsO g ρ S).length = pl (rn ρ) := by simp [wsO]
theorem wsO_get {g : GX} {ρ : Rs} {S : St} {k : Nat} (h1 : 16 ≤ k) (hg : ¬ gap k) (h2 : k < rn ρ) : (wsO g ρ S)[pl k]? = some (ad g k, ent g ρ S k) := by
  have h3 : pl k < pl (rn ρ) := pl_lt h1 hg h2
  have e : lb (pl k) = k := lb_pl h1 hg
  simp only [wsO, List.getElem?_map, List.getElem?_range h3, Option.map_some, e, ad, if_neg (show ¬ k < 16 by omega)]
theorem wsO_at {g : GX} {ρ : Rs} {S : St} {i : Nat} {q : Nat × va_E} (h : (wsO g ρ S)[i]? = some q) : i < pl (rn ρ) ∧ q = (gB g + i, ent g ρ S (lb i)) := by
  have hl : i < pl (rn ρ) := by
    have := (List.getElem?_eq_some_iff.mp h).1
    rwa [wsO_len] at this
  refine ⟨hl, ?_⟩
  simp only [wsO, List.getElem?_map, List.getElem?_range hl, Option.map_some, Option.some.injEq] at h
  exact h.symm
theorem wsO_D (g : GX) (ρ : Rs) (S : St) : va_D (gA g) (wsO g ρ S) := by
  refine ⟨fun i j p q hi hj e => ?_, fun k q hk => ?_⟩
  · obtain ⟨_, rfl⟩ := wsO_at hi
    obtain ⟨_, rfl⟩ := wsO_at hj
    have e2 : gB g + i = gB g + j := e
    omega
  · obtain ⟨_, rfl⟩ := wsO_at hk
    show gB g ≤ gB g + k
    omega
theorem wsO_ix (g : GX) (ρ : Rs) (S : St) {i : Nat} (hi : i < pl (rn ρ)) : (wsO g ρ S)[i]? = some (gB g + i, ent g ρ S (lb i)) := by
  simp only [wsO, List.getElem?_map, List.getElem?_range hi, Option.map_some]
theorem wsO_set {g : GX} {ρ ρ' : Rs} {S S' : St} {k : Nat} {a : Nat} {e : va_E} (h1 : 16 ≤ k) (hg : ¬ gap k) (h2 : k < rn ρ) (hn : rn ρ' = rn ρ) (ha : a = ad g k) (he : ent g ρ' S' k = e) (ho : ∀ j, 16 ≤ j → j < rn ρ → j ≠ k → ent g ρ' S' j = ent g ρ S j) :
    (wsO g ρ S).set (pl k) (a, e) = wsO g ρ' S' := by
  apply List.ext_getElem?
  intro i
  by_cases hi : i < pl (rn ρ)
  · by_cases hk : i = pl k
    · subst hk
      rw [List.getElem?_set_self (by rw [wsO_len]; exact hi), wsO_get h1 hg (by rw [hn]; exact h2), he, ha]
    · rw [List.getElem?_set_ne (Ne.symm hk), wsO_ix g ρ S hi, wsO_ix g ρ' S' (by rw [hn]; exact hi), ho (lb i) (lb_16 i) (lb_lt hi) (fun e => hk (by rw [← e, pl_lb]))]
  · rw [List.getElem?_eq_none (by rw [List.length_set, wsO_len]; omega), List.getElem?_eq_none (by rw [wsO_len, hn]; omega)]
theorem wsO_push {g : GX} {ρ ρ' : Rs} {S S' : St} {a : Nat} {e : va_E} (h1 : 16 ≤ rn ρ) (hg : ¬ gap (rn ρ)) (hn : pl (rn ρ') = pl (rn ρ) + 1) (ha : a = gB g + pl (rn ρ)) (he : ent g ρ' S' (rn ρ) = e) (ho : ∀ j, 16 ≤ j → j < rn ρ → ent g ρ' S' j = ent g ρ S j) :
    wsO g ρ S ++ [(a, e)] = wsO g ρ' S' := by
  apply List.ext_getElem?
  intro i
  by_cases hi : i < pl (rn ρ)
  · rw [List.getElem?_append_left (by rw [wsO_len]; exact hi), wsO_ix g ρ S hi, wsO_ix g ρ' S' (by omega), ho (lb i) (lb_16 i) (lb_lt hi)]
  · rw [List.getElem?_append_right (by rw [wsO_len]; omega), wsO_len]
    by_cases h0 : i = pl (rn ρ)
    · subst h0
      rw [Nat.sub_self, wsO_ix g ρ' S' (by omega), lb_pl h1 hg, he, ha]
      rfl
    · rw [List.getElem?_eq_none (by simp; omega), List.getElem?_eq_none (by rw [wsO_len, hn]; omega)]

-- what an entry is, by its shape
theorem ent_I {g : GX} {ρ : Rs} {S : St} {k n : Nat} (h : shp ρ k = .inr (0, n)) : ent g ρ S k = .inl (gC g 0, n, .inl (S.1 k)) := by unfold ent; rw [h]; rfl
theorem ent_Z {g : GX} {ρ : Rs} {S : St} {k n : Nat} (h : shp ρ k = .inr (2, n)) : ent g ρ S k = .inl (gC g 2, n, .inl (S.1 k)) := by unfold ent; rw [h]; rfl
theorem ent_J {g : GX} {ρ : Rs} {S : St} {k n : Nat} (h : shp ρ k = .inr (1, n)) : ent g ρ S k = .inl (gC g 1, n, .inr (.inl (S.2 k))) := by unfold ent; rw [h]; rfl
theorem ent_F {g : GX} {ρ : Rs} {S : St} {k n : Nat} (h : shp ρ k = .inr (3, n)) : ent g ρ S k = .inl (gC g 1, 4 * n, .inr (.inl (fun i => S.2 (k + 1 + i / n % 4) (i % n)))) := by unfold ent; rw [h]; rfl
theorem ent_O {g : GX} {ρ : Rs} {S : St} {k ci : Nat} (h : shp ρ k = .inl ci) : ent g ρ S k = .inr (ci, flds g ρ S k (fkA ci)) := by unfold ent; rw [h]
theorem flds_get {g : GX} {ρ : Rs} {S : St} {k : Nat} {ts : List Nat} {j t : Nat} (h : ts[j]? = some t) : (flds g ρ S k ts)[j]? = some (fval g ρ S k t j) := by
  simp [flds, List.getElem?_map, List.getElem?_zipIdx, h]
theorem flds_len (g : GX) (ρ : Rs) (S : St) (k : Nat) (ts : List Nat) : (flds g ρ S k ts).length = ts.length := by simp [flds]
/-- a row of the store has changed, and no other -/
theorem ent_ext {g : GX} {ρ ρ' : Rs} {S S' : St} {j : Nat} (h0 : shp ρ' j = shp ρ j) (h1 : S'.1 j = S.1 j) (h2 : S'.2 j = S.2 j) (h3 : rR ρ' j = rR ρ j) (h4 : ∀ n, shp ρ j = .inr (3, n) → ∀ i, i < 4 → S'.2 (j + 1 + i) = S.2 (j + 1 + i)) : ent g ρ' S' j = ent g ρ S j := by
  by_cases c : ∃ n, shp ρ j = .inr (3, n)
  · obtain ⟨n, hn⟩ := c
    rw [ent_F hn, ent_F (h0.trans hn)]
    have : (fun i => S'.2 (j + 1 + i / n % 4) (i % n)) = fun i => S.2 (j + 1 + i / n % 4) (i % n) := funext fun i => by rw [h4 n hn (i / n % 4) (Nat.mod_lt _ (by decide))]
    rw [this]
  · unfold ent flds fval
    rw [h0, h1, h2, h3]
    split
    · rfl
    · rfl
    · rename_i n hn
      exact absurd ⟨n, hn⟩ c
    · rfl
theorem setI_ne (S : St) {k a : Nat} (j : Nat) (v : Int32) (h : a ≠ k) : (setI S k j v).1 a = S.1 a := if_neg h
theorem setL_ne (S : St) {k a : Nat} (j : Nat) (v : Int64) (h : a ≠ k) : (setL S k j v).2 a = S.2 a := if_neg h
theorem setI_eq (S : St) (k j : Nat) (v : Int32) : (setI S k j v).1 k = upd (S.1 k) j v := if_pos rfl
theorem setL_eq (S : St) (k j : Nat) (v : Int64) : (setL S k j v).2 k = vp_updL (S.2 k) j v := if_pos rfl
theorem flds_set {g : GX} {ρ ρ' : Rs} {S S' : St} {k : Nat} {ts : List Nat} {j t : Nat} {v : Value} (h : ts[j]? = some t) (hv : fval g ρ' S' k t j = v) (ho : ∀ i u, i ≠ j → ts[i]? = some u → fval g ρ' S' k u i = fval g ρ S k u i) :
    (flds g ρ S k ts).set j v = flds g ρ' S' k ts := by
  apply List.ext_getElem?
  intro i
  by_cases hi : i = j
  · subst hi
    have hl := (List.getElem?_eq_some_iff.mp h).1
    rw [List.getElem?_set_self (by rw [flds_len]; exact hl), flds_get h, hv]
  · rw [List.getElem?_set_ne (Ne.symm hi)]
    cases hu : ts[i]? with
    | none =>
      have hl := List.getElem?_eq_none_iff.mp hu
      rw [List.getElem?_eq_none (by rw [flds_len]; exact hl), List.getElem?_eq_none (by rw [flds_len]; exact hl)]
    | some u => rw [flds_get hu, flds_get hu, ho i u hi hu]
