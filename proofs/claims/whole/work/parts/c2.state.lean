-- CLASS AND REFERENCE SIDE BY SIDE
/-- only these labels may be written -/
def gw (g : GX) (F : Nat → Prop) : GX := (g.1, g.2.1, g.2.2.1, g.2.2.2.1, g.2.2.2.2.1, F, g.2.2.2.2.2.2.1, g.2.2.2.2.2.2.2)
theorem CALL.wide {g : GX} {F : Nat → Prop} {d : Nat} {M : MD} {av : List Value} {ρ ρ' : Rs} {S : St} {Q : Option Value → St → Prop} (h : CALL (gw g F) d M av ρ ρ' S Q) (hF : ∀ k, F k → gF g k) : CALL g d M av ρ ρ' S (fun r S' => Q r S' ∧ Fr F S S') :=
  ⟨h.1, h.2.1, fun Q2 h2 => h.2.2 Q2 (fun r S' q f => h2 r S' ⟨q, f⟩ (Fr.mono f hF))⟩
/-- the reference's labels -/
def Fm (k : Nat) : Prop := 80 ≤ k ∧ k ≤ 94
def Fmn (n k : Nat) : Prop := (80 ≤ k ∧ k ≤ 94) ∨ k = n
section PRs
variable {g : GX} {d : Nat} {ρ ρ' : Rs} {S : St} {M : MD} {av : List Value}
theorem mdI {F : Nat → Prop} {Q Q' : Int32 → St → Prop} (hA : ∀ k, 16 ≤ k → gF g k) (hF : ∀ k, F k → 16 ≤ k) (h : CALLi (gw g F) d M av ρ ρ' S Q) (hq : ∀ v S', Q v S' → Fr F S S' → Q' v S') : CALLi g d M av ρ ρ' S Q' := by
  have := CALL.wide h (fun k hk => hA k (hF k hk))
  exact this.mono (fun r S' _ ⟨⟨v, e, q⟩, f⟩ => ⟨v, e, hq v S' q f⟩)
theorem mdL {F : Nat → Prop} {Q Q' : Int64 → St → Prop} (hA : ∀ k, 16 ≤ k → gF g k) (hF : ∀ k, F k → 16 ≤ k) (h : CALLl (gw g F) d M av ρ ρ' S Q) (hq : ∀ v S', Q v S' → Fr F S S' → Q' v S') : CALLl g d M av ρ ρ' S Q' := by
  have := CALL.wide h (fun k hk => hA k (hF k hk))
  exact this.mono (fun r S' _ ⟨⟨v, e, q⟩, f⟩ => ⟨v, e, hq v S' q f⟩)
end PRs
theorem Fm16 (k : Nat) (h : Fm k) : 16 ≤ k := by unfold Fm at h; omega
theorem gFm {g : GX} {L : List Nat} (h : ∀ k ∈ L, 80 ≤ k ∧ k ≤ 94) : ∀ k ∈ L, gF (gw g Fm) k := h
/-- the state between two calls -/
def ST (b : AS) (p : Bool) (ρ : Rs) (S : St) : Prop := WF b ∧ NR ρ ∧ IK b ρ p S ∧ IM b S
section STs
variable {b : AS} {p : Bool} {ρ : Rs} {S S' : St}
theorem ST.ok (h : ST b p ρ S) : Ok ρ := h.2.1.1
theorem ST.ib (h : ST b p ρ S) : IB b S := h.2.2.1.1
theorem ST.frm (h : ST b p ρ S) (f : Fr Fm S S') (hi : IM b S') : ST b p ρ S' := by
  refine ⟨h.1, h.2.1, h.2.2.1.fr h.2.1 (fun k hk => f k (fun z => ?_)), hi⟩
  unfold Fm at z
  omega
theorem ST.fib (h : ST b p ρ S) : ∃ a V, nR b ≠ 0 → ICm b a V S ∧ MVd a S := by
  by_cases c : nR b = 0
  · exact ⟨b, fun _ => [], fun z => absurd c z⟩
  · obtain ⟨a, V, k1, k2, -⟩ := h.2.2.1.2.2.2 c
    exact ⟨a, V, fun _ => ⟨k1, k2⟩⟩
/-- the class has changed what it keeps of its measures -/
theorem ST.mea {a : AS} {V : Nat → List Nat} (h : ST b p ρ S) (hR : nR b ≠ 0) (hc : ICm b a V S') (hm : MVd a S) (f : Fr FMs S S') : ST b p ρ S' := by
  obtain ⟨w, nr, ⟨k1, k2, k3, k4⟩, im⟩ := h
  have e : ∀ k, ¬ FMs k → S'.1 k = S.1 k ∧ S'.2 k = S.2 k := fun k hk => f k hk
  refine ⟨w, nr, ⟨k1.fr (F := FMs) (fun k hk z => by unfold FMs at z; omega) f, ?_, k3, fun c => ⟨a, V, hc, hm.of (fun k h1 h2 => e k (by unfold FMs; omega)), fun z => ?_⟩⟩, im.fr (F := FMs) (fun k hk z => by unfold FMs at z; omega) f⟩
  · rw [(e 70 (by unfold FMs; omega)).1]; exact k2
  · obtain ⟨a', V', q1, q2, q3⟩ := k4 c
    have hs : Smp a' a := by
      obtain ⟨x1, x2, x3, x4⟩ := hc.2.1
      obtain ⟨y1, y2, y3, y4⟩ := q1.2.1
      exact ⟨x1.symm.trans y1, x2.symm.trans y2, x3.symm.trans y3, fun y => (x4.1 y).symm.trans (y4.1 y), fun x => (x4.2 x).symm.trans (y4.2 x)⟩
    have hi := (q3 z).2.of2 nr (S' := S') (fun k hk => e k (by unfold FMs; omega))
    refine ⟨by rw [KK_smp hs]; exact (q3 z).1, ?_⟩
    unfold IN CN hdA at hi ⊢
    rw [KK_smp hs, show NB a = NB a' from funext (NB_smp hs), show FNo a = FNo a' from funext (FNo_smp hs), adjS_smp hs, adjT_smp hs]
    exact hi
/-- an act: cells change, sums don't -/
theorem ST.act {b' : AS} (h : ST b p ρ S) (hW : WF b') (hs : Smp b b') (ib : IB b' S') (f : ∀ k, 26 ≤ k → k ≤ 79 ∨ (95 ≤ k ∧ k < rn ρ) → S'.1 k = S.1 k ∧ S'.2 k = S.2 k) (im : IM b' S') : ST b' p ρ S' := by
  obtain ⟨w, nr, ⟨k1, k2, k3, k4⟩, _⟩ := h
  refine ⟨hW, nr, ⟨ib, by rw [(f 70 (by omega) (by omega)).1]; exact k2, fun z => k3 (by rw [← hs.1]; exact z), fun c => ?_⟩, im⟩
  obtain ⟨a, V, q1, q2, q3⟩ := k4 (by rw [← hs.1]; exact c)
  refine ⟨a, V, ⟨q1.1, ?_, (q1.fr (fun k h1 h2 => f k (by omega) (by omega))).2.2⟩, q2.of (fun k h1 h2 => f k (by omega) (by omega)), fun z => ⟨(q3 z).1, (q3 z).2.of2 nr (fun k hk => f k (by omega) (by omega))⟩⟩
  obtain ⟨x1, x2, x3, x4⟩ := hs
  obtain ⟨y1, y2, y3, y4⟩ := q1.2.1
  exact ⟨x1.trans y1, x2.trans y2, x3.trans y3, y4.tr x4⟩
/-- a new row behind all others -/
theorem ST.nw (h : ST b p ρ S) (n s : Nat) : ST b p (newR ρ n s) S := by
  obtain ⟨w, nr, ⟨k1, k2, k3, k4⟩, im⟩ := h
  obtain ⟨h1, ⟨kn, r1, r2, r3, r4⟩, h3, h4, ka, kb, h5, h6, h7⟩ := nr
  have hN : 95 ≤ rn ρ := h1.1
  have e70 : rR (newR ρ n s) 70 = rR ρ 70 := if_neg (by omega)
  have es : shp (newR ρ n s) kn = shp ρ kn := newR_shp r3
  have el : nlen (newR ρ n s) = nlen ρ := nlen_of (by rw [e70]; exact r1) (by rw [es]; exact r4)
  refine ⟨w, ⟨h1.newR n s, ⟨kn, by rw [e70]; exact r1, r2, Nat.lt_succ_of_lt r3, by rw [es, el]; exact r4⟩, by rw [el]; exact h3, by rw [el]; exact h4, ka, kb, by rw [e70]; exact h5, by rw [e70]; exact h6, h7⟩, ⟨k1, k2, k3, fun c => ?_⟩, im⟩
  obtain ⟨a, V, q1, q2, q3⟩ := k4 c
  refine ⟨a, V, q1, q2, fun z => ⟨(q3 z).1, ?_⟩⟩
  obtain ⟨⟨kn', t1, t2⟩, t3, t4⟩ := (q3 z).2
  exact ⟨⟨kn', by rw [e70]; exact t1, t2⟩, by rw [el]; exact t3, t4⟩
end STs
