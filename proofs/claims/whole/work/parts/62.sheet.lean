-- THE SHEET TAKES WHAT WAS READ
def F23 (k : Nat) : Prop := k = 21 ∨ k = 22 ∨ k = 23
def ShC (R C ln : Nat) (h : Nat → Nat → Bool) (t : Nat → Nat → Nat) (w : Nat) (S : St) : Prop :=
  S.1 21 0 = nI R ∧ S.1 21 1 = nI C ∧ S.1 21 2 = nI ln ∧ S.1 21 3 = nI (tsum t) ∧ S.1 21 4 = nI (hB h) ∧ (∀ y, y < 4 → S.1 22 y = nI (rsum t y)) ∧ (∀ x, x < 4 → S.1 23 x = nI (csum t x)) ∧ S.2 21 7 = lN w ∧ S.1 21 8 = nI 0
theorem pk_step {t : Nat → Nat → Nat} (ht : ∀ a b, t a b ≤ 9) {m : Nat} (hm : m < 16) : lN (2 ^ (4 * (16 - m)) * pkN t m) ||| (lN (t (m / 4) (m % 4) * 2 ^ (4 * (15 - m)))) = lN (2 ^ (4 * (16 - (m + 1))) * pkN t (m + 1)) := by
  have h9 := ht (m / 4) (m % 4)
  have e : 2 ^ (4 * (16 - m)) = 16 * 2 ^ (4 * (15 - m)) := by
    rw [show 4 * (16 - m) = 4 + 4 * (15 - m) by omega, Nat.pow_add]
  have hp : 0 < 2 ^ (4 * (15 - m)) := Nat.two_pow_pos _
  rw [fb_or_sumL, show 16 - (m + 1) = 15 - m by omega]
  · congr 1
    show _ = 2 ^ (4 * (15 - m)) * (16 * pkN t m + t (m / 4) (m % 4))
    rw [e, Nat.mul_add, Nat.mul_comm (t _ _), ← Nat.mul_assoc, Nat.mul_comm (2 ^ (4 * (15 - m))) 16]
  · rw [e]
    exact Nat.lt_of_le_of_lt (Nat.mul_le_mul_right _ h9) (Nat.mul_lt_mul_of_pos_right (by decide) hp)
section T2
variable {g : GX} {d : Nat} {ρ : Rs} {S : St} {R C ln : Nat} {h : Nat → Nat → Bool} {T : Nat} {t : Nat → Nat → Nat}
theorem sC_take {Q : St → Prop} (hρ : Ok ρ) (hF : ∀ k ∈ ([21, 22, 23] : List Nat), gF g k) (hR : RdC R C ln h T t S) (ht : ∀ a b, t a b ≤ 9) (hQ : ∀ S', ShC R C ln h t (pack t) S' → Fr F23 S S' → Q S') : CALLv g (d + 4) mX9_take [.ref 21, .ref 19] ρ ρ S Q := by
  obtain ⟨r0, r1, r2, r3, r4, r5, r7, r20⟩ := hR
  refine eX9_take hρ (fun k hk => hF k (by simp at hk; simp [hk])) ?_
  rw [r2, r3, r4, r5]
  refine sJ_fill hρ (by decide) (by decide) (n := 4) rfl (by decide) (hF 22 (by simp)) (fun S1 f1 f2 f3 => ?_)
  refine sJ_fill hρ (by decide) (by decide) (n := 4) rfl (by decide) (hF 23 (by simp)) (fun S2 g1 g2 g3 => ?_)
  have e21 : S2.1 21 = (setI (setL (setI (setI (setI (setI (setI S 21 0 (nI R)) 21 1 (nI C)) 21 2 (nI ln)) 21 4 (nI (hB h))) 21 3 0) 21 7 0) 21 8 0).1 21 := by
    rw [(g2 21 (by decide)).1, (f2 21 (by decide)).1]
  have z0 : tp t 0 = t0 := by funext a b; unfold tp; rw [if_neg (by omega)]
  have i0 : ShC R C ln h (tp t 0) (2 ^ (4 * (16 - 0)) * pkN t 0) S2 := by
    rw [z0]
    unfold ShC
    rw [e21]
    refine ⟨?_, ?_, ?_, ?_, ?_, ?_, ?_, ?_, ?_⟩
    · simp [setI_at, setL]
    · simp [setI_at, setL]
    · simp [setI_at, setL]
    · simp [setI_at, setL]; rfl
    · simp [setI_at, setL]
    · intro y hy; rw [(g2 22 (by decide)).1, f1 y hy]; rfl
    · intro x hx; rw [g1 x hx]; rfl
    · rw [g3, f3]; simp [setI_L, setL_at]; rfl
    · simp [setI_at, setL]; rfl
  have fr2 : Fr F23 S S2 := by
    refine Fr.tr (Fr.tr ?_ (f2.mono (fun k hk => Or.inr (Or.inl hk)))) (g2.mono (fun k hk => Or.inr (Or.inr hk)))
    exact ((((((Fr.setI S _ _ (Or.inl rfl)).tr (Fr.setI _ _ _ (Or.inl rfl))).tr (Fr.setI _ _ _ (Or.inl rfl))).tr (Fr.setI _ _ _ (Or.inl rfl))).tr (Fr.setI _ _ _ (Or.inl rfl))).tr (Fr.setL _ _ _ (Or.inl rfl))).tr (Fr.setI _ _ _ (Or.inl rfl))
  have key : ∀ n y x S3, 4 * y + x + n = 16 → x ≤ 4 → y < 4 → ShC R C ln h (tp t (4 * y + x)) (2 ^ (4 * (16 - (4 * y + x))) * pkN t (4 * y + x)) S3 → Fr F23 S S3 → AW g ρ (QV Q) (d + 4) mX9_take 72 [(0, .ref 21), (1, .ref 19), (2, .int (nI y)), (3, .int (nI x))] [] ρ S3 := by
    intro n
    induction n with
    | zero =>
      intro y x S3 hn hx hy hi hfr
      refine eX9_take_72 hρ hF ?_
      rw [if_pos (show (4 : Int32) ≤ nI x from nI_le (a := 4) (by omega) (by omega)), nI_1]
      refine eX9_take_65 hρ ?_
      rw [if_pos (show (4 : Int32) ≤ nI (y + 1) from nI_le (a := 4) (by omega) (by omega))]
      refine hQ S3 ?_ hfr
      rw [show 4 * y + x = 16 by omega] at hi
      obtain ⟨a0, a1, a2, a3, a4, a5, a6, a7, a8⟩ := hi
      refine ⟨a0, a1, a2, ?_, a4, fun y hy => ?_, fun x hx => ?_, ?_, a8⟩
      · rw [a3, tp_ts]
      · rw [a5 y hy, tp_rs t hy]
      · rw [a6 x hx, tp_cs t hx]
      · rw [a7, Nat.sub_self, Nat.mul_zero, Nat.pow_zero, Nat.one_mul]; rfl
    | succ n ih =>
      -- a cell
      have cell : ∀ y x S3, 4 * y + x + (n + 1) = 16 → x < 4 → y < 4 → ShC R C ln h (tp t (4 * y + x)) (2 ^ (4 * (16 - (4 * y + x))) * pkN t (4 * y + x)) S3 → Fr F23 S S3 → AW g ρ (QV Q) (d + 4) mX9_take 72 [(0, .ref 21), (1, .ref 19), (2, .int (nI y)), (3, .int (nI x))] [] ρ S3 := by
        intro y x S3 hn hx hy hi hfr
        obtain ⟨a0, a1, a2, a3, a4, a5, a6, a7, a8⟩ := hi
        have e4 : (4 : Int32) * nI y + nI x = nI (4 * y + x) := by
          show nI 4 * nI y + nI x = _
          rw [pk_mul, nI_add]
        have c20 : S3.1 20 (4 * y + x) = nI (t y x) := by
          rw [(hfr 20 (by unfold F23; omega)).1, r20 (4 * y + x) (by omega), show (4 * y + x) / 4 = y by omega, show (4 * y + x) % 4 = x by omega]
        have h9 := ht y x
        refine eX9_take_72 hρ hF ?_
        rw [if_neg (show ¬ (4 : Int32) ≤ nI x from nI_ge (b := 4) hx (by omega)), e4, nI_clamp (show 4 * y + x < 2 ^ 31 by omega), nI_clamp (show y < 2 ^ 31 by omega), nI_clamp (show x < 2 ^ 31 by omega), c20, a3, a5 y hy, a6 x hx, a7, nI_add, nI_add, nI_add, nI_1]
        refine ⟨vp_in_nI (by omega) (by omega), vp_in_nI hy (by omega), vp_in_nI hy (by omega), vp_in_nI hx (by omega), vp_in_nI hx (by omega), sC_shift hρ hy hx ?_⟩
        rw [wide (show t y x < 2 ^ 31 by omega), wb_shl _ (by omega)]
        have pe : lN (2 ^ (4 * (16 - (4 * y + x))) * pkN t (4 * y + x)) ||| lN (t y x * 2 ^ (4 * (15 - 4 * y - x))) = lN (2 ^ (4 * (16 - (4 * y + x + 1))) * pkN t (4 * y + x + 1)) := by
          have := pk_step ht (m := 4 * y + x) (by omega)
          rw [show (4 * y + x) / 4 = y by omega, show (4 * y + x) % 4 = x by omega, show 15 - (4 * y + x) = 15 - 4 * y - x by omega] at this
          exact this
        rw [pe]
        have hz : tp t (4 * y + x) y x = 0 := tp_z t
        refine ih y (x + 1) _ (by omega) (by omega) hy ?_ ((((hfr.tr (Fr.setI _ _ _ (Or.inl rfl))).tr (Fr.setI _ _ _ (Or.inr (Or.inl rfl)))).tr (Fr.setI _ _ _ (Or.inr (Or.inr rfl)))).tr (Fr.setL _ _ _ (Or.inl rfl)))
        rw [show 4 * y + (x + 1) = 4 * y + x + 1 by omega, tp_s t hx]
        refine ⟨?_, ?_, ?_, ?_, ?_, fun a ha => ?_, fun b hb => ?_, ?_, ?_⟩
        · simp [setI_at, setL, a0]
        · simp [setI_at, setL, a1]
        · simp [setI_at, setL, a2]
        · rw [tsum_upd hy hx hz]; simp [setI_at, setL]
        · simp [setI_at, setL, a4]
        · rw [rsum_upd hx hz]
          by_cases c : a = y
          · subst c; simp [setI_at, setL]
          · simp [setI_at, setL, c, a5 a ha]
        · rw [csum_upd hy hz]
          by_cases c : b = x
          · subst c; simp [setI_at, setL]
          · simp [setI_at, setL, c, a6 b hb]
        · rw [setL_at, if_pos ⟨rfl, rfl⟩]
        · simp [setI_at, setL, a8]
      intro y x S3 hn hx hy hi hfr
      by_cases c : x = 4
      · subst c
        refine eX9_take_72 hρ hF ?_
        rw [if_pos (show (4 : Int32) ≤ nI 4 from nI_le (a := 4) (by omega) (by omega)), nI_1]
        refine eX9_take_65 hρ ?_
        rw [if_neg (show ¬ (4 : Int32) ≤ nI (y + 1) from nI_ge (b := 4) (by omega) (by omega))]
        rw [show 4 * y + 4 = 4 * (y + 1) + 0 by omega] at hi
        exact cell (y + 1) 0 S3 (by omega) (by omega) (by omega) hi hfr
      · exact cell y x S3 hn (by omega) hy hi hfr
  refine eX9_take_65 hρ ?_
  rw [if_neg (show ¬ (4 : Int32) ≤ 0 by decide)]
  exact key 16 0 0 S2 (by omega) (by omega) (by omega) i0 fr2
end T2
