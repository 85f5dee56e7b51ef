section
/-! FLOATS, PURE (1): rounding by sticky bits: m stands for the ratio A / B -/
def fp_S (m A B : Nat) : Prop := (m % 2 = 0 → A = m * B) ∧ (m % 2 = 1 → (m - 1) * B < A ∧ A < (m + 1) * B)
theorem fp_S_self (m : Nat) {B : Nat} (hB : 0 < B) : fp_S m (m * B) B := by
  refine ⟨fun _ => rfl, fun h => ⟨?_, ?_⟩⟩
  · exact Nat.mul_lt_mul_of_pos_right (by omega) hB
  · exact Nat.mul_lt_mul_of_pos_right (by omega) hB
theorem fp_nearest {m A B g : Nat} (hB : 0 < B) (hg : 0 < g) (h : fp_S m A B) : FP.Core.nearest A (4 * g * B) = FP.Core.nearest m (4 * g) := by
  rcases Nat.mod_two_eq_zero_or_one m with e | e
  · rw [h.1 e]
    exact FP.Core.nearest_scale m (4 * g) B hB
  · obtain ⟨h1, h2⟩ := h.2 e
    have hm := Nat.div_add_mod m (4 * g)
    have hr := Nat.mod_lt m (show 0 < 4 * g by omega)
    unfold FP.Core.nearest
    generalize m / (4 * g) = k at *
    generalize m % (4 * g) = r at *
    have e1 : 4 * g * k = 4 * (g * k) := Nat.mul_assoc _ _ _
    have hro : r % 2 = 1 := by rw [e1] at hm; generalize g * k = w at hm; omega
    have e2 : m * B = 4 * g * B * k + r * B := by rw [← hm, Nat.add_mul]; congr 1; ac_rfl
    have e3 : (m - 1) * B = 4 * g * B * k + (r - 1) * B := by
      rw [show m - 1 = 4 * g * k + (r - 1) by omega, Nat.add_mul]; congr 1; ac_rfl
    have e4 : (m + 1) * B = 4 * g * B * k + (r + 1) * B := by
      rw [show m + 1 = 4 * g * k + (r + 1) by omega, Nat.add_mul]; congr 1; ac_rfl
    rw [e3] at h1
    rw [e4] at h2
    have e5 : (r + 1) * B ≤ 4 * g * B := Nat.mul_le_mul_right B (by omega)
    have hD : 0 < 4 * g * B := Nat.mul_pos (by omega) hB
    have q1 : A / (4 * g * B) = k := by
      refine Nat.div_eq_of_lt_le ?_ ?_
      · rw [Nat.mul_comm]; omega
      · rw [Nat.add_mul, Nat.one_mul, Nat.mul_comm k]; omega
    have q2 : A % (4 * g * B) = A - 4 * g * B * k := by
      have := Nat.div_add_mod A (4 * g * B)
      rw [q1] at this
      omega
    rw [q1, q2]
    have e6 : 4 * g * B = 2 * (2 * g * B) := by rw [← Nat.mul_assoc, ← Nat.mul_assoc]
    by_cases hlt : r < 2 * g
    · have e7 : (r + 1) * B ≤ 2 * g * B := Nat.mul_le_mul_right B (by omega)
      rw [if_pos (by omega), if_pos (by omega)]
    · have e7 : 2 * g * B ≤ (r - 1) * B := Nat.mul_le_mul_right B (by omega)
      rw [if_neg (by omega), if_pos (by omega), if_neg (by omega), if_pos (by omega)]
/-- shifting right by b, what falls off leaves a last bit 1 -/
def fp_sh (m b : Nat) : Nat := if m % 2 ^ b = 0 then m / 2 ^ b else 2 * (m / 2 ^ b / 2) + 1
theorem fp_S_sh {m A B : Nat} (b : Nat) (hB : 0 < B) (h : fp_S m A B) : fp_S (fp_sh m b) A (2 ^ b * B) := by
  have hP := Nat.two_pow_pos b
  rcases Nat.eq_zero_or_pos b with rfl | hb
  · have : fp_sh m 0 = m := by unfold fp_sh; simp [Nat.mod_one]
    rw [this, Nat.pow_zero, Nat.one_mul]; exact h
  have hm := Nat.div_add_mod m (2 ^ b)
  have hr := Nat.mod_lt m hP
  obtain ⟨c, rfl⟩ : ∃ c, b = c + 1 := ⟨b - 1, by omega⟩
  have hPe : 2 ^ (c + 1) = 2 * 2 ^ c := by rw [Nat.pow_succ, Nat.mul_comm]
  unfold fp_sh
  generalize m / 2 ^ (c + 1) = k at *
  generalize m % 2 ^ (c + 1) = r at *
  generalize 2 ^ (c + 1) = P at *
  generalize 2 ^ c = P' at *
  by_cases hz : r = 0
  · rw [if_pos hz]
    subst hz
    have hme : m % 2 = 0 := by rw [← hm, hPe, Nat.add_zero, Nat.mul_assoc]; omega
    have hA := h.1 hme
    have hA' : A = k * (P * B) := by rw [hA, ← hm, Nat.add_zero]; ac_rfl
    rw [hA']
    exact fp_S_self k (Nat.mul_pos hP hB)
  · rw [if_neg hz]
    have hlo : P * k * B < A := by
      rcases Nat.mod_two_eq_zero_or_one m with e | e
      · rw [h.1 e, ← hm]
        exact Nat.mul_lt_mul_of_pos_right (by omega) hB
      · refine Nat.lt_of_le_of_lt ?_ (h.2 e).1
        exact Nat.mul_le_mul_right B (by omega)
    have hhi : A < P * (k + 1) * B := by
      rcases Nat.mod_two_eq_zero_or_one m with e | e
      · rw [h.1 e]
        refine Nat.mul_lt_mul_of_pos_right ?_ hB
        rw [Nat.mul_add, Nat.mul_one]; omega
      · refine Nat.lt_of_lt_of_le (h.2 e).2 ?_
        refine Nat.mul_le_mul_right B ?_
        rw [Nat.mul_add, Nat.mul_one]; omega
    have a1 : 2 * (k / 2) * (P * B) ≤ P * k * B := by
      rw [show P * k * B = k * (P * B) by ac_rfl]
      exact Nat.mul_le_mul_right _ (by omega)
    have a2 : P * (k + 1) * B ≤ (2 * (k / 2) + 1 + 1) * (P * B) := by
      rw [show P * (k + 1) * B = (k + 1) * (P * B) by ac_rfl]
      exact Nat.mul_le_mul_right _ (by omega)
    refine ⟨fun h9 => by omega, fun _ => ⟨?_, ?_⟩⟩
    · rw [show 2 * (k / 2) + 1 - 1 = 2 * (k / 2) by omega]; omega
    · omega
theorem fp_S_lt {m A B a : Nat} (hB : 0 < B) (ha : 0 < a) (h : fp_S m A B) (hm : m < 2 ^ a) : A < B * 2 ^ a := by
  obtain ⟨c, rfl⟩ : ∃ c, a = c + 1 := ⟨a - 1, by omega⟩
  have hPe : 2 ^ (c + 1) = 2 * 2 ^ c := by rw [Nat.pow_succ, Nat.mul_comm]
  rw [Nat.mul_comm]
  rcases Nat.mod_two_eq_zero_or_one m with e | e
  · rw [h.1 e]; exact Nat.mul_lt_mul_of_pos_right hm hB
  · exact Nat.lt_of_lt_of_le (h.2 e).2 (Nat.mul_le_mul_right B hm)
theorem fp_S_ge {m A B a : Nat} (hB : 0 < B) (ha : 0 < a) (h : fp_S m A B) (hm : 2 ^ a ≤ m) : B * 2 ^ a ≤ A := by
  obtain ⟨c, rfl⟩ : ∃ c, a = c + 1 := ⟨a - 1, by omega⟩
  have hPe : 2 ^ (c + 1) = 2 * 2 ^ c := by rw [Nat.pow_succ, Nat.mul_comm]
  rw [Nat.mul_comm]
  rcases Nat.mod_two_eq_zero_or_one m with e | e
  · rw [h.1 e]; exact Nat.mul_le_mul_right B hm
  · refine Nat.le_of_lt (Nat.lt_of_le_of_lt (Nat.mul_le_mul_right B ?_) (h.2 e).1)
    omega
theorem fp_below_lt {A B a : Nat} (h : A < B * 2 ^ a) : FP.Core.Below A B (a : Int) := by
  have := (FP.Core.below_iff A B a 0).mpr (by simpa using h)
  simpa using this
theorem fp_below_ge {A B a : Nat} (h : B * 2 ^ a ≤ A) : ¬ FP.Core.Below A B (a : Int) := by
  intro hb
  have h0 : ((a : Int)) = ((a : Int) - ((0 : Nat) : Int)) := by omega
  rw [h0] at hb
  have := (FP.Core.below_iff A B a 0).mp hb
  simp at this
  omega
theorem fp_b64q : FP.Core.b64.qmin = -1074 := FP.Core.qmin_b64
theorem fp_b64x : FP.Core.b64.qmax = 971 := by decide
theorem fp_b64p : FP.Core.b64.p = 53 := rfl
theorem fp_b64t : FP.Core.b64.tails = 4503599627370496 := by decide
theorem fp_b64e : FP.Core.b64.exps = 2048 := by decide
theorem fp_near_b {A B M : Nat} (hB : 0 < B) (h : A ≤ M * B) : FP.Core.nearest A B ≤ M := FP.Core.nearest_le hB h
/-- the bits of the rounded ratio A / B * 2^E, by a sticky m of 63 bits -/
def fp_bits (m : Nat) (E : Int) : Nat :=
  if 2047 ≤ E + 1085 then 9218868437227405312
  else if 1 ≤ E + 1085 then (E + 1084).toNat * 4503599627370496 + FP.Core.nearest m 1024
  else FP.Core.nearest (fp_sh m (1 - (E + 1085)).toNat) 1024
theorem fp_roundAt {s : Bool} {A B : Nat} {E q : Int} (hA : 0 < A) (hq : FP.Core.quantum FP.Core.b64 A B E = q) (hle : E ≤ q) : FP.Core.roundRatio FP.Core.b64 s A B E = FP.Core.settle FP.Core.b64 s (FP.Core.nearest A (B * 2 ^ (q - E).toNat)) q := by
  unfold FP.Core.roundRatio
  rw [if_neg (by omega), hq]
  unfold FP.Core.roundAt FP.Core.unitsNum FP.Core.unitsDen
  rw [show (E - q).toNat = 0 by omega, Nat.pow_zero, Nat.mul_one]
theorem fp_round {s : Bool} {m A B : Nat} {E : Int} (hB : 0 < B) (h : fp_S m A B) (h1 : 4611686018427387904 ≤ m) (h2 : m < 9223372036854775808) :
    FP.Core.encode FP.Core.b64 (FP.Core.roundRatio FP.Core.b64 s A B E) = (if s then 9223372036854775808 else 0) + fp_bits m E := by
  have hlt : A < B * 2 ^ 63 := fp_S_lt hB (by decide) h (by omega)
  have hge : B * 2 ^ 62 ≤ A := fp_S_ge hB (by decide) h (by omega)
  have hA : 0 < A := Nat.lt_of_lt_of_le (Nat.mul_pos hB (Nat.two_pow_pos 62)) hge
  have hs : s.toNat = if s then 1 else 0 := by cases s <;> rfl
  by_cases hf : 1 ≤ E + 1085
  · have hq : FP.Core.quantum FP.Core.b64 A B E = E + 10 := by
      refine FP.Core.quantum_eq hA hB (by rw [fp_b64q]; omega) ?_ (Or.inr ?_)
      · rw [fp_b64p, show E + 10 - E + ((53 : Nat) : Int) = ((63 : Nat) : Int) by omega]
        exact fp_below_lt hlt
      · rw [fp_b64p, show E + 10 - E + (((53 : Nat) : Int) - 1) = ((62 : Nat) : Int) by omega]
        exact fp_below_ge hge
    rw [fp_roundAt hA hq (by omega), show (E + 10 - E).toNat = 10 by omega]
    have hn : FP.Core.nearest A (B * 2 ^ 10) = FP.Core.nearest m 1024 := by
      have := fp_nearest (g := 256) hB (by decide) h
      rw [show B * 2 ^ 10 = 4 * 256 * B by rw [Nat.mul_comm]]
      exact this
    rw [hn]
    have c1 : 4503599627370496 ≤ FP.Core.nearest m 1024 := FP.Core.nearest_ge (by decide) (by omega)
    have c2 : FP.Core.nearest m 1024 ≤ 9007199254740992 := FP.Core.nearest_le (by decide) (by omega)
    unfold fp_bits
    generalize FP.Core.nearest m 1024 = n at *
    unfold FP.Core.settle FP.Core.bound
    rw [fp_b64p, fp_b64x, fp_b64t]
    by_cases hn3 : n < 2 ^ 53
    · rw [if_pos hn3]
      by_cases hq9 : E + 10 ≤ 971
      · rw [if_pos hq9, if_neg (by omega), if_pos hf]
        unfold FP.Core.encode FP.Core.assemble
        rw [fp_b64t, fp_b64e, fp_b64q, if_neg (by omega), hs]
        cases s <;> simp only [if_true, if_false, Bool.false_eq_true] <;> omega
      · rw [if_neg hq9, if_pos (by omega)]
        unfold FP.Core.encode FP.Core.assemble
        rw [fp_b64t, fp_b64e, hs]
        cases s <;> simp
    · rw [if_neg hn3]
      have hn4 : n = 9007199254740992 := by omega
      by_cases hq9 : E + 10 + 1 ≤ 971
      · rw [if_pos hq9, if_neg (by omega), if_pos hf]
        unfold FP.Core.encode FP.Core.assemble
        rw [fp_b64t, fp_b64e, fp_b64q, if_neg (by omega), hs]
        cases s <;> simp only [if_true, if_false, Bool.false_eq_true] <;> omega
      · rw [if_neg hq9]
        unfold FP.Core.encode FP.Core.assemble
        rw [fp_b64t, fp_b64e, hs]
        by_cases h9 : 2047 ≤ E + 1085
        · rw [if_pos h9]; cases s <;> simp
        · rw [if_neg h9, if_pos hf]
          cases s <;> simp only [if_true, if_false, Bool.false_eq_true] <;> omega
  · obtain ⟨b, hb⟩ : ∃ b : Nat, (1 - (E + 1085)) = (b : Int) := ⟨(1 - (E + 1085)).toNat, by omega⟩
    have hlt2 : A < B * 2 ^ (b + 63) := Nat.lt_of_lt_of_le hlt (Nat.mul_le_mul_left B (Nat.pow_le_pow_right (by decide) (by omega)))
    have hq : FP.Core.quantum FP.Core.b64 A B E = -1074 := by
      refine FP.Core.quantum_eq hA hB (by rw [fp_b64q]; omega) ?_ (Or.inl fp_b64q.symm)
      rw [fp_b64p, show (-1074 : Int) - E + ((53 : Nat) : Int) = ((b + 63 : Nat) : Int) by omega]
      exact fp_below_lt hlt2
    rw [fp_roundAt hA hq (by omega), show (-1074 - E).toNat = b + 10 by omega]
    have hn : FP.Core.nearest A (B * 2 ^ (b + 10)) = FP.Core.nearest (fp_sh m b) 1024 := by
      have := fp_nearest (g := 256) (Nat.mul_pos (Nat.two_pow_pos b) hB) (by decide) (fp_S_sh b hB h)
      rw [show B * 2 ^ (b + 10) = 4 * 256 * (2 ^ b * B) by rw [Nat.pow_add]; ac_rfl]
      exact this
    have c2 : FP.Core.nearest A (B * 2 ^ (b + 10)) ≤ 4503599627370496 := by
      refine FP.Core.nearest_le (Nat.mul_pos hB (Nat.two_pow_pos _)) ?_
      refine Nat.le_trans (Nat.le_of_lt hlt) ?_
      rw [show 4503599627370496 * (B * 2 ^ (b + 10)) = B * (2 ^ (b + 62)) by rw [show b + 62 = 52 + (b + 10) by omega, Nat.pow_add 2 52]; ac_rfl]
      exact Nat.mul_le_mul_left B (Nat.pow_le_pow_right (by decide) (by omega))
    rw [hn] at c2 ⊢
    unfold fp_bits
    rw [if_neg (by omega), if_neg hf, show (1 - (E + 1085)).toNat = b by omega]
    generalize FP.Core.nearest (fp_sh m b) 1024 = n at *
    unfold FP.Core.settle FP.Core.bound
    rw [fp_b64p, fp_b64x, if_pos (by omega), if_pos (by decide)]
    unfold FP.Core.encode FP.Core.assemble
    rw [fp_b64t, fp_b64e, fp_b64q, hs]
    by_cases hn9 : n < 4503599627370496
    · rw [if_pos hn9]
      cases s <;> simp only [if_true, if_false, Bool.false_eq_true] <;> omega
    · rw [if_neg hn9]
      cases s <;> simp only [if_true, if_false, Bool.false_eq_true] <;> omega
end
