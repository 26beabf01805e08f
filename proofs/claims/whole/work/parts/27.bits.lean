/-! ===== bitsOf: by doubling, the bits themselves ===== -/
theorem fl_dbl {v : UInt32} {s : Bool} {c : Nat} {q : Int} (hv : FP.Core.val32 v = .fin s c q) (hz : c * 2 ^ (q + 149).toNat < 2 ^ 172) : ∃ (c' : Nat) (q' : Int), FP.Core.val32 (FP.fmul v FP.fconst2) = .fin s c' q' ∧ c' * 2 ^ (q' + 149).toNat = 2 * (c * 2 ^ (q + 149).toNat) := by
  have hfit := FP.Core.val32_fits v
  rw [hv] at hfit
  obtain ⟨f1, f2, f3, f4⟩ := hfit
  rw [fl_pp] at f1
  rw [fl_qmin] at f2 f4
  rw [fl_qmax] at f3
  rw [fl_tails] at f4
  have hs : (s != false) = s := by cases s <;> rfl
  have e1 : FP.Core.val32 (FP.Core.fmul v FP.fconst2) = FP.Core.roundRatio FP.Core.b32 s (c * 8388608) 1 (q + -22) := by
    rw [FP.Core.val32_fmul, hv, fl_v2]
    show FP.Core.roundRatio FP.Core.b32 (s != false) (c * 8388608) 1 (q + -22) = _
    rw [hs]
  by_cases hc : 8388608 ≤ c
  · have hq : q < 0 := by
      refine Int.not_le.mp fun h => ?_
      have h1 : 2 ^ 149 ≤ 2 ^ (q + 149).toNat := Nat.pow_le_pow_right (by decide) (by omega)
      have h2 : 8388608 * 2 ^ 149 ≤ c * 2 ^ (q + 149).toNat := Nat.mul_le_mul hc h1
      have h3 : (8388608 : Nat) * 2 ^ 149 = 2 ^ 172 := by decide
      omega
    have hfit2 : FP.Core.fits FP.Core.b32 (.fin s c (q + 1)) := ⟨by rw [fl_pp]; exact f1, by rw [fl_qmin]; omega, by rw [fl_qmax]; omega, Or.inr (by rw [fl_tails]; exact hc)⟩
    refine ⟨c, q + 1, ?_, ?_⟩
    · show FP.Core.val32 (FP.Core.fmul v FP.fconst2) = _
      rw [e1]
      refine FP.Core.roundRatio_exact FP.Core.good_b32 (by decide) hfit2 ?_
      rw [show q + -22 - (q + 1) = -23 by omega, show q + 1 - (q + -22) = 23 by omega]
      show c * 8388608 * 2 ^ 0 = c * 1 * 2 ^ 23
      omega
    · rw [show (q + 1 + 149).toNat = (q + 149).toNat + 1 by omega, Nat.pow_succ, ← Nat.mul_assoc, Nat.mul_comm]
  · have hq : q = -149 := by rcases f4 with h | h <;> omega
    subst hq
    have hfit2 : FP.Core.fits FP.Core.b32 (.fin s (2 * c) (-149)) := ⟨by rw [fl_pp]; omega, by rw [fl_qmin]; decide, by rw [fl_qmax]; decide, Or.inl fl_qmin.symm⟩
    refine ⟨2 * c, -149, ?_, ?_⟩
    · show FP.Core.val32 (FP.Core.fmul v FP.fconst2) = _
      rw [e1]
      refine FP.Core.roundRatio_exact FP.Core.good_b32 (by decide) hfit2 ?_
      show c * 8388608 * 2 ^ 0 = 2 * c * 1 * 2 ^ 22
      omega
    · show 2 * c * 1 = 2 * (c * 1)
      omega
/-- the units of the number whose bits are m -/
def unt (m : Nat) : Nat := if m < 8388608 then m else (8388608 + m % 8388608) * 2 ^ (m / 8388608 - 1)
theorem unt_eq (m : Nat) : FP.Core.unitsOf FP.Core.b32 m = unt m := by
  unfold FP.Core.unitsOf unt
  rw [fl_tails]
/-- where the doubling ends, counter and whole part are the bits -/
theorem unt_end {m k : Nat} (h : 0 < m) (hm : m < 1258291200) (hk : k ≤ 149) (hlt : unt m * 2 ^ k < 2 ^ 173) (he : k = 149 ∨ 2 ^ 172 ≤ unt m * 2 ^ k) : (149 - k) * 8388608 + unt m * 2 ^ k / 2 ^ 149 = m ∧ unt m * 2 ^ k / 2 ^ 149 < 16777216 := by
  have hN : unt m * 2 ^ k / 2 ^ 149 < 16777216 := by
    rw [Nat.div_lt_iff_lt_mul (Nat.two_pow_pos _)]
    exact Nat.lt_of_lt_of_eq hlt (by decide)
  refine ⟨?_, hN⟩
  unfold unt at *
  by_cases hs : m < 8388608
  · rw [if_pos hs] at *
    rcases he with he | he
    · subst he
      rw [Nat.mul_div_cancel _ (Nat.two_pow_pos _)]
      omega
    · exfalso
      by_cases hk9 : k = 149
      · subst hk9
        have : m * 2 ^ 149 < 8388608 * 2 ^ 149 := Nat.mul_lt_mul_of_pos_right hs (Nat.two_pow_pos _)
        have h3 : (8388608 : Nat) * 2 ^ 149 = 2 ^ 172 := by decide
        omega
      · have h1 : 2 ^ k ≤ 2 ^ 148 := Nat.pow_le_pow_right (by decide) (by omega)
        have : m * 2 ^ k ≤ 8388608 * 2 ^ 148 := Nat.mul_le_mul (by omega) h1
        have h3 : (8388608 : Nat) * 2 ^ 148 < 2 ^ 172 := by decide
        omega
  · rw [if_neg hs] at *
    have hE : 1 ≤ m / 8388608 ∧ m / 8388608 < 150 := by omega
    have hT : m % 8388608 < 8388608 := Nat.mod_lt _ (by decide)
    have hm' : m = m / 8388608 * 8388608 + m % 8388608 := by omega
    generalize m / 8388608 = E at *
    generalize m % 8388608 = T at *
    have hmul : (8388608 + T) * 2 ^ (E - 1) * 2 ^ k = (8388608 + T) * 2 ^ (E - 1 + k) := by rw [Nat.mul_assoc, ← Nat.pow_add]
    rw [hmul] at hlt he hN ⊢
    have hup : E - 1 + k ≤ 149 := by
      refine Nat.le_of_not_lt fun hgt => ?_
      have h1 : 2 ^ 150 ≤ 2 ^ (E - 1 + k) := Nat.pow_le_pow_right (by decide) (by omega)
      have h2 : 8388608 * 2 ^ 150 ≤ (8388608 + T) * 2 ^ (E - 1 + k) := Nat.mul_le_mul (by omega) h1
      have h3 : (8388608 : Nat) * 2 ^ 150 = 2 ^ 173 := by decide
      omega
    have hlo : 149 ≤ E - 1 + k := by
      rcases he with he | he
      · omega
      · refine Nat.le_of_not_lt fun hgt => ?_
        have h1 : 2 ^ (E - 1 + k) ≤ 2 ^ 148 := Nat.pow_le_pow_right (by decide) (by omega)
        have h2 : (8388608 + T) * 2 ^ (E - 1 + k) ≤ 16777215 * 2 ^ 148 := Nat.mul_le_mul (by omega) h1
        have h3 : (16777215 : Nat) * 2 ^ 148 < 2 ^ 172 := by decide
        omega
    rw [show E - 1 + k = 149 by omega, Nat.mul_div_cancel _ (Nat.two_pow_pos _)]
    have : 149 - k = E - 1 := by omega
    rw [this]
    have : (E - 1) * 8388608 + 8388608 = E * 8388608 := by
      rw [← Nat.succ_mul]; congr 1; omega
    omega
theorem fl_z {v : UInt32} {c : Nat} {q : Int} (hv : FP.Core.val32 v = .fin false c q) : FP.Core.zval FP.Core.b32 (FP.Core.val32 v) = ((c * 2 ^ (q + 149).toNat : Nat) : Int) ∧ FP.Core.zmag FP.Core.b32 (FP.Core.val32 v) = c * 2 ^ (q + 149).toNat ∧ FP.Core.sgn (FP.Core.val32 v) = false := by
  have hm : FP.Core.zmag FP.Core.b32 (.fin false c q) = c * 2 ^ (q + 149).toNat := by
    show c * 2 ^ (q - FP.Core.b32.qmin).toNat = _
    rw [fl_qmin, show q - -149 = q + 149 by omega]
  rw [hv]
  refine ⟨?_, hm, rfl⟩
  unfold FP.Core.zval
  rw [hm]
  rfl
theorem fl_f2i {v : UInt32} {c : Nat} {q : Int} (hv : FP.Core.val32 v = .fin false c q) (h : c * 2 ^ (q + 149).toNat / 2 ^ 149 < 16777216) : FP.f2i v = nI (c * 2 ^ (q + 149).toNat / 2 ^ 149) := by
  have hn : FP.Core.val32 v ≠ .nan := by rw [hv]; intro h; cases h
  obtain ⟨-, h2, h3⟩ := fl_z hv
  have := FP.Core.f2i_val hn
  rw [h2, h3, show FP.Core.one32 = 2 ^ 149 from rfl] at this
  apply Int32.toInt_inj.mp
  show (FP.Core.f2i v).toInt = _
  rw [this, nI_toInt (by omega)]
  generalize c * 2 ^ (q + 149).toNat / 2 ^ 149 = N at *
  show max (-2 ^ 31) (min (2 ^ 31 - 1) ((N : Nat) : Int)) = (N : Int)
  omega
theorem fl_loop {x0 : UInt32} {Q : Int32 → CS → Prop} {v1 : Int32} {σ : CS} {m0 : Nat} (h0 : 0 < m0) (hm : m0 < 1258291200) (hq : Q (v1 ||| nI m0) σ) : ∀ (n k : Nat) (v2 : UInt32) (c : Nat) (q : Int), k ≤ 149 → 150 ≤ n + k → FP.Core.val32 v2 = .fin false c q → c * 2 ^ (q + 149).toNat = unt m0 * 2 ^ k → unt m0 * 2 ^ k < 2 ^ 173 → wX4_bitsOf_b39 x0 Q n v1 v2 (nI (149 - k)) σ := by
  intro n
  induction n with
  | zero => intro k v2 c q h1 h2; omega
  | succ n ih =>
    intro k v2 c q h1 h2 hv hc hlt
    have hn : FP.Core.val32 v2 ≠ .nan := by rw [hv]; intro h; cases h
    have fin : (k = 149 ∨ 2 ^ 172 ≤ unt m0 * 2 ^ k) → wX4_bitsOf_b60 x0 Q v1 v2 (nI (149 - k)) σ := fun he => by
      obtain ⟨e1, e2⟩ := unt_end h0 hm h1 hlt he
      unfold wX4_bitsOf_b60
      rw [fl_f2i hv (by rw [hc]; exact e2), hc, pk_shlN (n := 149 - k) ((23 : Int32) &&& 31) 23 (by decide) (by omega), nI_add]
      rw [show (149 - k) * 2 ^ 23 + unt m0 * 2 ^ k / 2 ^ 149 = m0 from e1]
      exact hq
    rw [wX4_bitsOf_b39_s]
    have hcm : FP.fcmp v2 (1258291200 : UInt32) = some (compare ((unt m0 * 2 ^ k : Nat) : Int) (8388608 * 2 ^ 149)) := by
      rw [show FP.fcmp v2 1258291200 = _ from FP.Core.fcmp_zval hn fl_lo_nn, fl_z1, (fl_z hv).1, hc]
    refine ⟨fun hle => fin (Or.inl ?_), fun hnle => ?_⟩
    · refine Nat.le_antisymm h1 (Nat.le_of_not_lt fun hlt2 => ?_)
      exact absurd hle (nI_nle (by omega) (by omega))
    · rw [hcm, fl_cmpv]
      have h149 : k ≠ 149 := fun h => by subst h; exact hnle (by decide)
      rcases Int.lt_trichotomy ((unt m0 * 2 ^ k : Nat) : Int) (8388608 * 2 ^ 149) with h | h | h
      · rw [(FP.Core.compare_lt_iff _ _).mpr h]
        refine ⟨fun hc0 => absurd hc0 (by decide), fun _ => ?_⟩
        have h172 : unt m0 * 2 ^ k < 2 ^ 172 := by
          have h3 : (8388608 * 2 ^ 149 : Int) = ((2 ^ 172 : Nat) : Int) := by decide
          rw [h3] at h
          exact Int.ofNat_lt.mp h
        obtain ⟨c', q', d1, d2⟩ := fl_dbl hv (by rw [hc]; exact h172)
        refine ⟨fl_n32 (by rw [d1]; intro h; cases h), fun y13 ey => ?_⟩
        subst ey
        intro y14 ey
        have e14 : y14 = nI (149 - (k + 1)) := by
          rw [ey, show 149 - k = (149 - (k + 1)) + 1 by omega]
          exact pk_m1 _
        rw [e14]
        have hd : unt m0 * 2 ^ (k + 1) = 2 * (unt m0 * 2 ^ k) := by rw [Nat.pow_succ, ← Nat.mul_assoc, Nat.mul_comm]
        refine ih (k + 1) _ c' q' (by omega) (by omega) d1 (by rw [d2, hc, hd]) ?_
        rw [hd]
        have h4 : (2 : Nat) * 2 ^ 172 = 2 ^ 173 := by decide
        omega
      · rw [(FP.Core.compare_eq_iff _ _).mpr h]
        refine ⟨fun _ => fin (Or.inr ?_), fun hc0 => absurd (by decide) hc0⟩
        have h3 : (8388608 * 2 ^ 149 : Int) = ((2 ^ 172 : Nat) : Int) := by decide
        rw [h3] at h
        exact Nat.le_of_eq (Int.ofNat.inj h).symm
      · rw [(FP.Core.compare_gt_iff _ _).mpr h]
        refine ⟨fun _ => fin (Or.inr ?_), fun hc0 => absurd (by decide) hc0⟩
        have h3 : (8388608 * 2 ^ 149 : Int) = ((2 ^ 172 : Nat) : Int) := by decide
        rw [h3] at h
        exact Nat.le_of_lt (Int.ofNat_lt.mp h)
/-- the number that bits below the sign bit are -/
theorem fl_pos {v : UInt32} {m : Nat} (hv : v.toNat = m) (hm : m < 1258291200) : ∃ (c : Nat) (q : Int), FP.Core.val32 v = .fin false c q ∧ c * 2 ^ (q + 149).toNat = unt m := by
  have hf : fin23 v := by unfold fin23; omega
  obtain ⟨s, c, q, h⟩ := fl_fin hf
  have hz := FP.Core.zmag_toNat32 (fl_nn hf)
  have hs : s = false := by
    have h1 : 0 ≤ FP.Core.fkey v := by unfold FP.Core.fkey; split <;> omega
    cases s with
    | false => rfl
    | true =>
      exfalso
      have h2 := FP.Core.zval_nonneg32 (fl_nn hf) (by omega)
      have hd : FP.Core.fieldS FP.Core.b32 v.toNat = true := by
        have : FP.Core.decode FP.Core.b32 v.toNat = .fin true c q := h
        unfold FP.Core.decode at this
        split at this
        · split at this <;> cases this
        · split at this <;> (injection this)
      unfold FP.Core.fieldS at hd
      rw [fl_tails, show FP.Core.b32.exps = 256 by decide +kernel] at hd
      have : v.toNat / 8388608 / 256 % 2 = 0 := by omega
      rw [this] at hd
      exact absurd hd (by decide)
  subst hs
  refine ⟨c, q, h, ?_⟩
  rw [← (fl_z h).2.1, hz, unt_eq, Nat.mod_eq_of_lt (by omega), hv]
theorem unt_lt {m : Nat} (hm : m < 1258291200) : unt m * 2 ^ 0 < 2 ^ 173 := by
  unfold unt
  split
  · omega
  · have hE : m / 8388608 - 1 ≤ 148 := by omega
    have h1 : 2 ^ (m / 8388608 - 1) ≤ 2 ^ 148 := Nat.pow_le_pow_right (by decide) hE
    have h2 : (8388608 + m % 8388608) * 2 ^ (m / 8388608 - 1) ≤ 16777216 * 2 ^ 148 := Nat.mul_le_mul (by omega) h1
    have h3 : (16777216 : Nat) * 2 ^ 148 < 2 ^ 173 := by decide
    omega
theorem fl_neg {u : UInt32} (h : 2 ^ 31 ≤ u.toNat) : (FP.fneg u).toNat = u.toNat - 2 ^ 31 := by
  have h1 := u.toNat_lt
  unfold FP.fneg
  rw [UInt32.toNat_xor]
  show u.toNat ^^^ 2 ^ 31 = u.toNat - 2 ^ 31
  obtain ⟨m, hm, e⟩ : ∃ m, m < 2 ^ 31 ∧ u.toNat = 2 ^ 31 + m := ⟨u.toNat - 2 ^ 31, by omega, by omega⟩
  rw [e, Nat.add_comm (2 ^ 31) m, Nat.add_sub_cancel]
  rw [Nat.add_comm m]
  apply Nat.eq_of_testBit_eq
  intro j
  rw [Nat.testBit_xor]
  rcases Nat.lt_trichotomy j 31 with hj | hj | hj
  · rw [Nat.testBit_two_pow_add_gt hj, Nat.testBit_two_pow]
    simp [Nat.ne_of_gt hj]
  · subst hj
    rw [Nat.testBit_two_pow_add_eq, Nat.testBit_two_pow]
    simp
  · have p1 : 2 ^ 32 ≤ 2 ^ j := Nat.pow_le_pow_right (by decide) hj
    rw [Nat.testBit_lt_two_pow (show 2 ^ 31 + m < 2 ^ j by omega), Nat.testBit_lt_two_pow (show m < 2 ^ j by omega), Nat.testBit_two_pow]
    simp [Nat.ne_of_lt hj]
/-- bitsOf: the bits -/
theorem fl_bits {u : UInt32} {σ : CS} {Q : Int32 → CS → Prop} (h : fin23 u) (hq : Q u.toInt32 σ) : wX4_bitsOf u σ Q := by
  have hu := u.toNat_lt
  have hn := fl_nn h
  have n0 : FP.Core.val32 FP.fconst0 ≠ .nan := (FP.Core.ne_nan32 _).mpr (by decide)
  have k0 : FP.Core.fkey FP.fconst0 = 0 := by decide +kernel
  have hcm : FP.fcmp u FP.fconst0 = some (compare (FP.Core.fkey u) 0) := by rw [show FP.fcmp u FP.fconst0 = _ from FP.Core.fcmp_key hn n0, k0]
  unfold fin23 at h
  by_cases hz : u.toNat % 2 ^ 31 = 0
  · have hk : FP.Core.fkey u = 0 := by unfold FP.Core.fkey; split <;> omega
    have hc0 : FP.fcmp u FP.fconst0 = some .eq := by rw [hcm, hk]; rfl
    unfold wX4_bitsOf wX4_isNegative wX4_bitsOf_b13
    rw [hc0, fl_cmpv, fl_cmpv]
    refine ⟨fun h => absurd rfl h, fun _ => ?_⟩
    have : u = 0 ∨ u = 0x80000000 := by
      rcases Nat.lt_or_ge u.toNat (2 ^ 31) with hl | hl
      · left; apply UInt32.toNat_inj.mp; show u.toNat = 0; omega
      · right; apply UInt32.toNat_inj.mp; show u.toNat = 2147483648; omega
    rcases this with rfl | rfl
    · refine ⟨by unfold vf_n32; decide +kernel, fun _ => ⟨fun _ => ⟨fun h => absurd rfl h, fun _ => hq⟩, fun h => absurd rfl h⟩, fun h => absurd (by decide +kernel) h⟩
    · refine ⟨by unfold vf_n32; decide +kernel, fun h => absurd h (by decide +kernel), fun _ => ⟨fun h => absurd h (by decide), fun _ => ⟨fun h => absurd rfl h, fun _ => hq⟩⟩⟩
  · have h0 : 0 < u.toNat % 2 ^ 31 := Nat.pos_of_ne_zero hz
    rcases Nat.lt_or_ge u.toNat (2 ^ 31) with hl | hl
    · have hk : 0 < FP.Core.fkey u := by unfold FP.Core.fkey; split <;> omega
      have hc0 : FP.fcmp u FP.fconst0 = some .gt := by rw [hcm, (FP.Core.compare_gt_iff _ _).mpr hk]
      obtain ⟨c, q, hv, hc⟩ := fl_pos (v := u) (m := u.toNat) rfl (by omega)
      unfold wX4_bitsOf wX4_isNegative wX4_bitsOf_b13
      rw [hc0, fl_cmpv, fl_cmpv]
      refine ⟨fun _ => ⟨fun _ => ⟨fun _ => ⟨fun _ => ⟨fun _ => ⟨150, ?_⟩, fun h => absurd (by decide) h⟩, fun h => absurd h (by decide)⟩, fun h => absurd rfl h⟩, fun h => absurd (by decide) h⟩, fun h => absurd h (by decide)⟩
      refine fl_loop (m0 := u.toNat) (by omega) (by omega) ?_ 150 0 u c q (by omega) (by omega) hv (by rw [hc, Nat.pow_zero, Nat.mul_one]) (unt_lt (by omega))
      have : (0 : Int32) ||| nI u.toNat = u.toInt32 := by
        apply Int32.toBitVec_inj.mp
        show 0#32 ||| BitVec.ofNat 32 u.toNat = u.toBitVec
        rw [BitVec.zero_or]
        exact BitVec.eq_of_toNat_eq (by rw [BitVec.toNat_ofNat]; exact Nat.mod_eq_of_lt hu)
      rw [this]
      exact hq
    · have hk : FP.Core.fkey u < 0 := by unfold FP.Core.fkey; split <;> omega
      have hc0 : FP.fcmp u FP.fconst0 = some .lt := by rw [hcm, (FP.Core.compare_lt_iff _ _).mpr hk]
      have hng := fl_neg hl
      obtain ⟨c, q, hv, hc⟩ := fl_pos (v := FP.fneg u) (m := u.toNat - 2 ^ 31) hng (by omega)
      unfold wX4_bitsOf wX4_isNegative wX4_bitsOf_b13
      rw [hc0, fl_cmpv, fl_cmpv]
      refine ⟨fun _ => ⟨fun h => absurd h (by decide), fun _ => ⟨fun h => absurd h (by decide), fun _ => ⟨fun _ => ⟨fun h => absurd h (by decide), fun _ y15 ey => ⟨150, ?_⟩⟩, fun h => absurd h (by decide)⟩⟩⟩, fun h => absurd h (by decide)⟩
      subst ey
      refine fl_loop (m0 := u.toNat - 2 ^ 31) (by omega) (by omega) ?_ 150 0 _ c q (by omega) (by omega) hv (by rw [hc, Nat.pow_zero, Nat.mul_one]) (unt_lt (by omega))
      have : (-2147483648 : Int32) ||| nI (u.toNat - 2 ^ 31) = u.toInt32 := by
        apply Int32.toBitVec_inj.mp
        show 2147483648#32 ||| BitVec.ofNat 32 (u.toNat - 2 ^ 31) = u.toBitVec
        apply BitVec.eq_of_toNat_eq
        have e1 : (2147483648#32).toNat = 2 ^ 31 := by decide
        have e3 := Nat.two_pow_add_eq_or_of_lt (show u.toNat - 2 ^ 31 < 2 ^ 31 by omega) 1
        rw [Nat.mul_one] at e3
        rw [BitVec.toNat_or, e1, BitVec.toNat_ofNat, Nat.mod_eq_of_lt (by omega), ← e3]
        have e2 : u.toBitVec.toNat = u.toNat := rfl
        rw [e2]
        omega
      rw [this]
      exact hq
