/-! ===== floats: what both sides compute is one ===== -/
/-- a level: a number below 2 to the 23rd, of either sign -/
def fin23 (u : UInt32) : Prop := u.toNat % 2 ^ 31 < 1258291200
theorem fl_nn {u : UInt32} (h : fin23 u) : FP.Core.val32 u ≠ .nan := (FP.Core.ne_nan32 u).mpr (by unfold fin23 at h; omega)
theorem fl_n32 {r : UInt32} (h : FP.Core.val32 r ≠ .nan) : vf_n32 r := by
  unfold vf_n32
  rw [UInt32.le_iff_toNat_le, FP.Core.mask_toNat32]
  exact (FP.Core.ne_nan32 r).mp h
theorem fl_qmin : FP.Core.b32.qmin = -149 := by decide +kernel
theorem fl_qmax : FP.Core.b32.qmax = 104 := by decide +kernel
theorem fl_tails : FP.Core.b32.tails = 8388608 := by decide +kernel
theorem fl_pp : (2 : Nat) ^ FP.Core.b32.p = 16777216 := by decide +kernel
theorem fl_rr (s : Bool) (A B : Nat) (e : Int) : FP.Core.roundRatio FP.Core.b32 s A B e ≠ .nan := by
  unfold FP.Core.roundRatio
  split
  · intro h; cases h
  · unfold FP.Core.roundAt FP.Core.settle FP.Core.bound
    split <;> split <;> intro h <;> cases h
theorem fl_fin {u : UInt32} (h : fin23 u) : ∃ s c q, FP.Core.val32 u = .fin s c q := (FP.Core.fin_bits32 u).mpr (by unfold fin23 at h; omega)
theorem fl_mulnn {a b : UInt32} (ha : ∃ s c q, FP.Core.val32 a = .fin s c q) (hb : ∃ s c q, FP.Core.val32 b = .fin s c q) : FP.Core.val32 (FP.fmul a b) ≠ .nan := by
  obtain ⟨s, c, q, h1⟩ := ha
  obtain ⟨t, d, r, h2⟩ := hb
  show FP.Core.val32 (FP.Core.fmul a b) ≠ .nan
  rw [FP.Core.val32_fmul, h1, h2]
  exact fl_rr _ _ _ _
theorem fl_v8 : FP.Core.val32 1090519040 = .fin false 8388608 (-20) := by decide +kernel
theorem fl_vi8 : FP.Core.val32 1040187392 = .fin false 8388608 (-26) := by decide +kernel
theorem fl_v4 : FP.Core.val32 1082130432 = .fin false 8388608 (-21) := by decide +kernel
theorem fl_vi4 : FP.Core.val32 1048576000 = .fin false 8388608 (-25) := by decide +kernel
theorem fl_v2 : FP.Core.val32 FP.fconst2 = .fin false 8388608 (-22) := by decide +kernel
/-- a number by 8 is an eighth of it, and so for 4 -/
theorem fl_div {a D M : UInt32} {r t : Int} (ha : ∃ s c q, FP.Core.val32 a = .fin s c q) (hD : FP.Core.val32 D = .fin false 8388608 r) (hM : FP.Core.val32 M = .fin false 8388608 t) (hrt : r + t = -46) : FP.fdiv a D = FP.fmul a M := by
  obtain ⟨s, c, q, h1⟩ := ha
  have e1 : FP.Core.val32 (FP.Core.fdiv a D) = FP.Core.roundRatio FP.Core.b32 (s != false) c 8388608 (q - r) := by
    rw [FP.Core.val32_fdiv, h1, hD]; rfl
  have e2 : FP.Core.val32 (FP.Core.fmul a M) = FP.Core.roundRatio FP.Core.b32 (s != false) (c * 8388608) 1 (q + t) := by
    rw [FP.Core.val32_fmul, h1, hM]; rfl
  have e3 : FP.Core.roundRatio FP.Core.b32 (s != false) c 8388608 (q - r) = FP.Core.roundRatio FP.Core.b32 (s != false) (c * 8388608) 1 (q + t) := by
    refine FP.Core.roundRatio_congr (by decide) (by decide) ?_
    rw [show q - r - (q + t) = 46 by omega, show q + t - (q - r) = -46 by omega]
    show c * 1 * 2 ^ 46 = c * 8388608 * 8388608 * 2 ^ 0
    omega
  refine FP.Core.val32_inj ?_ (e1.trans (e3.trans e2.symm))
  show FP.Core.val32 (FP.Core.fdiv a D) ≠ .nan
  rw [e1]
  exact fl_rr _ _ _ _
theorem fl_i2f {x : Int32} (h : x.toInt.natAbs ≤ 2 ^ 24) : FP.Core.FInt x.toInt (FP.i2f x) := FP.Core.i2f_int h
theorem fl_i2ffin {x : Int32} (h : x.toInt.natAbs ≤ 2 ^ 24) : ∃ s c q, FP.Core.val32 (FP.i2f x) = .fin s c q := by
  have := fl_i2f h
  unfold FP.Core.FInt FP.Core.Whole at this
  split at this
  · exact ⟨_, _, _, by assumption⟩
  · exact this.elim
theorem fl_key {y : UInt32} : fin23 y ↔ -1258291200 < FP.Core.fkey y ∧ FP.Core.fkey y < 1258291200 := by
  have h1 := y.toNat_lt
  unfold fin23 FP.Core.fkey
  split <;> omega
theorem fl_lo_nn : FP.Core.val32 (1258291200 : UInt32) ≠ .nan := (FP.Core.ne_nan32 _).mpr (by decide)
theorem fl_hi_nn : FP.Core.val32 (3405774848 : UInt32) ≠ .nan := (FP.Core.ne_nan32 _).mpr (by decide)
theorem fl_k1 : FP.Core.fkey 1258291200 = 1258291200 := by decide +kernel
theorem fl_k2 : FP.Core.fkey 3405774848 = -1258291200 := by decide +kernel
theorem fl_z1 : FP.Core.zval FP.Core.b32 (FP.Core.val32 1258291200) = 8388608 * 2 ^ 149 := by decide +kernel
theorem fl_z2 : FP.Core.zval FP.Core.b32 (FP.Core.val32 3405774848) = -(8388608 * 2 ^ 149) := by decide +kernel
theorem fl_keyz {a b : UInt32} (ha : FP.Core.val32 a ≠ .nan) (hb : FP.Core.val32 b ≠ .nan) : FP.Core.fkey a < FP.Core.fkey b ↔ FP.Core.zval FP.Core.b32 (FP.Core.val32 a) < FP.Core.zval FP.Core.b32 (FP.Core.val32 b) := by
  rw [← FP.Core.fcmp_lt_key ha hb, FP.Core.fcmp_zval ha hb, Option.some.injEq, FP.Core.compare_lt_iff]
theorem fl_23 {y : UInt32} (hn : FP.Core.val32 y ≠ .nan) : fin23 y ↔ -(8388608 * 2 ^ 149) < FP.Core.zval FP.Core.b32 (FP.Core.val32 y) ∧ FP.Core.zval FP.Core.b32 (FP.Core.val32 y) < 8388608 * 2 ^ 149 := by
  rw [fl_key, ← fl_z2, ← fl_z1, ← fl_keyz hn fl_lo_nn, ← fl_keyz fl_hi_nn hn, fl_k1, fl_k2]
/-- a float by a power of two that it bears, exactly -/
theorem fl_scale {a D : UInt32} {x r : Int} {k : Nat} (ha : FP.Core.FInt x a) (hD : FP.Core.val32 D = .fin false 8388608 r) (hr : r = (k : Int) - 23) (hk : k ≤ 3) (hx : x.natAbs < 2 ^ 24) : FP.Core.val32 (FP.fdiv a D) ≠ .nan ∧ (∃ s c q, FP.Core.val32 (FP.fdiv a D) = .fin s c q) ∧ FP.Core.zval FP.Core.b32 (FP.Core.val32 (FP.fdiv a D)) * 2 ^ k = x * 2 ^ 149 := by
  have hz := FP.Core.FInt_zval ha
  have hfit := FP.Core.val32_fits a
  cases hv : FP.Core.val32 a with
  | nan => unfold FP.Core.FInt at ha; rw [hv] at ha; exact ha.elim
  | inf s => unfold FP.Core.FInt at ha; rw [hv] at ha; exact ha.elim
  | fin s c q =>
    rw [hv] at hz hfit
    obtain ⟨f1, f2, f3, f4⟩ := hfit
    rw [fl_pp] at f1
    rw [fl_qmin] at f2 f4
    rw [fl_qmax] at f3
    rw [fl_tails] at f4
    have e1 : FP.Core.val32 (FP.Core.fdiv a D) = FP.Core.roundRatio FP.Core.b32 (s != false) c 8388608 (q - r) := by
      rw [FP.Core.val32_fdiv, hv, hD]; rfl
    have hz' : FP.Core.signed s (c * 2 ^ (q + 149).toNat) = x * 2 ^ 149 := by
      have : FP.Core.zval FP.Core.b32 (.fin s c q) = FP.Core.signed s (c * 2 ^ (q - FP.Core.b32.qmin).toNat) := rfl
      rw [this, fl_qmin] at hz
      rw [show q + 149 = q - -149 by omega, hz]; rfl
    have hs : (s != false) = s := by cases s <;> rfl
    by_cases hc : c = 0
    · subst hc
      have e2 : FP.Core.val32 (FP.Core.fdiv a D) = .fin s 0 FP.Core.b32.qmin := by rw [e1, hs]; rfl
      refine ⟨(by show FP.Core.val32 (FP.Core.fdiv a D) ≠ .nan; rw [e2]; intro h; cases h), ⟨_, _, _, e2⟩, ?_⟩
      show FP.Core.zval FP.Core.b32 (FP.Core.val32 (FP.Core.fdiv a D)) * 2 ^ k = _
      rw [e2]
      rw [Nat.zero_mul, FP.Core.signed_zero] at hz'
      rw [← hz']
      show FP.Core.signed s (0 * _) * _ = 0
      rw [Nat.zero_mul, FP.Core.signed_zero, Int.zero_mul]
    · -- the last digit is far above the least
      have hq : -60 ≤ q := by
        rcases f4 with f4 | f4
        · subst f4
          exfalso
          have h0 : FP.Core.signed s (c * 2 ^ ((-149 : Int) + 149).toNat) = x * 2 ^ 149 := hz'
          have h1 : (FP.Core.signed s (c * 1)).natAbs = (x * 2 ^ 149).natAbs := congrArg Int.natAbs h0
          rw [FP.Core.natAbs_signed, Int.natAbs_mul] at h1
          have h2 : ((2 : Int) ^ 149).natAbs = 2 ^ 149 := by decide
          rw [h2] at h1
          have : x.natAbs ≠ 0 := fun h => by rw [h] at h1; omega
          have : 1 * 2 ^ 149 ≤ x.natAbs * 2 ^ 149 := Nat.mul_le_mul_right _ (by omega)
          omega
        · refine Int.not_lt.mp fun hlt => ?_
          have h1 : (FP.Core.signed s (c * 2 ^ (q + 149).toNat)).natAbs = (x * 2 ^ 149).natAbs := congrArg Int.natAbs hz'
          rw [FP.Core.natAbs_signed, Int.natAbs_mul, show ((2 : Int) ^ 149).natAbs = 2 ^ 149 by decide] at h1
          have h2 : c * 2 ^ (q + 149).toNat < 16777216 * 2 ^ 89 := by
            have : 2 ^ (q + 149).toNat ≤ 2 ^ 89 := Nat.pow_le_pow_right (by decide) (by omega)
            exact Nat.lt_of_lt_of_le (Nat.mul_lt_mul_of_pos_right f1 (Nat.two_pow_pos _)) (Nat.mul_le_mul_left _ this)
          have h3 : x.natAbs ≠ 0 := fun h => by
            rw [h, Nat.zero_mul] at h1
            have := Nat.mul_pos (Nat.pos_of_ne_zero hc) (Nat.two_pow_pos (q + 149).toNat)
            omega
          have h4 : 1 * 2 ^ 149 ≤ x.natAbs * 2 ^ 149 := Nat.mul_le_mul_right _ (by omega)
          have h5 : 16777216 * 2 ^ 89 < 1 * 2 ^ 149 := by decide
          omega
      have f4' : 8388608 ≤ c := by rcases f4 with f4 | f4 <;> omega
      have hfit2 : FP.Core.fits FP.Core.b32 (.fin s c (q - k)) := by
        refine ⟨by rw [fl_pp]; exact f1, by rw [fl_qmin]; omega, by rw [fl_qmax]; omega, Or.inr (by rw [fl_tails]; exact f4')⟩
      have e2 : FP.Core.val32 (FP.Core.fdiv a D) = .fin s c (q - k) := by
        rw [e1, hs]
        refine FP.Core.roundRatio_exact FP.Core.good_b32 (by decide) hfit2 ?_
        rw [show q - r - (q - k) = 23 by omega, show q - k - (q - r) = -23 by omega]
        show c * 2 ^ 23 = c * 8388608 * 2 ^ 0
        omega
      refine ⟨(by show FP.Core.val32 (FP.Core.fdiv a D) ≠ .nan; rw [e2]; intro h; cases h), ⟨_, _, _, e2⟩, ?_⟩
      show FP.Core.zval FP.Core.b32 (FP.Core.val32 (FP.Core.fdiv a D)) * 2 ^ k = _
      rw [e2, ← hz']
      show FP.Core.signed s (c * 2 ^ (q - k - FP.Core.b32.qmin).toNat) * 2 ^ k = _
      rw [fl_qmin, show (q + 149).toNat = (q - k - -149).toNat + k by omega, Nat.pow_add, ← Nat.mul_assoc, FP.Core.signed_mul s (c * 2 ^ (q - k - -149).toNat) (2 ^ k), Int.natCast_pow]
      rfl
theorem fl_abs {x : Int32} {n : Nat} {lo hi : Int32} (h1 : ¬ x < lo) (h2 : x ≤ hi) (hl : lo.toInt = -(n : Int)) (hh : hi.toInt = n) : x.toInt.natAbs ≤ n := by
  rw [Int32.lt_iff_toInt_lt, hl] at h1
  rw [Int32.le_iff_toInt_le, hh] at h2
  omega
/-- what write() and set() put: v eighths -/
theorem fl_put {x : Int32} (h1 : ¬ x < (-8000000 : Int32)) (h2 : x ≤ (8000000 : Int32)) : vf_n32 (FP.fdiv (FP.i2f x) 1090519040) ∧ vf_n32 (FP.fmul (FP.i2f x) 1040187392) ∧ FP.fdiv (FP.i2f x) 1090519040 = FP.fmul (FP.i2f x) 1040187392 ∧ fin23 (FP.fdiv (FP.i2f x) 1090519040) := by
  have hx := fl_abs (n := 8000000) h1 h2 (by decide) (by decide)
  obtain ⟨a1, a2, a3⟩ := fl_scale (k := 3) (fl_i2f (x := x) (by omega)) fl_v8 (by decide) (by decide) (by omega)
  have e := fl_div (fl_i2ffin (x := x) (by omega)) fl_v8 fl_vi8 (by decide)
  refine ⟨fl_n32 a1, by rw [← e]; exact fl_n32 a1, e, (fl_23 a1).mpr ?_⟩
  generalize FP.Core.zval FP.Core.b32 (FP.Core.val32 (FP.fdiv (FP.i2f x) 1090519040)) = z at a3
  omega
/-- v quarters -/
theorem fl_quart {x : Int32} (h1 : ¬ x < (-4000 : Int32)) (h2 : x ≤ (4000 : Int32)) : vf_n32 (FP.fdiv (FP.i2f x) 1082130432) ∧ FP.fdiv (FP.i2f x) 1082130432 = FP.fmul (FP.i2f x) 1048576000 ∧ ∃ s c q, FP.Core.val32 (FP.fdiv (FP.i2f x) 1082130432) = .fin s c q := by
  have hx := fl_abs (n := 4000) h1 h2 (by decide) (by decide)
  obtain ⟨a1, a2, a3⟩ := fl_scale (k := 2) (fl_i2f (x := x) (by omega)) fl_v4 (by decide) (by decide) (by omega)
  exact ⟨fl_n32 a1, fl_div (fl_i2ffin (x := x) (by omega)) fl_v4 fl_vi4 (by decide), a2⟩
theorem fl_cmpv (o : Ordering) (c : CmpOp) : Op.cmpValue (some o) c = (match o with | .lt => -1 | .eq => 0 | .gt => 1) := by cases o <;> cases c <;> rfl
/-- within the bound -/
theorem fl_within {y : UInt32} (hn : FP.Core.val32 y ≠ .nan) (h1 : ¬ Op.cmpValue (FP.fcmp y 3379831808) CmpOp.g < 0) (h2 : Op.cmpValue (FP.fcmp y 1232348160) CmpOp.l ≤ 0) : fin23 y := by
  have n1 : FP.Core.val32 (3379831808 : UInt32) ≠ .nan := (FP.Core.ne_nan32 _).mpr (by decide)
  have n2 : FP.Core.val32 (1232348160 : UInt32) ≠ .nan := (FP.Core.ne_nan32 _).mpr (by decide)
  have k1 : FP.Core.fkey 3379831808 = -1232348160 := by decide +kernel
  have k2 : FP.Core.fkey 1232348160 = 1232348160 := by decide +kernel
  rw [show FP.fcmp y 3379831808 = _ from FP.Core.fcmp_key hn n1, fl_cmpv, k1] at h1
  rw [show FP.fcmp y 1232348160 = _ from FP.Core.fcmp_key hn n2, fl_cmpv, k2] at h2
  rw [fl_key]
  constructor
  · rcases Int.lt_trichotomy (FP.Core.fkey y) (-1232348160) with h | h | h
    · rw [(FP.Core.compare_lt_iff _ _).mpr h] at h1; exact absurd (by decide) h1
    · omega
    · omega
  · rcases Int.lt_trichotomy (FP.Core.fkey y) 1232348160 with h | h | h
    · omega
    · omega
    · rw [(FP.Core.compare_gt_iff _ _).mpr h] at h2; exact absurd h2 (by decide)
theorem fl_bitsJ {x : UInt32} {μ : MS} {Q : Int32 → MS → Prop} (h : FP.Core.val32 x ≠ .nan) (hq : Q x.toInt32 μ) : wJxf58ca_floatToIntBits_5c35a x μ Q := by
  unfold wJxf58ca_floatToIntBits_5c35a wJxf58ca_isNaN_12338
  rw [show FP.fcmp x x = some .eq from FP.Core.fcmp_self h, fl_cmpv]
  exact ⟨fun _ => ⟨fun h => absurd rfl h, fun _ => hq⟩, fun h => absurd rfl h⟩
theorem fl_back (x : UInt32) : x.toInt32.toUInt32 = x := by simp
theorem fl_sn {y : Int32} (h : fin23 y.toUInt32) : vn_sni2f y = false := by
  have h1 := fl_n32 (fl_nn h)
  unfold vf_n32 at h1
  unfold vn_sni2f
  simp only [Bool.and_eq_false_iff]
  left
  simp only [decide_eq_false_iff_not, gt_iff_lt, UInt32.not_lt]
  exact h1
