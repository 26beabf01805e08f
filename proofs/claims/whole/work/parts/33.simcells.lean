/-! ===== the calls, side by side: cells ===== -/
theorem sxB (a b m : Int) (k : Nat) (hm : 0 < m) (hk : (k : Int) = 65536 * m) (hb : 0 ≤ b ∧ b < 65536) (ha : a = b * m) : (a.bmod k) / m = if b < 32768 then b else b - 65536 := by
  subst ha
  have h0 : 0 ≤ b * m := Int.mul_nonneg hb.1 (by omega)
  have h1 : b * m < k := by rw [hk]; exact Int.mul_lt_mul_of_pos_right hb.2 hm
  rw [Int.bmod_def, Int.emod_eq_of_lt h0 h1]
  have hh : ((k : Int) + 1) / 2 = 32768 * m := by omega
  rw [hh]
  by_cases hq : b < 32768
  · rw [if_pos (Int.mul_lt_mul_of_pos_right hq hm), if_pos hq, Int.mul_ediv_cancel _ (by omega)]
  · have hn : ¬ b * m < 32768 * m := fun h => hq (Int.lt_of_mul_lt_mul_right h (by omega))
    rw [if_neg hn, if_neg hq, hk, ← Int.sub_mul, Int.mul_ediv_cancel _ (by omega)]
theorem sxC (a b m : Int) (k : Nat) (hm : 0 < m) (hk : (k : Int) = 256 * m) (hb : 0 ≤ b ∧ b < 256) (ha : a = b * m) : (a.bmod k) / m = if b < 128 then b else b - 256 := by
  subst ha
  have h0 : 0 ≤ b * m := Int.mul_nonneg hb.1 (by omega)
  have h1 : b * m < k := by rw [hk]; exact Int.mul_lt_mul_of_pos_right hb.2 hm
  rw [Int.bmod_def, Int.emod_eq_of_lt h0 h1]
  have hh : ((k : Int) + 1) / 2 = 128 * m := by omega
  rw [hh]
  by_cases hq : b < 128
  · rw [if_pos (Int.mul_lt_mul_of_pos_right hq hm), if_pos hq, Int.mul_ediv_cancel _ (by omega)]
  · have hn : ¬ b * m < 128 * m := fun h => hq (Int.lt_of_mul_lt_mul_right h (by omega))
    rw [if_neg hn, if_neg hq, hk, ← Int.sub_mul, Int.mul_ediv_cancel _ (by omega)]
theorem sxD (N : Nat) (k : Nat) : (N : Int).bmod k = if (N : Int) % k < ((k : Int) + 1) / 2 then (N : Int) % k else (N : Int) % k - k := Int.bmod_def _ _
theorem sx16 (x : Int32) : (x <<< ((16 : Int32) &&& 31)) >>> ((16 : Int32) &&& 31) = x.toInt16.toInt32 := by
  apply Int32.toInt_inj.mp
  rw [pk_shr _ _ 16 (by decide), Int16.toInt_toInt32, Int32.toInt_toInt16]
  have h1 := pk_shl x ((16 : Int32) &&& 31) 16 (by decide)
  have h2 : (x <<< ((16 : Int32) &&& 31)).toInt = ((x <<< ((16 : Int32) &&& 31)).toBitVec.toNat : Int).bmod (2 ^ 32) := BitVec.toInt_eq_toNat_bmod _
  rw [h1] at h2
  rw [h2, Int.shiftRight_eq_div_pow]
  have h3 : x.toInt = (x.toBitVec.toNat : Int).bmod (2 ^ 32) := BitVec.toInt_eq_toNat_bmod _
  rw [h3, Int.bmod_bmod_of_dvd (by decide)]
  generalize x.toBitVec.toNat = N
  have h4 : N * 2 ^ 16 % 2 ^ 32 = (N % 65536) * 65536 := by
    rw [show (2 : Nat) ^ 32 = 65536 * 65536 from rfl, show (2 : Nat) ^ 16 = 65536 from rfl, Nat.mul_mod_mul_right]
  rw [h4]
  have h5 := sxB (((N % 65536 * 65536 : Nat) : Int)) ((N % 65536 : Nat) : Int) 65536 (2 ^ 32) (by decide) (by decide) ⟨by omega, by omega⟩ (by omega)
  refine Eq.trans h5 ?_
  rw [sxD N (2 ^ 16), show (((2 ^ 16 : Nat) : Int) + 1) / 2 = 32768 from rfl, show ((2 ^ 16 : Nat) : Int) = 65536 from rfl, show (((N % 65536 : Nat)) : Int) = (N : Int) % 65536 from by omega]
theorem sx8 (x : Int32) : (x <<< ((24 : Int32) &&& 31)) >>> ((24 : Int32) &&& 31) = x.toInt8.toInt32 := by
  apply Int32.toInt_inj.mp
  rw [pk_shr _ _ 24 (by decide), Int8.toInt_toInt32, Int32.toInt_toInt8]
  have h1 := pk_shl x ((24 : Int32) &&& 31) 24 (by decide)
  have h2 : (x <<< ((24 : Int32) &&& 31)).toInt = ((x <<< ((24 : Int32) &&& 31)).toBitVec.toNat : Int).bmod (2 ^ 32) := BitVec.toInt_eq_toNat_bmod _
  rw [h1] at h2
  rw [h2, Int.shiftRight_eq_div_pow]
  have h3 : x.toInt = (x.toBitVec.toNat : Int).bmod (2 ^ 32) := BitVec.toInt_eq_toNat_bmod _
  rw [h3, Int.bmod_bmod_of_dvd (by decide)]
  generalize x.toBitVec.toNat = N
  have h4 : N * 2 ^ 24 % 2 ^ 32 = (N % 256) * 16777216 := by
    rw [show (2 : Nat) ^ 32 = 256 * 16777216 from rfl, show (2 : Nat) ^ 24 = 16777216 from rfl, Nat.mul_mod_mul_right]
  rw [h4]
  have h5 := sxC (((N % 256 * 16777216 : Nat) : Int)) ((N % 256 : Nat) : Int) 16777216 (2 ^ 32) (by decide) (by decide) ⟨by omega, by omega⟩ (by omega)
  refine Eq.trans h5 ?_
  rw [sxD N (2 ^ 8), show (((2 ^ 8 : Nat) : Int) + 1) / 2 = 128 from rfl, show ((2 ^ 8 : Nat) : Int) = 256 from rfl, show (((N % 256 : Nat)) : Int) = (N : Int) % 256 from by omega]
theorem sxc (x : Int32) : x &&& (65535 : Int32) = (x.toUInt32 % 65536).toInt32 := by
  rw [pk_char, pk_and x 16 (by decide)]
theorem p_hasY {σ : CS} {Q : Int32 → CS → Prop} {a kd n c i : Nat} {f : Nat → Int32} (hT : sTk σ a = some (kd, n, c, f)) (hi : i < n) (hn : n ≤ 300) (h : Q 1 σ) : wT_hasPlace a (nI i) σ Q := ⟨kd, n, c, f, hT, fun q => absurd q (nI_pos (by omega)), fun _ => ⟨kd, n, c, f, hT, fun q => absurd q (nI_ge (by omega) (by omega)), fun _ => h⟩⟩
theorem p_hasN {σ : CS} {Q : Int32 → CS → Prop} {a kd n c : Nat} {x : Int32} {f : Nat → Int32} (hT : sTk σ a = some (kd, n, c, f)) (hx : ∀ i, i < n → x ≠ nI i) (hn : n ≤ 300) (h : Q 0 σ) : wT_hasPlace a x σ Q := ⟨kd, n, c, f, hT, fun _ => h, fun q => ⟨kd, n, c, f, hT, fun _ => h, fun q2 => absurd (nofit (by omega) hx q) q2⟩⟩
theorem p_val {σ : CS} {Q : Int32 → CS → Prop} {a k n c i : Nat} {f : Nat → Int32} (hT : sTk σ a = some (k, n, c, f)) (hi : i < n) (hn : n ≤ 300) (ho : OKc k (f i)) (h : Q (f i) σ) : wT_valueAt a (nI i) σ Q := by
  have ci : (nI i).toNatClampNeg = i := nI_clamp (by omega)
  have vi : vp_in (nI i) n := vp_in_nI hi (by omega)
  refine ⟨k, n, c, f, hT, fun e => ?_, fun e => ?_, fun e => ?_, fun e => ?_, fun e => ?_⟩ <;> subst e
  · refine ⟨n, c, f, hT, vi, ?_⟩
    rw [ci]
    rcases ho.1 rfl with e | e
    · rw [e] at h ⊢; exact ⟨fun _ => h, fun q => absurd rfl q⟩
    · rw [e] at h ⊢; exact ⟨fun q => absurd q (by decide), fun _ => h⟩
  · refine ⟨n, c, f, hT, vi, ?_⟩
    rw [ci]; exact h
  · refine ⟨n, c, f, hT, vi, ?_⟩
    rw [ci]; exact h
  · refine ⟨n, c, f, hT, vi, ?_⟩
    rw [ci]
    refine fl_bits (ho.2 rfl) ?_
    have : (f i).toUInt32.toInt32 = f i := by simp
    rw [this]; exact h
  · refine ⟨n, c, f, hT, vi, ?_⟩
    rw [ci]; exact h
theorem m_lkY {μ : MS} {Q : Int32 → MS → Prop} {t i n : Nat} (ht : t < 202) (hs : mSize μ t = nI n) (hi : i < n) (hn : n ≤ 300) (h : Q 0 μ) : wX9_lacks (nI t) (nI i) μ Q := by
  refine ⟨fun _ => ⟨fun q => absurd q (nI_pos (by omega)), fun _ => ⟨vp_in_nI ht (by decide), ?_⟩⟩, fun q => absurd (nI_0le (by omega)) q⟩
  rw [nI_clamp (show t < 2 ^ 31 by omega), hs]
  exact ⟨fun _ => h, fun q => absurd ((nI_ltI (by omega) (by omega)).mpr hi) q⟩
theorem m_lkN {μ : MS} {Q : Int32 → MS → Prop} {t n : Nat} {x : Int32} (ht : t < 202) (hs : mSize μ t = nI n) (hx : ∀ i, i < n → x ≠ nI i) (hn : n ≤ 300) (h : Q (-3) μ) : wX9_lacks (nI t) x μ Q := by
  refine ⟨fun _ => ⟨fun _ => h, fun q => ⟨vp_in_nI ht (by decide), ?_⟩⟩, fun q => absurd (nI_0le (by omega)) q⟩
  rw [nI_clamp (show t < 2 ^ 31 by omega), hs]
  refine ⟨fun q2 => ?_, fun _ => h⟩
  have h1 := nofit (by omega) hx q
  rw [Int32.le_iff_toInt_le] at h1
  rw [Int32.lt_iff_toInt_lt] at q2
  omega
theorem m_lkM {μ : MS} {Q : Int32 → MS → Prop} {x : Int32} (h : Q (-2) μ) : wX9_lacks (-1) x μ Q := ⟨fun q => absurd q neg1, fun _ => h⟩
/-- reading, through a slot -/
theorem rd_some {σ : CS} {μ : MS} {j : Nat} (h : Sim σ μ j) {M : (Int32 → MS → Prop) → Prop} {a t k n c : Nat} {f : Nat → Int32} (ht : t < 202) (e3 : sTk σ a = some (k, n, c, f)) (hn : n ≤ 300) (e4 : mSize μ t = nI n) (e5 : ∀ i, i < n → mCell μ (300 * t + i) = f i) (e6 : ∀ i, i < n → OKc k (f i)) (x : Int32) (hM : ∀ P : Int32 → MS → Prop, wX9_reads (nI t) x μ P → M P) : wX8_valueIn (some a) x (pRf σ 0) (fun r σ' => M (fun r' μ' => r = r' ∧ Sim σ' μ' (j + 1))) := by
  refine ⟨fun q => (by cases q), fun a' ha => ?_⟩
  cases ha
  rcases fits x n with ⟨i, hi, rfl⟩ | hx
  · refine p_hasY (σ := pRf σ 0) e3 hi hn (y1 (p_val (σ := pRf σ 0) e3 hi hn (e6 i hi) (hM _ ?_)))
    refine m_lkY ht e4 hi hn ⟨fun _ => ?_, fun q => absurd (by decide) q⟩
    rw [ix300, nI_clamp (show 300 * t + i < 2 ^ 31 by omega)]
    exact ⟨vp_in_nI (by omega) (by decide), (e5 i hi).symm, h.st 0⟩
  · refine p_hasN (σ := pRf σ 0) e3 hx hn (y0 (hM _ ?_))
    exact m_lkN ht e4 hx hn ⟨fun q => absurd q neg3, fun _ => ⟨rfl, h.st (-3)⟩⟩
theorem rd_none {σ : CS} {μ : MS} {j : Nat} (h : Sim σ μ j) {M : (Int32 → MS → Prop) → Prop} (x : Int32) (hM : ∀ P : Int32 → MS → Prop, wX9_reads (-1) x μ P → M P) : wX8_valueIn none x (pRf σ (-2)) (fun r σ' => M (fun r' μ' => r = r' ∧ Sim σ' μ' (j + 1))) := by
  refine ⟨fun _ => hM _ ?_, fun a' ha => (by cases ha)⟩
  exact m_lkM ⟨fun q => absurd q neg2, fun _ => ⟨rfl, h.st (-2)⟩⟩
/-- the class's step of one cell, and the reference's -/
def StC (WC : Nat → Int32 → Int32 → CS → (Int32 → CS → Prop) → Prop) (WM : Int32 → Int32 → Int32 → Int32 → MS → (Int32 → MS → Prop) → Prop) : Prop := ∀ (k : Nat) (v y : Int32), k < 5 → OKc k y → (∃ x, OKc k x ∧ (∀ (σ : CS) (a n c i : Nat) (f : Nat → Int32) (Q : Int32 → CS → Prop), sTk σ a = some (k, n, c, f) → i < n → n ≤ 300 → f i = y → Q 1 (pTk σ a (k, n, c, upd f i x)) → WC a (nI i) v σ Q) ∧ ∀ (μ : MS) (t i n : Nat) (Q : Int32 → MS → Prop), t < 202 → mSize μ t = nI n → i < n → n ≤ 300 → mCell μ (300 * t + i) = y → Q 0 (nCell μ (upd (mCell μ) (300 * t + i) x)) → WM (nI k) (nI t) (nI i) v μ Q) ∨ (∃ b : Bool, (∀ (σ : CS) (a n c i : Nat) (f : Nat → Int32) (Q : Int32 → CS → Prop), sTk σ a = some (k, n, c, f) → i < n → n ≤ 300 → f i = y → Q (if b then 1 else 0) σ → WC a (nI i) v σ Q) ∧ ∀ (μ : MS) (t i n : Nat) (Q : Int32 → MS → Prop), t < 202 → mSize μ t = nI n → i < n → n ≤ 300 → mCell μ (300 * t + i) = y → Q (if b then 0 else -5) μ → WM (nI k) (nI t) (nI i) v μ Q)
theorem wr_some {σ : CS} {μ : MS} {j : Nat} (h : Sim σ μ j) {WC : Nat → Int32 → Int32 → CS → (Int32 → CS → Prop) → Prop} {WM : Int32 → Int32 → Int32 → Int32 → MS → (Int32 → MS → Prop) → Prop} (hst : StC WC WM) (hlk : ∀ (k t n : Nat) (x v : Int32) (Q : Int32 → MS → Prop), t < 202 → mSize μ t = nI n → (∀ i, i < n → x ≠ nI i) → n ≤ 300 → Q (-3) μ → WM (nI k) (nI t) x v μ Q) {M : (Int32 → MS → Prop) → Prop} {s a t k n c : Nat} {f : Nat → Int32} (hs : s < 200) (ho : oslot σ s = some a) (hv : slotv μ s = nI t) (hks : kslot σ s = k) (hk : k < 5) (ht : t < 202) (e3 : sTk σ a = some (k, n, c, f)) (hn : n ≤ 300) (e4 : mSize μ t = nI n) (e5 : ∀ i, i < n → mCell μ (300 * t + i) = f i) (e6 : ∀ i, i < n → OKc k (f i)) (x v : Int32) (hM : ∀ P : Int32 → MS → Prop, WM (nI k) (nI t) x v μ (fun r u => wX9_told r u P) → M P) : wT_hasPlace a x (pRf σ 0) (fun r11 u12 => (¬ r11 = 0 → (WC a x v u12 (fun r13 u14 => (r13 = 0 → wX8_refuse (-5 : Int32) u14 (fun r15 u16 => M (fun r' μ' => r15 = r' ∧ Sim u16 μ' (j + 1)))) ∧ (¬ r13 = 0 → M (fun r' μ' => 0 = r' ∧ Sim u14 μ' (j + 1)))))) ∧ (r11 = 0 → wX8_refuse (-3 : Int32) u12 (fun r17 u18 => M (fun r' μ' => r17 = r' ∧ Sim u18 μ' (j + 1))))) := by
  rcases fits x n with ⟨i, hi, rfl⟩ | hx
  · refine p_hasY (σ := pRf σ 0) e3 hi hn (y1 ?_)
    rcases hst k v (f i) hk (e6 i hi) with ⟨z, hz, s1, s2⟩ | ⟨b, s1, s2⟩
    · refine s1 (pRf σ 0) a n c i f _ e3 hi hn rfl (z1 (hM _ (s2 μ t i n _ ht e4 hi hn (e5 i hi) (m_told (n := 0) (by decide) ⟨rfl, rfl, h.2.1, ?_, h.2.2.2.1, h.2.2.2.2.1, fun d hd => (h.2.2.2.2.2 d hd).mono (by omega)⟩))))
      subst hks
      exact Core.cell h.2.2.1 hs ho hv ht e3 hi hz (fun a' => rfl)
    · refine s1 (pRf σ 0) a n c i f _ e3 hi hn rfl ?_
      cases b with
      | true => exact z1 (hM _ (s2 μ t i n _ ht e4 hi hn (e5 i hi) (m_told (n := 0) (by decide) ⟨rfl, h.st 0⟩)))
      | false => exact z0 (hM _ (s2 μ t i n _ ht e4 hi hn (e5 i hi) (n_told neg5 ⟨rfl, h.st (-5)⟩)))
  · exact p_hasN (σ := pRf σ 0) e3 hx hn (y0 (hM _ (hlk k t n x v _ ht e4 hx hn (n_told neg3 ⟨rfl, h.st (-3)⟩))))
theorem ntle {x : Int32} {N : Int32} (h : ¬ x ≤ N) : N < x := Int32.not_le.mp h
theorem okc_n {k : Nat} {x : Int32} (h0 : k ≠ 0) (h3 : k ≠ 3) : OKc k x := ⟨fun e => absurd e h0, fun e => absurd e h3⟩
theorem c10 : ¬ (1 : Int32) = 0 := by decide
theorem c13 : ¬ (1 : Int32) = 3 := by decide
theorem c20 : ¬ (2 : Int32) = 0 := by decide
theorem c21 : ¬ (2 : Int32) = 1 := by decide
theorem c23 : ¬ (2 : Int32) = 3 := by decide
theorem c30 : ¬ (3 : Int32) = 0 := by decide
theorem c40 : ¬ (4 : Int32) = 0 := by decide
theorem c41 : ¬ (4 : Int32) = 1 := by decide
theorem c42 : ¬ (4 : Int32) = 2 := by decide
theorem c43 : ¬ (4 : Int32) = 3 := by decide
theorem st_put : StC wT_put wX9_writes := by
  intro k v y hk hy
  have mw : ∀ (kk : Int32) (μ : MS) (t i n : Nat) (Q : Int32 → MS → Prop), t < 202 → mSize μ t = nI n → i < n → n ≤ 300 → ((¬ kk = 0 → ((¬ kk = (3 : Int32) → (wX9_packed kk v μ (fun r13 u14 => vp_in (nI (300 * t + i)) 60600 ∧ (Q (0 : Int32) (nCell u14 (upd (mCell u14) (nI (300 * t + i)).toNatClampNeg r13)))))) ∧ (kk = (3 : Int32) → (wX9_in v (-8000000 : Int32) (8000000 : Int32) μ (fun r15 u16 => (¬ r15 = 0 → (vf_n32 (FP.fmul (FP.i2f v) (1040187392 : UInt32)) ∧ (wJxf58ca_floatToIntBits_5c35a (FP.fmul (FP.i2f v) (1040187392 : UInt32)) u16 (fun r17 u18 => vp_in (nI (300 * t + i)) 60600 ∧ (Q (0 : Int32) (nCell u18 (upd (mCell u18) (nI (300 * t + i)).toNatClampNeg r17))))))) ∧ (r15 = 0 → Q (-5 : Int32) u16)))))) ∧ (kk = 0 → ((¬ v = 0 → (vp_in (nI (300 * t + i)) 60600 ∧ (Q (0 : Int32) (nCell μ (upd (mCell μ) (nI (300 * t + i)).toNatClampNeg (1 : Int32)))))) ∧ (v = 0 → (vp_in (nI (300 * t + i)) 60600 ∧ (Q (0 : Int32) (nCell μ (upd (mCell μ) (nI (300 * t + i)).toNatClampNeg (0 : Int32))))))))) → wX9_writes kk (nI t) (nI i) v μ Q := by
    intro kk μ t i n Q ht hs hi hn hb
    refine m_lkY ht hs hi hn ⟨fun _ y ey => ?_, fun q => absurd (by decide) q⟩
    rw [ix300] at ey
    subst ey
    exact hb
  rcases (show k = 0 ∨ k = 1 ∨ k = 2 ∨ k = 3 ∨ k = 4 by omega) with rfl | rfl | rfl | rfl | rfl
  · by_cases hv : v = 0
    · refine Or.inl ⟨0, ⟨fun _ => Or.inl rfl, fun e => by cases e⟩, fun σ a n c i f Q hT hi hn hf hq => ⟨0, n, c, f, hT, fun _ => ⟨n, c, f, hT, fun _ => ⟨vp_in_nI hi (by omega), ?_⟩, fun q => absurd hv q⟩, fun e => (by cases e), fun e => (by cases e), fun e => (by cases e), fun e => (by cases e)⟩, fun μ t i n Q ht hs hi hn hm hq => mw 0 μ t i n Q ht hs hi hn ⟨fun q => absurd rfl q, fun _ => ⟨fun q => absurd hv q, fun _ => ⟨vp_in_nI (by omega) (by decide), ?_⟩⟩⟩⟩
      · rw [nI_clamp (show i < 2 ^ 31 by omega)]; exact hq
      · rw [nI_clamp (show 300 * t + i < 2 ^ 31 by omega)]; exact hq
    · refine Or.inl ⟨1, ⟨fun _ => Or.inr rfl, fun e => by cases e⟩, fun σ a n c i f Q hT hi hn hf hq => ⟨0, n, c, f, hT, fun _ => ⟨n, c, f, hT, fun q => absurd q hv, fun _ => ⟨vp_in_nI hi (by omega), ?_⟩⟩, fun e => (by cases e), fun e => (by cases e), fun e => (by cases e), fun e => (by cases e)⟩, fun μ t i n Q ht hs hi hn hm hq => mw 0 μ t i n Q ht hs hi hn ⟨fun q => absurd rfl q, fun _ => ⟨fun _ => ⟨vp_in_nI (by omega) (by decide), ?_⟩, fun q => absurd q hv⟩⟩⟩
      · rw [nI_clamp (show i < 2 ^ 31 by omega)]; exact hq
      · rw [nI_clamp (show 300 * t + i < 2 ^ 31 by omega)]; exact hq
  · refine Or.inl ⟨(v.toUInt32 % 65536).toInt32, okc_n (by decide) (by decide), fun σ a n c i f Q hT hi hn hf hq => ⟨1, n, c, f, hT, fun e => (by cases e), fun _ => ⟨n, c, f, hT, vp_in_nI hi (by omega), ?_⟩, fun e => (by cases e), fun e => (by cases e), fun e => (by cases e)⟩, fun μ t i n Q ht hs hi hn hm hq => mw 1 μ t i n Q ht hs hi hn ⟨fun _ => ⟨fun _ => ⟨fun q => absurd rfl q, fun _ => ⟨vp_in_nI (by omega) (by decide), ?_⟩⟩, fun q => absurd q c13⟩, fun q => absurd q c10⟩⟩
    · rw [nI_clamp (show i < 2 ^ 31 by omega), pk_vc]; exact hq
    · rw [nI_clamp (show 300 * t + i < 2 ^ 31 by omega), sxc]; exact hq
  · refine Or.inl ⟨v.toInt16.toInt32, okc_n (by decide) (by decide), fun σ a n c i f Q hT hi hn hf hq => ⟨2, n, c, f, hT, fun e => (by cases e), fun e => (by cases e), fun _ => ⟨n, c, f, hT, vp_in_nI hi (by omega), ?_⟩, fun e => (by cases e), fun e => (by cases e)⟩, fun μ t i n Q ht hs hi hn hm hq => mw 2 μ t i n Q ht hs hi hn ⟨fun _ => ⟨fun _ => ⟨fun _ => ⟨fun q => absurd rfl q, fun _ => ⟨vp_in_nI (by omega) (by decide), ?_⟩⟩, fun q => absurd q c21⟩, fun q => absurd q c23⟩, fun q => absurd q c20⟩⟩
    · rw [nI_clamp (show i < 2 ^ 31 by omega), pk_vs]; exact hq
    · rw [nI_clamp (show 300 * t + i < 2 ^ 31 by omega), sx16]; exact hq
  · by_cases h1 : v < (-8000000 : Int32)
    · exact Or.inr ⟨false, fun σ a n c i f Q hT hi hn hf hq => ⟨3, n, c, f, hT, fun e => (by cases e), fun e => (by cases e), fun e => (by cases e), fun _ => ⟨fun _ => hq, fun q => absurd h1 q⟩, fun e => (by cases e)⟩, fun μ t i n Q ht hs hi hn hm hq => mw 3 μ t i n Q ht hs hi hn ⟨fun _ => ⟨fun q => absurd rfl q, fun _ => ⟨fun _ => y0 hq, fun q => absurd h1 q⟩⟩, fun q => absurd q c30⟩⟩
    · by_cases h2 : v ≤ (8000000 : Int32)
      · obtain ⟨p1, p2, p3, p4⟩ := fl_put h1 h2
        refine Or.inl ⟨(FP.fdiv (FP.i2f v) (1090519040 : UInt32)).toInt32, ⟨fun e => (by cases e), fun _ => by rw [fl_back]; exact p4⟩, fun σ a n c i f Q hT hi hn hf hq => ⟨3, n, c, f, hT, fun e => (by cases e), fun e => (by cases e), fun e => (by cases e), fun _ => ⟨fun q => absurd q h1, fun _ => ⟨fun _ => ⟨n, c, f, hT, p1, vp_in_nI hi (by omega), ?_⟩, fun q => absurd h2 q⟩⟩, fun e => (by cases e)⟩, fun μ t i n Q ht hs hi hn hm hq => mw 3 μ t i n Q ht hs hi hn ⟨fun _ => ⟨fun q => absurd rfl q, fun _ => ⟨fun q => absurd q h1, fun _ => ⟨fun q => absurd q (Int32.not_lt.mpr h2), fun _ => y1 ⟨p2, fl_bitsJ (by rw [← p3]; exact fl_nn p4) ⟨vp_in_nI (by omega) (by decide), ?_⟩⟩⟩⟩⟩, fun q => absurd q c30⟩⟩
        · rw [nI_clamp (show i < 2 ^ 31 by omega)]; exact hq
        · rw [nI_clamp (show 300 * t + i < 2 ^ 31 by omega), ← p3]; exact hq
      · exact Or.inr ⟨false, fun σ a n c i f Q hT hi hn hf hq => ⟨3, n, c, f, hT, fun e => (by cases e), fun e => (by cases e), fun e => (by cases e), fun _ => ⟨fun _ => hq, fun _ => ⟨fun q => absurd q h2, fun _ => hq⟩⟩, fun e => (by cases e)⟩, fun μ t i n Q ht hs hi hn hm hq => mw 3 μ t i n Q ht hs hi hn ⟨fun _ => ⟨fun q => absurd rfl q, fun _ => ⟨fun _ => y0 hq, fun _ => ⟨fun _ => y0 hq, fun q => absurd (ntle h2) q⟩⟩⟩, fun q => absurd q c30⟩⟩
  · refine Or.inl ⟨v.toInt8.toInt32, okc_n (by decide) (by decide), fun σ a n c i f Q hT hi hn hf hq => ⟨4, n, c, f, hT, fun e => (by cases e), fun e => (by cases e), fun e => (by cases e), fun e => (by cases e), fun _ => ⟨n, c, f, hT, vp_in_nI hi (by omega), ?_⟩⟩, fun μ t i n Q ht hs hi hn hm hq => mw 4 μ t i n Q ht hs hi hn ⟨fun _ => ⟨fun _ => ⟨fun _ => ⟨fun _ => ⟨vp_in_nI (by omega) (by decide), ?_⟩, fun q => absurd q c42⟩, fun q => absurd q c41⟩, fun q => absurd q c43⟩, fun q => absurd q c40⟩⟩
    · rw [nI_clamp (show i < 2 ^ 31 by omega), pk_vb]; exact hq
    · rw [nI_clamp (show 300 * t + i < 2 ^ 31 by omega), sx8]; exact hq
theorem upd_self {f : Nat → Int32} {k : Nat} {x : Int32} (h : f k = x) : upd f k x = f := funext fun j => by
  by_cases hj : j = k
  · subst hj; rw [pk_us, h]
  · rw [pk_un hj]
theorem st_alter : StC wT_alter wX9_turns := by
  intro k v y hk hy
  have mw : ∀ (kk : Int32) (μ : MS) (t i n : Nat) (Q : Int32 → MS → Prop), t < 202 → mSize μ t = nI n → i < n → n ≤ 300 → mCell μ (300 * t + i) = y → ((¬ kk = 0 → ((¬ kk = (3 : Int32) → ((¬ kk = (1 : Int32) → ((¬ kk = (2 : Int32) → (wX9_packed kk (y - v) μ (fun r20 u21 => vp_in (nI (300 * t + i)) 60600 ∧ (Q (0 : Int32) (nCell u21 (upd (mCell u21) (300 * t + i) r20)))))) ∧ (kk = (2 : Int32) → (wX9_packed kk (y * v) μ (fun r22 u23 => vp_in (nI (300 * t + i)) 60600 ∧ (Q (0 : Int32) (nCell u23 (upd (mCell u23) (300 * t + i) r22)))))))) ∧ (kk = (1 : Int32) → (wX9_packed kk (y + v) μ (fun r24 u25 => vp_in (nI (300 * t + i)) 60600 ∧ (Q (0 : Int32) (nCell u25 (upd (mCell u25) (300 * t + i) r24)))))))) ∧ (kk = (3 : Int32) → (wX9_in v (-4000 : Int32) (4000 : Int32) μ (fun r26 u27 => (¬ r26 = 0 → (vn_sni2f y = false ∧ (vf_n32 (FP.fmul (FP.i2f v) (1048576000 : UInt32)) ∧ (vf_n32 (FP.fmul y.toUInt32 (FP.fmul (FP.i2f v) (1048576000 : UInt32))) ∧ (∀ y28 : UInt32, y28 = (FP.fmul y.toUInt32 (FP.fmul (FP.i2f v) (1048576000 : UInt32))) → (((Op.cmpValue (FP.fcmp y28 (3379831808 : UInt32)) CmpOp.g) < 0 → Q (-5 : Int32) u27) ∧ (¬ (Op.cmpValue (FP.fcmp y28 (3379831808 : UInt32)) CmpOp.g) < 0 → (((Op.cmpValue (FP.fcmp y28 (1232348160 : UInt32)) CmpOp.l) ≤ 0 → (wJxf58ca_floatToIntBits_5c35a y28 u27 (fun r29 u30 => vp_in (nI (300 * t + i)) 60600 ∧ (Q (0 : Int32) (nCell u30 (upd (mCell u30) (300 * t + i) r29)))))) ∧ (¬ (Op.cmpValue (FP.fcmp y28 (1232348160 : UInt32)) CmpOp.l) ≤ 0 → Q (-5 : Int32) u27))))))))) ∧ (r26 = 0 → Q (-5 : Int32) u27)))))) ∧ (kk = 0 → ((¬ (v &&& (1 : Int32)) = 0 → (vp_in (nI (300 * t + i)) 60600 ∧ (Q (0 : Int32) (nCell μ (upd (mCell μ) (300 * t + i) ((1 : Int32) - y)))))) ∧ ((v &&& (1 : Int32)) = 0 → (vp_in (nI (300 * t + i)) 60600 ∧ (Q (0 : Int32) (nCell μ (upd (mCell μ) (300 * t + i) y)))))))) → wX9_turns kk (nI t) (nI i) v μ Q := by
    intro kk μ t i n Q ht hs hi hn hm hb
    refine m_lkY ht hs hi hn ⟨fun _ z ez => ?_, fun q => absurd (by decide) q⟩
    rw [ix300] at ez
    subst ez
    refine ⟨vp_in_nI (by omega) (by decide), fun z ez => ?_⟩
    rw [nI_clamp (show 300 * t + i < 2 ^ 31 by omega)] at ez ⊢
    rw [hm] at ez
    subst ez
    exact hb
  rcases (show k = 0 ∨ k = 1 ∨ k = 2 ∨ k = 3 ∨ k = 4 by omega) with rfl | rfl | rfl | rfl | rfl
  · by_cases hv : (v &&& (1 : Int32)) = 0
    · refine Or.inr ⟨true, fun σ a n c i f Q hT hi hn hf hq => ⟨0, n, c, f, hT, fun _ => ⟨fun _ => hq, fun q => absurd hv q⟩, fun e => (by cases e), fun e => (by cases e), fun e => (by cases e), fun e => (by cases e)⟩, fun μ t i n Q ht hs hi hn hm hq => mw 0 μ t i n Q ht hs hi hn hm ⟨fun q => absurd rfl q, fun _ => ⟨fun q => absurd hv q, fun _ => ⟨vp_in_nI (by omega) (by decide), ?_⟩⟩⟩⟩
      rw [upd_self hm]; exact hq
    · refine Or.inl ⟨1 - y, ⟨fun _ => ?_, fun e => by cases e⟩, fun σ a n c i f Q hT hi hn hf hq => ⟨0, n, c, f, hT, fun _ => ⟨fun q => absurd q hv, fun _ => ⟨n, c, f, hT, n, c, f, hT, vp_in_nI hi (by omega), ?_⟩⟩, fun e => (by cases e), fun e => (by cases e), fun e => (by cases e), fun e => (by cases e)⟩, fun μ t i n Q ht hs hi hn hm hq => mw 0 μ t i n Q ht hs hi hn hm ⟨fun q => absurd rfl q, fun _ => ⟨fun _ => ⟨vp_in_nI (by omega) (by decide), hq⟩, fun q => absurd q hv⟩⟩⟩
      · rcases hy.1 rfl with e | e
        · rw [e]; exact Or.inr rfl
        · rw [e]; exact Or.inl rfl
      · rw [nI_clamp (show i < 2 ^ 31 by omega), hf]
        rcases hy.1 rfl with e | e
        · rw [e] at hq ⊢; exact ⟨fun q => absurd rfl q, fun _ => ⟨vp_in_nI hi (by omega), hq⟩⟩
        · rw [e] at hq ⊢; exact ⟨fun _ => ⟨vp_in_nI hi (by omega), hq⟩, fun q => absurd q c10⟩
  · refine Or.inl ⟨((y + v).toUInt32 % 65536).toInt32, okc_n (by decide) (by decide), fun σ a n c i f Q hT hi hn hf hq => ⟨1, n, c, f, hT, fun e => (by cases e), fun _ => ⟨n, c, f, hT, n, c, f, hT, vp_in_nI hi (by omega), vp_in_nI hi (by omega), ?_⟩, fun e => (by cases e), fun e => (by cases e), fun e => (by cases e)⟩, fun μ t i n Q ht hs hi hn hm hq => mw 1 μ t i n Q ht hs hi hn hm ⟨fun _ => ⟨fun _ => ⟨fun q => absurd rfl q, fun _ => ⟨fun q => absurd rfl q, fun _ => ⟨vp_in_nI (by omega) (by decide), ?_⟩⟩⟩, fun q => absurd q c13⟩, fun q => absurd q c10⟩⟩
    · rw [nI_clamp (show i < 2 ^ 31 by omega), hf, pk_vc]; exact hq
    · rw [sxc]; exact hq
  · refine Or.inl ⟨(y * v).toInt16.toInt32, okc_n (by decide) (by decide), fun σ a n c i f Q hT hi hn hf hq => ⟨2, n, c, f, hT, fun e => (by cases e), fun e => (by cases e), fun _ => ⟨n, c, f, hT, n, c, f, hT, vp_in_nI hi (by omega), vp_in_nI hi (by omega), ?_⟩, fun e => (by cases e), fun e => (by cases e)⟩, fun μ t i n Q ht hs hi hn hm hq => mw 2 μ t i n Q ht hs hi hn hm ⟨fun _ => ⟨fun _ => ⟨fun _ => ⟨fun q => absurd rfl q, fun _ => ⟨fun _ => ⟨fun q => absurd rfl q, fun _ => ⟨vp_in_nI (by omega) (by decide), ?_⟩⟩, fun q => absurd q c21⟩⟩, fun q => absurd q c21⟩, fun q => absurd q c23⟩, fun q => absurd q c20⟩⟩
    · rw [nI_clamp (show i < 2 ^ 31 by omega), hf, pk_vs]; exact hq
    · rw [sx16]; exact hq
  · by_cases h1 : v < (-4000 : Int32)
    · exact Or.inr ⟨false, fun σ a n c i f Q hT hi hn hf hq => ⟨3, n, c, f, hT, fun e => (by cases e), fun e => (by cases e), fun e => (by cases e), fun _ => ⟨fun _ => hq, fun q => absurd h1 q⟩, fun e => (by cases e)⟩, fun μ t i n Q ht hs hi hn hm hq => mw 3 μ t i n Q ht hs hi hn hm ⟨fun _ => ⟨fun q => absurd rfl q, fun _ => ⟨fun _ => y0 hq, fun q => absurd h1 q⟩⟩, fun q => absurd q c30⟩⟩
    · by_cases h2 : v ≤ (4000 : Int32)
      · obtain ⟨p1, p2, p3⟩ := fl_quart h1 h2
        have hy3 := hy.2 rfl
        have pn : FP.Core.val32 (FP.fmul y.toUInt32 (FP.fdiv (FP.i2f v) (1082130432 : UInt32))) ≠ .nan := fl_mulnn (fl_fin hy3) p3
        generalize hP : FP.fmul y.toUInt32 (FP.fdiv (FP.i2f v) (1082130432 : UInt32)) = P at pn
        have hP2 : FP.fmul y.toUInt32 (FP.fmul (FP.i2f v) (1048576000 : UInt32)) = P := by rw [← p2]; exact hP
        have cl : ∀ (σ : CS) (a n c i : Nat) (f : Nat → Int32) (Q : Int32 → CS → Prop), sTk σ a = some (3, n, c, f) → i < n → n ≤ 300 → f i = y → (((Op.cmpValue (FP.fcmp P (3379831808 : UInt32)) CmpOp.g) < 0 → Q (0 : Int32) σ) ∧ (¬ (Op.cmpValue (FP.fcmp P (3379831808 : UInt32)) CmpOp.g) < 0 → (((Op.cmpValue (FP.fcmp P (1232348160 : UInt32)) CmpOp.l) ≤ 0 → Q (1 : Int32) (pTk σ a (3, n, c, upd f i P.toInt32))) ∧ (¬ (Op.cmpValue (FP.fcmp P (1232348160 : UInt32)) CmpOp.l) ≤ 0 → Q (0 : Int32) σ)))) → wT_alter a (nI i) v σ Q := by
          intro σ a n c i f Q hT hi hn hf hq
          refine ⟨3, n, c, f, hT, fun e => (by cases e), fun e => (by cases e), fun e => (by cases e), fun _ => ⟨fun q => absurd q h1, fun _ => ⟨fun _ => ⟨n, c, f, hT, vp_in_nI hi (by omega), p1, ?_⟩, fun q => absurd h2 q⟩⟩, fun e => (by cases e)⟩
          rw [nI_clamp (show i < 2 ^ 31 by omega), hf, hP]
          refine ⟨fl_n32 pn, fun z ez => ?_⟩
          rw [ez]
          exact ⟨hq.1, fun q => ⟨fun q2 => ⟨n, c, f, hT, vp_in_nI hi (by omega), (hq.2 q).1 q2⟩, (hq.2 q).2⟩⟩
        have ml : ∀ (μ : MS) (t i n : Nat) (Q : Int32 → MS → Prop), t < 202 → mSize μ t = nI n → i < n → n ≤ 300 → mCell μ (300 * t + i) = y → (((Op.cmpValue (FP.fcmp P (3379831808 : UInt32)) CmpOp.g) < 0 → Q (-5 : Int32) μ) ∧ (¬ (Op.cmpValue (FP.fcmp P (3379831808 : UInt32)) CmpOp.g) < 0 → (((Op.cmpValue (FP.fcmp P (1232348160 : UInt32)) CmpOp.l) ≤ 0 → Q (0 : Int32) (nCell μ (upd (mCell μ) (300 * t + i) P.toInt32))) ∧ (¬ (Op.cmpValue (FP.fcmp P (1232348160 : UInt32)) CmpOp.l) ≤ 0 → Q (-5 : Int32) μ)))) → wX9_turns 3 (nI t) (nI i) v μ Q := by
          intro μ t i n Q ht hs hi hn hm hq
          refine mw 3 μ t i n Q ht hs hi hn hm ⟨fun _ => ⟨fun q => absurd rfl q, fun _ => ⟨fun q => absurd q h1, fun _ => ⟨fun q => absurd q (Int32.not_lt.mpr h2), fun _ => y1 ⟨fl_sn hy3, by rw [← p2]; exact p1, ?_⟩⟩⟩⟩, fun q => absurd q c30⟩
          rw [hP2]
          refine ⟨fl_n32 pn, fun z ez => ?_⟩
          rw [ez]
          exact ⟨hq.1, fun q => ⟨fun q2 => fl_bitsJ pn ⟨vp_in_nI (by omega) (by decide), (hq.2 q).1 q2⟩, (hq.2 q).2⟩⟩
        by_cases k1 : (Op.cmpValue (FP.fcmp P (3379831808 : UInt32)) CmpOp.g) < 0
        · exact Or.inr ⟨false, fun σ a n c i f Q hT hi hn hf hq => cl σ a n c i f Q hT hi hn hf ⟨fun _ => hq, fun q => absurd k1 q⟩, fun μ t i n Q ht hs hi hn hm hq => ml μ t i n Q ht hs hi hn hm ⟨fun _ => hq, fun q => absurd k1 q⟩⟩
        · by_cases k2 : (Op.cmpValue (FP.fcmp P (1232348160 : UInt32)) CmpOp.l) ≤ 0
          · refine Or.inl ⟨P.toInt32, ⟨fun e => (by cases e), fun _ => by rw [fl_back]; exact fl_within pn k1 k2⟩, fun σ a n c i f Q hT hi hn hf hq => cl σ a n c i f Q hT hi hn hf ⟨fun q => absurd q k1, fun _ => ⟨fun _ => hq, fun q => absurd k2 q⟩⟩, fun μ t i n Q ht hs hi hn hm hq => ml μ t i n Q ht hs hi hn hm ⟨fun q => absurd q k1, fun _ => ⟨fun _ => hq, fun q => absurd k2 q⟩⟩⟩
          · exact Or.inr ⟨false, fun σ a n c i f Q hT hi hn hf hq => cl σ a n c i f Q hT hi hn hf ⟨fun _ => hq, fun _ => ⟨fun q => absurd q k2, fun _ => hq⟩⟩, fun μ t i n Q ht hs hi hn hm hq => ml μ t i n Q ht hs hi hn hm ⟨fun _ => hq, fun _ => ⟨fun q => absurd q k2, fun _ => hq⟩⟩⟩
      · exact Or.inr ⟨false, fun σ a n c i f Q hT hi hn hf hq => ⟨3, n, c, f, hT, fun e => (by cases e), fun e => (by cases e), fun e => (by cases e), fun _ => ⟨fun _ => hq, fun _ => ⟨fun q => absurd q h2, fun _ => hq⟩⟩, fun e => (by cases e)⟩, fun μ t i n Q ht hs hi hn hm hq => mw 3 μ t i n Q ht hs hi hn hm ⟨fun _ => ⟨fun q => absurd rfl q, fun _ => ⟨fun _ => y0 hq, fun _ => ⟨fun _ => y0 hq, fun q => absurd (ntle h2) q⟩⟩⟩, fun q => absurd q c30⟩⟩
  · refine Or.inl ⟨(y - v).toInt8.toInt32, okc_n (by decide) (by decide), fun σ a n c i f Q hT hi hn hf hq => ⟨4, n, c, f, hT, fun e => (by cases e), fun e => (by cases e), fun e => (by cases e), fun e => (by cases e), fun _ => ⟨n, c, f, hT, n, c, f, hT, vp_in_nI hi (by omega), vp_in_nI hi (by omega), ?_⟩⟩, fun μ t i n Q ht hs hi hn hm hq => mw 4 μ t i n Q ht hs hi hn hm ⟨fun _ => ⟨fun _ => ⟨fun _ => ⟨fun _ => ⟨fun _ => ⟨fun _ => ⟨vp_in_nI (by omega) (by decide), ?_⟩, fun q => absurd q c42⟩, fun q => absurd q c41⟩, fun q => absurd q c42⟩, fun q => absurd q c41⟩, fun q => absurd q c43⟩, fun q => absurd q c40⟩⟩
    · rw [nI_clamp (show i < 2 ^ 31 by omega), hf, pk_vb]; exact hq
    · rw [sx8]; exact hq
theorem lk_put {μ : MS} (k t n : Nat) (x v : Int32) (Q : Int32 → MS → Prop) (ht : t < 202) (hs : mSize μ t = nI n) (hx : ∀ i, i < n → x ≠ nI i) (hn : n ≤ 300) (h : Q (-3) μ) : wX9_writes (nI k) (nI t) x v μ Q := m_lkN ht hs hx hn ⟨fun q => absurd q neg3, fun _ => h⟩
theorem lk_alter {μ : MS} (k t n : Nat) (x v : Int32) (Q : Int32 → MS → Prop) (ht : t < 202) (hs : mSize μ t = nI n) (hx : ∀ i, i < n → x ≠ nI i) (hn : n ≤ 300) (h : Q (-3) μ) : wX9_turns (nI k) (nI t) x v μ Q := m_lkN ht hs hx hn ⟨fun q => absurd q neg3, fun _ => h⟩
theorem ok_read : OK_read Sim := by
  intro σ μ j x1 x2 x3 hj h
  unfold wX8_read
  rcases h.tod x1 x2 with ⟨d, k, a, t, n, c, f, hd, hk, rfl, rfl, e1, ht, e2, e3, hn, e4, e5, e6, r⟩ | ⟨d, k, hd, hk, rfl, rfl, e1, e2, r⟩ | ⟨hx, r⟩
  · refine r _ (rd_some h (M := wX9_read (nI d) (nI k) x3 μ) ht e3 hn e4 e5 e6 x3 (fun P hP => ?_))
    unfold wX9_read
    refine m_isDrum hd (z1 (m_isKind hk (y1 ?_)))
    rw [ix5, nI_clamp (show 5 * d + k < 2 ^ 31 by omega), e2]
    exact ⟨vp_in_nI (by omega) (by decide), hP⟩
  · refine r _ (rd_none h (M := wX9_read (nI d) (nI k) x3 μ) x3 (fun P hP => ?_))
    refine m_isDrum hd (z1 (m_isKind hk (y1 ?_)))
    rw [ix5, nI_clamp (show 5 * d + k < 2 ^ 31 by omega), e2]
    exact ⟨vp_in_nI (by omega) (by decide), hP⟩
  · refine r _ ⟨fun _ => ?_, fun a ha => (by cases ha)⟩
    rcases hx with hx | ⟨d, hd, rfl, hy⟩
    · exact n_isDrum hx (z0 ⟨rfl, h.st _⟩)
    · exact m_isDrum hd (z1 (n_isKind hy (y0 ⟨rfl, h.st _⟩)))
theorem ok_write : OK_write Sim := by
  intro σ μ j x1 x2 x3 x4 hj h
  unfold wX8_write
  rcases h.tod x1 x2 with ⟨d, k, a, t, n, c, f, hd, hk, rfl, rfl, e1, ht, e2, e3, hn, e4, e5, e6, r⟩ | ⟨d, k, hd, hk, rfl, rfl, e1, e2, r⟩ | ⟨hx, r⟩
  · refine r _ ⟨fun q => (by cases q), fun a' ha => (by cases ha; exact wr_some h st_put lk_put (M := wX9_write (nI d) (nI k) x3 x4 μ) (s := 5 * d + k) (by omega) ((oslot_d σ hd hk).trans e1) ((slotv_d μ hd hk).trans e2) (kslot_d σ hd hk) hk ht e3 hn e4 e5 e6 x3 x4 (fun P hP => by
      unfold wX9_write
      refine m_isDrum hd (z1 (m_isKind hk (y1 ?_)))
      rw [ix5, nI_clamp (show 5 * d + k < 2 ^ 31 by omega), e2]
      exact ⟨vp_in_nI (by omega) (by decide), hP⟩))⟩
  · refine r _ ⟨fun _ => ?_, fun a ha => (by cases ha)⟩
    refine m_isDrum hd (z1 (m_isKind hk (y1 ?_)))
    rw [ix5, nI_clamp (show 5 * d + k < 2 ^ 31 by omega), e2]
    exact ⟨vp_in_nI (by omega) (by decide), m_lkM ⟨fun q => absurd q neg2, fun _ => n_told neg2 ⟨rfl, h.st _⟩⟩⟩
  · refine r _ ⟨fun _ => ?_, fun a ha => (by cases ha)⟩
    rcases hx with hx | ⟨d, hd, rfl, hy⟩
    · exact n_isDrum hx (z0 (n_told neg1 ⟨rfl, h.st _⟩))
    · exact m_isDrum hd (z1 (n_isKind hy (y0 (n_told neg1 ⟨rfl, h.st _⟩))))
theorem ok_turn : OK_turn Sim := by
  intro σ μ j x1 x2 x3 x4 hj h
  unfold wX8_turn
  rcases h.tod x1 x2 with ⟨d, k, a, t, n, c, f, hd, hk, rfl, rfl, e1, ht, e2, e3, hn, e4, e5, e6, r⟩ | ⟨d, k, hd, hk, rfl, rfl, e1, e2, r⟩ | ⟨hx, r⟩
  · refine r _ ⟨fun q => (by cases q), fun a' ha => (by cases ha; exact wr_some h st_alter lk_alter (M := wX9_turn (nI d) (nI k) x3 x4 μ) (s := 5 * d + k) (by omega) ((oslot_d σ hd hk).trans e1) ((slotv_d μ hd hk).trans e2) (kslot_d σ hd hk) hk ht e3 hn e4 e5 e6 x3 x4 (fun P hP => by
      unfold wX9_turn
      refine m_isDrum hd (z1 (m_isKind hk (y1 ?_)))
      rw [ix5, nI_clamp (show 5 * d + k < 2 ^ 31 by omega), e2]
      exact ⟨vp_in_nI (by omega) (by decide), hP⟩))⟩
  · refine r _ ⟨fun _ => ?_, fun a ha => (by cases ha)⟩
    refine m_isDrum hd (z1 (m_isKind hk (y1 ?_)))
    rw [ix5, nI_clamp (show 5 * d + k < 2 ^ 31 by omega), e2]
    exact ⟨vp_in_nI (by omega) (by decide), m_lkM ⟨fun q => absurd q neg2, fun _ => n_told neg2 ⟨rfl, h.st _⟩⟩⟩
  · refine r _ ⟨fun _ => ?_, fun a ha => (by cases ha)⟩
    rcases hx with hx | ⟨d, hd, rfl, hy⟩
    · exact n_isDrum hx (z0 (n_told neg1 ⟨rfl, h.st _⟩))
    · exact m_isDrum hd (z1 (n_isKind hy (y0 (n_told neg1 ⟨rfl, h.st _⟩))))
theorem ok_cell : OK_cell Sim := by
  intro σ μ j x1 x2 x3 hj h
  unfold wX8_cell wX8_trackOfTooth
  rcases h.tooth x1 x2 with ⟨c, t, b, k, n, te, tt, hc, rfl, ht, rfl, e1, e2, hk, hn, e3, e4, r1, r2⟩ | ⟨r1, r2⟩
  · refine r1 _ ⟨fun q => (by cases q), fun a ha => ?_⟩
    cases ha
    refine ⟨nI k, n, te, tt, e2, vp_in_nI ht (by omega), fun o ho => ?_⟩
    rw [nI_clamp (show t < 2 ^ 31 by omega)] at ho
    subst ho
    rcases h.tth hc ht e1 e2 hk hn with ⟨g1, g2⟩ | ⟨a, u, m, z, f, g1, hu, g2, g3, hm, g4, g5, g6⟩
    · rw [g1]
      refine ⟨fun _ => rd_none h (M := wX9_cell (nI c) (nI t) x3 μ) x3 (fun P hP => ?_), fun a ha => (by cases ha)⟩
      refine r2 _ (y1 ?_)
      rw [ix40, nI_clamp (show 40 * c + t < 2 ^ 31 by omega), g2]
      exact ⟨vp_in_nI (by omega) (by decide), hP⟩
    · have go : oslot σ (40 + (40 * c + t)) = some a := by
        rw [oslot_t σ (by omega), cmOf_some e1, e2]
        exact (if_pos ht).trans g1
      have gk : kslot σ (40 + (40 * c + t)) = k := by
        rw [kslot_t σ (by omega), cmOf_some e1, e2]
        exact nI_clamp (by omega)
      rw [g1]
      refine ⟨fun q => (by cases q), fun a' ha => ?_⟩
      cases ha
      refine rd_some h (M := wX9_cell (nI c) (nI t) x3 μ) hu g3 hm g4 g5 g6 x3 (fun P hP => ?_)
      unfold wX9_cell
      refine r2 _ (y1 ?_)
      rw [ix40, nI_clamp (show 40 * c + t < 2 ^ 31 by omega), g2]
      exact ⟨vp_in_nI (by omega) (by decide), hP⟩
  · refine r1 _ ⟨fun _ => ⟨fun _ => ?_, fun a ha => (by cases ha)⟩, fun a ha => (by cases ha)⟩
    exact r2 _ (y0 ⟨rfl, h.st _⟩)
theorem ok_set : OK_set Sim := by
  intro σ μ j x1 x2 x3 x4 hj h
  unfold wX8_set wX8_trackOfTooth
  rcases h.tooth x1 x2 with ⟨c, t, b, k, n, te, tt, hc, rfl, ht, rfl, e1, e2, hk, hn, e3, e4, r1, r2⟩ | ⟨r1, r2⟩
  · refine r1 _ ⟨fun q => (by cases q), fun a ha => ?_⟩
    cases ha
    refine ⟨nI k, n, te, tt, e2, vp_in_nI ht (by omega), fun o ho => ?_⟩
    rw [nI_clamp (show t < 2 ^ 31 by omega)] at ho
    subst ho
    rcases h.tth hc ht e1 e2 hk hn with ⟨g1, g2⟩ | ⟨a, u, m, z, f, g1, hu, g2, g3, hm, g4, g5, g6⟩
    · rw [g1]
      refine ⟨fun _ => ⟨fun _ => ?_, fun a ha => (by cases ha)⟩, fun a ha => (by cases ha)⟩
      refine r2 _ (y1 ?_)
      rw [ix40, nI_clamp (show 40 * c + t < 2 ^ 31 by omega), g2]
      rw [nI_clamp (show c < 2 ^ 31 by omega), e3]
      exact ⟨vp_in_nI hc (by decide), vp_in_nI (by omega) (by decide), m_lkM ⟨fun q => absurd q neg2, fun _ => n_told neg2 ⟨rfl, h.st _⟩⟩⟩
    · have go : oslot σ (40 + (40 * c + t)) = some a := by
        rw [oslot_t σ (by omega), cmOf_some e1, e2]
        exact (if_pos ht).trans g1
      have gk : kslot σ (40 + (40 * c + t)) = k := by
        rw [kslot_t σ (by omega), cmOf_some e1, e2]
        exact nI_clamp (by omega)
      rw [g1]
      refine ⟨fun q => (by cases q), fun a' ha => ?_⟩
      cases ha
      refine ⟨fun q => (by cases q), fun a' ha => ?_⟩
      cases ha
      refine wr_some h st_put lk_put (M := wX9_set (nI c) (nI t) x3 x4 μ) (s := 40 + (40 * c + t)) (by omega) go ((slotv_t μ).trans g2) gk hk hu g3 hm g4 g5 g6 x3 x4 (fun P hP => ?_)
      unfold wX9_set
      refine r2 _ (y1 ?_)
      rw [ix40, nI_clamp (show 40 * c + t < 2 ^ 31 by omega), g2]
      rw [nI_clamp (show c < 2 ^ 31 by omega), e3]
      exact ⟨vp_in_nI hc (by decide), vp_in_nI (by omega) (by decide), hP⟩
  · refine r1 _ ⟨fun _ => ⟨fun _ => ?_, fun a ha => (by cases ha)⟩, fun a ha => (by cases ha)⟩
    exact r2 _ (y0 (n_told neg1 ⟨rfl, h.st _⟩))
theorem ok_twist : OK_twist Sim := by
  intro σ μ j x1 x2 x3 x4 hj h
  unfold wX8_twist wX8_trackOfTooth
  rcases h.tooth x1 x2 with ⟨c, t, b, k, n, te, tt, hc, rfl, ht, rfl, e1, e2, hk, hn, e3, e4, r1, r2⟩ | ⟨r1, r2⟩
  · refine r1 _ ⟨fun q => (by cases q), fun a ha => ?_⟩
    cases ha
    refine ⟨nI k, n, te, tt, e2, vp_in_nI ht (by omega), fun o ho => ?_⟩
    rw [nI_clamp (show t < 2 ^ 31 by omega)] at ho
    subst ho
    rcases h.tth hc ht e1 e2 hk hn with ⟨g1, g2⟩ | ⟨a, u, m, z, f, g1, hu, g2, g3, hm, g4, g5, g6⟩
    · rw [g1]
      refine ⟨fun _ => ⟨fun _ => ?_, fun a ha => (by cases ha)⟩, fun a ha => (by cases ha)⟩
      refine r2 _ (y1 ?_)
      rw [ix40, nI_clamp (show 40 * c + t < 2 ^ 31 by omega), g2]
      rw [nI_clamp (show c < 2 ^ 31 by omega), e3]
      exact ⟨vp_in_nI hc (by decide), vp_in_nI (by omega) (by decide), m_lkM ⟨fun q => absurd q neg2, fun _ => n_told neg2 ⟨rfl, h.st _⟩⟩⟩
    · have go : oslot σ (40 + (40 * c + t)) = some a := by
        rw [oslot_t σ (by omega), cmOf_some e1, e2]
        exact (if_pos ht).trans g1
      have gk : kslot σ (40 + (40 * c + t)) = k := by
        rw [kslot_t σ (by omega), cmOf_some e1, e2]
        exact nI_clamp (by omega)
      rw [g1]
      refine ⟨fun q => (by cases q), fun a' ha => ?_⟩
      cases ha
      refine ⟨fun q => (by cases q), fun a' ha => ?_⟩
      cases ha
      refine wr_some h st_alter lk_alter (M := wX9_twist (nI c) (nI t) x3 x4 μ) (s := 40 + (40 * c + t)) (by omega) go ((slotv_t μ).trans g2) gk hk hu g3 hm g4 g5 g6 x3 x4 (fun P hP => ?_)
      unfold wX9_twist
      refine r2 _ (y1 ?_)
      rw [ix40, nI_clamp (show 40 * c + t < 2 ^ 31 by omega), g2]
      rw [nI_clamp (show c < 2 ^ 31 by omega), e3]
      exact ⟨vp_in_nI hc (by decide), vp_in_nI (by omega) (by decide), hP⟩
  · refine r1 _ ⟨fun _ => ⟨fun _ => ?_, fun a ha => (by cases ha)⟩, fun a ha => (by cases ha)⟩
    exact r2 _ (y0 (n_told neg1 ⟨rfl, h.st _⟩))
