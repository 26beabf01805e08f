/-! ===== views of the class's world ===== -/
def ttg : Option CM → Nat → Option Nat
  | none, _ => none
  | some m, t => if t < m.2.1 then m.2.2.2 t else none
def tkd : Option CM → Nat
  | none => 0
  | some m => m.1.toNatClampNeg
def cmOf (σ : CS) (c : Nat) : Option CM := match sCb σ c with
  | none => none
  | some b => sCm σ b
def oslot (σ : CS) (s : Nat) : Option Nat := if s < 40 then sSl σ (s / 5) (s % 5) else ttg (cmOf σ ((s - 40) / 40)) ((s - 40) % 40)
def kslot (σ : CS) (s : Nat) : Nat := if s < 40 then s % 5 else tkd (cmOf σ ((s - 40) / 40))
theorem oslot_d (σ : CS) {d k : Nat} (hd : d < 8) (hk : k < 5) : oslot σ (5 * d + k) = sSl σ d k := by
  unfold oslot
  rw [if_pos (by omega), show (5 * d + k) / 5 = d by omega, show (5 * d + k) % 5 = k by omega]
theorem kslot_d (σ : CS) {d k : Nat} (hd : d < 8) (hk : k < 5) : kslot σ (5 * d + k) = k := by
  unfold kslot
  rw [if_pos (by omega), show (5 * d + k) % 5 = k by omega]
theorem oslot_t (σ : CS) {c t : Nat} (ht : t < 40) : oslot σ (40 + (40 * c + t)) = ttg (cmOf σ c) t := by
  unfold oslot
  rw [if_neg (by omega), show (40 + (40 * c + t) - 40) / 40 = c by omega, show (40 + (40 * c + t) - 40) % 40 = t by omega]
theorem kslot_t (σ : CS) {c t : Nat} (ht : t < 40) : kslot σ (40 + (40 * c + t)) = tkd (cmOf σ c) := by
  unfold kslot
  rw [if_neg (by omega), show (40 + (40 * c + t) - 40) / 40 = c by omega]
theorem slotv_d (μ : MS) {d k : Nat} (hd : d < 8) (hk : k < 5) : slotv μ (5 * d + k) = mDrums μ (5 * d + k) := by
  unfold slotv; rw [if_pos (by omega)]
theorem slotv_t (μ : MS) {i : Nat} : slotv μ (40 + i) = mTeeth μ i := by
  unfold slotv; rw [if_neg (by omega), show 40 + i - 40 = i by omega]
theorem slotv_nd {μ : MS} {us : Nat → Int32} {i : Nat} {v : Int32} (hi : i < 40) (s : Nat) : slotv (nDrums (nUses μ us) (upd (mDrums μ) i v)) s = if s = i then v else slotv μ s := by
  unfold slotv
  by_cases h : s < 40
  · rw [if_pos h, if_pos h]; rfl
  · rw [if_neg h, if_neg h, if_neg (by omega)]
theorem slotv_nt {μ : MS} {us : Nat → Int32} {i : Nat} {v : Int32} (s : Nat) : slotv (nTeeth (nUses μ us) (upd (mTeeth μ) i v)) s = if s = 40 + i then v else slotv μ s := by
  unfold slotv
  by_cases h : s < 40
  · rw [if_pos h, if_pos h, if_neg (by omega)]
  · rw [if_neg h, if_neg h]
    show (if s - 40 = i then v else mTeeth μ (s - 40)) = _
    by_cases h2 : s = 40 + i
    · rw [if_pos h2, if_pos (by omega)]
    · rw [if_neg h2, if_neg (by omega)]
theorem oslot_pSl {σ : CS} {d k : Nat} {o : Option Nat} (hd : d < 8) (hk : k < 5) (s : Nat) : oslot (pSl σ d k o) s = if s = 5 * d + k then o else oslot σ s := by
  unfold oslot
  by_cases h : s < 40
  · rw [if_pos h, if_pos h]
    show va_up (sSl σ) d (va_up (sSl σ d) k o) (s / 5) (s % 5) = _
    by_cases h1 : s / 5 = d
    · rw [h1]
      show (if d = d then va_up (sSl σ d) k o else sSl σ d) (s % 5) = _
      rw [if_pos rfl]
      show (if s % 5 = k then o else sSl σ d (s % 5)) = _
      by_cases h2 : s % 5 = k
      · rw [if_pos h2, if_pos (by omega)]
      · rw [if_neg h2, if_neg (by omega)]
    · show (if s / 5 = d then va_up (sSl σ d) k o else sSl σ (s / 5)) (s % 5) = _
      rw [if_neg h1, if_neg (by omega)]
  · rw [if_neg h, if_neg h, if_neg (by omega)]; rfl
/-- the combs -/
def CbR (σ : CS) (μ : MS) (c : Nat) : Prop := (sCb σ c = none ∧ mCK μ c = -1 ∧ mCT μ c = 0) ∨ ∃ (b k n te : Nat) (tt : Nat → Option Nat), sCb σ c = some b ∧ sCm σ b = some (nI k, n, te, tt) ∧ k < 5 ∧ n ≤ 40 ∧ mCK μ c = nI k ∧ mCT μ c = nI n
/-- the drums -/
def DrR (σ : CS) (μ : MS) (j d : Nat) : Prop := mHeads μ d = (sDf σ d).1 ∧ mNotes μ d = (sDf σ d).2.1 ∧ mPlayed μ d = (sDf σ d).2.2.1 ∧ mGaps μ d = (sDf σ d).2.2.2.1 ∧ mWts μ d = (sDf σ d).2.2.2.2.1 ∧ (∃ q, q ≤ 20 * j ∧ (sDf σ d).2.1 = nI q ∧ (q = 0 → (sDf σ d).2.2.2.2.2.1 = 0 ∧ (sDf σ d).2.2.2.2.2.2 = 0) ∧ (q ≠ 0 → mHigh μ d = (sDf σ d).2.2.2.2.2.1 ∧ mLoud μ d = (sDf σ d).2.2.2.2.2.2.toInt32)) ∧ fin23 (sDf σ d).2.2.2.2.2.2 ∧ ∃ hd, hd ≤ 300 ∧ (sDf σ d).1 = nI hd
theorem DrR.mono {σ : CS} {μ : MS} {j j' d : Nat} (h : DrR σ μ j d) (hj : j ≤ j') : DrR σ μ j' d := by
  obtain ⟨a1, a2, a3, a4, a5, ⟨q, q1, q2⟩, a7⟩ := h
  exact ⟨a1, a2, a3, a4, a5, ⟨q, by omega, q2⟩, a7⟩
def CoreS (σ : CS) (μ : MS) : Prop := Core (oslot σ) (kslot σ) (sTk σ) (slotv μ) (mSize μ) (mCell μ)
def CbD (σ : CS) : Prop := ∀ c c' b, c < 4 → c' < 4 → sCb σ c = some b → sCb σ c' = some b → c = c'
def Sim (σ : CS) (μ : MS) (j : Nat) : Prop := sRf σ = mState μ ∧ UI μ ∧ CoreS σ μ ∧ (∀ c, c < 4 → CbR σ μ c) ∧ CbD σ ∧ ∀ d, d < 8 → DrR σ μ j d
theorem Sim.mono {σ : CS} {μ : MS} {j : Nat} (h : Sim σ μ j) : Sim σ μ (j + 1) := ⟨h.1, h.2.1, h.2.2.1, h.2.2.2.1, h.2.2.2.2.1, fun d hd => (h.2.2.2.2.2 d hd).mono (by omega)⟩
theorem Sim.st {σ : CS} {μ : MS} {j : Nat} (h : Sim σ μ j) (v : Int32) : Sim (pRf σ v) (nState μ v) (j + 1) := ⟨rfl, h.2.1, h.2.2.1, h.2.2.2.1, h.2.2.2.2.1, fun d hd => (h.2.2.2.2.2 d hd).mono (by omega)⟩
/-- what a slot of a drum holds -/
theorem Sim.drum {σ : CS} {μ : MS} {j : Nat} (h : Sim σ μ j) {d k : Nat} (hd : d < 8) (hk : k < 5) : (sSl σ d k = none ∧ mDrums μ (5 * d + k) = -1) ∨ ∃ (a t n c : Nat) (f : Nat → Int32), sSl σ d k = some a ∧ t < 202 ∧ mDrums μ (5 * d + k) = nI t ∧ sTk σ a = some (k, n, c, f) ∧ n ≤ 300 ∧ mSize μ t = nI n ∧ (∀ i, i < n → mCell μ (300 * t + i) = f i) ∧ ∀ i, i < n → OKc k (f i) := by
  have := h.2.2.1.at (s := 5 * d + k) (by omega)
  rw [oslot_d σ hd hk, kslot_d σ hd hk, slotv_d μ hd hk] at this
  exact this
theorem e_combOf {σ : CS} {Q : Option Nat → CS → Prop} {c b : Nat} (hc : c < 4) (hb : sCb σ c = some b) (h : Q (some b) σ) : wX8_combOf (nI c) σ Q := by
  refine e_isComb hc (z1 ⟨vp_in_nI hc (by decide), fun o ho => ?_⟩)
  rw [ho, nI_clamp (by omega), hb]; exact h
theorem m_isComb {μ : MS} {Q : Int32 → MS → Prop} {c : Nat} (hc : c < 4) (hk : mCK μ c ≠ -1) (h : Q 1 μ) : wX9_isComb (nI c) μ Q := by
  refine m_in (N := 3) (by omega) (by decide) (z1 ⟨fun q => absurd q (nI_pos (by omega)), fun _ => ⟨fun _ => ⟨vp_in_nI hc (by decide), ?_⟩, fun q => absurd ((nI_leI (b := 3) (by omega) (by decide)).mpr (by omega)) q⟩⟩)
  rw [nI_clamp (by omega)]
  exact ⟨fun q => absurd q hk, fun _ => h⟩
theorem n_isComb {μ : MS} {Q : Int32 → MS → Prop} {c : Nat} (hc : c < 4) (hk : mCK μ c = -1) (h : Q 0 μ) : wX9_isComb (nI c) μ Q := by
  refine m_in (N := 3) (by omega) (by decide) (z1 ⟨fun q => absurd q (nI_pos (by omega)), fun _ => ⟨fun _ => ⟨vp_in_nI hc (by decide), ?_⟩, fun q => absurd ((nI_leI (b := 3) (by omega) (by decide)).mpr (by omega)) q⟩⟩)
  rw [nI_clamp (by omega)]
  exact ⟨fun _ => h, fun q => absurd hk q⟩
theorem Sim.comb {σ : CS} {μ : MS} {j : Nat} (h : Sim σ μ j) (x : Int32) : (∃ (c b k n te : Nat) (tt : Nat → Option Nat), c < 4 ∧ x = nI c ∧ sCb σ c = some b ∧ sCm σ b = some (nI k, n, te, tt) ∧ k < 5 ∧ n ≤ 40 ∧ mCK μ c = nI k ∧ mCT μ c = nI n ∧ (∀ Q : Option Nat → CS → Prop, Q (some b) σ → wX8_combOf x σ Q) ∧ ∀ Q : Int32 → MS → Prop, Q 1 μ → wX9_isComb x μ Q) ∨ ((∀ Q : Option Nat → CS → Prop, Q none σ → wX8_combOf x σ Q) ∧ ∀ Q : Int32 → MS → Prop, Q 0 μ → wX9_isComb x μ Q) := by
  rcases fits x 4 with ⟨c, hc, rfl⟩ | hx
  · rcases h.2.2.2.1 c hc with ⟨e1, e2, e3⟩ | ⟨b, k, n, te, tt, e1, e2, hk, hn, e3, e4⟩
    · refine Or.inr ⟨fun Q hq => ?_, fun Q hq => n_isComb hc e2 hq⟩
      refine e_isComb hc (z1 ⟨vp_in_nI hc (by decide), fun o ho => ?_⟩)
      rw [ho, nI_clamp (by omega), e1]; exact hq
    · exact Or.inl ⟨c, b, k, n, te, tt, hc, rfl, e1, e2, hk, hn, e3, e4, fun Q hq => e_combOf hc e1 hq, fun Q hq => m_isComb hc (by rw [e3]; exact nI_m1 (by omega)) hq⟩
  · exact Or.inr ⟨fun Q hq => f_isComb hx (z0 hq), fun Q hq => n_in (N := 3) (by decide) hx (z0 hq)⟩
theorem Sim.tooth {σ : CS} {μ : MS} {j : Nat} (h : Sim σ μ j) (x y : Int32) : (∃ (c t b k n te : Nat) (tt : Nat → Option Nat), c < 4 ∧ x = nI c ∧ t < n ∧ y = nI t ∧ sCb σ c = some b ∧ sCm σ b = some (nI k, n, te, tt) ∧ k < 5 ∧ n ≤ 40 ∧ mCK μ c = nI k ∧ mCT μ c = nI n ∧ (∀ Q : Option Nat → CS → Prop, Q (some b) σ → wX8_combWithTooth x y σ Q) ∧ ∀ Q : Int32 → MS → Prop, Q 1 μ → wX9_isTooth x y μ Q) ∨ ((∀ Q : Option Nat → CS → Prop, Q none σ → wX8_combWithTooth x y σ Q) ∧ ∀ Q : Int32 → MS → Prop, Q 0 μ → wX9_isTooth x y μ Q) := by
  rcases h.comb x with ⟨c, b, k, n, te, tt, hc, rfl, e1, e2, hk, hn, e3, e4, r1, r2⟩ | ⟨r1, r2⟩
  · rcases fits y n with ⟨t, ht, rfl⟩ | hy
    · refine Or.inl ⟨c, t, b, k, n, te, tt, hc, rfl, ht, rfl, e1, e2, hk, hn, e3, e4, fun Q hq => r1 _ ⟨fun q => (by cases q), fun a ha => ?_⟩, fun Q hq => r2 _ (z1 ⟨fun q => absurd q (nI_pos (by omega)), fun _ => ⟨vp_in_nI hc (by decide), ?_⟩⟩)⟩
      · cases ha
        exact ⟨fun q => absurd q (nI_pos (by omega)), fun _ => ⟨nI k, n, te, tt, e2, fun _ => hq, fun q => absurd ((nI_ltI (by omega) (by omega)).mpr ht) q⟩⟩
      · rw [nI_clamp (by omega), e4]
        exact ⟨fun q => absurd ((nI_leI (by omega) (by omega)).mp q) (by omega), fun _ => hq⟩
    · refine Or.inr ⟨fun Q hq => r1 _ ⟨fun _ => hq, fun a ha => ?_⟩, fun Q hq => r2 _ (z1 ⟨fun _ => hq, fun q => ⟨vp_in_nI hc (by decide), ?_⟩⟩)⟩
      · cases ha
        refine ⟨fun _ => hq, fun q => ⟨nI k, n, te, tt, e2, fun q2 => ?_, fun _ => hq⟩⟩
        have h1 := nofit (by omega) hy q
        rw [Int32.le_iff_toInt_le] at h1
        rw [Int32.lt_iff_toInt_lt] at q2
        omega
      · rw [nI_clamp (by omega), e4]
        exact ⟨fun _ => hq, fun q2 => absurd (nofit (by omega) hy q) q2⟩
  · exact Or.inr ⟨fun Q hq => r1 _ ⟨fun _ => hq, fun a ha => by cases ha⟩, fun Q hq => r2 _ (z0 hq)⟩
theorem cmOf_some {σ : CS} {c b : Nat} (h : sCb σ c = some b) : cmOf σ c = sCm σ b := by unfold cmOf; rw [h]
theorem cmOf_none {σ : CS} {c : Nat} (h : sCb σ c = none) : cmOf σ c = none := by unfold cmOf; rw [h]
/-- what a tooth holds -/
theorem Sim.tth {σ : CS} {μ : MS} {j : Nat} (h : Sim σ μ j) {c t b k n te : Nat} {tt : Nat → Option Nat} (hc : c < 4) (ht : t < n) (e1 : sCb σ c = some b) (e2 : sCm σ b = some (nI k, n, te, tt)) (hk : k < 5) (hn : n ≤ 40) : (tt t = none ∧ mTeeth μ (40 * c + t) = -1) ∨ ∃ (a u m z : Nat) (f : Nat → Int32), tt t = some a ∧ u < 202 ∧ mTeeth μ (40 * c + t) = nI u ∧ sTk σ a = some (k, m, z, f) ∧ m ≤ 300 ∧ mSize μ u = nI m ∧ (∀ i, i < m → mCell μ (300 * u + i) = f i) ∧ ∀ i, i < m → OKc k (f i) := by
  have := h.2.2.1.at (s := 40 + (40 * c + t)) (by omega)
  have e3 : oslot σ (40 + (40 * c + t)) = tt t := by
    rw [oslot_t σ (by omega), cmOf_some e1, e2]
    show (if t < n then tt t else none) = tt t
    rw [if_pos ht]
  have e4 : kslot σ (40 + (40 * c + t)) = k := by
    rw [kslot_t σ (by omega), cmOf_some e1, e2]
    exact nI_clamp (by omega)
  rw [e3, e4, slotv_t] at this
  exact this
theorem oslot_pCm {σ : CS} {c t b te n : Nat} {kk : Int32} {tt : Nat → Option Nat} {o : Option Nat} (hD : CbD σ) (hc : c < 4) (ht : t < n) (hn : n ≤ 40) (e1 : sCb σ c = some b) (e2 : sCm σ b = some (kk, n, te, tt)) {s : Nat} (hs : s < 200) : oslot (pCm σ b (kk, n, te, va_up tt t o)) s = (if s = 40 + (40 * c + t) then o else oslot σ s) ∧ kslot (pCm σ b (kk, n, te, va_up tt t o)) s = kslot σ s := by
  unfold oslot kslot
  by_cases h : s < 40
  · rw [if_pos h, if_pos h, if_pos h, if_pos h, if_neg (by omega)]; exact ⟨rfl, rfl⟩
  · rw [if_neg h, if_neg h, if_neg h, if_neg h]
    have hc' : (s - 40) / 40 < 4 := by omega
    by_cases hq : (s - 40) / 40 = c
    · rw [hq]
      have g1 : cmOf (pCm σ b (kk, n, te, va_up tt t o)) c = some (kk, n, te, va_up tt t o) := by
        rw [cmOf_some (σ := pCm σ b (kk, n, te, va_up tt t o)) (b := b) e1]; exact if_pos rfl
      rw [g1, cmOf_some e1, e2]
      refine ⟨?_, rfl⟩
      show (if (s - 40) % 40 < n then (if (s - 40) % 40 = t then o else tt ((s - 40) % 40)) else none) = if s = 40 + (40 * c + t) then o else (if (s - 40) % 40 < n then tt ((s - 40) % 40) else none)
      by_cases h2 : (s - 40) % 40 = t
      · rw [if_pos (by omega), if_pos h2, if_pos (by omega)]
      · rw [if_neg h2, if_neg (show ¬ s = 40 + (40 * c + t) by omega)]
    · have g1 : cmOf (pCm σ b (kk, n, te, va_up tt t o)) ((s - 40) / 40) = cmOf σ ((s - 40) / 40) := by
        cases hb : sCb σ ((s - 40) / 40) with
        | none => rw [cmOf_none hb, cmOf_none (σ := pCm σ b (kk, n, te, va_up tt t o)) hb]
        | some b' =>
          rw [cmOf_some hb, cmOf_some (σ := pCm σ b (kk, n, te, va_up tt t o)) hb]
          exact if_neg (fun q => hq (hD _ _ b hc' hc (by rw [hb, q]) e1))
      rw [g1, if_neg (by omega)]
      exact ⟨rfl, rfl⟩
