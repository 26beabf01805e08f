/-! ===== the calls, side by side: playing ===== -/
def DrQ (σ : CS) (μ : MS) (B d : Nat) : Prop := mHeads μ d = (sDf σ d).1 ∧ mNotes μ d = (sDf σ d).2.1 ∧ mPlayed μ d = (sDf σ d).2.2.1 ∧ mGaps μ d = (sDf σ d).2.2.2.1 ∧ mWts μ d = (sDf σ d).2.2.2.2.1 ∧ (∃ q, q ≤ B ∧ (sDf σ d).2.1 = nI q ∧ (q = 0 → (sDf σ d).2.2.2.2.2.1 = 0 ∧ (sDf σ d).2.2.2.2.2.2 = 0) ∧ (q ≠ 0 → mHigh μ d = (sDf σ d).2.2.2.2.2.1 ∧ mLoud μ d = (sDf σ d).2.2.2.2.2.2.toInt32)) ∧ fin23 (sDf σ d).2.2.2.2.2.2 ∧ ∃ hd, hd ≤ 300 ∧ (sDf σ d).1 = nI hd
def PS (σ : CS) (μ : MS) (j d : Nat) : Prop := UI μ ∧ CoreS σ μ ∧ (∀ c, c < 4 → CbR σ μ c) ∧ CbD σ ∧ ∀ d', d' < 8 → d' ≠ d → DrR σ μ j d'
theorem PS.df {σ : CS} {μ : MS} {j d : Nat} (h : PS σ μ j d) (v : DF) : PS (pDf σ d v) μ j d := by
  refine ⟨h.1, h.2.1, h.2.2.1, h.2.2.2.1, fun d' hd' hne => ?_⟩
  have := h.2.2.2.2 d' hd' hne
  unfold DrR at this ⊢
  rw [df_n hne]
  exact this
theorem PS.nHeads {σ : CS} {μ : MS} {j d : Nat} (h : PS σ μ j d) (x : Int32) : PS σ (nHeads μ (upd (mHeads μ) d x)) j d := by
  refine ⟨h.1, h.2.1, h.2.2.1, h.2.2.2.1, fun d' hd' hne => ?_⟩
  obtain ⟨b1, b2, b3, b4, b5, b6⟩ := h.2.2.2.2 d' hd' hne
  exact ⟨(pk_un hne).trans b1, b2, b3, b4, b5, b6⟩
theorem PS.nNotes {σ : CS} {μ : MS} {j d : Nat} (h : PS σ μ j d) (x : Int32) : PS σ (nNotes μ (upd (mNotes μ) d x)) j d := by
  refine ⟨h.1, h.2.1, h.2.2.1, h.2.2.2.1, fun d' hd' hne => ?_⟩
  obtain ⟨b1, b2, b3, b4, b5, b6⟩ := h.2.2.2.2 d' hd' hne
  exact ⟨b1, (pk_un hne).trans b2, b3, b4, b5, b6⟩
theorem PS.nPlayed {σ : CS} {μ : MS} {j d : Nat} (h : PS σ μ j d) (x : Int32) : PS σ (nPlayed μ (upd (mPlayed μ) d x)) j d := by
  refine ⟨h.1, h.2.1, h.2.2.1, h.2.2.2.1, fun d' hd' hne => ?_⟩
  obtain ⟨b1, b2, b3, b4, b5, b6⟩ := h.2.2.2.2 d' hd' hne
  exact ⟨b1, b2, (pk_un hne).trans b3, b4, b5, b6⟩
theorem PS.nGaps {σ : CS} {μ : MS} {j d : Nat} (h : PS σ μ j d) (x : Int32) : PS σ (nGaps μ (upd (mGaps μ) d x)) j d := by
  refine ⟨h.1, h.2.1, h.2.2.1, h.2.2.2.1, fun d' hd' hne => ?_⟩
  obtain ⟨b1, b2, b3, b4, b5, b6⟩ := h.2.2.2.2 d' hd' hne
  exact ⟨b1, b2, b3, (pk_un hne).trans b4, b5, b6⟩
theorem PS.nWts {σ : CS} {μ : MS} {j d : Nat} (h : PS σ μ j d) (x : Int64) : PS σ (nWts μ (vp_updL (mWts μ) d x)) j d := by
  refine ⟨h.1, h.2.1, h.2.2.1, h.2.2.2.1, fun d' hd' hne => ?_⟩
  obtain ⟨b1, b2, b3, b4, b5, b6⟩ := h.2.2.2.2 d' hd' hne
  exact ⟨b1, b2, b3, b4, (pk_uLn hne).trans b5, b6⟩
theorem PS.nHigh {σ : CS} {μ : MS} {j d : Nat} (h : PS σ μ j d) (x : Int32) : PS σ (nHigh μ (upd (mHigh μ) d x)) j d := by
  refine ⟨h.1, h.2.1, h.2.2.1, h.2.2.2.1, fun d' hd' hne => ?_⟩
  obtain ⟨b1, b2, b3, b4, b5, ⟨q, q1, q2, q3, q4⟩, b7⟩ := h.2.2.2.2 d' hd' hne
  refine ⟨b1, b2, b3, b4, b5, ⟨q, q1, q2, q3, fun hq => ?_⟩, b7⟩
  obtain ⟨w1, w2⟩ := q4 hq
  exact ⟨(pk_un hne).trans w1, w2⟩
theorem PS.nLoud {σ : CS} {μ : MS} {j d : Nat} (h : PS σ μ j d) (x : Int32) : PS σ (nLoud μ (upd (mLoud μ) d x)) j d := by
  refine ⟨h.1, h.2.1, h.2.2.1, h.2.2.2.1, fun d' hd' hne => ?_⟩
  obtain ⟨b1, b2, b3, b4, b5, ⟨q, q1, q2, q3, q4⟩, b7⟩ := h.2.2.2.2 d' hd' hne
  refine ⟨b1, b2, b3, b4, b5, ⟨q, q1, q2, q3, fun hq => ?_⟩, b7⟩
  obtain ⟨w1, w2⟩ := q4 hq
  exact ⟨w1, (pk_un hne).trans w2⟩
def Rp (σ : CS) (μ : MS) (j d B : Nat) : Prop := PS σ μ j d ∧ DrQ σ μ B d
theorem Rp.gap {σ : CS} {μ : MS} {j d B : Nat} (h : Rp σ μ j d B) : Rp (pGp σ d (((sDf σ d).2.2.2.1) + (1 : Int32))) (nGaps μ (upd (mGaps μ) d ((mGaps μ d) + (1 : Int32)))) j d B := by
  refine ⟨(h.1.df _).nGaps _, ?_⟩
  obtain ⟨b1, b2, b3, b4, b5, b6⟩ := h.2
  unfold DrQ
  rw [df_s]
  exact ⟨b1, b2, b3, pk_us.trans (by rw [b4]), b5, b6⟩
theorem Rp.played {σ : CS} {μ : MS} {j d B : Nat} (h : Rp σ μ j d B) : Rp (pPp σ d (((sDf σ d).2.2.1) + (1 : Int32))) (nPlayed μ (upd (mPlayed μ) d ((mPlayed μ d) + (1 : Int32)))) j d B := by
  refine ⟨(h.1.df _).nPlayed _, ?_⟩
  obtain ⟨b1, b2, b3, b4, b5, b6⟩ := h.2
  unfold DrQ
  rw [df_s]
  exact ⟨b1, b2, pk_us.trans (by rw [b3]), b4, b5, b6⟩
theorem Rp.head {σ : CS} {μ : MS} {j d B p : Nat} (h : Rp σ μ j d B) (hp : (sDf σ d).1 = nI p) (h3 : p < 300) : Rp (pHd σ d (((sDf σ d).1) + (1 : Int32))) (nHeads μ (upd (mHeads μ) d ((mHeads μ d) + (1 : Int32)))) j d B ∧ (sDf (pHd σ d (((sDf σ d).1) + (1 : Int32))) d).1 = nI (p + 1) := by
  obtain ⟨b1, b2, b3, b4, b5, b6, b7, _⟩ := h.2
  refine ⟨⟨(h.1.df _).nHeads _, ?_⟩, ?_⟩
  · unfold DrQ
    rw [df_s]
    exact ⟨pk_us.trans (by rw [b1]), b2, b3, b4, b5, b6, b7, p + 1, by omega, by rw [hp]; exact nI_1 p⟩
  · rw [df_s]
    show (sDf σ d).1 + 1 = _
    rw [hp]; exact nI_1 p
theorem Rp.more {σ : CS} {μ : MS} {j d B : Nat} (h : Rp σ μ j d B) : Rp σ μ j d (B + 1) := by
  obtain ⟨b1, b2, b3, b4, b5, ⟨q, q1, q2⟩, b7⟩ := h.2
  exact ⟨h.1, b1, b2, b3, b4, b5, ⟨q, by omega, q2⟩, b7⟩
/-- a place of a track of a drum: there, or not -/
theorem PS.there {σ : CS} {μ : MS} {j d : Nat} (h : PS σ μ j d) (hd : d < 8) {k : Nat} (hk : k < 5) (p : Nat) (hp : p ≤ 300) : (∃ (a t n c : Nat) (f : Nat → Int32), sSl σ d k = some a ∧ t < 202 ∧ mDrums μ (5 * d + k) = nI t ∧ sTk σ a = some (k, n, c, f) ∧ n ≤ 300 ∧ p < n ∧ mCell μ (300 * t + p) = f p ∧ OKc k (f p) ∧ ∀ Q : Int32 → MS → Prop, Q 1 μ → wX9_isThere (nI d) (nI k) (nI p) μ Q) ∨ ((sSl σ d k = none ∨ ∃ (a n c : Nat) (f : Nat → Int32), sSl σ d k = some a ∧ sTk σ a = some (k, n, c, f) ∧ n ≤ 300 ∧ n ≤ p) ∧ ∀ Q : Int32 → MS → Prop, Q 0 μ → wX9_isThere (nI d) (nI k) (nI p) μ Q) := by
  have hc := h.2.1.at (s := 5 * d + k) (by omega)
  rw [oslot_d σ hd hk, kslot_d σ hd hk, slotv_d μ hd hk] at hc
  have i0 : vp_in (((5 : Int32) * nI d) + nI k) 40 := by rw [ix5]; exact vp_in_nI (by omega) (by decide)
  have i1 : (((5 : Int32) * nI d) + nI k).toNatClampNeg = 5 * d + k := by rw [ix5]; exact nI_clamp (by omega)
  rcases hc with ⟨e1, e2⟩ | ⟨a, t, n, c, f, e1, ht, e2, e3, hn, e4, e5, e6⟩
  · refine Or.inr ⟨Or.inl e1, fun Q hq => ⟨i0, ?_⟩⟩
    rw [i1, e2]
    exact m_lkM ⟨fun _ => hq, fun q => absurd q (by decide)⟩
  · by_cases hpn : p < n
    · refine Or.inl ⟨a, t, n, c, f, e1, ht, e2, e3, hn, hpn, e5 p hpn, e6 p hpn, fun Q hq => ⟨i0, ?_⟩⟩
      rw [i1, e2]
      exact m_lkY ht e4 hpn hn ⟨fun q => absurd rfl q, fun _ => hq⟩
    · refine Or.inr ⟨Or.inr ⟨a, n, c, f, e1, e3, hn, by omega⟩, fun Q hq => ⟨i0, ?_⟩⟩
      rw [i1, e2]
      exact m_lkN ht e4 (fun i hi e => by have := (nI_eq (by omega) (by omega)).mp e; omega) hn ⟨fun _ => hq, fun q => absurd q (by decide)⟩
theorem nofitp {n p : Nat} (h : n ≤ p) (hp : p ≤ 300) : ∀ i, i < n → nI p ≠ nI i := fun i hi e => by
  have := (nI_eq (by omega) (by omega)).mp e
  omega
theorem ask_step {σ : CS} {μ : MS} {j d B : Nat} (h : Rp σ μ j d B) (hd : d < 8) {k : Nat} (hk : k < 5) (h3 : k ≠ 3) {p : Nat} (hp : p ≤ 300) {g : Int32} (hg : g = if k = 0 then 1 else if k = 2 then 1 else if k = 1 then 60 else 0) : ∃ (r : Int32) (σ' : CS) (μ' : MS), OKc k r ∧ Rp σ' μ' j d B ∧ (sDf σ' d).1 = (sDf σ d).1 ∧ (sDf σ' d).2.1 = (sDf σ d).2.1 ∧ (∀ Q : Int32 → CS → Prop, Q r σ' → wX2_ask d (nI k) (nI p) g σ Q) ∧ ∀ Q : Int32 → MS → Prop, Q r μ' → wX9_at (nI d) (nI k) (nI p) μ Q := by
  have ck : (nI k).toNatClampNeg = k := nI_clamp (by omega)
  have cd : (nI d).toNatClampNeg = d := nI_clamp (by omega)
  have i5 : vp_in (nI k) 5 := vp_in_nI hk (by decide)
  have i8 : vp_in (nI d) 8 := vp_in_nI hd (by decide)
  rcases h.1.there hd hk p hp with ⟨a, t, n, c, f, e1, ht, e2, e3, hn, hpn, e5, e6, w⟩ | ⟨e1, w⟩
  · refine ⟨f p, σ, μ, e6, h, rfl, rfl, fun Q hq => ⟨i5, fun o ho => ?_⟩, fun Q hq => w _ (z1 ?_)⟩
    · rw [ck, e1] at ho
      subst ho
      refine ⟨fun q => (by cases q), fun a' ha => ?_⟩
      cases ha
      exact p_hasY e3 hpn hn (z1 (p_val e3 hpn hn e6 hq))
    · rw [ix5, nI_clamp (show 5 * d + k < 2 ^ 31 by omega), e2, ix300, nI_clamp (show 300 * t + p < 2 ^ 31 by omega), e5]
      exact ⟨vp_in_nI (by omega) (by decide), vp_in_nI (by omega) (by decide), hq⟩
  · refine ⟨g, _, _, ?_, h.gap, (by rw [df_s]), (by rw [df_s]), fun Q hq => ⟨i5, fun o ho => ?_⟩, fun Q hq => w _ (z0 ⟨i8, i8, ?_⟩)⟩
    · refine ⟨fun e => ?_, fun e => absurd e h3⟩
      subst e
      exact Or.inr hg
    · rw [ck] at ho
      rcases e1 with e1 | ⟨a, n, c, f, e1, e3, hn, hnp⟩
      · rw [e1] at ho
        subst ho
        exact ⟨fun _ => hq, fun a ha => (by cases ha)⟩
      · rw [e1] at ho
        subst ho
        refine ⟨fun q => (by cases q), fun a' ha => ?_⟩
        cases ha
        exact p_hasN e3 (nofitp hnp hp) hn (z0 hq)
    · rw [cd]
      rcases (show k = 0 ∨ k = 1 ∨ k = 2 ∨ k = 4 by omega) with rfl | rfl | rfl | rfl
      · have hg : g = 1 := hg
        subst hg
        exact ⟨fun _ => hq, fun q => absurd rfl q⟩
      · have hg : g = 60 := hg
        subst hg
        exact ⟨fun q => absurd q c10, fun _ => ⟨fun _ => ⟨fun q => absurd rfl q, fun _ => hq⟩, fun q => absurd q (by decide)⟩⟩
      · have hg : g = 1 := hg
        subst hg
        exact ⟨fun q => absurd q c20, fun _ => ⟨fun q => absurd rfl q, fun _ => hq⟩⟩
      · have hg : g = 0 := hg
        subst hg
        exact ⟨fun q => absurd q c40, fun _ => ⟨fun _ => ⟨fun _ => ⟨fun _ => hq, fun q => absurd q c43⟩, fun q => absurd q c41⟩, fun q => absurd q c42⟩⟩
theorem fin23_1 : fin23 FP.fconst1 := by unfold fin23; decide
theorem ask3_step {σ : CS} {μ : MS} {j d B : Nat} (h : Rp σ μ j d B) (hd : d < 8) {p : Nat} (hp : p ≤ 300) : ∃ (r : UInt32) (σ' : CS) (μ' : MS), fin23 r ∧ Rp σ' μ' j d B ∧ (sDf σ' d).1 = (sDf σ d).1 ∧ (sDf σ' d).2.1 = (sDf σ d).2.1 ∧ (∀ Q : UInt32 → CS → Prop, Q r σ' → wX2_askLevel d (nI p) σ Q) ∧ ∀ Q : Int32 → MS → Prop, Q r.toInt32 μ' → wX9_at (nI d) (3 : Int32) (nI p) μ Q := by
  have ck : (3 : Int32).toNatClampNeg = 3 := nI_clamp (n := 3) (by omega)
  have cd : (nI d).toNatClampNeg = d := nI_clamp (by omega)
  have i5 : vp_in (3 : Int32) 5 := vp_in_nI (n := 3) (by omega) (by decide)
  have i8 : vp_in (nI d) 8 := vp_in_nI hd (by decide)
  have cp : (nI p).toNatClampNeg = p := nI_clamp (by omega)
  rcases h.1.there hd (k := 3) (by omega) p hp with ⟨a, t, n, c, f, e1, ht, e2, e3, hn, hpn, e5, e6, w⟩ | ⟨e1, w⟩
  · refine ⟨(f p).toUInt32, σ, μ, e6.2 rfl, h, rfl, rfl, fun Q hq => ⟨i5, fun o ho => ?_⟩, fun Q hq => w _ (z1 ?_)⟩
    · rw [ck, e1] at ho
      subst ho
      refine ⟨fun q => (by cases q), fun a' ha => ?_⟩
      cases ha
      refine ⟨n, c, f, e3, n, c, f, e3, n, c, f, e3, fun q => absurd q (nI_pos (by omega)), fun _ => ⟨3, n, c, f, e3, fun q => absurd q (nI_ge (by omega) (by omega)), fun _ => z1 ⟨n, c, f, e3, n, c, f, e3, vp_in_nI hpn (by omega), ?_⟩⟩⟩
      rw [cp]; exact hq
    · rw [show (3 : Int32) = nI 3 from rfl, ix5, nI_clamp (show 5 * d + 3 < 2 ^ 31 by omega), e2, ix300, nI_clamp (show 300 * t + p < 2 ^ 31 by omega), e5]
      have : (f p).toUInt32.toInt32 = f p := by simp
      rw [this] at hq
      exact ⟨vp_in_nI (by omega) (by decide), vp_in_nI (by omega) (by decide), hq⟩
  · refine ⟨FP.fconst1, _, _, fin23_1, h.gap, (by rw [df_s]), (by rw [df_s]), fun Q hq => ⟨i5, fun o ho => ?_⟩, fun Q hq => w _ (z0 ⟨i8, i8, ?_⟩)⟩
    · rw [ck] at ho
      rcases e1 with e1 | ⟨a, n, c, f, e1, e3, hn, hnp⟩
      · rw [e1] at ho
        subst ho
        exact ⟨fun _ => hq, fun a ha => (by cases ha)⟩
      · rw [e1] at ho
        subst ho
        refine ⟨fun q => (by cases q), fun a' ha => ?_⟩
        cases ha
        exact ⟨n, c, f, e3, n, c, f, e3, n, c, f, e3, fun q => absurd q (nI_pos (by omega)), fun _ => ⟨3, n, c, f, e3, fun _ => z0 hq, fun q => absurd (nI_le (by omega) (by omega)) q⟩⟩
    · rw [cd]
      exact ⟨fun q => absurd q c30, fun _ => ⟨fun _ => ⟨fun _ => ⟨fun q => absurd rfl q, fun _ => fl_bitsJ (fl_nn fin23_1) hq⟩, fun q => absurd q (by decide)⟩, fun q => absurd q (by decide)⟩⟩
/-- a note -/
theorem sound_step {σ : CS} {μ : MS} {j d B : Nat} (h : Rp σ μ j d B) (hd : d < 8) (hB : B < 1000000) (p len : Int32) (l : UInt32) (hl : fin23 l) : ∃ (σ' : CS) (μ' : MS), Rp σ' μ' j d (B + 1) ∧ (sDf σ' d).1 = (sDf σ d).1 ∧ (sDf σ' d).2.1 = (sDf σ d).2.1 + 1 ∧ (∀ Q : CS → Prop, Q σ' → wX2_sound d p len l σ Q) ∧ ∀ (x2 r12 r14 : Int32) (Q : Int32 → MS → Prop) (W : MS), W = nWts μ (vp_updL (mWts μ) d (mWts μ d + p.toInt64 * len.toInt64)) → Q 1 μ' → ((mNotes W d = 0 → wX9_sounds_b99 (nI d) x2 Q r12 r14 len l.toInt32 p W) ∧ (¬ mNotes W d = 0 → (vp_in (nI d) 8 ∧ ((p ≤ mHigh W d → wX9_sounds_b107 (nI d) x2 Q r12 r14 len l.toInt32 p W) ∧ (¬ p ≤ mHigh W d → wX9_sounds_b99 (nI d) x2 Q r12 r14 len l.toInt32 p W))))) := by
  have cd : (nI d).toNatClampNeg = d := nI_clamp (by omega)
  have i8 : vp_in (nI d) 8 := vp_in_nI hd (by decide)
  obtain ⟨b1, b2, b3, b4, b5, ⟨q, q1, q2, q3, q4⟩, b7, hh, h300, b8⟩ := h.2
  have n0 : mNotes μ d = 0 ↔ q = 0 := by rw [b2, q2]; exact nI_eq (b := 0) (by omega) (by decide)
  have s0 : (sDf σ d).2.1 = 0 ↔ q = 0 := by rw [q2]; exact nI_eq (b := 0) (by omega) (by decide)
  have lb : l.toInt32.toUInt32 = l := fl_back l
  have hls : vn_sni2f l.toInt32 = false := fl_sn (by rw [lb]; exact hl)
  -- the four ends
  have fin : ∀ (hp' : Int32) (gl' : UInt32) (hi lo : Nat → Int32), hi d = hp' → lo d = gl'.toInt32 → fin23 gl' → (∀ d', d' ≠ d → hi d' = mHigh μ d' ∧ lo d' = mLoud μ d') → ∀ σ' : CS, PS σ' μ j d → sDf σ' d = ((sDf σ d).1, (sDf σ d).2.1 + 1, (sDf σ d).2.2.1, (sDf σ d).2.2.2.1, (sDf σ d).2.2.2.2.1 + p.toInt64 * len.toInt64, hp', gl') → Rp σ' (nNotes (nLoud (nHigh (nWts μ (vp_updL (mWts μ) d (mWts μ d + p.toInt64 * len.toInt64))) hi) lo) (upd (mNotes μ) d (mNotes μ d + 1))) j d (B + 1) := by
    intro hp' gl' hi lo h1 h2 h3 h4 σ' h5 h6
    refine ⟨⟨h5.1, h5.2.1, h5.2.2.1, h5.2.2.2.1, fun d' hd' hne => ?_⟩, ?_⟩
    · obtain ⟨c1, c2, c3, c4, c5, ⟨q', r1, r2, r3, r4⟩, c7⟩ := h5.2.2.2.2 d' hd' hne
      refine ⟨c1, (pk_un hne).trans c2, c3, c4, (pk_uLn hne).trans c5, ⟨q', r1, r2, r3, fun hq => ?_⟩, c7⟩
      obtain ⟨w1, w2⟩ := r4 hq
      exact ⟨(h4 d' hne).1.trans w1, (h4 d' hne).2.trans w2⟩
    · unfold DrQ
      rw [h6]
      exact ⟨b1, pk_us.trans (by rw [b2]), b3, b4, pk_uLs.trans (by rw [b5]), ⟨q + 1, by omega, by rw [q2]; exact nI_1 q, fun e => absurd e (by omega), fun _ => ⟨h1, h2⟩⟩, h3, hh, h300, b8⟩
  by_cases hq0 : q = 0
  · refine ⟨pNo (pWt (pGl (pHp σ d p) d l) d (((sDf (pGl (pHp σ d p) d l) d).2.2.2.2.1) + (p.toInt64 * len.toInt64))) d (((sDf (pWt (pGl (pHp σ d p) d l) d (((sDf (pGl (pHp σ d p) d l) d).2.2.2.2.1) + (p.toInt64 * len.toInt64))) d).2.1) + (1 : Int32)), _, fin p l (upd (mHigh μ) d p) (upd (mLoud μ) d l.toInt32) pk_us pk_us hl (fun d' hne => ⟨pk_un hne, pk_un hne⟩) _ ((((h.1.df _).df _).df _).df _) ?_, ?_, ?_, fun Q hq => ?_, fun x2 r12 r14 Q W hW hq => ?_⟩
    · unfold pNo pWt pGl pHp
      rw [df_s, df_s, df_s, df_s]
    · unfold pNo pWt pGl pHp
      rw [df_s, df_s, df_s, df_s]
    · unfold pNo pWt pGl pHp
      rw [df_s, df_s, df_s, df_s]
    · refine ⟨fun _ => ?_, fun q => absurd (s0.mpr hq0) q⟩
      refine ⟨fun _ => hq, fun q => absurd ?_ q⟩
      unfold pHp
      rw [df_s]
      exact s0.mpr hq0
    · subst hW
      refine ⟨fun _ => ?_, fun q => absurd (n0.mpr hq0) q⟩
      unfold wX9_sounds_b99 wX9_sounds_b107 wX9_sounds_b134 wX9_sounds_b142
      rw [cd]
      exact ⟨i8, i8, fun _ => ⟨i8, i8, i8, hq⟩, fun q => absurd (n0.mpr hq0) q⟩
  · obtain ⟨w1, w2⟩ := q4 hq0
    have hgs : vn_sni2f (mLoud μ d) = false := by rw [w2]; exact fl_sn (by rw [fl_back]; exact b7)
    have gb : (mLoud μ d).toUInt32 = (sDf σ d).2.2.2.2.2.2 := by rw [w2]; exact fl_back _
    by_cases hp : p ≤ (sDf σ d).2.2.2.2.2.1
    · by_cases hg : (Op.cmpValue (FP.fcmp l ((sDf σ d).2.2.2.2.2.2)) CmpOp.l) ≤ 0
      · refine ⟨pNo (pWt σ d (((sDf σ d).2.2.2.2.1) + (p.toInt64 * len.toInt64))) d (((sDf (pWt σ d (((sDf σ d).2.2.2.2.1) + (p.toInt64 * len.toInt64))) d).2.1) + (1 : Int32)), _, fin (sDf σ d).2.2.2.2.2.1 (sDf σ d).2.2.2.2.2.2 (mHigh μ) (mLoud μ) w1 w2 b7 (fun d' hne => ⟨rfl, rfl⟩) _ ((h.1.df _).df _) ?_, ?_, ?_, fun Q hq => ?_, fun x2 r12 r14 Q W hW hq => ?_⟩
        · unfold pNo pWt
          rw [df_s, df_s]
        · unfold pNo pWt
          rw [df_s, df_s]
        · unfold pNo pWt
          rw [df_s, df_s]
        · exact ⟨fun q => absurd (s0.mp q) hq0, fun _ => ⟨fun _ => ⟨fun q => absurd (s0.mp q) hq0, fun _ => ⟨fun _ => hq, fun q => absurd hg q⟩⟩, fun q => absurd hp q⟩⟩
        · subst hW
          refine ⟨fun q => absurd (n0.mp q) hq0, fun _ => ⟨i8, fun _ => ?_, fun q => absurd (show p ≤ mHigh μ d by rw [w1]; exact hp) q⟩⟩
          unfold wX9_sounds_b107 wX9_sounds_b134 wX9_sounds_b142
          rw [cd, lb, show (mLoud (nWts μ (vp_updL (mWts μ) d (mWts μ d + p.toInt64 * len.toInt64))) d).toUInt32 = (sDf σ d).2.2.2.2.2.2 from gb]
          exact ⟨i8, fun q => absurd (n0.mp q) hq0, fun _ => ⟨hls, i8, hgs, fun _ => ⟨i8, i8, hq⟩, fun q => absurd hg q⟩⟩
      · refine ⟨pNo (pWt (pGl σ d l) d (((sDf (pGl σ d l) d).2.2.2.2.1) + (p.toInt64 * len.toInt64))) d (((sDf (pWt (pGl σ d l) d (((sDf (pGl σ d l) d).2.2.2.2.1) + (p.toInt64 * len.toInt64))) d).2.1) + (1 : Int32)), _, fin (sDf σ d).2.2.2.2.2.1 l (mHigh μ) (upd (mLoud μ) d l.toInt32) w1 pk_us hl (fun d' hne => ⟨rfl, pk_un hne⟩) _ (((h.1.df _).df _).df _) ?_, ?_, ?_, fun Q hq => ?_, fun x2 r12 r14 Q W hW hq => ?_⟩
        · unfold pNo pWt pGl
          rw [df_s, df_s, df_s]
        · unfold pNo pWt pGl
          rw [df_s, df_s, df_s]
        · unfold pNo pWt pGl
          rw [df_s, df_s, df_s]
        · exact ⟨fun q => absurd (s0.mp q) hq0, fun _ => ⟨fun _ => ⟨fun q => absurd (s0.mp q) hq0, fun _ => ⟨fun q => absurd q hg, fun _ => hq⟩⟩, fun q => absurd hp q⟩⟩
        · subst hW
          refine ⟨fun q => absurd (n0.mp q) hq0, fun _ => ⟨i8, fun _ => ?_, fun q => absurd (show p ≤ mHigh μ d by rw [w1]; exact hp) q⟩⟩
          unfold wX9_sounds_b107 wX9_sounds_b134 wX9_sounds_b142
          rw [cd, lb, show (mLoud (nWts μ (vp_updL (mWts μ) d (mWts μ d + p.toInt64 * len.toInt64))) d).toUInt32 = (sDf σ d).2.2.2.2.2.2 from gb]
          exact ⟨i8, fun q => absurd (n0.mp q) hq0, fun _ => ⟨hls, i8, hgs, fun q => absurd q hg, fun _ => ⟨i8, i8, i8, hq⟩⟩⟩
    · have s1 : (sDf (pHp σ d p) d).2.1 = (sDf σ d).2.1 := by unfold pHp; rw [df_s]
      have s2 : (sDf (pHp σ d p) d).2.2.2.2.2.2 = (sDf σ d).2.2.2.2.2.2 := by unfold pHp; rw [df_s]
      by_cases hg : (Op.cmpValue (FP.fcmp l ((sDf σ d).2.2.2.2.2.2)) CmpOp.l) ≤ 0
      · refine ⟨pNo (pWt (pHp σ d p) d (((sDf (pHp σ d p) d).2.2.2.2.1) + (p.toInt64 * len.toInt64))) d (((sDf (pWt (pHp σ d p) d (((sDf (pHp σ d p) d).2.2.2.2.1) + (p.toInt64 * len.toInt64))) d).2.1) + (1 : Int32)), _, fin p (sDf σ d).2.2.2.2.2.2 (upd (mHigh μ) d p) (mLoud μ) pk_us w2 b7 (fun d' hne => ⟨pk_un hne, rfl⟩) _ (((h.1.df _).df _).df _) ?_, ?_, ?_, fun Q hq => ?_, fun x2 r12 r14 Q W hW hq => ?_⟩
        · unfold pNo pWt pHp
          rw [df_s, df_s, df_s]
        · unfold pNo pWt pHp
          rw [df_s, df_s, df_s]
        · unfold pNo pWt pHp
          rw [df_s, df_s, df_s]
        · refine ⟨fun q => absurd (s0.mp q) hq0, fun _ => ⟨fun q => absurd q hp, fun _ => ?_⟩⟩
          unfold wX2_sound_b15 wX2_sound_b20
          rw [s1, s2]
          exact ⟨fun q => absurd (s0.mp q) hq0, fun _ => ⟨fun _ => hq, fun q => absurd hg q⟩⟩
        · subst hW
          refine ⟨fun q => absurd (n0.mp q) hq0, fun _ => ⟨i8, fun q => absurd (show p ≤ (sDf σ d).2.2.2.2.2.1 by rw [← w1]; exact q) hp, fun _ => ?_⟩⟩
          unfold wX9_sounds_b99 wX9_sounds_b107 wX9_sounds_b134 wX9_sounds_b142
          rw [cd, lb, show (mLoud (nHigh (nWts μ (vp_updL (mWts μ) d (mWts μ d + p.toInt64 * len.toInt64))) (upd (mHigh (nWts μ (vp_updL (mWts μ) d (mWts μ d + p.toInt64 * len.toInt64)))) d p)) d).toUInt32 = (sDf σ d).2.2.2.2.2.2 from gb]
          exact ⟨i8, i8, fun q => absurd (n0.mp q) hq0, fun _ => ⟨hls, i8, hgs, fun _ => ⟨i8, i8, hq⟩, fun q => absurd hg q⟩⟩
      · refine ⟨pNo (pWt (pGl (pHp σ d p) d l) d (((sDf (pGl (pHp σ d p) d l) d).2.2.2.2.1) + (p.toInt64 * len.toInt64))) d (((sDf (pWt (pGl (pHp σ d p) d l) d (((sDf (pGl (pHp σ d p) d l) d).2.2.2.2.1) + (p.toInt64 * len.toInt64))) d).2.1) + (1 : Int32)), _, fin p l (upd (mHigh μ) d p) (upd (mLoud μ) d l.toInt32) pk_us pk_us hl (fun d' hne => ⟨pk_un hne, pk_un hne⟩) _ ((((h.1.df _).df _).df _).df _) ?_, ?_, ?_, fun Q hq => ?_, fun x2 r12 r14 Q W hW hq => ?_⟩
        · unfold pNo pWt pGl pHp
          rw [df_s, df_s, df_s, df_s]
        · unfold pNo pWt pGl pHp
          rw [df_s, df_s, df_s, df_s]
        · unfold pNo pWt pGl pHp
          rw [df_s, df_s, df_s, df_s]
        · refine ⟨fun q => absurd (s0.mp q) hq0, fun _ => ⟨fun q => absurd q hp, fun _ => ?_⟩⟩
          unfold wX2_sound_b15 wX2_sound_b20
          rw [s1, s2]
          exact ⟨fun q => absurd (s0.mp q) hq0, fun _ => ⟨fun q => absurd q hg, fun _ => hq⟩⟩
        · subst hW
          refine ⟨fun q => absurd (n0.mp q) hq0, fun _ => ⟨i8, fun q => absurd (show p ≤ (sDf σ d).2.2.2.2.2.1 by rw [← w1]; exact q) hp, fun _ => ?_⟩⟩
          unfold wX9_sounds_b99 wX9_sounds_b107 wX9_sounds_b134 wX9_sounds_b142
          rw [cd, lb, show (mLoud (nHigh (nWts μ (vp_updL (mWts μ) d (mWts μ d + p.toInt64 * len.toInt64))) (upd (mHigh (nWts μ (vp_updL (mWts μ) d (mWts μ d + p.toInt64 * len.toInt64)))) d p)) d).toUInt32 = (sDf σ d).2.2.2.2.2.2 from gb]
          exact ⟨i8, i8, fun q => absurd (n0.mp q) hq0, fun _ => ⟨hls, i8, hgs, fun q => absurd q hg, fun _ => ⟨i8, i8, i8, hq⟩⟩⟩
