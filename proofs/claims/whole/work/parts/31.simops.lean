/-! ===== the calls, side by side: tracks of drums, heads, tallies ===== -/
theorem ix5 (a b : Nat) : ((5 : Int32) * nI a) + nI b = nI (5 * a + b) := by rw [show (5 : Int32) = nI 5 from rfl, pk_mul, nI_add]
theorem ix40 (a b : Nat) : ((40 : Int32) * nI a) + nI b = nI (40 * a + b) := by rw [show (40 : Int32) = nI 40 from rfl, pk_mul, nI_add]
theorem ix300 (a b : Nat) : ((300 : Int32) * nI a) + nI b = nI (300 * a + b) := by rw [show (300 : Int32) = nI 300 from rfl, pk_mul, nI_add]
theorem kOf_nI {k : Nat} (hk : k < 5) : kOf (nI k) = k := by
  rcases (show k = 0 ∨ k = 1 ∨ k = 2 ∨ k = 3 ∨ k = 4 by omega) with rfl | rfl | rfl | rfl | rfl <;> decide
theorem neg1 : ¬ (0 : Int32) ≤ -1 := by decide
theorem neg2 : ¬ (0 : Int32) ≤ -2 := by decide
theorem neg3 : ¬ (0 : Int32) ≤ -3 := by decide
theorem neg4 : ¬ (0 : Int32) ≤ -4 := by decide
theorem neg5 : ¬ (0 : Int32) ≤ -5 := by decide
theorem Sim.setD {σ : CS} {μ : MS} {j : Nat} (h : Sim σ μ j) {d k : Nat} (hd : d < 8) (hk : k < 5) {o : Option Nat} {v : Int32} {us : Nat → Int32} (hU : UI (nDrums (nUses μ us) (upd (mDrums μ) (5 * d + k) v))) (ho : (o = none ∧ v = -1) ∨ ∃ s0, s0 < 200 ∧ o = oslot σ s0 ∧ v = slotv μ s0 ∧ k = kslot σ s0) : Sim (pRf (pSl σ d k o) 0) (nState (nDrums (nUses μ us) (upd (mDrums μ) (5 * d + k) v)) 0) (j + 1) := by
  refine ⟨rfl, hU, ?_, h.2.2.2.1, h.2.2.2.2.1, fun d hd => (h.2.2.2.2.2 d hd).mono (by omega)⟩
  refine Core.map h.2.2.1 (fun s hs => ?_)
  by_cases hq : s = 5 * d + k
  · have e1 : oslot (pRf (pSl σ d k o) 0) s = o := (oslot_pSl hd hk s).trans (if_pos hq)
    have e2 : slotv (nState (nDrums (nUses μ us) (upd (mDrums μ) (5 * d + k) v)) 0) s = v := (slotv_nd (by omega) s).trans (if_pos hq)
    rcases ho with ⟨a, b⟩ | ⟨s0, hs0, a1, a2, a3⟩
    · exact Or.inl ⟨e1.trans a, e2.trans b⟩
    · refine Or.inr ⟨s0, hs0, e1.trans a1, e2.trans a2, ?_⟩
      rw [hq]; exact (kslot_d _ hd hk).trans a3
  · exact Or.inr ⟨s, hs, (oslot_pSl hd hk s).trans (if_neg hq), (slotv_nd (by omega) s).trans (if_neg hq), rfl⟩
theorem Sim.newD {σ : CS} {μ : MS} {j : Nat} (h : Sim σ μ j) {d k : Nat} (hd : d < 8) (hk : k < 5) {a c n t : Nat} {us cl : Nat → Int32} (ha : sTk σ a = none) (hn : n ≤ 300) (ht : t < 202) (h0 : cnt μ t = 0) (hc1 : ∀ i, i < 300 * t ∨ 300 * t + 300 ≤ i → cl i = mCell μ i) (hc2 : ∀ k, k < n → cl (300 * t + k) = 0) (hU : UI (nDrums (nUses (nCell (nSize μ (upd (mSize μ) t (nI n))) cl) us) (upd (mDrums μ) (5 * d + k) (nI t)))) : Sim (pRf (pSl (pTk σ a (k, n, c, fun _ => 0)) d k (some a)) 0) (nState (nDrums (nUses (nCell (nSize μ (upd (mSize μ) t (nI n))) cl) us) (upd (mDrums μ) (5 * d + k) (nI t))) 0) (j + 1) := by
  refine ⟨rfl, hU, ?_, h.2.2.2.1, h.2.2.2.2.1, fun d hd => (h.2.2.2.2.2 d hd).mono (by omega)⟩
  have hTa : sTk (pTk σ a (k, n, c, fun _ => 0)) a = some (k, n, c, fun _ => 0) := if_pos rfl
  have c1 : Core (oslot σ) (kslot σ) (sTk (pTk σ a (k, n, c, fun _ => 0))) (slotv μ) (mSize μ) (mCell μ) := h.2.2.1.tk (fun a' x hx => by
    have : a' ≠ a := fun q => by rw [q, ha] at hx; cases hx
    exact (if_neg this).trans hx)
  refine Core.new c1 (s := 5 * d + k) (a := a) (t := t) (n := n) (c := c) (f := fun _ => 0) (fun s' hs' hne => ⟨(oslot_pSl hd hk s').trans (if_neg hne), (slotv_nd (by omega) s').trans (if_neg hne), rfl⟩) ((oslot_pSl hd hk _).trans (if_pos rfl)) ((slotv_nd (by omega) _).trans (if_pos rfl)) ht ?_ (fun _ _ => rfl) hn (fun s' hs' => h.2.2.1.fresh ha hs') (fun s' hs' e => ?_) (fun t' => rfl) hc1 hc2
  · refine hTa.trans ?_
    have : kslot (pRf (pSl (pTk σ a (k, n, c, fun _ => 0)) d k (some a)) 0) (5 * d + k) = k := kslot_d _ hd hk
    rw [this]
  · have := cnt_pos.mpr ⟨s', hs', e⟩
    omega
theorem Sim.tod {σ : CS} {μ : MS} {j : Nat} (h : Sim σ μ j) (x y : Int32) : (∃ (d k a t n c : Nat) (f : Nat → Int32), d < 8 ∧ k < 5 ∧ x = nI d ∧ y = nI k ∧ sSl σ d k = some a ∧ t < 202 ∧ mDrums μ (5 * d + k) = nI t ∧ sTk σ a = some (k, n, c, f) ∧ n ≤ 300 ∧ mSize μ t = nI n ∧ (∀ i, i < n → mCell μ (300 * t + i) = f i) ∧ (∀ i, i < n → OKc k (f i)) ∧ ∀ Q : Option Nat → CS → Prop, Q (some a) (pRf σ 0) → wX8_trackOfDrum x y σ Q) ∨ (∃ d k : Nat, d < 8 ∧ k < 5 ∧ x = nI d ∧ y = nI k ∧ sSl σ d k = none ∧ mDrums μ (5 * d + k) = -1 ∧ ∀ Q : Option Nat → CS → Prop, Q none (pRf σ (-2)) → wX8_trackOfDrum x y σ Q) ∨ (((∀ d, d < 8 → x ≠ nI d) ∨ ∃ d, d < 8 ∧ x = nI d ∧ ∀ k, k < 5 → y ≠ nI k) ∧ ∀ Q : Option Nat → CS → Prop, Q none (pRf σ (-1)) → wX8_trackOfDrum x y σ Q) := by
  rcases fits x 8 with ⟨d, hd, rfl⟩ | hx
  · rcases fits y 5 with ⟨k, hk, rfl⟩ | hy
    · rcases h.drum hd hk with ⟨e1, e2⟩ | ⟨a, t, n, c, f, e1, r⟩
      · refine Or.inr (Or.inl ⟨d, k, hd, hk, rfl, rfl, e1, e2, fun Q hq => e_isDrum hd (z1 (e_isKind hk (y1 ⟨vp_in_nI hd (by decide), vp_in_nI hk (by decide), fun o ho => ?_⟩)))⟩)
        rw [nI_clamp (by omega), nI_clamp (by omega), e1] at ho
        subst ho
        exact ⟨fun _ => hq, fun a ha => by cases ha⟩
      · refine Or.inl ⟨d, k, a, t, n, c, f, hd, hk, rfl, rfl, e1, r.1, r.2.1, r.2.2.1, r.2.2.2.1, r.2.2.2.2.1, r.2.2.2.2.2.1, r.2.2.2.2.2.2, fun Q hq => e_isDrum hd (z1 (e_isKind hk (y1 ⟨vp_in_nI hd (by decide), vp_in_nI hk (by decide), fun o ho => ?_⟩)))⟩
        rw [nI_clamp (by omega), nI_clamp (by omega), e1] at ho
        subst ho
        exact ⟨fun q => (by cases q), fun a ha => by cases ha; exact hq⟩
    · exact Or.inr (Or.inr ⟨Or.inr ⟨d, hd, rfl, hy⟩, fun Q hq => e_isDrum hd (z1 (f_isKind hy (y0 hq)))⟩)
  · exact Or.inr (Or.inr ⟨Or.inl hx, fun Q hq => f_isDrum hx (z0 hq)⟩)
theorem ok_cut : OK_cut Sim := by
  intro σ μ j x1 x2 x3 hj h
  unfold wX8_cut wX8_newTrack wX8_grant wX8_refuse wX9_cut
  rcases fits x1 8 with ⟨d, hd, rfl⟩ | h1
  · rcases fits x2 5 with ⟨k, hk, rfl⟩ | h2
    · rcases fits x3 301 with ⟨n, hn, rfl⟩ | h3
      · rw [nI_clamp (show d < 2 ^ 31 by omega), nI_clamp (show k < 2 ^ 31 by omega), nI_clamp (show n < 2 ^ 31 by omega), kOf_nI hk]
        refine e_isDrum hd (z1 (e_isKind hk (y1 (e_up (N := 300) (by omega) (by decide) (y1 ⟨vp_in_nI hd (by decide), nI_pos (by omega), (by omega), (by decide), fun a c ha => ⟨a, (k, n, c, fun _ => 0), rfl, if_pos rfl, vp_in_nI hk (by decide), ?_⟩⟩)))))
        refine m_isDrum hd (z1 (m_isKind hk (y1 (m_in (N := 300) (by omega) (by decide) (y1 (g_new9 h.2.1 (by omega) (fun t cl ht h0 hc1 hc2 => ?_)))))))
        refine g_drum (μ := nCell (nSize μ (upd (mSize μ) t (nI n))) cl) h.2.1 hd hk (Or.inr ⟨t, ht, rfl⟩) (fun us hU => m_told (by omega) ⟨rfl, ?_⟩)
        exact h.newD hd hk ha (by omega) ht h0 hc1 hc2 hU
      · exact e_isDrum hd (z1 (e_isKind hk (y1 (f_up (N := 300) (by decide) h3 (y0 (m_isDrum hd (z1 (m_isKind hk (y1 (n_in (N := 300) (by decide) h3 (y0 (n_told neg4 ⟨rfl, h.st _⟩))))))))))))
    · exact e_isDrum hd (z1 (f_isKind h2 (y0 (m_isDrum hd (z1 (n_isKind h2 (y0 (n_told neg1 ⟨rfl, h.st _⟩))))))))
  · exact f_isDrum h1 (z0 (n_isDrum h1 (z0 (n_told neg1 ⟨rfl, h.st _⟩))))
theorem ok_strip : OK_strip Sim := by
  intro σ μ j x1 x2 hj h
  unfold wX8_strip wX9_strip
  rcases h.tod x1 x2 with ⟨d, k, a, t, n, c, f, hd, hk, rfl, rfl, e1, ht, e2, e3, hn, e4, e5, e6, r⟩ | ⟨d, k, hd, hk, rfl, rfl, e1, e2, r⟩ | ⟨hx, r⟩
  · rw [nI_clamp (show d < 2 ^ 31 by omega), nI_clamp (show k < 2 ^ 31 by omega), ix5, nI_clamp (show 5 * d + k < 2 ^ 31 by omega)]
    refine r _ ⟨fun q => (by cases q), fun a' ha => ?_⟩
    cases ha
    refine ⟨vp_in_nI hd (by decide), vp_in_nI hk (by decide), k, n, c, f, e3, ?_⟩
    refine m_isDrum hd (z1 (m_isKind hk (y1 ⟨vp_in_nI (by omega) (by decide), fun y ey => ?_⟩)))
    rw [ey, e2]
    refine ⟨fun _ => g_drum h.2.1 hd hk (Or.inl rfl) (fun us hU => ⟨vp_in_nI ht (by decide), ?_⟩), fun q => absurd (nI_0le (by omega)) q⟩
    rw [nI_clamp (show t < 2 ^ 31 by omega), show mSize (nDrums (nUses μ us) (upd (mDrums μ) (5 * d + k) (-1))) t = nI n from e4]
    exact m_told (by omega) ⟨rfl, h.setD hd hk hU (Or.inl ⟨rfl, rfl⟩)⟩
  · rw [nI_clamp (show d < 2 ^ 31 by omega), nI_clamp (show k < 2 ^ 31 by omega), ix5, nI_clamp (show 5 * d + k < 2 ^ 31 by omega)]
    refine r _ ⟨fun _ => ?_, fun a' ha => (by cases ha)⟩
    refine m_isDrum hd (z1 (m_isKind hk (y1 ⟨vp_in_nI (by omega) (by decide), fun y ey => ?_⟩)))
    rw [ey, e2]
    exact ⟨fun q => absurd q neg1, fun _ => n_told neg2 ⟨rfl, h.st _⟩⟩
  · refine r _ ⟨fun _ => ?_, fun a' ha => (by cases ha)⟩
    rcases hx with hx | ⟨d, hd, rfl, hy⟩
    · exact n_isDrum hx (z0 (n_told neg1 ⟨rfl, h.st _⟩))
    · exact m_isDrum hd (z1 (n_isKind hy (y0 (n_told neg1 ⟨rfl, h.st _⟩))))
theorem ok_places : OK_places Sim := by
  intro σ μ j x1 x2 hj h
  unfold wX8_places wX9_places
  rcases h.tod x1 x2 with ⟨d, k, a, t, n, c, f, hd, hk, rfl, rfl, e1, ht, e2, e3, hn, e4, e5, e6, r⟩ | ⟨d, k, hd, hk, rfl, rfl, e1, e2, r⟩ | ⟨hx, r⟩
  · rw [ix5, nI_clamp (show 5 * d + k < 2 ^ 31 by omega)]
    refine r _ ⟨fun q => (by cases q), fun a' ha => ?_⟩
    cases ha
    refine ⟨k, n, c, f, e3, ?_⟩
    refine m_isDrum hd (z1 (m_isKind hk (y1 ⟨vp_in_nI (by omega) (by decide), fun y ey => ?_⟩)))
    rw [ey, e2]
    refine ⟨fun _ => ⟨vp_in_nI ht (by decide), ?_⟩, fun q => absurd (nI_0le (by omega)) q⟩
    rw [nI_clamp (show t < 2 ^ 31 by omega), e4]
    exact m_told (by omega) ⟨rfl, h.st _⟩
  · rw [ix5, nI_clamp (show 5 * d + k < 2 ^ 31 by omega)]
    refine r _ ⟨fun _ => ?_, fun a' ha => (by cases ha)⟩
    refine m_isDrum hd (z1 (m_isKind hk (y1 ⟨vp_in_nI (by omega) (by decide), fun y ey => ?_⟩)))
    rw [ey, e2]
    exact ⟨fun q => absurd q neg1, fun _ => n_told neg2 ⟨rfl, h.st _⟩⟩
  · refine r _ ⟨fun _ => ?_, fun a' ha => (by cases ha)⟩
    rcases hx with hx | ⟨d, hd, rfl, hy⟩
    · exact n_isDrum hx (z0 (n_told neg1 ⟨rfl, h.st _⟩))
    · exact m_isDrum hd (z1 (n_isKind hy (y0 (n_told neg1 ⟨rfl, h.st _⟩))))
theorem ok_share : OK_share Sim := by
  intro σ μ j x1 x2 x3 hj h
  unfold wX8_share wX8_refuse wX9_share
  rcases fits x2 8 with ⟨g, hg, rfl⟩ | h2
  · refine e_isDrum hg (y1 ?_)
    rcases h.tod x1 x3 with ⟨d, k, a, t, n, c, f, hd, hk, rfl, rfl, e1, ht, e2, e3, hn, e4, e5, e6, r⟩ | ⟨d, k, hd, hk, rfl, rfl, e1, e2, r⟩ | ⟨hx, r⟩
    · rw [nI_clamp (show g < 2 ^ 31 by omega), nI_clamp (show k < 2 ^ 31 by omega), ix5, nI_clamp (show 5 * d + k < 2 ^ 31 by omega)]
      refine r _ ⟨fun q => (by cases q), fun a' ha => ?_⟩
      cases ha
      refine ⟨vp_in_nI hg (by decide), (k, n, c, f), e3, vp_in_nI hk (by decide), k, n, c, f, e3, ?_⟩
      refine m_isDrum hd (z1 (m_isDrum hg (z1 (m_isKind hk (y1 ⟨vp_in_nI (by omega) (by decide), fun y ey => ?_⟩)))))
      rw [ey, e2]
      refine ⟨fun _ => g_drum h.2.1 hg hk (Or.inr ⟨t, ht, rfl⟩) (fun us hU => ⟨vp_in_nI ht (by decide), ?_⟩), fun q => absurd (nI_0le (by omega)) q⟩
      rw [nI_clamp (show t < 2 ^ 31 by omega), show mSize (nDrums (nUses μ us) (upd (mDrums μ) (5 * g + k) (nI t))) t = nI n from e4]
      refine m_told (by omega) ⟨rfl, h.setD hg hk hU (Or.inr ⟨5 * d + k, by omega, ?_, ?_, ?_⟩)⟩
      · rw [oslot_d σ hd hk, e1]
      · rw [slotv_d μ hd hk, e2]
      · rw [kslot_d σ hd hk]
    · rw [nI_clamp (show g < 2 ^ 31 by omega), nI_clamp (show k < 2 ^ 31 by omega), ix5, nI_clamp (show 5 * d + k < 2 ^ 31 by omega)]
      refine r _ ⟨fun _ => ?_, fun a' ha => (by cases ha)⟩
      refine m_isDrum hd (z1 (m_isDrum hg (z1 (m_isKind hk (y1 ⟨vp_in_nI (by omega) (by decide), fun y ey => ?_⟩)))))
      rw [ey, e2]
      exact ⟨fun q => absurd q neg1, fun _ => n_told neg2 ⟨rfl, h.st _⟩⟩
    · refine r _ ⟨fun _ => ?_, fun a' ha => (by cases ha)⟩
      rcases hx with hx | ⟨d, hd, rfl, hy⟩
      · exact n_isDrum hx (z0 (n_told neg1 ⟨rfl, h.st _⟩))
      · exact m_isDrum hd (z1 (m_isDrum hg (z1 (n_isKind hy (y0 (n_told neg1 ⟨rfl, h.st _⟩))))))
  · refine f_isDrum h2 (y0 ?_)
    rcases fits x1 8 with ⟨d, hd, rfl⟩ | h1
    · exact m_isDrum hd (z1 (n_isDrum h2 (z0 (n_told neg1 ⟨rfl, h.st _⟩))))
    · exact n_isDrum h1 (z0 (n_told neg1 ⟨rfl, h.st _⟩))
theorem ok_head : OK_head Sim := by
  intro σ μ j x1 x2 hj h
  unfold wX8_head wX8_refuse wX8_grant wX9_head
  rcases fits x1 8 with ⟨d, hd, rfl⟩ | h1
  · rcases fits x2 301 with ⟨n, hn, rfl⟩ | h2
    · rw [nI_clamp (show d < 2 ^ 31 by omega)]
      refine e_isDrum hd (y1 (e_up (N := 300) hn (by decide) (y1 ⟨vp_in_nI hd (by decide), fun y ey => ⟨vp_in_nI hd (by decide), ?_⟩⟩)))
      refine m_isDrum hd (y1 (m_in (N := 300) hn (by decide) (y1 ⟨vp_in_nI hd (by decide), fun z ez => ⟨vp_in_nI hd (by decide), ?_⟩⟩)))
      obtain ⟨a1, a2, a3, a4, a5, a6, a7, hh, h300, a8⟩ := h.2.2.2.2.2 d hd
      have hyz : z = y := by rw [ez, ey]; exact a1
      rw [hyz, ey, a8]
      refine m_told (by omega) ⟨rfl, rfl, h.2.1, h.2.2.1, h.2.2.2.1, h.2.2.2.2.1, fun d' hd' => ?_⟩
      by_cases hq : d' = d
      · subst hq
        have e1 : sDf (pRf (pHd σ d' (nI n)) 0) d' = dHd (sDf σ d') (nI n) := if_pos rfl
        unfold DrR
        rw [e1]
        exact ⟨pk_us, a2, a3, a4, a5, (DrR.mono (h.2.2.2.2.2 d' hd) (Nat.le_succ j)).2.2.2.2.2.1, a7, n, by omega, rfl⟩
      · have e1 : sDf (pRf (pHd σ d (nI n)) 0) d' = sDf σ d' := if_neg hq
        obtain ⟨b1, b2⟩ := (h.2.2.2.2.2 d' hd').mono (Nat.le_succ j)
        unfold DrR
        rw [e1]
        exact ⟨(pk_un hq).trans b1, b2⟩
    · exact e_isDrum hd (y1 (f_up (N := 300) (by decide) h2 (y0 (m_isDrum hd (y1 (n_in (N := 300) (by decide) h2 (y0 (n_told neg4 ⟨rfl, h.st _⟩))))))))
  · exact f_isDrum h1 (y0 (n_isDrum h1 (y0 (n_told neg1 ⟨rfl, h.st _⟩))))
theorem ok_state : OK_state Sim := by
  intro σ μ j hj h
  exact ⟨h.1, h.mono⟩
theorem df_s {X : CS} {i : Nat} {v : DF} : sDf (pDf X i v) i = v := if_pos rfl
theorem df_n {X : CS} {i k : Nat} {v : DF} (h : k ≠ i) : sDf (pDf X i v) k = sDf X k := if_neg h
theorem fin23_0 : fin23 FP.fconst0 := by unfold fin23; decide
theorem forget_s {σ : CS} {i : Nat} {a b c f : Int32} {e : Int64} {g : UInt32} : sDf (pGl (pHp (pWt (pGp (pPp (pNo σ i a) i b) i c) i e) i f) i g) i = ((sDf σ i).1, a, b, c, e, f, g) := by
  unfold pGl pHp pWt pGp pPp pNo
  rw [df_s, df_s, df_s, df_s, df_s, df_s]
theorem forget_n {σ : CS} {i k : Nat} {a b c f : Int32} {e : Int64} {g : UInt32} (h : k ≠ i) : sDf (pGl (pHp (pWt (pGp (pPp (pNo σ i a) i b) i c) i e) i f) i g) k = sDf σ k := by
  unfold pGl pHp pWt pGp pPp pNo
  rw [df_n h, df_n h, df_n h, df_n h, df_n h, df_n h]
theorem ok_quiet : OK_quiet Sim := by
  intro σ μ j x1 hj h
  unfold wX8_quiet wX8_refuse wX8_grant wX2_forget wX9_quiet
  rcases fits x1 8 with ⟨d, hd, rfl⟩ | h1
  · rw [nI_clamp (show d < 2 ^ 31 by omega)]
    have i8 : vp_in (nI d) 8 := vp_in_nI hd (by decide)
    refine e_isDrum hd (y1 ⟨i8, fun y ey => ⟨i8, ?_⟩⟩)
    refine m_isDrum hd (y1 ⟨i8, fun z ez => ⟨i8, i8, i8, i8, ?_⟩⟩)
    obtain ⟨a1, a2, a3, a4, a5, ⟨q, q1, q2, q3, q4⟩, a7, hh, h300, a8⟩ := h.2.2.2.2.2 d hd
    have hyz : z = y := by rw [ez, ey]; exact a2
    rw [hyz, ey, q2]
    refine m_told (by omega) ⟨rfl, rfl, h.2.1, h.2.2.1, h.2.2.2.1, h.2.2.2.2.1, fun d' hd' => ?_⟩
    by_cases hq : d' = d
    · subst hq
      have e1 : sDf (pRf (pGl (pHp (pWt (pGp (pPp (pNo σ d' (0 : Int32)) d' (0 : Int32)) d' (0 : Int32)) d' (0 : Int64)) d' (0 : Int32)) d' FP.fconst0) 0) d' = ((sDf σ d').1, 0, 0, 0, 0, 0, FP.fconst0) := forget_s
      unfold DrR
      rw [e1]
      exact ⟨a1, pk_us, pk_us, pk_us, pk_uLs, ⟨0, by omega, rfl, fun _ => ⟨rfl, rfl⟩, fun q => absurd rfl q⟩, fin23_0, hh, h300, a8⟩
    · have e1 : sDf (pRf (pGl (pHp (pWt (pGp (pPp (pNo σ d (0 : Int32)) d (0 : Int32)) d (0 : Int32)) d (0 : Int64)) d (0 : Int32)) d FP.fconst0) 0) d' = sDf σ d' := forget_n hq
      obtain ⟨b1, b2, b3, b4, b5, b6⟩ := (h.2.2.2.2.2 d' hd').mono (Nat.le_succ j)
      unfold DrR
      rw [e1]
      exact ⟨b1, (pk_un hq).trans b2, (pk_un hq).trans b3, (pk_un hq).trans b4, (pk_uLn hq).trans b5, b6⟩
  · exact f_isDrum h1 (y0 (n_isDrum h1 (y0 (n_told neg1 ⟨rfl, h.st _⟩))))
theorem ok_heard : OK_heard Sim := by
  intro σ μ j x1 x2 hj h
  unfold wX8_heard wX8_refuse wX2_tally wX9_heard
  rcases fits x1 8 with ⟨d, hd, rfl⟩ | h1
  · rcases fits x2 7 with ⟨n, hn, rfl⟩ | h2
    · rw [nI_clamp (show d < 2 ^ 31 by omega)]
      have i8 : vp_in (nI d) 8 := vp_in_nI hd (by decide)
      obtain ⟨a1, a2, a3, a4, a5, ⟨q, q1, q2, q3, q4⟩, a7, hh, h300, a8⟩ := h.2.2.2.2.2 d hd
      have hs := h.st 0
      have hnt : (nI n).toInt = n := nI_toInt (by omega)
      rw [hnt]
      refine e_isDrum hd (z1 (e_up (N := 6) hn (by decide) (y1 ⟨i8, ?_⟩)))
      have W : ∀ (P : Int64 → MS → Prop), ((n : Int) < 0 ∨ 5 < (n : Int) → P (mHeads μ d).toInt64 (nState μ 0)) → ((n : Int) = 0 → P (mNotes μ d).toInt64 (nState μ 0)) → ((n : Int) = 1 → P (mPlayed μ d).toInt64 (nState μ 0)) → ((n : Int) = 2 → P (mGaps μ d).toInt64 (nState μ 0)) → ((n : Int) = 3 → P (mWts μ d) (nState μ 0)) → ((n : Int) = 4 → (¬ mNotes μ d = 0 → P (mHigh μ d).toInt64 (nState μ 0)) ∧ (mNotes μ d = 0 → P 0 (nState μ 0))) → ((n : Int) = 5 → (¬ mNotes μ d = 0 → P (mLoud μ d).toInt64 (nState μ 0)) ∧ (mNotes μ d = 0 → P 0 (nState μ 0))) → wX9_heard (nI d) (nI n) μ P := by
        intro P w0 w1 w2 w3 w4 w5 w6
        unfold wX9_heard
        rw [nI_clamp (show d < 2 ^ 31 by omega), hnt]
        exact m_isDrum hd (z1 (m_in (N := 6) hn (by decide) (y1 ⟨fun g => ⟨i8, w0 g⟩, fun g => ⟨i8, w1 g⟩, fun g => ⟨i8, w2 g⟩, fun g => ⟨i8, w3 g⟩, fun g => ⟨i8, w4 g⟩, fun g => ⟨i8, fun g2 => ⟨i8, (w5 g).1 g2⟩, (w5 g).2⟩, fun g => ⟨i8, fun g2 => ⟨i8, (w6 g).1 g2⟩, (w6 g).2⟩⟩)))
      have q0 : mNotes μ d = 0 ↔ q = 0 := by rw [a2, q2]; exact nI_eq (b := 0) (by omega) (by decide)
      have W2 : ∀ r : Int64, ((n : Int) < 0 ∨ 5 < (n : Int) → r = (mHeads μ d).toInt64) → ((n : Int) = 0 → r = (mNotes μ d).toInt64) → ((n : Int) = 1 → r = (mPlayed μ d).toInt64) → ((n : Int) = 2 → r = (mGaps μ d).toInt64) → ((n : Int) = 3 → r = mWts μ d) → ((n : Int) = 4 → (¬ mNotes μ d = 0 → r = (mHigh μ d).toInt64) ∧ (mNotes μ d = 0 → r = 0)) → ((n : Int) = 5 → (¬ mNotes μ d = 0 → r = (mLoud μ d).toInt64) ∧ (mNotes μ d = 0 → r = 0)) → wX9_heard (nI d) (nI n) μ (fun r' μ' => r = r' ∧ Sim (pRf σ 0) μ' (j + 1)) := by
        intro r w0 w1 w2 w3 w4 w5 w6
        exact W _ (fun g => ⟨w0 g, hs⟩) (fun g => ⟨w1 g, hs⟩) (fun g => ⟨w2 g, hs⟩) (fun g => ⟨w3 g, hs⟩) (fun g => ⟨w4 g, hs⟩) (fun g => ⟨fun g2 => ⟨(w5 g).1 g2, hs⟩, fun g2 => ⟨(w5 g).2 g2, hs⟩⟩) (fun g => ⟨fun g2 => ⟨(w6 g).1 g2, hs⟩, fun g2 => ⟨(w6 g).2 g2, hs⟩⟩)
      unfold wX9_heard at W2
      rw [nI_clamp (show d < 2 ^ 31 by omega), hnt] at W2
      refine ⟨fun g => W2 _ (fun _ => by rw [a1]) (fun q => ?_) (fun q => ?_) (fun q => ?_) (fun q => ?_) (fun q => ?_) (fun q => ?_), fun g => W2 _ (fun q => ?_) (fun _ => by rw [a2]) (fun q => ?_) (fun q => ?_) (fun q => ?_) (fun q => ?_) (fun q => ?_), fun g => W2 _ (fun q => ?_) (fun q => ?_) (fun _ => by rw [a3]) (fun q => ?_) (fun q => ?_) (fun q => ?_) (fun q => ?_), fun g => W2 _ (fun q => ?_) (fun q => ?_) (fun q => ?_) (fun _ => by rw [a4]) (fun q => ?_) (fun q => ?_) (fun q => ?_), fun g => W2 _ (fun q => ?_) (fun q => ?_) (fun q => ?_) (fun q => ?_) (fun _ => by rw [a5]) (fun q => ?_) (fun q => ?_), fun g => W2 _ (fun q => ?_) (fun q => ?_) (fun q => ?_) (fun q => ?_) (fun q => ?_) (fun _ => ⟨fun g2 => by rw [(q4 (fun e => g2 (q0.mpr e))).1], fun g2 => by
        have := (q3 (q0.mp g2)).1
        show ((sDf σ d).2.2.2.2.2.1).toInt64 = 0
        rw [this]; rfl⟩) (fun q => ?_), fun g => fl_bits a7 (W2 _ (fun q => ?_) (fun q => ?_) (fun q => ?_) (fun q => ?_) (fun q => ?_) (fun q => ?_) (fun _ => ⟨fun g2 => by rw [(q4 (fun e => g2 (q0.mpr e))).2], fun g2 => by
        have := (q3 (q0.mp g2)).2
        show ((sDf σ d).2.2.2.2.2.2).toInt32.toInt64 = 0
        rw [this]; rfl⟩))⟩ <;> (exfalso; omega)
    · exact e_isDrum hd (z1 (f_up (N := 6) (by decide) h2 (y0 (m_isDrum hd (z1 (n_in (N := 6) (by decide) h2 (y0 ⟨rfl, h.st _⟩)))))))
  · exact f_isDrum h1 (z0 (n_isDrum h1 (z0 ⟨rfl, h.st _⟩)))
