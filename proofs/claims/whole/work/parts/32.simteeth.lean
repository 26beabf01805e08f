/-! ===== the calls, side by side: combs and teeth ===== -/
theorem Sim.setT {σ : CS} {μ : MS} {j : Nat} (h : Sim σ μ j) {c t b k n te : Nat} {tt : Nat → Option Nat} (hc : c < 4) (ht : t < n) (e1 : sCb σ c = some b) (e2 : sCm σ b = some (nI k, n, te, tt)) (hk : k < 5) (hn : n ≤ 40) {o : Option Nat} {v : Int32} {us : Nat → Int32} (hU : UI (nTeeth (nUses μ us) (upd (mTeeth μ) (40 * c + t) v))) (ho : (o = none ∧ v = -1) ∨ ∃ s0, s0 < 200 ∧ o = oslot σ s0 ∧ v = slotv μ s0 ∧ k = kslot σ s0) : Sim (pRf (pCm σ b (nI k, n, te, va_up tt t o)) 0) (nState (nTeeth (nUses μ us) (upd (mTeeth μ) (40 * c + t) v)) 0) (j + 1) := by
  refine ⟨rfl, hU, ?_, fun c' hc' => ?_, h.2.2.2.2.1, fun d hd => (h.2.2.2.2.2 d hd).mono (by omega)⟩
  · refine Core.map h.2.2.1 (fun s hs => ?_)
    obtain ⟨f1, f2⟩ := oslot_pCm (o := o) h.2.2.2.2.1 hc ht hn e1 e2 hs
    by_cases hq : s = 40 + (40 * c + t)
    · have g1 : oslot (pRf (pCm σ b (nI k, n, te, va_up tt t o)) 0) s = o := f1.trans (if_pos hq)
      have g2 : slotv (nState (nTeeth (nUses μ us) (upd (mTeeth μ) (40 * c + t) v)) 0) s = v := (slotv_nt s).trans (if_pos hq)
      rcases ho with ⟨a, b⟩ | ⟨s0, hs0, a1, a2, a3⟩
      · exact Or.inl ⟨g1.trans a, g2.trans b⟩
      · refine Or.inr ⟨s0, hs0, g1.trans a1, g2.trans a2, ?_⟩
        refine Eq.trans f2 (Eq.trans ?_ a3)
        rw [hq, kslot_t σ (by omega), cmOf_some e1, e2]
        exact nI_clamp (by omega)
    · exact Or.inr ⟨s, hs, f1.trans (if_neg hq), (slotv_nt s).trans (if_neg hq), f2⟩
  · rcases h.2.2.2.1 c' hc' with hh | ⟨b', k', n', te', tt', g1, g2, g3⟩
    · exact Or.inl hh
    · by_cases hq : b' = b
      · subst hq
        rw [e2] at g2
        injection g2 with g2
        injection g2 with w1 g2
        injection g2 with w2 g2
        subst w2
        exact Or.inr ⟨b', k', n, te, va_up tt t o, g1, by rw [← w1]; exact if_pos rfl, g3⟩
      · exact Or.inr ⟨b', k', n', te', tt', g1, (if_neg hq).trans g2, g3⟩
theorem ok_loosen : OK_loosen Sim := by
  intro σ μ j x1 x2 hj h
  unfold wX8_loosen wX8_refuse wX8_grant wX9_loosen
  rcases h.tooth x1 x2 with ⟨c, t, b, k, n, te, tt, hc, rfl, ht, rfl, e1, e2, hk, hn, e3, e4, r1, r2⟩ | ⟨r1, r2⟩
  · rw [nI_clamp (show t < 2 ^ 31 by omega), ix40, nI_clamp (show 40 * c + t < 2 ^ 31 by omega)]
    have i1 : vp_in (nI t) n := vp_in_nI ht (by omega)
    refine r1 _ ⟨fun q => (by cases q), fun a ha => ?_⟩
    cases ha
    refine ⟨nI k, n, te, tt, e2, i1, fun o ho => ?_⟩
    subst ho
    rcases h.tth hc ht e1 e2 hk hn with ⟨g1, g2⟩ | ⟨a, u, m, z, f, g1, hu, g2, g3, hm, g4, _, _⟩
    · refine ⟨fun _ => ?_, fun a ha => (by rw [g1] at ha; cases ha)⟩
      refine r2 _ (y1 ⟨vp_in_nI (by omega) (by decide), fun y ey => ?_⟩)
      rw [ey, g2]
      exact ⟨fun q => absurd q neg1, fun _ => n_told neg2 ⟨rfl, h.st _⟩⟩
    · refine ⟨fun q => (by rw [g1] at q; cases q), fun a' ha => ?_⟩
      rw [g1] at ha
      cases ha
      refine ⟨nI k, n, te, tt, e2, i1, k, m, z, f, g3, ?_⟩
      refine r2 _ (y1 ⟨vp_in_nI (by omega) (by decide), fun y ey => ?_⟩)
      rw [ey, g2]
      refine ⟨fun _ => g_tooth h.2.1 hc (by omega) (Or.inl rfl) (fun us hU => ⟨vp_in_nI hu (by decide), ?_⟩), fun q => absurd (nI_0le (by omega)) q⟩
      rw [nI_clamp (show u < 2 ^ 31 by omega), show mSize (nTeeth (nUses μ us) (upd (mTeeth μ) (40 * c + t) (-1))) u = nI m from g4]
      exact m_told (by omega) ⟨rfl, h.setT hc ht e1 e2 hk hn hU (Or.inl ⟨rfl, rfl⟩)⟩
  · exact r1 _ ⟨fun _ => r2 _ (y0 (n_told neg1 ⟨rfl, h.st _⟩)), fun a ha => (by cases ha)⟩
theorem ok_fit : OK_fit Sim := by
  intro σ μ j x1 x2 x3 hj h
  unfold wX8_fit wX8_refuse wX8_grant wX9_fit
  rcases h.tooth x1 x2 with ⟨c, t, b, k, n, te, tt, hc, rfl, ht, rfl, e1, e2, hk, hn, e3, e4, r1, r2⟩ | ⟨r1, r2⟩
  · rcases fits x3 8 with ⟨d, hd, rfl⟩ | h3
    · rw [nI_clamp (show t < 2 ^ 31 by omega), ix40, nI_clamp (show 40 * c + t < 2 ^ 31 by omega), nI_clamp (show d < 2 ^ 31 by omega), nI_clamp (show c < 2 ^ 31 by omega)]
      have i1 : vp_in (nI t) n := vp_in_nI ht (by omega)
      refine r1 _ ⟨fun q => (by cases q), fun a ha => ?_⟩
      cases ha
      refine e_isDrum hd (y1 ⟨nI k, n, te, tt, e2, i1, fun o ho => ?_⟩)
      subst ho
      rcases h.tth hc ht e1 e2 hk hn with ⟨g1, g2⟩ | ⟨a, u, m, z, f, g1, hu, g2, g3, hm, g4, _, _⟩
      · refine ⟨fun _ => ?_, fun a ha => (by rw [g1] at ha; cases ha)⟩
        refine r2 _ (z1 (m_isDrum hd (y1 ⟨vp_in_nI (by omega) (by decide), fun y ey => ?_⟩)))
        rw [ey, g2]
        exact ⟨fun q => absurd q neg1, fun _ => n_told neg2 ⟨rfl, h.st _⟩⟩
      · refine ⟨fun q => (by rw [g1] at q; cases q), fun a' ha => ?_⟩
        have ha2 := ha
        rw [g1] at ha
        cases ha
        refine ⟨vp_in_nI hd (by decide), nI k, n, te, tt, e2, (k, m, z, f), g3, vp_in_nI hk (by decide), k, m, z, f, g3, ?_⟩
        rw [nI_clamp (show k < 2 ^ 31 by omega)]
        refine r2 _ (z1 (m_isDrum hd (y1 ⟨vp_in_nI (by omega) (by decide), fun y ey => ?_⟩)))
        rw [ey, g2, e3]
        refine ⟨fun _ => ⟨vp_in_nI hc (by decide), g_drum h.2.1 hd hk (Or.inr ⟨u, hu, rfl⟩) (fun us hU => ⟨vp_in_nI hu (by decide), ?_⟩)⟩, fun q => absurd (nI_0le (by omega)) q⟩
        rw [nI_clamp (show u < 2 ^ 31 by omega), show mSize (nDrums (nUses μ us) (upd (mDrums μ) (5 * d + k) (nI u))) u = nI m from g4]
        refine m_told (by omega) ⟨rfl, h.setD hd hk hU (Or.inr ⟨40 + (40 * c + t), by omega, ?_, ?_, ?_⟩)⟩
        · rw [oslot_t σ (by omega), cmOf_some e1, e2]
          exact (ha2.symm.trans (if_pos ht).symm)
        · rw [slotv_t, g2]
        · rw [kslot_t σ (by omega), cmOf_some e1, e2]
          exact (nI_clamp (by omega)).symm
    · refine r1 _ ⟨fun q => (by cases q), fun a ha => ?_⟩
      cases ha
      exact f_isDrum h3 (y0 (r2 _ (z1 (n_isDrum h3 (y0 (n_told neg1 ⟨rfl, h.st _⟩))))))
  · exact r1 _ ⟨fun _ => r2 _ (z0 (n_told neg1 ⟨rfl, h.st _⟩)), fun a ha => (by cases ha)⟩
theorem ok_hang : OK_hang Sim := by
  intro σ μ j x1 x2 x3 hj h
  unfold wX8_hang wX8_refuse wX9_hang
  rcases h.tooth x1 x2 with ⟨c, t, b, k, n, te, tt, hc, rfl, ht, rfl, e1, e2, hk, hn, e3, e4, r1, r2⟩ | ⟨r1, r2⟩
  · rw [nI_clamp (show t < 2 ^ 31 by omega), nI_clamp (show c < 2 ^ 31 by omega)]
    have i1 : vp_in (nI t) n := vp_in_nI ht (by omega)
    refine r1 _ ⟨fun q => (by cases q), fun a ha => ?_⟩
    cases ha
    refine ⟨nI k, n, te, tt, e2, ?_⟩
    rcases h.tod x3 (nI k) with ⟨d, k', a, u, m, z, f, hd, hk', rfl, ek, g1, hu, g2, g3, hm, g4, g5, g6, r⟩ | ⟨d, k', hd, hk', rfl, ek, g1, g2, r⟩ | ⟨hx, r⟩
    · have := (nI_eq (by omega) (by omega)).mp ek
      subst this
      refine r _ ⟨fun q => (by cases q), fun a' ha => ?_⟩
      cases ha
      refine ⟨nI k, n, te, tt, e2, (k, m, z, f), g3, i1, k, m, z, f, g3, ?_⟩
      refine r2 _ (z1 (m_isDrum hd (y1 ⟨vp_in_nI hc (by decide), ?_⟩)))
      rw [e3, ix5, nI_clamp (show 5 * d + k < 2 ^ 31 by omega)]
      refine ⟨vp_in_nI (by omega) (by decide), fun y ey => ?_⟩
      rw [ey, g2]
      refine ⟨fun _ => g_tooth h.2.1 hc (by omega) (Or.inr ⟨u, hu, rfl⟩) (fun us hU => ⟨vp_in_nI hu (by decide), ?_⟩), fun q => absurd (nI_0le (by omega)) q⟩
      rw [nI_clamp (show u < 2 ^ 31 by omega), show mSize (nTeeth (nUses μ us) (upd (mTeeth μ) (40 * c + t) (nI u))) u = nI m from g4]
      refine m_told (by omega) ⟨rfl, h.setT hc ht e1 e2 hk hn hU (Or.inr ⟨5 * d + k, by omega, ?_, ?_, ?_⟩)⟩
      · rw [oslot_d σ hd hk, g1]
      · rw [slotv_d μ hd hk, g2]
      · rw [kslot_d σ hd hk]
    · have := (nI_eq (by omega) (by omega)).mp ek
      subst this
      refine r _ ⟨fun _ => ?_, fun a' ha => (by cases ha)⟩
      refine r2 _ (z1 (m_isDrum hd (y1 ⟨vp_in_nI hc (by decide), ?_⟩)))
      rw [e3, ix5, nI_clamp (show 5 * d + k < 2 ^ 31 by omega)]
      refine ⟨vp_in_nI (by omega) (by decide), fun y ey => ?_⟩
      rw [ey, g2]
      exact ⟨fun q => absurd q neg1, fun _ => n_told neg2 ⟨rfl, h.st _⟩⟩
    · refine r _ ⟨fun _ => ?_, fun a' ha => (by cases ha)⟩
      rcases hx with hx | ⟨d, hd, rfl, hy⟩
      · exact r2 _ (z1 (n_isDrum hx (y0 (n_told neg1 ⟨rfl, h.st _⟩))))
      · exact absurd rfl (hy k hk)
  · exact r1 _ ⟨fun _ => r2 _ (z0 (n_told neg1 ⟨rfl, h.st _⟩)), fun a ha => (by cases ha)⟩
theorem g_empties {μ : MS} {Q : Int32 → MS → Prop} (hU : UI μ) {c n : Nat} (hc : c < 4) (hn : n ≤ 40) (hT : mCT μ c = nI n) (hq : ∀ us te' : Nat → Int32, UI (nTeeth (nUses μ us) te') → (∀ i, te' i = if 40 * c ≤ i ∧ i < 40 * c + n then -1 else mTeeth μ i) → Q (nI n) (nCK (nCT (nTeeth (nUses μ us) te') (upd (mCT μ) c 0)) (upd (mCK μ) c (-1)))) : wX9_empties (nI c) μ Q := by
  have i4 : vp_in (nI c) 4 := vp_in_nI hc (by decide)
  have loop : ∀ (i2 i : Nat) (us te' : Nat → Int32), i + i2 = n → UI (nTeeth (nUses μ us) te') → (∀ z, te' z = if 40 * c ≤ z ∧ z < 40 * c + i then -1 else mTeeth μ z) → wX9_empties_b9 (nI c) Q (i2 + 1) (nI n) (nI i) (nTeeth (nUses μ us) te') := by
    intro i2
    induction i2 with
    | zero =>
      intro i us te' hi h1 h2
      have : i = n := by omega
      subst this
      rw [wX9_empties_b9_s, nI_clamp (show c < 2 ^ 31 by omega)]
      exact ⟨fun _ => ⟨i4, i4, hq us te' h1 h2⟩, fun q => absurd (nI_le (by omega) (by omega)) q⟩
    | succ i2 ih =>
      intro i us te' hi h1 h2
      rw [wX9_empties_b9_s]
      refine ⟨fun q => absurd q (nI_ge (by omega) (by omega)), fun _ => g_tooth h1 hc (by omega) (Or.inl rfl) (fun us2 hU2 y ey => ?_)⟩
      rw [ey, nI_1]
      refine ih (i + 1) us2 (upd te' (40 * c + i) (-1)) (by omega) hU2 (fun z => ?_)
      by_cases hz : z = 40 * c + i
      · subst hz; rw [pk_us, if_pos (by omega)]
      · rw [pk_un hz, h2 z]
        by_cases hz2 : 40 * c ≤ z ∧ z < 40 * c + i
        · rw [if_pos hz2, if_pos (by omega)]
        · rw [if_neg hz2, if_neg (by omega)]
  refine ⟨i4, fun y ey => ⟨n + 1, ?_⟩⟩
  rw [ey, nI_clamp (show c < 2 ^ 31 by omega), hT]
  exact loop n 0 (mUses μ) (mTeeth μ) (by omega) hU (fun z => by rw [if_neg (by omega)])
/-- a comb emptied: its slots -/
theorem Core.gone {σ : CS} {μ : MS} (h : CoreS σ μ) {c n : Nat} (hc : c < 4) (hnn : ∀ t, n ≤ t → t < 40 → ttg (cmOf σ c) t = none) {o' : Nat → Option Nat} {kd' : Nat → Nat} {v' : Nat → Int32} (ho : ∀ s, s < 200 → ¬ (40 + 40 * c ≤ s ∧ s < 40 + 40 * c + 40) → o' s = oslot σ s ∧ v' s = slotv μ s ∧ kd' s = kslot σ s) (hg : ∀ s, 40 + 40 * c ≤ s → s < 40 + 40 * c + 40 → o' s = none) (hv : ∀ t, t < 40 → v' (40 + (40 * c + t)) = if t < n then -1 else slotv μ (40 + (40 * c + t))) : Core o' kd' (sTk σ) v' (mSize μ) (mCell μ) := by
  refine Core.map h (fun s hs => ?_)
  by_cases hq : 40 + 40 * c ≤ s ∧ s < 40 + 40 * c + 40
  · refine Or.inl ⟨hg s hq.1 hq.2, ?_⟩
    obtain ⟨t, ht, e⟩ : ∃ t, t < 40 ∧ s = 40 + (40 * c + t) := ⟨s - 40 - 40 * c, by omega, by omega⟩
    subst e
    rw [hv t ht]
    by_cases htn : t < n
    · rw [if_pos htn]
    · rw [if_neg htn]
      rcases h.at hs with ⟨_, e⟩ | ⟨a, _, _, _, _, e, _⟩
      · exact e
      · rw [oslot_t σ ht, hnn t (by omega) ht] at e; cases e
  · obtain ⟨a1, a2, a3⟩ := ho s hs hq
    exact Or.inr ⟨s, hs, a1, a2, a3⟩
theorem ok_drop : OK_drop Sim := by
  intro σ μ j x1 hj h
  unfold wX8_drop wX8_refuse wX8_grant wX9_drop
  rcases h.comb x1 with ⟨c, b, k, n, te, tt, hc, rfl, e1, e2, hk, hn, e3, e4, r1, r2⟩ | ⟨r1, r2⟩
  · rw [nI_clamp (show c < 2 ^ 31 by omega)]
    refine r1 _ ⟨fun q => (by cases q), fun a ha => ?_⟩
    cases ha
    refine ⟨vp_in_nI hc (by decide), nI k, n, te, tt, e2, ?_⟩
    refine r2 _ (z1 (g_empties h.2.1 hc hn e4 (fun us te' hU ht' => m_told (by omega) ⟨rfl, rfl, hU, ?_, fun c' hc' => ?_, fun c1 c2 b' h1 h2 g1 g2 => ?_, fun d hd => (h.2.2.2.2.2 d hd).mono (by omega)⟩)))
    · refine Core.gone h.2.2.1 hc (n := n) (fun t h1 h2 => ?_) (fun s hs hq => ⟨?_, ?_, ?_⟩) (fun s h1 h2 => ?_) (fun t ht => ?_)
      · rw [cmOf_some e1, e2]; exact if_neg (show ¬ t < n by omega)
      · unfold oslot
        by_cases h4 : s < 40
        · rw [if_pos h4, if_pos h4]
        · rw [if_neg h4, if_neg h4]
          have hne : (s - 40) / 40 ≠ c := by omega
          unfold cmOf
          rw [show sCb (pRf (pCb σ c none) 0) ((s - 40) / 40) = sCb σ ((s - 40) / 40) from if_neg hne]
      · unfold slotv
        by_cases h4 : s < 40
        · rw [if_pos h4, if_pos h4]
        · rw [if_neg h4, if_neg h4]
          exact (ht' _).trans (if_neg (by omega))
      · unfold kslot
        by_cases h4 : s < 40
        · rw [if_pos h4, if_pos h4]
        · rw [if_neg h4, if_neg h4]
          have hne : (s - 40) / 40 ≠ c := by omega
          unfold cmOf
          rw [show sCb (pRf (pCb σ c none) 0) ((s - 40) / 40) = sCb σ ((s - 40) / 40) from if_neg hne]
      · unfold oslot
        rw [if_neg (by omega), show (s - 40) / 40 = c by omega, cmOf_none (σ := pRf (pCb σ c none) 0) (if_pos rfl)]
        rfl
      · rw [slotv_t, slotv_t]
        refine (ht' _).trans ?_
        by_cases htn : t < n
        · rw [if_pos htn, if_pos (by omega)]
        · rw [if_neg htn, if_neg (by omega)]
    · by_cases hq : c' = c
      · subst hq
        exact Or.inl ⟨if_pos rfl, pk_us, pk_us⟩
      · rcases h.2.2.2.1 c' hc' with ⟨g1, g2, g3⟩ | ⟨b', k', n', te', tt', g1, g2, g3, g4, g5, g6⟩
        · exact Or.inl ⟨(if_neg hq).trans g1, (pk_un hq).trans g2, (pk_un hq).trans g3⟩
        · exact Or.inr ⟨b', k', n', te', tt', (if_neg hq).trans g1, g2, g3, g4, (pk_un hq).trans g5, (pk_un hq).trans g6⟩
    · have key : ∀ z, sCb (pRf (pCb σ c none) 0) z = some b' → sCb σ z = some b' := by
        intro z hz
        by_cases hq : z = c
        · rw [show sCb (pRf (pCb σ c none) 0) z = none from if_pos hq] at hz; cases hz
        · rw [show sCb (pRf (pCb σ c none) 0) z = sCb σ z from if_neg hq] at hz; exact hz
      exact h.2.2.2.2.1 c1 c2 b' h1 h2 (key _ g1) (key _ g2)
  · exact r1 _ ⟨fun _ => r2 _ (z0 (n_told neg1 ⟨rfl, h.st _⟩)), fun a ha => (by cases ha)⟩
def lkc (tt : Nat → Option Nat) : Nat → Nat
  | 0 => 0
  | i + 1 => lkc tt i + (if tt i = none then 1 else 0)
def tsz (T : Nat → Option TK) : Option Nat → Nat
  | none => 0
  | some a => match T a with
    | none => 0
    | some x => x.2.1
def plc (T : Nat → Option TK) (tt : Nat → Option Nat) : Nat → Nat
  | 0 => 0
  | i + 1 => plc T tt i + tsz T (tt i)
theorem lkc_le (tt : Nat → Option Nat) : ∀ i, lkc tt i ≤ i
  | 0 => Nat.le_refl _
  | i + 1 => by
    have := lkc_le tt i
    show lkc tt i + (if tt i = none then 1 else 0) ≤ i + 1
    split <;> omega
theorem ok_about : OK_about Sim := by
  intro σ μ j x1 x2 hj h
  unfold wX8_about wX8_refuse wX8_grant wX9_about
  rcases h.comb x1 with ⟨c, b, k, n, te, tt, hc, rfl, e1, e2, hk, hn, e3, e4, r1, r2⟩ | ⟨r1, r2⟩
  · refine r1 _ ⟨fun q => (by cases q), fun a ha => ?_⟩
    cases ha
    rcases fits x2 4 with ⟨w, hw, rfl⟩ | h2
    · have F := fun t (ht : t < n) => h.tth hc ht e1 e2 hk hn
      have hpl : ∀ i, i ≤ n → plc (sTk σ) tt i ≤ 300 * i := by
        intro i
        induction i with
        | zero => intro _; exact Nat.le_refl _
        | succ i ih =>
          intro hi
          have h1 := ih (by omega)
          show plc (sTk σ) tt i + tsz (sTk σ) (tt i) ≤ 300 * (i + 1)
          have h2 : tsz (sTk σ) (tt i) ≤ 300 := by
            rcases F i (by omega) with ⟨g1, _⟩ | ⟨a, u, m, z, f, g1, _, _, g3, hm, _⟩
            · rw [g1]; show 0 ≤ 300; omega
            · rw [g1]; unfold tsz; simp only [g3]; exact hm
          omega
      have hlk := lkc_le tt n
      have hpn := hpl n (Nat.le_refl _)
      refine e_up (N := 3) hw (by decide) (y1 ⟨_, e2, ?_⟩)
      have i4 : vp_in (nI c) 4 := vp_in_nI hc (by decide)
      have cc : (nI c).toNatClampNeg = c := nI_clamp (by omega)
      have M : ∀ r : Nat, r < 2 ^ 31 → (w = 0 → r = k) → (w = 1 → r = n) → (w = 2 → r = lkc tt n) → (w = 3 → r = plc (sTk σ) tt n) → wX9_isComb (nI c) μ (fun r42 u43 => (r42 = 0 → wX9_told (-1 : Int32) u43 (fun r44 u45 => (fun r' μ' => nI r = r' ∧ Sim (pRf σ 0) μ' (j + 1)) r44 u45)) ∧ (¬ r42 = 0 → (wX9_in (nI w) (0 : Int32) (3 : Int32) u43 (fun r46 u47 => (¬ r46 = 0 → (∃ k31 : Nat, wX9_about_b31 (nI c) (nI w) (fun r' μ' => nI r = r' ∧ Sim (pRf σ 0) μ' (j + 1)) k31 (0 : Int32) (0 : Int32) (0 : Int32) u47)) ∧ (r46 = 0 → wX9_told (-1 : Int32) u47 (fun r62 u63 => (fun r' μ' => nI r = r' ∧ Sim (pRf σ 0) μ' (j + 1)) r62 u63)))))) := by
        intro r hr w0 w1 w2 w3
        have loop : ∀ (i2 i : Nat), i + i2 = n → wX9_about_b31 (nI c) (nI w) (fun r' μ' => nI r = r' ∧ Sim (pRf σ 0) μ' (j + 1)) (i2 + 1) (nI (lkc tt i)) (nI (plc (sTk σ) tt i)) (nI i) μ := by
          intro i2
          induction i2 with
          | zero =>
            intro i hi
            have : i = n := by omega
            subst this
            rw [wX9_about_b31_s, cc, e4, e3]
            refine ⟨i4, fun _ => ⟨fun q0 => ⟨fun q1 => ⟨fun q2 => ?_, fun q2 => ?_⟩, fun q1 => ⟨i4, ?_⟩⟩, fun q0 => ⟨i4, ?_⟩⟩, fun q => absurd (nI_le (by omega) (by omega)) q⟩
            · have : w = 3 := by
                rcases (show w = 0 ∨ w = 1 ∨ w = 2 ∨ w = 3 by omega) with rfl | rfl | rfl | rfl
                · exact absurd rfl q0
                · exact absurd rfl q1
                · exact absurd rfl q2
                · rfl
              rw [← w3 this]; exact m_told hr ⟨rfl, h.st _⟩
            · have : w = 2 := (nI_eq (b := 2) (by omega) (by decide)).mp q2
              rw [← w2 this]; exact m_told hr ⟨rfl, h.st _⟩
            · have : w = 1 := (nI_eq (b := 1) (by omega) (by decide)).mp q1
              rw [← w1 this]; exact m_told hr ⟨rfl, h.st _⟩
            · have : w = 0 := (nI_eq (b := 0) (by omega) (by decide)).mp q0
              rw [← w0 this]; exact m_told hr ⟨rfl, h.st _⟩
          | succ i2 ih =>
            intro i hi
            rw [wX9_about_b31_s, cc, e4, ix40, nI_clamp (show 40 * c + i < 2 ^ 31 by omega)]
            refine ⟨i4, fun q => absurd q (nI_ge (by omega) (by omega)), fun _ => ⟨vp_in_nI (by omega) (by decide), fun y ey => ?_⟩⟩
            have ih' := ih (i + 1) (by omega)
            rcases F i (by omega) with ⟨g1, g2⟩ | ⟨a, u, m, z, f, g1, hu, g2, g3, hm, g4, _, _⟩
            · rw [ey, g2]
              refine ⟨fun q => absurd q neg1, fun _ => ?_⟩
              intro y1 ey1
              refine ⟨fun q => absurd q neg1, fun _ y2 ey2 y3 ey3 => ?_⟩
              rw [ey1, ey2, ey3, nI_1, nI_1, Int32.add_zero]
              have l1 : lkc tt (i + 1) = lkc tt i + 1 := by show lkc tt i + (if tt i = none then 1 else 0) = _; rw [if_pos g1]
              have l2 : plc (sTk σ) tt (i + 1) = plc (sTk σ) tt i := by show plc (sTk σ) tt i + tsz (sTk σ) (tt i) = _; rw [g1]; rfl
              rw [l1, l2] at ih'
              exact ih'
            · rw [ey, g2]
              refine ⟨fun _ => ?_, fun q => absurd (nI_0le (by omega)) q⟩
              intro y1 ey1
              refine ⟨fun _ => ⟨vp_in_nI hu (by decide), fun y2 ey2 y3 ey3 => ?_⟩, fun q => absurd (nI_0le (by omega)) q⟩
              rw [nI_clamp (show u < 2 ^ 31 by omega), g4, nI_add] at ey2
              rw [ey1, ey2, ey3, nI_1, Int32.add_zero]
              have l1 : lkc tt (i + 1) = lkc tt i := by show lkc tt i + (if tt i = none then 1 else 0) = _; rw [if_neg (by rw [g1]; exact fun q => by cases q)]; rfl
              have l2 : plc (sTk σ) tt (i + 1) = plc (sTk σ) tt i + m := by show plc (sTk σ) tt i + tsz (sTk σ) (tt i) = _; rw [g1]; unfold tsz; simp only [g3]
              rw [l1, l2] at ih'
              exact ih'
        exact r2 _ (z1 (m_in (N := 3) hw (by decide) (y1 ⟨n + 1, loop n 0 (by omega)⟩)))
      have hnt : (nI w).toInt = w := nI_toInt (by omega)
      unfold wX1_tell
      rw [hnt]
      refine ⟨fun g => ⟨_, e2, n + 1, ?_⟩, fun g => ⟨nI k, n, te, tt, e2, M k (by omega) (fun _ => rfl) (fun q => by omega) (fun q => by omega) (fun q => by omega)⟩, fun g => ⟨nI k, n, te, tt, e2, M n (by omega) (fun q => by omega) (fun _ => rfl) (fun q => by omega) (fun q => by omega)⟩, fun g => ⟨_, e2, n + 1, ?_⟩⟩
      · have hM := M (plc (sTk σ) tt n) (by omega) (fun q => by omega) (fun q => by omega) (fun q => by omega) (fun _ => rfl)
        have loop : ∀ (i2 i : Nat), i + i2 = n → wX1_countPlaces_b4 b (fun r7 u8 => wX9_isComb (nI c) μ (fun r42 u43 => (r42 = 0 → wX9_told (-1 : Int32) u43 (fun r44 u45 => (fun r' μ' => r7 = r' ∧ Sim (pRf u8 0) μ' (j + 1)) r44 u45)) ∧ (¬ r42 = 0 → (wX9_in (nI w) (0 : Int32) (3 : Int32) u43 (fun r46 u47 => (¬ r46 = 0 → (∃ k31 : Nat, wX9_about_b31 (nI c) (nI w) (fun r' μ' => r7 = r' ∧ Sim (pRf u8 0) μ' (j + 1)) k31 (0 : Int32) (0 : Int32) (0 : Int32) u47)) ∧ (r46 = 0 → wX9_told (-1 : Int32) u47 (fun r62 u63 => (fun r' μ' => r7 = r' ∧ Sim (pRf u8 0) μ' (j + 1)) r62 u63))))))) (i2 + 1) (nI (plc (sTk σ) tt i)) (nI i) σ := by
          intro i2
          induction i2 with
          | zero =>
            intro i hi
            have : i = n := by omega
            subst this
            rw [wX1_countPlaces_b4_s]
            exact ⟨nI k, i, te, tt, e2, fun _ => hM, fun q => absurd (nI_le (by omega) (by omega)) q⟩
          | succ i2 ih =>
            intro i hi
            rw [wX1_countPlaces_b4_s]
            refine ⟨nI k, n, te, tt, e2, fun q => absurd q (nI_ge (by omega) (by omega)), fun _ => ⟨nI k, n, te, tt, e2, vp_in_nI (by omega) (by omega), fun o ho => ?_⟩⟩
            rw [nI_clamp (show i < 2 ^ 31 by omega)] at ho
            have ih' := ih (i + 1) (by omega)
            rcases F i (by omega) with ⟨g1, g2⟩ | ⟨a, u, m, z, f, g1, hu, g2, g3, hm, g4, _, _⟩
            · rw [ho, g1]
              refine ⟨fun _ y3 ey3 => ?_, fun a ha => (by cases ha)⟩
              have l2 : plc (sTk σ) tt (i + 1) = plc (sTk σ) tt i := by show plc (sTk σ) tt i + tsz (sTk σ) (tt i) = _; rw [g1]; rfl
              rw [ey3, nI_1, ← l2]; exact ih'
            · rw [ho, g1]
              refine ⟨fun q => (by cases q), fun a' ha => ?_⟩
              cases ha
              refine ⟨k, m, z, f, g3, fun y2 ey2 y3 ey3 => ?_⟩
              have l2 : plc (sTk σ) tt (i + 1) = plc (sTk σ) tt i + m := by show plc (sTk σ) tt i + tsz (sTk σ) (tt i) = _; rw [g1]; unfold tsz; simp only [g3]
              rw [ey2, ey3, nI_1, nI_add, ← l2]; exact ih'
        exact loop n 0 (by omega)
      · have hM := M (lkc tt n) (by omega) (fun q => by omega) (fun q => by omega) (fun _ => rfl) (fun q => by omega)
        have loop : ∀ (i2 i : Nat), i + i2 = n → wX1_countLacking_b4 b (fun r7 u8 => wX9_isComb (nI c) μ (fun r42 u43 => (r42 = 0 → wX9_told (-1 : Int32) u43 (fun r44 u45 => (fun r' μ' => r7 = r' ∧ Sim (pRf u8 0) μ' (j + 1)) r44 u45)) ∧ (¬ r42 = 0 → (wX9_in (nI w) (0 : Int32) (3 : Int32) u43 (fun r46 u47 => (¬ r46 = 0 → (∃ k31 : Nat, wX9_about_b31 (nI c) (nI w) (fun r' μ' => r7 = r' ∧ Sim (pRf u8 0) μ' (j + 1)) k31 (0 : Int32) (0 : Int32) (0 : Int32) u47)) ∧ (r46 = 0 → wX9_told (-1 : Int32) u47 (fun r62 u63 => (fun r' μ' => r7 = r' ∧ Sim (pRf u8 0) μ' (j + 1)) r62 u63))))))) (i2 + 1) (nI (lkc tt i)) (nI i) σ := by
          intro i2
          induction i2 with
          | zero =>
            intro i hi
            have : i = n := by omega
            subst this
            rw [wX1_countLacking_b4_s]
            exact ⟨nI k, i, te, tt, e2, fun _ => hM, fun q => absurd (nI_le (by omega) (by omega)) q⟩
          | succ i2 ih =>
            intro i hi
            rw [wX1_countLacking_b4_s]
            refine ⟨nI k, n, te, tt, e2, fun q => absurd q (nI_ge (by omega) (by omega)), fun _ => ⟨nI k, n, te, tt, e2, vp_in_nI (by omega) (by omega), fun o ho => ?_⟩⟩
            rw [nI_clamp (show i < 2 ^ 31 by omega)] at ho
            have ih' := ih (i + 1) (by omega)
            rcases F i (by omega) with ⟨g1, g2⟩ | ⟨a, u, m, z, f, g1, hu, g2, g3, hm, g4, _, _⟩
            · rw [ho, g1]
              refine ⟨fun _ y2 ey2 y3 ey3 => ?_, fun a ha => (by cases ha)⟩
              have l1 : lkc tt (i + 1) = lkc tt i + 1 := by show lkc tt i + (if tt i = none then 1 else 0) = _; rw [if_pos g1]
              rw [ey2, ey3, nI_1, nI_1, ← l1]; exact ih'
            · rw [ho, g1]
              refine ⟨fun q => (by cases q), fun a' ha y3 ey3 => ?_⟩
              have l1 : lkc tt (i + 1) = lkc tt i := by show lkc tt i + (if tt i = none then 1 else 0) = _; rw [if_neg (by rw [g1]; exact fun q => by cases q)]; rfl
              rw [ey3, nI_1, ← l1]; exact ih'
        exact loop n 0 (by omega)
    · exact f_up (N := 3) (by decide) h2 (y0 (r2 _ (z1 (n_in (N := 3) (by decide) h2 (y0 (n_told neg1 ⟨rfl, h.st _⟩))))))
  · exact r1 _ ⟨fun _ => r2 _ (z0 (n_told neg1 ⟨rfl, h.st _⟩)), fun a ha => (by cases ha)⟩
