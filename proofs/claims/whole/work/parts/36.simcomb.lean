/-! ===== a comb, side by side; the start ===== -/
def CIv (σ : CS) (b k n te pl i : Nat) (σi : CS) (tt : Nat → Option Nat) : Prop := sCm σi b = some (nI k, n, te, tt) ∧ sSl σi = sSl σ ∧ sDf σi = sDf σ ∧ sCb σi = sCb σ ∧ (∀ b', b' ≠ b → sCm σi b' = sCm σ b') ∧ (∀ a x, sTk σ a = some x → sTk σi a = some x) ∧ (∀ i', i' < i → ∃ a z : Nat, tt i' = some a ∧ sTk σ a = none ∧ sTk σi a = some (k, pl, z, fun _ => 0)) ∧ (∀ i', i ≤ i' → tt i' = none) ∧ ∀ i1 i2 a, tt i1 = some a → tt i2 = some a → i1 = i2
theorem comb_class {σ : CS} {b k n te pl c : Nat} (hk : k < 5) (hn : n ≤ 40) (hpl : pl ≤ 40) (hc : c < 4) {Q : Int32 → CS → Prop} (hq : ∀ (σn : CS) (tt : Nat → Option Nat), CIv σ b k n te pl n σn tt → Q (nI n) (pRf (pCb σn c (some b)) 0)) : ∀ (m i : Nat) (σi : CS) (tt : Nat → Option Nat), i + m = n → CIv σ b k n te pl i σi tt → wX8_comb_b60 (nI c) (nI k) (nI n) (nI pl) Q (m + 1) b (nI i) σi := by
  intro m
  induction m with
  | zero =>
    intro i σi tt hi hv
    have : i = n := by omega
    subst this
    rw [wX8_comb_b60_s, nI_clamp (show c < 2 ^ 31 by omega)]
    exact ⟨fun _ => ⟨_, hv.1, vp_in_nI hc (by decide), hq σi tt hv⟩, fun q => absurd (nI_le (by omega) (by omega)) q⟩
  | succ m ih =>
    intro i σi tt hi hv
    rw [wX8_comb_b60_s]
    refine ⟨fun q => absurd q (nI_ge (by omega) (by omega)), fun _ => ⟨nI k, n, te, tt, hv.1, nI_pos (by omega), ?_, by decide, fun a z ha => ⟨a, _, rfl, if_pos rfl, nI k, n, tt, hv.1, vp_in_nI (by omega) (by omega), fun y ey => ?_⟩⟩⟩
    · rw [nI_clamp (show pl < 2 ^ 31 by omega)]; exact hpl
    · rw [ey, nI_1, kOf_nI hk, nI_clamp (show pl < 2 ^ 31 by omega), nI_clamp (show i < 2 ^ 31 by omega)]
      obtain ⟨v1, v2, v3, v4, v5, v6, v7, v8, v9⟩ := hv
      have hne : ∀ i', i' ≠ i → ∀ a', tt i' = some a' → a' ≠ a := by
        intro i' hi' a' ht' e
        subst e
        by_cases h1 : i' < i
        · obtain ⟨a2, z2, g1, g2, g3⟩ := v7 i' h1
          rw [ht'] at g1; cases g1
          rw [ha] at g3; cases g3
        · rw [v8 i' (by omega)] at ht'; cases ht'
      have hTk : ∀ a' x, sTk σi a' = some x → va_up (sTk σi) a (some (k, pl, z, fun _ => 0)) a' = some x := fun a' x hx => by
        have : a' ≠ a := fun q => by rw [q, ha] at hx; cases hx
        exact (if_neg this).trans hx
      refine ih (i + 1) _ (va_up tt i (some a)) (by omega) ⟨if_pos rfl, v2, v3, v4, fun b' hb' => (if_neg hb').trans (v5 b' hb'), fun a' x hx => hTk a' x (v6 a' x hx), fun i' hi' => ?_, fun i' hi' => ?_, fun i1 i2 a' g1 g2 => ?_⟩
      · by_cases h1 : i' = i
        · subst h1
          refine ⟨a, z, if_pos rfl, ?_, if_pos rfl⟩
          cases hx : sTk σ a with
          | none => rfl
          | some x => rw [v6 a x hx] at ha; cases ha
        · obtain ⟨a2, z2, g1, g2, g3⟩ := v7 i' (by omega)
          exact ⟨a2, z2, (if_neg h1).trans g1, g2, hTk _ _ g3⟩
      · exact (if_neg (by omega)).trans (v8 i' (by omega))
      · have g1 : (if i1 = i then some a else tt i1) = some a' := g1
        have g2 : (if i2 = i then some a else tt i2) = some a' := g2
        by_cases h1 : i1 = i <;> by_cases h2 : i2 = i
        · omega
        · rw [if_pos h1] at g1; rw [if_neg h2] at g2; cases g1; exact absurd rfl (hne i2 h2 a g2)
        · rw [if_neg h1] at g1; rw [if_pos h2] at g2; cases g2; exact absurd rfl (hne i1 h1 a g1)
        · rw [if_neg h1] at g1; rw [if_neg h2] at g2; exact v9 i1 i2 a' g1 g2
/-- the slots while the reference fills a comb -/
def oF (σ : CS) (c i : Nat) (tt : Nat → Option Nat) (s : Nat) : Option Nat := if 40 + 40 * c ≤ s ∧ s < 40 + 40 * c + 40 then (if s - (40 + 40 * c) < i then tt (s - (40 + 40 * c)) else none) else oslot σ s
theorem ok_comb : OK_comb Sim := by
  intro σ μ j x1 x2 x3 x4 hj h
  unfold wX8_comb wX8_refuse
  rcases fits x1 4 with ⟨c, hc, rfl⟩ | h1
  · rcases fits x2 5 with ⟨k, hk, rfl⟩ | h2
    · rcases fits x3 41 with ⟨n, hn, rfl⟩ | h3
      · rcases fits x4 41 with ⟨pl, hpl, rfl⟩ | h4
        · refine e_isComb hc (z1 (e_isKind hk (y1 (e_up (N := 40) hn (by decide) (z1 (e_up (N := 40) hpl (by decide) (y1 ⟨nI_pos (by omega), ?_, fun b te hb => ⟨n + 1, by omega, ?_⟩⟩)))))))
          · rw [nI_clamp (show n < 2 ^ 31 by omega)]; omega
          rw [nI_clamp (show n < 2 ^ 31 by omega)]
          have cc : (nI c).toNatClampNeg = c := nI_clamp (by omega)
          have i4 : vp_in (nI c) 4 := vp_in_nI hc (by decide)
          refine comb_class (σ := σ) (te := te) hk (by omega) (by omega) hc (fun σn tt hv => ?_) n 0 _ (fun _ => none) (by omega) ⟨if_pos rfl, rfl, rfl, rfl, fun b' hb' => if_neg hb', fun a x hx => hx, fun i' hi' => absurd hi' (by omega), fun _ _ => rfl, fun i1 i2 a g1 g2 => by cases g1⟩
          obtain ⟨v1, v2, v3, v4, v5, v6, v7, v8, v9⟩ := hv
          -- no comb of the old world is the new one
          have hbn : ∀ c', c' < 4 → sCb σ c' ≠ some b := by
            intro c' hc' e
            rcases h.2.2.2.1 c' hc' with ⟨g1, _⟩ | ⟨b', _, _, _, _, g1, g2, _⟩
            · rw [e] at g1; cases g1
            · rw [e] at g1; cases g1
              rw [hb] at g2; cases g2
          have hcbS : ∀ c', c' ≠ c → sCb (pRf (pCb σn c (some b)) 0) c' = sCb σ c' := fun c' hne => by
            rw [show sCb (pRf (pCb σn c (some b)) 0) c' = sCb σn c' from if_neg hne, v4]
          have hcm : ∀ c', c' < 4 → c' ≠ c → cmOf (pRf (pCb σn c (some b)) 0) c' = cmOf σ c' := by
            intro c' hc' hne
            unfold cmOf
            rw [hcbS c' hne]
            cases hx : sCb σ c' with
            | none => rfl
            | some b' => exact v5 b' (fun q => hbn c' hc' (by rw [hx, q]))
          have hcc : cmOf (pRf (pCb σn c (some b)) 0) c = some (nI k, n, te, tt) := by
            rw [cmOf_some (σ := pRf (pCb σn c (some b)) 0) (b := b) (if_pos rfl)]
            exact v1
          have hout : ∀ s, s < 200 → ¬ (40 + 40 * c ≤ s ∧ s < 40 + 40 * c + 40) → oslot (pRf (pCb σn c (some b)) 0) s = oslot σ s ∧ kslot (pRf (pCb σn c (some b)) 0) s = kslot σ s := by
            intro s hs hq
            unfold oslot kslot
            by_cases h4 : s < 40
            · rw [if_pos h4, if_pos h4, if_pos h4, if_pos h4]
              exact ⟨by rw [show sSl (pRf (pCb σn c (some b)) 0) = sSl σ from v2], rfl⟩
            · rw [if_neg h4, if_neg h4, if_neg h4, if_neg h4, hcm _ (by omega) (by omega)]
              exact ⟨rfl, rfl⟩
          have hTf : ∀ a x, sTk σ a = some x → sTk (pRf (pCb σn c (some b)) 0) a = some x := v6
          obtain ⟨n0, hn0, e0, hg0⟩ : ∃ n0, n0 ≤ 40 ∧ mCT μ c = nI n0 ∧ ∀ t, n0 ≤ t → t < 40 → ttg (cmOf σ c) t = none := by
            rcases h.2.2.2.1 c hc with ⟨g1, g2, g3⟩ | ⟨b', k', n', te', tt', g1, g2, g3, g4, g5, g6⟩
            · exact ⟨0, by omega, g3, fun t _ _ => by rw [cmOf_none g1]; rfl⟩
            · exact ⟨n', g4, g6, fun t h1 h2 => by rw [cmOf_some g1, g2]; exact if_neg (show ¬ t < n' by omega)⟩
          unfold wX9_comb
          refine m_in (N := 3) hc (by decide) (z1 (m_isKind hk (y1 (m_in (N := 40) hn (by decide) (z1 (m_in (N := 40) hpl (by decide) (y1 (g_empties h.2.1 hc hn0 e0 (fun us te0 hU hte => ⟨i4, i4, n + 1, ?_⟩)))))))))
          rw [cc]
          have loop : ∀ (m i : Nat) (sz cl us te' : Nat → Int32) (ν : MS), i + m = n → UI (nTeeth (nUses (nCell (nSize ν sz) cl) us) te') → Core (oF σ c i tt) (kslot (pRf (pCb σn c (some b)) 0)) (sTk (pRf (pCb σn c (some b)) 0)) (slotv (nTeeth (nUses (nCell (nSize ν sz) cl) us) te')) sz cl → (∀ sz cl us te' : Nat → Int32, UI (nTeeth (nUses (nCell (nSize ν sz) cl) us) te') → Core (oF σ c n tt) (kslot (pRf (pCb σn c (some b)) 0)) (sTk (pRf (pCb σn c (some b)) 0)) (slotv (nTeeth (nUses (nCell (nSize ν sz) cl) us) te')) sz cl → Sim (pRf (pCb σn c (some b)) 0) (nState (nTeeth (nUses (nCell (nSize ν sz) cl) us) te') 0) (j + 1)) → ∀ v5 : Int32, wX9_comb_b74 (nI c) (nI k) (nI n) (nI pl) (fun r' μ' => nI n = r' ∧ Sim (pRf (pCb σn c (some b)) 0) μ' (j + 1)) (m + 1) v5 (nI i) (nTeeth (nUses (nCell (nSize ν sz) cl) us) te') := by
            intro m
            induction m with
            | zero =>
              intro i sz cl us te' ν hi hU hC hF v5
              have : i = n := by omega
              subst this
              rw [wX9_comb_b74_s]
              exact ⟨fun _ => m_told (by omega) ⟨rfl, hF sz cl us te' hU hC⟩, fun q => absurd (nI_le (by omega) (by omega)) q⟩
            | succ m ih =>
              intro i sz cl us te' ν hi hU hC hF v5
              rw [wX9_comb_b74_s]
              refine ⟨fun q => absurd q (nI_ge (by omega) (by omega)), fun _ => g_new9 hU (by omega) (fun t cl2 ht h0 hc1 hc2 => ?_)⟩
              refine g_tooth (μ := nCell (nSize (nTeeth (nUses (nCell (nSize ν sz) cl) us) te') (upd sz t (nI pl))) cl2) hU hc (by omega) (Or.inr ⟨t, ht, rfl⟩) (fun us2 hU2 y ey => ?_)
              rw [ey, nI_1]
              refine ih (i + 1) (upd sz t (nI pl)) cl2 us2 (upd te' (40 * c + i) (nI t)) ν (by omega) hU2 ?_ hF v5
              obtain ⟨a, z, g1, g2, g3⟩ := v7 i (by omega)
              have hsl : ∀ s, slotv (nTeeth (nUses (nCell (nSize ν (upd sz t (nI pl))) cl2) us2) (upd te' (40 * c + i) (nI t))) s = if s = 40 + (40 * c + i) then nI t else slotv (nTeeth (nUses (nCell (nSize ν sz) cl) us) te') s := fun s => slotv_nt (μ := nTeeth (nUses (nCell (nSize ν sz) cl) us) te') (us := us2) s
              refine Core.new hC (s := 40 + (40 * c + i)) (a := a) (t := t) (n := pl) (c := z) (f := fun _ => 0) (fun s' hs' hne => ⟨?_, (hsl s').trans (if_neg hne), rfl⟩) ?_ ((hsl _).trans (if_pos rfl)) ht ?_ (fun _ _ => rfl) (by omega) (fun s' hs' => ?_) (fun s' hs' e => ?_) (fun t' => rfl) hc1 hc2
              · unfold oF
                by_cases hq : 40 + 40 * c ≤ s' ∧ s' < 40 + 40 * c + 40
                · rw [if_pos hq, if_pos hq]
                  by_cases hq2 : s' - (40 + 40 * c) < i
                  · rw [if_pos hq2, if_pos (by omega)]
                  · rw [if_neg hq2, if_neg (by omega)]
                · rw [if_neg hq, if_neg hq]
              · unfold oF
                rw [if_pos (by omega), if_pos (by omega), show 40 + (40 * c + i) - (40 + 40 * c) = i by omega, g1]
              · have hkd : kslot (pRf (pCb σn c (some b)) 0) (40 + (40 * c + i)) = k := by
                  rw [kslot_t _ (by omega), hcc]
                  exact nI_clamp (by omega)
                rw [hkd]; exact g3
              · intro e
                unfold oF at e
                by_cases hq : 40 + 40 * c ≤ s' ∧ s' < 40 + 40 * c + 40
                · rw [if_pos hq] at e
                  by_cases hq2 : s' - (40 + 40 * c) < i
                  · rw [if_pos hq2] at e
                    have := v9 _ _ a e g1
                    omega
                  · rw [if_neg hq2] at e; cases e
                · rw [if_neg hq] at e
                  exact h.2.2.1.fresh g2 hs' e
              · have := cnt_pos.mpr ⟨s', hs', e⟩
                omega
          refine loop n 0 (mSize μ) (mCell μ) us te0 (nCT (nCK (nCK (nCT (nTeeth (nUses μ us) te0) (upd (mCT μ) c 0)) (upd (mCK μ) c (-1))) (upd (upd (mCK μ) c (-1)) c (nI k))) (upd (upd (mCT μ) c 0) c (nI n))) (by omega) hU ?_ (fun sz cl us' te' hU' hC' => ?_) (nI n0)
          · refine Core.tk (T := sTk σ) (Core.gone h.2.2.1 hc (n := n0) hg0 (fun s hs hq => ⟨if_neg hq, ?_, (hout s hs hq).2⟩) (fun s h1 h2 => ?_) (fun t ht => ?_)) hTf
            · unfold slotv
              by_cases h4 : s < 40
              · rw [if_pos h4, if_pos h4]
              · rw [if_neg h4, if_neg h4]
                exact (hte _).trans (if_neg (by omega))
            · unfold oF
              rw [if_pos ⟨h1, h2⟩, if_neg (by omega)]
            · rw [slotv_t, slotv_t]
              refine (hte _).trans ?_
              by_cases htn : t < n0
              · rw [if_pos htn, if_pos (by omega)]
              · rw [if_neg htn, if_neg (by omega)]
          · refine ⟨rfl, hU', ?_, fun c' hc' => ?_, fun c1 c2 b' h1 h2 g1 g2 => ?_, fun d hd => ?_⟩
            · refine Core.map hC' (fun s hs => Or.inr ⟨s, hs, ?_, rfl, rfl⟩)
              unfold oF
              by_cases hq : 40 + 40 * c ≤ s ∧ s < 40 + 40 * c + 40
              · rw [if_pos hq]
                obtain ⟨t, ht, e⟩ : ∃ t, t < 40 ∧ s = 40 + (40 * c + t) := ⟨s - 40 - 40 * c, by omega, by omega⟩
                subst e
                rw [oslot_t _ ht, hcc, show 40 + (40 * c + t) - (40 + 40 * c) = t by omega]
                rfl
              · rw [if_neg hq]; exact (hout s hs hq).1
            · by_cases hq : c' = c
              · subst hq
                exact Or.inr ⟨b, k, n, te, tt, if_pos rfl, v1, hk, by omega, pk_us, pk_us⟩
              · rcases h.2.2.2.1 c' hc' with ⟨g1, g2, g3⟩ | ⟨b', k', n', te2, tt2, g1, g2, g3, g4, g5, g6⟩
                · exact Or.inl ⟨(hcbS c' hq).trans g1, (pk_un hq).trans ((pk_un hq).trans g2), (pk_un hq).trans ((pk_un hq).trans g3)⟩
                · refine Or.inr ⟨b', k', n', te2, tt2, (hcbS c' hq).trans g1, (v5 b' (fun q => hbn c' hc' (by rw [g1, q]))).trans g2, g3, g4, (pk_un hq).trans ((pk_un hq).trans g5), (pk_un hq).trans ((pk_un hq).trans g6)⟩
            · by_cases q1 : c1 = c <;> by_cases q2 : c2 = c
              · omega
              · rw [show sCb (pRf (pCb σn c (some b)) 0) c1 = some b from if_pos q1] at g1
                cases g1
                rw [hcbS c2 q2] at g2
                exact absurd g2 (hbn c2 h2)
              · rw [show sCb (pRf (pCb σn c (some b)) 0) c2 = some b from if_pos q2] at g2
                cases g2
                rw [hcbS c1 q1] at g1
                exact absurd g1 (hbn c1 h1)
              · rw [hcbS c1 q1] at g1
                rw [hcbS c2 q2] at g2
                exact h.2.2.2.2.1 c1 c2 b' h1 h2 g1 g2
            · have hd2 := (h.2.2.2.2.2 d hd).mono (Nat.le_succ j)
              unfold DrR at hd2 ⊢
              rw [show sDf (pRf (pCb σn c (some b)) 0) = sDf σ from v3]
              exact hd2
        · exact e_isComb hc (z1 (e_isKind hk (y1 (e_up (N := 40) hn (by decide) (z1 (f_up (N := 40) (by decide) h4 (y0 (m_in (N := 3) hc (by decide) (z1 (m_isKind hk (y1 (m_in (N := 40) hn (by decide) (z1 (n_in (N := 40) (by decide) h4 (y0 (n_told neg4 ⟨rfl, h.st _⟩))))))))))))))))
      · exact e_isComb hc (z1 (e_isKind hk (y1 (f_up (N := 40) (by decide) h3 (z0 (m_in (N := 3) hc (by decide) (z1 (m_isKind hk (y1 (n_in (N := 40) (by decide) h3 (z0 (n_told neg4 ⟨rfl, h.st _⟩))))))))))))
    · exact e_isComb hc (z1 (f_isKind h2 (y0 (m_in (N := 3) hc (by decide) (z1 (n_isKind h2 (y0 (n_told neg1 ⟨rfl, h.st _⟩))))))))
  · exact f_isComb h1 (z0 (n_in (N := 3) (by decide) h1 (z0 (n_told neg1 ⟨rfl, h.st _⟩))))
theorem ok_all : OK_all Sim := ⟨ok_cut, ok_strip, ok_share, ok_places, ok_read, ok_write, ok_turn, ok_head, ok_play, ok_heard, ok_quiet, ok_comb, ok_drop, ok_about, ok_loosen, ok_hang, ok_fit, ok_cell, ok_set, ok_twist, ok_state⟩
theorem sim_init (P : MS → Prop) (hP : ∀ μ, Sim σ0 μ 0 → P μ) : wX9_init μ0 P := by
  have l3 : ∀ (m i : Nat) (dr te ck : Nat → Int32), i + m = 4 → (∀ z, z < 40 → dr z = -1) → (∀ z, z < 160 → te z = -1) → (∀ z, z < i → ck z = -1) → wX9_init_b162 P (m + 1) (nI i) (nCK (nTeeth (nDrums μ0 dr) te) ck) := by
    intro m
    induction m with
    | zero =>
      intro i dr te ck hi h1 h2 h3
      rw [wX9_init_b162_s]
      refine ⟨fun _ => hP _ ?_, fun q => absurd ((nI_leI (a := 4) (by decide) (by omega)).mpr (by omega)) q⟩
      have hs : ∀ s, s < 200 → slotv (nCK (nTeeth (nDrums μ0 dr) te) ck) s = -1 := by
        intro s hs
        unfold slotv
        by_cases h4 : s < 40
        · rw [if_pos h4]; exact h1 s h4
        · rw [if_neg h4]; exact h2 _ (by omega)
      refine ⟨rfl, ⟨fun t ht => ?_, fun s h => Or.inl (hs s h)⟩, ⟨fun _ => 0, fun s h => Or.inl ⟨?_, hs s h⟩, fun s t h ht e => ?_, fun s s' t t' h _ ht _ e => ?_⟩, fun c hc => Or.inl ⟨rfl, h3 c (by omega), rfl⟩, fun c c' b _ _ e => (by cases e), fun d hd => ⟨rfl, rfl, rfl, rfl, rfl, ⟨0, by omega, rfl, fun _ => ⟨rfl, rfl⟩, fun q => absurd rfl q⟩, fin23_0, 0, by omega, rfl⟩⟩
      · have : cnt (nCK (nTeeth (nDrums μ0 dr) te) ck) t = 0 := fb_ct_zero.mpr (fun s h => decide_eq_false (by rw [hs s h]; exact fun e => nI_m1 (by omega) e.symm))
        rw [this]; rfl
      · unfold oslot
        by_cases h4 : s < 40
        · rw [if_pos h4]
        · rw [if_neg h4]; rfl
      · rw [hs s h] at e; exact absurd e.symm (nI_m1 (by omega))
      · rw [hs s h] at e; exact absurd e.symm (nI_m1 (by omega))
    | succ m ih =>
      intro i dr te ck hi h1 h2 h3
      rw [wX9_init_b162_s]
      refine ⟨fun q => absurd ((nI_leI (a := 4) (by decide) (by omega)).mp q) (by omega), fun _ => ⟨vp_in_nI (by omega) (by decide), fun y ey => ?_⟩⟩
      rw [ey, nI_1, nI_clamp (show i < 2 ^ 31 by omega)]
      refine ih (i + 1) dr te (upd ck i (-1)) (by omega) h1 h2 (fun z hz => ?_)
      by_cases hq : z = i
      · subst hq; exact pk_us
      · rw [pk_un hq]; exact h3 z (by omega)
  have l2 : ∀ (m i : Nat) (dr te : Nat → Int32), i + m = 160 → (∀ z, z < 40 → dr z = -1) → (∀ z, z < i → te z = -1) → wX9_init_b140 P (m + 1) (nI i) (nTeeth (nDrums μ0 dr) te) := by
    intro m
    induction m with
    | zero =>
      intro i dr te hi h1 h2
      rw [wX9_init_b140_s]
      exact ⟨fun _ => ⟨5, l3 4 0 dr te (fun _ => 0) (by omega) h1 (fun z hz => h2 z (by omega)) (fun z hz => absurd hz (by omega))⟩, fun q => absurd ((nI_leI (a := 160) (by decide) (by omega)).mpr (by omega)) q⟩
    | succ m ih =>
      intro i dr te hi h1 h2
      rw [wX9_init_b140_s]
      refine ⟨fun q => absurd ((nI_leI (a := 160) (by decide) (by omega)).mp q) (by omega), fun _ => ⟨vp_in_nI (by omega) (by decide), fun y ey => ?_⟩⟩
      rw [ey, nI_1, nI_clamp (show i < 2 ^ 31 by omega)]
      refine ih (i + 1) dr (upd te i (-1)) (by omega) h1 (fun z hz => ?_)
      by_cases hq : z = i
      · subst hq; exact pk_us
      · rw [pk_un hq]; exact h2 z (by omega)
  have l1 : ∀ (m i : Nat) (dr : Nat → Int32), i + m = 40 → (∀ z, z < i → dr z = -1) → wX9_init_b119 P (m + 1) (nI i) (nDrums μ0 dr) := by
    intro m
    induction m with
    | zero =>
      intro i dr hi h1
      rw [wX9_init_b119_s]
      exact ⟨fun _ => ⟨161, l2 160 0 dr (fun _ => 0) (by omega) (fun z hz => h1 z (by omega)) (fun z hz => absurd hz (by omega))⟩, fun q => absurd ((nI_leI (a := 40) (by decide) (by omega)).mpr (by omega)) q⟩
    | succ m ih =>
      intro i dr hi h1
      rw [wX9_init_b119_s]
      refine ⟨fun q => absurd ((nI_leI (a := 40) (by decide) (by omega)).mp q) (by omega), fun _ => ⟨vp_in_nI (by omega) (by decide), fun y ey => ?_⟩⟩
      rw [ey, nI_1, nI_clamp (show i < 2 ^ 31 by omega)]
      refine ih (i + 1) (upd dr i (-1)) (by omega) (fun z hz => ?_)
      by_cases hq : z = i
      · subst hq; exact pk_us
      · rw [pk_un hq]; exact h1 z (by omega)
  exact ⟨41, l1 40 0 (fun _ => 0) (by omega) (fun z hz => absurd hz (by omega))⟩
