/-! ===== playing: a place, the loop ===== -/
theorem place_step {σ : CS} {μ : MS} {j d B : Nat} (h : Rp σ μ j d B) (hd : d < 8) (hB : B < 1000000) {p : Nat} (hp : p ≤ 300) : ∃ (e : Nat) (σ' : CS) (μ' : MS), e ≤ 1 ∧ Rp σ' μ' j d (B + 1) ∧ (sDf σ' d).1 = (sDf σ d).1 ∧ (sDf σ' d).2.1 = (sDf σ d).2.1 + nI e ∧ (∀ Q : CS → Prop, Q σ' → wX2_playPlace d (nI p) σ Q) ∧ ∀ Q : Int32 → MS → Prop, Q (nI e) μ' → wX9_sounds (nI d) (nI p) μ Q := by
  have cd : (nI d).toNatClampNeg = d := nI_clamp (by omega)
  have i8 : vp_in (nI d) 8 := vp_in_nI hd (by decide)
  obtain ⟨r0, σ0', μ0', o0, h0, a0, b0, c0, m0⟩ := ask_step h hd (k := 0) (by omega) (by omega) hp (g := 1) rfl
  obtain ⟨r1, σ1, μ1, o1, h1, a1, b1, c1, m1⟩ := ask_step h0 hd (k := 1) (by omega) (by omega) hp (g := 60) rfl
  obtain ⟨r2, σ2, μ2, o2, h2, a2, b2, c2, m2⟩ := ask_step h1 hd (k := 2) (by omega) (by omega) hp (g := 1) rfl
  obtain ⟨r3, σ3, μ3, o3, h3, a3, b3, c3, m3⟩ := ask3_step h2 hd hp
  obtain ⟨r4, σ4, μ4, o4, h4, a4, b4, c4, m4⟩ := ask_step h3 hd (k := 4) (by omega) (by omega) hp (g := 0) rfl
  have h5 := h4.played
  rcases o0.1 rfl with e | e
  · refine ⟨0, _, _, by omega, h5.more, ?_, ?_, fun Q hq => ?_, fun Q hq => ?_⟩
    · rw [df_s]; show (sDf σ4 d).1 = _; rw [a4, a3, a2, a1, a0]
    · rw [df_s]; show (sDf σ4 d).2.1 = _; rw [b4, b3, b2, b1, b0]; exact (Int32.add_zero _).symm
    · exact c0 _ (c1 _ (c2 _ (c3 _ (c4 _ ⟨fun _ => hq, fun q => absurd q (by rw [e]; decide)⟩))))
    · refine m0 _ (m1 _ (m2 _ (m3 _ (m4 _ (fun y ey => ⟨i8, i8, fun q => absurd e q, fun _ => ?_⟩)))))
      rw [cd]; exact hq
  · obtain ⟨σ6, μ6, h6, a6, b6, c6, m6⟩ := sound_step h5 hd hB (r1 + r4) r2 r3 o3
    refine ⟨1, σ6, μ6, by omega, h6, ?_, ?_, fun Q hq => ?_, fun Q hq => ?_⟩
    · rw [a6, df_s]; show (sDf σ4 d).1 = _; rw [a4, a3, a2, a1, a0]
    · rw [b6, df_s]; show (sDf σ4 d).2.1 + 1 = _; rw [b4, b3, b2, b1, b0]; rfl
    · exact c0 _ (c1 _ (c2 _ (c3 _ (c4 _ ⟨fun q => absurd e q, fun _ => c6 _ hq⟩))))
    · refine m0 _ (m1 _ (m2 _ (m3 _ (m4 _ (fun y ey => ⟨i8, i8, fun _ => ⟨i8, i8, i8, ?_⟩, fun q => absurd q (by rw [e]; decide)⟩)))))
      subst ey
      rw [cd]
      exact m6 _ _ _ _ _ rfl hq
def Pres (σ : CS) (d p k : Nat) : Prop := ∃ (a n c : Nat) (f : Nat → Int32), sSl σ d k = some a ∧ sTk σ a = some (k, n, c, f) ∧ n ≤ 300 ∧ p < n
theorem PS.th {σ : CS} {μ : MS} {j d : Nat} (h : PS σ μ j d) (hd : d < 8) {k : Nat} (hk : k < 5) (p : Nat) (hp : p ≤ 300) : (Pres σ d p k ∧ ∀ Q : Int32 → MS → Prop, Q 1 μ → wX9_isThere (nI d) (nI k) (nI p) μ Q) ∨ (¬ Pres σ d p k ∧ (sSl σ d k = none ∨ ∃ (a n c : Nat) (f : Nat → Int32), sSl σ d k = some a ∧ sTk σ a = some (k, n, c, f) ∧ n ≤ 300 ∧ n ≤ p) ∧ ∀ Q : Int32 → MS → Prop, Q 0 μ → wX9_isThere (nI d) (nI k) (nI p) μ Q) := by
  rcases h.there hd hk p hp with ⟨a, t, n, c, f, e1, ht, e2, e3, hn, hpn, e5, e6, w⟩ | ⟨e1, w⟩
  · exact Or.inl ⟨⟨a, n, c, f, e1, e3, hn, hpn⟩, w⟩
  · refine Or.inr ⟨fun ⟨a, n, c, f, g1, g2, g3, g4⟩ => ?_, e1, w⟩
    rcases e1 with e1 | ⟨a', n', c', f', e1, e3, hn, hnp⟩
    · rw [g1] at e1; cases e1
    · rw [g1] at e1; cases e1
      rw [g2] at e3; cases e3
      omega
theorem has_yes {σ : CS} {μ : MS} {j d p : Nat} (h : PS σ μ j d) (hd : d < 8) (hp : p ≤ 300) (hany : ∃ k, k < 5 ∧ Pres σ d p k) {Q : Int32 → CS → Prop} (hq : Q 1 σ) : wX2_someTrackHas d (nI p) σ Q := by
  have loop : ∀ (m i : Nat), i + m = 5 → (∃ k, i ≤ k ∧ k < 5 ∧ Pres σ d p k) → wX2_someTrackHas_b2 d (nI p) Q (m + 1) (nI i) σ := by
    intro m
    induction m with
    | zero => intro i hi ⟨k, h1, h2, _⟩; omega
    | succ m ih =>
      intro i hi ⟨k, h1, h2, h3⟩
      rw [wX2_someTrackHas_b2_s]
      refine ⟨fun q => absurd ((nI_leI (a := 5) (by decide) (by omega)).mp q) (by omega), fun _ => ⟨vp_in_nI (by omega) (by decide), fun o ho => ?_⟩⟩
      rw [nI_clamp (show i < 2 ^ 31 by omega)] at ho
      rcases h.th hd (k := i) (by omega) p hp with ⟨⟨a, n, c, f, e1, e3, hn, hpn⟩, _⟩ | ⟨hno, e1, _⟩
      · rw [ho, e1]
        refine ⟨fun q => (by cases q), fun a' ha => ?_⟩
        cases ha
        exact p_hasY e3 hpn hn (z1 hq)
      · have hki : k ≠ i := fun q => hno (q ▸ h3)
        have ih' := ih (i + 1) (by omega) ⟨k, by omega, h2, h3⟩
        rcases e1 with e1 | ⟨a, n, c, f, e1, e3, hn, hnp⟩
        · rw [ho, e1]
          refine ⟨fun _ y ey => ?_, fun a ha => (by cases ha)⟩
          rw [ey, nI_1]; exact ih'
        · rw [ho, e1]
          refine ⟨fun q => (by cases q), fun a' ha => ?_⟩
          cases ha
          refine p_hasN e3 (nofitp hnp hp) hn (z0 (fun y ey => ?_))
          rw [ey, nI_1]; exact ih'
  obtain ⟨k, h1, h2⟩ := hany
  exact ⟨6, loop 5 0 (by omega) ⟨k, by omega, h1, h2⟩⟩
theorem has_no {σ : CS} {μ : MS} {j d p : Nat} (h : PS σ μ j d) (hd : d < 8) (hp : p ≤ 300) (hany : ∀ k, k < 5 → ¬ Pres σ d p k) {Q : Int32 → CS → Prop} (hq : Q 0 σ) : wX2_someTrackHas d (nI p) σ Q := by
  have loop : ∀ (m i : Nat), i + m = 5 → wX2_someTrackHas_b2 d (nI p) Q (m + 1) (nI i) σ := by
    intro m
    induction m with
    | zero =>
      intro i hi
      rw [wX2_someTrackHas_b2_s]
      exact ⟨fun _ => hq, fun q => absurd ((nI_leI (a := 5) (by decide) (by omega)).mpr (by omega)) q⟩
    | succ m ih =>
      intro i hi
      rw [wX2_someTrackHas_b2_s]
      refine ⟨fun q => absurd ((nI_leI (a := 5) (by decide) (by omega)).mp q) (by omega), fun _ => ⟨vp_in_nI (by omega) (by decide), fun o ho => ?_⟩⟩
      rw [nI_clamp (show i < 2 ^ 31 by omega)] at ho
      rcases h.th hd (k := i) (by omega) p hp with ⟨hy, _⟩ | ⟨hno, e1, _⟩
      · exact absurd hy (hany i (by omega))
      · have ih' := ih (i + 1) (by omega)
        rcases e1 with e1 | ⟨a, n, c, f, e1, e3, hn, hnp⟩
        · rw [ho, e1]
          refine ⟨fun _ y ey => ?_, fun a ha => (by cases ha)⟩
          rw [ey, nI_1]; exact ih'
        · rw [ho, e1]
          refine ⟨fun q => (by cases q), fun a' ha => ?_⟩
          cases ha
          refine p_hasN e3 (nofitp hnp hp) hn (z0 (fun y ey => ?_))
          rw [ey, nI_1]; exact ih'
  exact ⟨6, loop 5 0 (by omega)⟩
theorem b63_yes {σ : CS} {μ : MS} {j d p : Nat} (h : PS σ μ j d) (hd : d < 8) (hp : p ≤ 300) (hany : ∃ k, k < 5 ∧ Pres σ d p k) {x2 v3 v5 : Int32} {K : Int32 → Int32 → Int32 → MS → Prop} {Q : Int32 → MS → Prop} (hs : wX9_sounds (nI d) (nI p) μ (fun r68 u69 => (r68 = 0 → wX9_play_b123 (nI d) x2 K Q v3 (1 : Int32) v5 (nI p) (nI 5) (0 : Int32) v3 u69) ∧ (¬ r68 = 0 → wX9_play_b123 (nI d) x2 K Q v3 (1 : Int32) v5 (nI p) (nI 5) (1 : Int32) v3 u69))) : ∃ k63 : Nat, wX9_play_b63 (nI d) x2 K Q k63 v3 (0 : Int32) v5 (nI p) (0 : Int32) μ := by
  have loop : ∀ (m i : Nat) (v4 : Int32), i + m = 5 → (v4 = 1 ∨ (v4 = 0 ∧ ∃ k, i ≤ k ∧ k < 5 ∧ Pres σ d p k)) → wX9_play_b63 (nI d) x2 K Q (m + 1) v3 v4 v5 (nI p) (nI i) μ := by
    intro m
    induction m with
    | zero =>
      intro i v4 hi hv
      have : i = 5 := by omega
      subst this
      rcases hv with rfl | ⟨_, k, h1, h2, _⟩
      · rw [wX9_play_b63_s]
        exact ⟨fun _ => ⟨fun _ => hs, fun q => absurd q c10⟩, fun q => absurd ((nI_leI (a := 5) (by decide) (by decide)).mpr (by omega)) q⟩
      · omega
    | succ m ih =>
      intro i v4 hi hv
      rw [wX9_play_b63_s]
      refine ⟨fun q => absurd ((nI_leI (a := 5) (by decide) (by omega)).mp q) (by omega), fun _ => ⟨fun _ y ey => ?_, fun q4 => ?_⟩⟩
      · rw [ey, nI_1]; exact ih (i + 1) 1 (by omega) (Or.inl rfl)
      · rcases hv with rfl | ⟨rfl, k, h1, h2, h3⟩
        · exact absurd q4 c10
        · rcases h.th hd (k := i) (by omega) p hp with ⟨_, w⟩ | ⟨hno, _, w⟩
          · refine w _ (z1 (fun y ey => ?_))
            rw [ey, nI_1]; exact ih (i + 1) 1 (by omega) (Or.inl rfl)
          · have hki : k ≠ i := fun q => hno (q ▸ h3)
            refine w _ (z0 (fun y ey => ?_))
            rw [ey, nI_1]; exact ih (i + 1) 0 (by omega) (Or.inr ⟨rfl, k, by omega, h2, h3⟩)
  obtain ⟨k, h1, h2⟩ := hany
  exact ⟨6, loop 5 0 0 (by omega) (Or.inr ⟨rfl, k, by omega, h1, h2⟩)⟩
theorem b63_no {σ : CS} {μ : MS} {j d p : Nat} (h : PS σ μ j d) (hd : d < 8) (hp : p ≤ 300) (hany : ∀ k, k < 5 → ¬ Pres σ d p k) {x2 v3 v5 : Int32} {K : Int32 → Int32 → Int32 → MS → Prop} {Q : Int32 → MS → Prop} (hs : K v3 0 (v5 + 1) μ) : ∃ k63 : Nat, wX9_play_b63 (nI d) x2 K Q k63 v3 (0 : Int32) v5 (nI p) (0 : Int32) μ := by
  have loop : ∀ (m i : Nat), i + m = 5 → wX9_play_b63 (nI d) x2 K Q (m + 1) v3 0 v5 (nI p) (nI i) μ := by
    intro m
    induction m with
    | zero =>
      intro i hi
      rw [wX9_play_b63_s]
      exact ⟨fun _ => ⟨fun q => absurd rfl q, fun _ y ey => (by rw [ey]; exact hs)⟩, fun q => absurd ((nI_leI (a := 5) (by decide) (by omega)).mpr (by omega)) q⟩
    | succ m ih =>
      intro i hi
      rw [wX9_play_b63_s]
      refine ⟨fun q => absurd ((nI_leI (a := 5) (by decide) (by omega)).mp q) (by omega), fun _ => ⟨fun q => absurd rfl q, fun _ => ?_⟩⟩
      rcases h.th hd (k := i) (by omega) p hp with ⟨hy, _⟩ | ⟨hno, _, w⟩
      · exact absurd hy (hany i (by omega))
      · refine w _ (z0 (fun y ey => ?_))
        rw [ey, nI_1]; exact ih (i + 1) (by omega)
  exact ⟨6, loop 5 0 (by omega)⟩
theorem ok_play : OK_play Sim := by
  intro σ μ j x1 x2 hj h
  unfold wX8_play wX8_refuse wX8_grant wX2_playOn
  rcases fits x1 8 with ⟨d, hd, rfl⟩ | h1
  · rcases fits x2 21 with ⟨n, hn, rfl⟩ | h2
    · have cd : (nI d).toNatClampNeg = d := nI_clamp (by omega)
      have i8 : vp_in (nI d) 8 := vp_in_nI hd (by decide)
      rw [cd]
      refine e_isDrum hd (y1 (e_up (N := 20) hn (by decide) (y1 ⟨i8, fun y ey => ⟨n + 1, ?_⟩⟩)))
      have hR : Rp σ μ j d (20 * j + 0) := ⟨⟨h.2.1, h.2.2.1, h.2.2.2.1, h.2.2.2.2.1, fun d' hd' _ => h.2.2.2.2.2 d' hd'⟩, h.2.2.2.2.2 d hd⟩
      obtain ⟨_, _, _, _, _, ⟨q, q1, q2, _, _⟩, _, p0, hp0, ep0⟩ := hR.2
      rw [q2] at ey
      subst ey
      have loop : ∀ (m i e p : Nat) (σi : CS) (μi : MS), i + m = n → e ≤ i → p ≤ 300 → (sDf σi d).1 = nI p → (sDf σi d).2.1 = nI (q + e) → Rp σi μi j d (20 * j + i) → (∀ P : Int32 → MS → Prop, (∃ fu : Nat, wX9_play_b38 (nI d) (nI n) P fu (nI e) (1 : Int32) (nI i) μi) → wX9_play (nI d) (nI n) μ P) → wX2_playOn_b7 d (nI n) (fun r19 u20 => wX9_play (nI d) (nI n) μ (fun r' μ' => r19 = r' ∧ Sim (pRf u20 0) μ' (j + 1))) (m + 1) (nI q) (nI i) σi := by
        intro m
        induction m with
        | zero =>
          intro i e p σi μi hi he hp hp1 hn1 hr hb
          rw [wX2_playOn_b7_s]
          refine ⟨fun _ => ?_, fun q => absurd (nI_le (by omega) (by omega)) q⟩
          rw [hn1, pk_sub (by omega), show q + e - q = e by omega]
          refine hb _ ⟨1, ?_⟩
          rw [wX9_play_b38_s]
          refine ⟨fun _ => m_told (by omega) ⟨rfl, rfl, hr.1.1, hr.1.2.1, hr.1.2.2.1, hr.1.2.2.2.1, fun d' hd' => ?_⟩, fun q => absurd (nI_le (by omega) (by omega)) q⟩
          by_cases hq : d' = d
          · subst hq
            obtain ⟨b1, b2, b3, b4, b5, ⟨q', r1, r2⟩, b7⟩ := hr.2
            exact ⟨b1, b2, b3, b4, b5, ⟨q', by omega, r2⟩, b7⟩
          · exact (hr.1.2.2.2.2 d' hd' hq).mono (by omega)
        | succ m ih =>
          intro i e p σi μi hi he hp hp1 hn1 hr hb
          rw [wX2_playOn_b7_s]
          refine ⟨fun q => absurd q (nI_ge (by omega) (by omega)), fun _ => ?_⟩
          have hmh : mHeads μi d = nI p := hr.2.1.trans hp1
          rw [hp1]
          by_cases hany : ∃ k, k < 5 ∧ Pres σi d p k
          · refine has_yes hr.1 hd hp hany (z1 ?_)
            rw [hp1]
            obtain ⟨e', σ', μ', he', hr', a', b', c', m'⟩ := place_step hr hd (by omega) hp
            refine c' _ (fun y ey => ?_)
            have hp300 : p < 300 := by
              obtain ⟨k, _, a, n, c, f, _, _, g1, g2⟩ := hany
              omega
            obtain ⟨hr2, hh2⟩ := hr'.head (p := p) (a'.trans hp1) hp300
            rw [ey, nI_1]
            refine ih (i + 1) (e + e') (p + 1) _ (nHeads μ' (upd (mHeads μ') d ((mHeads μ' d) + (1 : Int32)))) (by omega) (by omega) (by omega) hh2 ?_ hr2 (fun P hP => ?_)
            · unfold pHd
              rw [df_s]
              show (sDf σ' d).2.1 = _
              rw [b', hn1, nI_add, Nat.add_assoc]
            · obtain ⟨fu, hfu⟩ := hP
              refine hb P ⟨fu + 1, ?_⟩
              rw [wX9_play_b38_s, cd, hmh]
              refine ⟨fun q => absurd q (nI_ge (by omega) (by omega)), fun _ => ⟨fun q => absurd q c10, fun _ => ⟨i8, fun y2 ey2 => ?_⟩⟩⟩
              subst ey2
              refine b63_yes hr.1 hd hp hany (m' _ ?_)
              have key : ∀ t0 : Int32, t0 = nI e' → wX9_play_b123 (nI d) (nI n) (wX9_play_b38 (nI d) (nI n) P fu) P (nI e) (1 : Int32) (nI i) (nI p) (nI 5) t0 (nI e) μ' := by
                intro t0 ht0
                subst ht0
                unfold wX9_play_b123
                rw [cd, nI_add, nI_1]
                intro y7 ey7
                refine ⟨i8, i8, fun y8 ey8 => ?_⟩
                rw [ey7, ey8]
                exact hfu
              rcases (show e' = 0 ∨ e' = 1 by omega) with rfl | rfl
              · exact z0 (key 0 rfl)
              · exact z1 (key 1 rfl)
          · have hno : ∀ k, k < 5 → ¬ Pres σi d p k := fun k hk hx => hany ⟨k, hk, hx⟩
            refine has_no hr.1 hd hp hno (z0 ?_)
            rw [hn1, pk_sub (by omega), show q + e - q = e by omega]
            refine hb _ ⟨2, ?_⟩
            have fin : wX9_told (nI e) μi (fun r' μ' => nI e = r' ∧ Sim (pRf σi 0) μ' (j + 1)) := by
              refine m_told (by omega) ⟨rfl, rfl, hr.1.1, hr.1.2.1, hr.1.2.2.1, hr.1.2.2.2.1, fun d' hd' => ?_⟩
              by_cases hq : d' = d
              · subst hq
                obtain ⟨b1, b2, b3, b4, b5, ⟨q', r1, r2⟩, b7⟩ := hr.2
                exact ⟨b1, b2, b3, b4, b5, ⟨q', by omega, r2⟩, b7⟩
              · exact (hr.1.2.2.2.2 d' hd' hq).mono (by omega)
            rw [wX9_play_b38_s, cd, hmh]
            refine ⟨fun q => absurd q (nI_ge (by omega) (by omega)), fun _ => ⟨fun q => absurd q c10, fun _ => ⟨i8, fun y2 ey2 => ?_⟩⟩⟩
            subst ey2
            refine b63_no hr.1 hd hp hno ?_
            rw [wX9_play_b38_s]
            exact ⟨fun _ => fin, fun _ => ⟨fun _ => fin, fun q => absurd rfl q⟩⟩
      refine loop n 0 0 p0 σ μ (by omega) (by omega) hp0 ep0 q2 hR (fun P hP => ?_)
      exact m_isDrum hd (y1 (m_in (N := 20) hn (by decide) (y1 hP)))
    · exact e_isDrum hd (y1 (f_up (N := 20) (by decide) h2 (y0 (m_isDrum hd (y1 (n_in (N := 20) (by decide) h2 (y0 (n_told neg4 ⟨rfl, h.st _⟩))))))))
  · exact f_isDrum h1 (y0 (n_isDrum h1 (y0 (n_told neg1 ⟨rfl, h.st _⟩))))
