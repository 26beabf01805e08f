/-! ===== the reference's slots and uses (fb_ rows: pasted from the kit's counts) ===== -/
theorem fb_holes : ∀ (m n : Nat) (f : Nat → Nat), (∀ i, i < n → f i < m) → (∀ i j, i < j → j < n → f i ≠ f j) → n ≤ m := by
  intro m
  induction m with
  | zero =>
    intro n f h1 _
    rcases Nat.eq_zero_or_pos n with h | h
    · omega
    · exact absurd (h1 0 h) (Nat.not_lt_zero _)
  | succ m ih =>
    intro n f h1 h2
    by_cases hx : ∃ i, i < n ∧ f i = m
    · obtain ⟨a, ha, hfa⟩ := hx
      have hg := ih (n - 1) (fun i => if i < a then f i else f (i + 1)) (by
        intro i hi
        by_cases q : i < a
        · simp only [if_pos q]
          have b1 := h1 i (by omega)
          have b2 := h2 i a q ha
          omega
        · simp only [if_neg q]
          have b1 := h1 (i + 1) (by omega)
          have b2 := h2 a (i + 1) (by omega) (by omega)
          omega) (by
        intro i j hij hj
        by_cases q : i < a
        · by_cases r : j < a
          · simp only [if_pos q, if_pos r]
            exact h2 i j hij (by omega)
          · simp only [if_pos q, if_neg r]
            exact h2 i (j + 1) (by omega) (by omega)
        · have r : ¬ j < a := by omega
          simp only [if_neg q, if_neg r]
          exact h2 (i + 1) (j + 1) (by omega) (by omega))
      omega
    · have hg := ih n f (fun i hi => by
        have b1 := h1 i hi
        have b2 : f i ≠ m := fun e => hx ⟨i, hi, e⟩
        omega) h2
      omega
def fb_ct (p : Nat → Bool) : Nat → Nat
  | 0 => 0
  | n + 1 => fb_ct p n + (if p n then 1 else 0)
theorem fb_ct_succ (p : Nat → Bool) (n : Nat) : fb_ct p (n + 1) = fb_ct p n + (if p n then 1 else 0) := rfl
theorem fb_ct_le (p : Nat → Bool) : ∀ n, fb_ct p n ≤ n
  | 0 => Nat.le_refl _
  | n + 1 => by
    have h := fb_ct_le p n
    rw [fb_ct_succ]
    split <;> omega
theorem fb_ct_cong {p q : Nat → Bool} : ∀ {n : Nat}, (∀ k, k < n → p k = q k) → fb_ct p n = fb_ct q n
  | 0, _ => rfl
  | n + 1, h => by
    rw [fb_ct_succ, fb_ct_succ, fb_ct_cong (fun k hk => h k (by omega)), h n (by omega)]
theorem fb_ct_out (p : Nat → Bool) (b : Bool) {i n : Nat} (h : n ≤ i) : fb_ct (fun k => if k = i then b else p k) n = fb_ct p n :=
  fb_ct_cong fun k hk => if_neg (by omega)
theorem fb_ct_upd (p : Nat → Bool) (b : Bool) {i : Nat} : ∀ {n : Nat}, i < n → fb_ct (fun k => if k = i then b else p k) n + (if p i then 1 else 0) = fb_ct p n + (if b then 1 else 0)
  | 0, h => absurd h (Nat.not_lt_zero i)
  | n + 1, h => by
    rw [fb_ct_succ, fb_ct_succ]
    rcases Nat.lt_or_ge i n with q | q
    · have := fb_ct_upd p b q
      have e : (if n = i then b else p n) = p n := if_neg (by omega)
      rw [e]
      omega
    · have e : i = n := by omega
      subst e
      rw [fb_ct_out p b (Nat.le_refl _)]
      simp only [if_true]
      omega
theorem fb_ct_zero {p : Nat → Bool} : ∀ {n : Nat}, fb_ct p n = 0 ↔ ∀ k, k < n → p k = false
  | 0 => ⟨fun _ k hk => absurd hk (Nat.not_lt_zero k), fun _ => rfl⟩
  | n + 1 => by
    have h := fb_ct_zero (p := p) (n := n)
    rw [fb_ct_succ]
    constructor
    · intro e k hk
      have e1 : fb_ct p n = 0 := by omega
      rcases Nat.lt_or_ge k n with q | q
      · exact h.mp e1 k q
      · have ek : k = n := by omega
        subst ek
        cases hp : p k
        · rfl
        · simp [hp] at e
    · intro a
      rw [h.mpr (fun k hk => a k (by omega)), a n (by omega)]
      rfl
theorem fb_ct_pos {p : Nat → Bool} {n : Nat} : 0 < fb_ct p n ↔ ∃ k, k < n ∧ p k = true := by
  constructor
  · intro h
    refine Classical.byContradiction fun hx => ?_
    have := fb_ct_zero.mpr (fun k hk => by
      cases hp : p k
      · rfl
      · exact absurd ⟨k, hk, hp⟩ hx : ∀ k, k < n → p k = false)
    omega
  · rintro ⟨k, hk, hp⟩
    rcases Nat.eq_zero_or_pos (fb_ct p n) with e | e
    · have := fb_ct_zero.mp e k hk
      rw [this] at hp
      cases hp
    · exact e
/-- slot s of 200: the 40 of the drums, then the 160 of the combs -/
def slotv (μ : MS) (s : Nat) : Int32 := if s < 40 then mDrums μ s else mTeeth μ (s - 40)
def cnt (μ : MS) (t : Nat) : Nat := fb_ct (fun s => decide (slotv μ s = nI t)) 200
def UI (μ : MS) : Prop := (∀ t, t < 202 → mUses μ t = nI (cnt μ t)) ∧ ∀ s, s < 200 → slotv μ s = -1 ∨ ∃ t, t < 202 ∧ slotv μ s = nI t
/-- 1 if it holds, else 0 -/
noncomputable def bq (p : Prop) : Int32 := by classical exact if p then 1 else 0
theorem bq_yes {p : Prop} (h : p) : bq p = 1 := by simp [bq, h]
theorem bq_no {p : Prop} (h : ¬ p) : bq p = 0 := by simp [bq, h]
theorem nI_m1 {n : Nat} (h : n < 2 ^ 31) : ¬ nI n = -1 := fun e => by
  have h1 := nI_toInt h
  rw [e] at h1
  have : (-1 : Int32).toInt = -1 := by decide
  omega
theorem cnt_le (μ : MS) (t : Nat) : cnt μ t ≤ 200 := fb_ct_le _ _
theorem UI.set {μ μ' : MS} (h : UI μ) {s : Nat} {v : Int32} (hs : s < 200) (hv : v = -1 ∨ ∃ t, t < 202 ∧ v = nI t) (hsl : ∀ s', slotv μ' s' = if s' = s then v else slotv μ s') (hus : ∀ t, t < 202 → mUses μ' t + bq (slotv μ s = nI t) = mUses μ t + bq (v = nI t)) : UI μ' := by
  refine ⟨fun t ht => ?_, fun s' hs' => ?_⟩
  · have e1 : cnt μ' t = fb_ct (fun s' => if s' = s then decide (v = nI t) else decide (slotv μ s' = nI t)) 200 := by
      unfold cnt
      refine fb_ct_cong (fun k _ => ?_)
      show decide (slotv μ' k = nI t) = if k = s then decide (v = nI t) else decide (slotv μ k = nI t)
      rw [hsl k]
      by_cases hk : k = s
      · rw [if_pos hk, if_pos hk]
      · rw [if_neg hk, if_neg hk]
    have e2 := fb_ct_upd (fun s' => decide (slotv μ s' = nI t)) (decide (v = nI t)) hs
    rw [← e1, show fb_ct (fun s' => decide (slotv μ s' = nI t)) 200 = cnt μ t from rfl] at e2
    have b1 : bq (slotv μ s = nI t) = nI (if decide (slotv μ s = nI t) = true then 1 else 0) := by
      by_cases hp : slotv μ s = nI t
      · rw [bq_yes hp]; simp [hp]; rfl
      · rw [bq_no hp]; simp [hp]; rfl
    have b2 : bq (v = nI t) = nI (if decide (v = nI t) = true then 1 else 0) := by
      by_cases hp : v = nI t
      · rw [bq_yes hp]; simp [hp]; rfl
      · rw [bq_no hp]; simp [hp]; rfl
    have e3 := hus t ht
    rw [h.1 t ht, b1, b2, nI_add, ← e2, ← nI_add] at e3
    have e4 := congrArg (fun z => z - nI (if decide (slotv μ s = nI t) = true then 1 else 0)) e3
    simpa [Int32.add_sub_cancel] using e4
  · rw [hsl s']
    by_cases hk : s' = s
    · rw [if_pos hk]; exact hv
    · rw [if_neg hk]; exact h.2 s' hs'

theorem g_drum {μ : MS} {Q : MS → Prop} (hU : UI μ) {d k : Nat} (hd : d < 8) (hk : k < 5) {v : Int32} (hv : v = -1 ∨ ∃ t, t < 202 ∧ v = nI t) (hq : ∀ us : Nat → Int32, UI (nDrums (nUses μ us) (upd (mDrums μ) (5 * d + k) v)) → Q (nDrums (nUses μ us) (upd (mDrums μ) (5 * d + k) v))) : wX9_drumGets (nI d) (nI k) v μ Q := by
  have hi : 5 * d + k < 40 := by omega
  have hin : vp_in (nI (5 * d + k)) 40 := vp_in_nI hi (by decide)
  have hcl : (nI (5 * d + k)).toNatClampNeg = 5 * d + k := nI_clamp (by omega)
  have hsl : slotv μ (0 + (5 * d + k)) = mDrums μ (5 * d + k) := by unfold slotv; first | rw [if_pos (by omega)]; congr 1; omega | rw [if_neg (by omega)]; congr 1; omega
  have key : ∀ us : Nat → Int32, (∀ t, t < 202 → us t + bq (mDrums μ (5 * d + k) = nI t) = mUses μ t + bq (v = nI t)) → Q (nDrums (nUses μ us) (upd (mDrums μ) (5 * d + k) v)) := by
    intro us hus
    refine hq us (UI.set hU (s := 0 + (5 * d + k)) (by omega) hv (fun s' => ?_) (fun t ht => ?_))
    · show slotv (nDrums (nUses μ us) (upd (mDrums μ) (5 * d + k) v)) s' = _
      unfold slotv upd
      by_cases h1 : s' < 40
      · rw [if_pos h1]
        by_cases h2 : s' = 0 + (5 * d + k)
        · rw [if_pos h2]; show (if s' = 5 * d + k then v else mDrums μ s') = v; rw [if_pos (by omega)]
        · rw [if_neg h2, if_pos h1]; show (if s' = 5 * d + k then v else mDrums μ s') = mDrums μ s'; rw [if_neg (by omega)]
      · rw [if_neg h1, if_neg (by omega), if_neg h1]
    · rw [hsl]; exact hus t ht
  intro y2 ey
  have ey : y2 = nI (5 * d + k) := by rw [ey, show (5 : Int32) = nI 5 from rfl, pk_mul, nI_add]
  subst ey
  have hold := hU.2 (0 + (5 * d + k)) (by omega)
  rw [hsl] at hold
  have step : ∀ us1 : Nat → Int32, (∀ t, t < 202 → us1 t = mUses μ t + bq (v = nI t)) → wX9_drumGets_b21 (nI d) (nI k) v Q (nI (5 * d + k)) (nUses μ us1) := by
    intro us1 h1
    unfold wX9_drumGets_b21
    rw [hcl]
    refine ⟨hin, fun ho => ⟨hin, key us1 (fun t ht => ?_)⟩, fun ho => ?_⟩
    · have ho : mDrums μ (5 * d + k) < 0 := ho
      have : ¬ mDrums μ (5 * d + k) = nI t := fun h => by rw [h] at ho; exact nI_pos (by omega) ho
      rw [bq_no this, Int32.add_zero]; exact h1 t ht
    · have ho : ¬ mDrums μ (5 * d + k) < 0 := ho
      rcases hold with hold | ⟨t0, ht0, hold⟩
      · rw [hold] at ho; exact absurd (by decide) ho
      · have e0 : mDrums (nUses μ us1) (5 * d + k) = nI t0 := hold
        have c0 : (nI t0).toNatClampNeg = t0 := nI_clamp (by omega)
        have i0 : vp_in (nI t0) 202 := vp_in_nI ht0 (by decide)
        rw [e0, c0]
        refine ⟨hin, i0, i0, hin, key (upd us1 t0 (us1 t0 - 1)) (fun t ht => ?_)⟩
        rw [hold]
        by_cases htt : t = t0
        · subst htt
          rw [bq_yes rfl, pk_us, Int32.sub_add_cancel]; exact h1 t ht
        · rw [bq_no (fun h => htt ((nI_eq (by omega) (by omega)).mp h).symm), pk_un htt, Int32.add_zero]; exact h1 t ht
  rcases hv with rfl | ⟨t1, ht1, rfl⟩
  · refine ⟨fun _ => step (mUses μ) (fun t ht => ?_), fun h => absurd (by decide) h⟩
    rw [bq_no (fun h => nI_m1 (by omega) h.symm), Int32.add_zero]
  · have c1 : (nI t1).toNatClampNeg = t1 := nI_clamp (by omega)
    have i1 : vp_in (nI t1) 202 := vp_in_nI ht1 (by decide)
    refine ⟨fun h => absurd h (nI_pos (by omega)), fun _ => ⟨i1, i1, ?_⟩⟩
    rw [c1]
    refine step (upd (mUses μ) t1 (mUses μ t1 + 1)) (fun t ht => ?_)
    by_cases htt : t = t1
    · subst htt; rw [bq_yes rfl, pk_us]
    · rw [bq_no (fun h => htt ((nI_eq (by omega) (by omega)).mp h).symm), pk_un htt, Int32.add_zero]

theorem g_tooth {μ : MS} {Q : MS → Prop} (hU : UI μ) {d k : Nat} (hd : d < 4) (hk : k < 40) {v : Int32} (hv : v = -1 ∨ ∃ t, t < 202 ∧ v = nI t) (hq : ∀ us : Nat → Int32, UI (nTeeth (nUses μ us) (upd (mTeeth μ) (40 * d + k) v)) → Q (nTeeth (nUses μ us) (upd (mTeeth μ) (40 * d + k) v))) : wX9_toothGets (nI d) (nI k) v μ Q := by
  have hi : 40 * d + k < 160 := by omega
  have hin : vp_in (nI (40 * d + k)) 160 := vp_in_nI hi (by decide)
  have hcl : (nI (40 * d + k)).toNatClampNeg = 40 * d + k := nI_clamp (by omega)
  have hsl : slotv μ (40 + (40 * d + k)) = mTeeth μ (40 * d + k) := by unfold slotv; first | rw [if_pos (by omega)]; congr 1; omega | rw [if_neg (by omega)]; congr 1; omega
  have key : ∀ us : Nat → Int32, (∀ t, t < 202 → us t + bq (mTeeth μ (40 * d + k) = nI t) = mUses μ t + bq (v = nI t)) → Q (nTeeth (nUses μ us) (upd (mTeeth μ) (40 * d + k) v)) := by
    intro us hus
    refine hq us (UI.set hU (s := 40 + (40 * d + k)) (by omega) hv (fun s' => ?_) (fun t ht => ?_))
    · show slotv (nTeeth (nUses μ us) (upd (mTeeth μ) (40 * d + k) v)) s' = _
      unfold slotv upd
      by_cases h1 : s' < 40
      · rw [if_pos h1, if_neg (by omega), if_pos h1]
      · rw [if_neg h1]
        by_cases h2 : s' = 40 + (40 * d + k)
        · rw [if_pos h2]; show (if s' - 40 = 40 * d + k then v else mTeeth μ (s' - 40)) = v; rw [if_pos (by omega)]
        · rw [if_neg h2, if_neg h1]; show (if s' - 40 = 40 * d + k then v else mTeeth μ (s' - 40)) = mTeeth μ (s' - 40); rw [if_neg (by omega)]
    · rw [hsl]; exact hus t ht
  intro y2 ey
  have ey : y2 = nI (40 * d + k) := by rw [ey, show (40 : Int32) = nI 40 from rfl, pk_mul, nI_add]
  subst ey
  have hold := hU.2 (40 + (40 * d + k)) (by omega)
  rw [hsl] at hold
  have step : ∀ us1 : Nat → Int32, (∀ t, t < 202 → us1 t = mUses μ t + bq (v = nI t)) → wX9_toothGets_b22 (nI d) (nI k) v Q (nI (40 * d + k)) (nUses μ us1) := by
    intro us1 h1
    unfold wX9_toothGets_b22
    rw [hcl]
    refine ⟨hin, fun ho => ⟨hin, key us1 (fun t ht => ?_)⟩, fun ho => ?_⟩
    · have ho : mTeeth μ (40 * d + k) < 0 := ho
      have : ¬ mTeeth μ (40 * d + k) = nI t := fun h => by rw [h] at ho; exact nI_pos (by omega) ho
      rw [bq_no this, Int32.add_zero]; exact h1 t ht
    · have ho : ¬ mTeeth μ (40 * d + k) < 0 := ho
      rcases hold with hold | ⟨t0, ht0, hold⟩
      · rw [hold] at ho; exact absurd (by decide) ho
      · have e0 : mTeeth (nUses μ us1) (40 * d + k) = nI t0 := hold
        have c0 : (nI t0).toNatClampNeg = t0 := nI_clamp (by omega)
        have i0 : vp_in (nI t0) 202 := vp_in_nI ht0 (by decide)
        rw [e0, c0]
        refine ⟨hin, i0, i0, hin, key (upd us1 t0 (us1 t0 - 1)) (fun t ht => ?_)⟩
        rw [hold]
        by_cases htt : t = t0
        · subst htt
          rw [bq_yes rfl, pk_us, Int32.sub_add_cancel]; exact h1 t ht
        · rw [bq_no (fun h => htt ((nI_eq (by omega) (by omega)).mp h).symm), pk_un htt, Int32.add_zero]; exact h1 t ht
  rcases hv with rfl | ⟨t1, ht1, rfl⟩
  · refine ⟨fun _ => step (mUses μ) (fun t ht => ?_), fun h => absurd (by decide) h⟩
    rw [bq_no (fun h => nI_m1 (by omega) h.symm), Int32.add_zero]
  · have c1 : (nI t1).toNatClampNeg = t1 := nI_clamp (by omega)
    have i1 : vp_in (nI t1) 202 := vp_in_nI ht1 (by decide)
    refine ⟨fun h => absurd h (nI_pos (by omega)), fun _ => ⟨i1, i1, ?_⟩⟩
    rw [c1]
    refine step (upd (mUses μ) t1 (mUses μ t1 + 1)) (fun t ht => ?_)
    by_cases htt : t = t1
    · subst htt; rw [bq_yes rfl, pk_us]
    · rw [bq_no (fun h => htt ((nI_eq (by omega) (by omega)).mp h).symm), pk_un htt, Int32.add_zero]

theorem cnt_pos {μ : MS} {t : Nat} : 0 < cnt μ t ↔ ∃ s, s < 200 ∧ slotv μ s = nI t := by
  unfold cnt
  rw [fb_ct_pos]
  constructor
  · rintro ⟨k, hk, h⟩; exact ⟨k, hk, of_decide_eq_true h⟩
  · rintro ⟨k, hk, h⟩; exact ⟨k, hk, decide_eq_true h⟩
theorem UI.free (μ : MS) : ∃ t, t < 202 ∧ cnt μ t = 0 := by
  refine Classical.byContradiction fun hn => ?_
  have h : ∀ t, t < 202 → ∃ s, s < 200 ∧ slotv μ s = nI t := fun t ht => cnt_pos.mp (Nat.pos_of_ne_zero fun h0 => hn ⟨t, ht, h0⟩)
  have h' : ∀ t, ∃ s, t < 202 → s < 200 ∧ slotv μ s = nI t := fun t => by
    by_cases ht : t < 202
    · obtain ⟨s, hs⟩ := h t ht; exact ⟨s, fun _ => hs⟩
    · exact ⟨0, fun h => absurd h ht⟩
  have := fb_holes 200 202 (fun t => Classical.choose (h' t)) (fun i hi => (Classical.choose_spec (h' i) hi).1) (fun i j hij hj e => by
    have a1 := (Classical.choose_spec (h' i) (by omega)).2
    have a2 := (Classical.choose_spec (h' j) hj).2
    have e : Classical.choose (h' i) = Classical.choose (h' j) := e
    rw [e, a2] at a1
    have := (nI_eq (by omega) (by omega)).mp a1
    omega)
  omega
theorem UI.first (μ : MS) : ∃ t, t < 202 ∧ cnt μ t = 0 ∧ ∀ t', t' < t → 0 < cnt μ t' := by
  obtain ⟨t, h1, h2⟩ := pk_least (fun t => t < 202 ∧ cnt μ t = 0) (UI.free μ)
  exact ⟨t, h1.1, h1.2, fun t' ht' => Nat.pos_of_ne_zero fun h0 => h2 t' ht' ⟨by omega, h0⟩⟩
theorem g_fill {x : Int32} {Q : Int32 → MS → Prop} {μ : MS} {n t : Nat} (hx : x = nI n) (hn : n ≤ 300) (ht : t < 202) (hq : ∀ cl : Nat → Int32, (∀ i, i < 300 * t ∨ 300 * t + 300 ≤ i → cl i = mCell μ i) → (∀ k, k < n → cl (300 * t + k) = 0) → Q (nI t) (nCell μ cl)) : ∀ (j i : Nat) (cl : Nat → Int32), i + j = n → (∀ i, i < 300 * t ∨ 300 * t + 300 ≤ i → cl i = mCell μ i) → (∀ k, k < i → cl (300 * t + k) = 0) → wX9_newTrack_b26 x Q (j + 1) (nI t) (nI i) (nCell μ cl) := by
  intro j
  subst hx
  induction j with
  | zero =>
    intro i cl hi h1 h2
    rw [wX9_newTrack_b26_s]
    refine ⟨fun _ => hq cl h1 (fun k hk => h2 k (by omega)), fun h => absurd (nI_le (by omega) (by omega)) h⟩
  | succ j ih =>
    intro i cl hi h1 h2
    rw [wX9_newTrack_b26_s]
    have hix : ((300 : Int32) * nI t) + nI i = nI (300 * t + i) := by rw [show (300 : Int32) = nI 300 from rfl, pk_mul, nI_add]
    rw [hix, nI_clamp (show 300 * t + i < 2 ^ 31 by omega)]
    refine ⟨fun h => absurd h (nI_ge (by omega) (by omega)), fun _ => ⟨vp_in_nI (by omega) (by decide), fun y6 e6 => ?_⟩⟩
    rw [e6, nI_1]
    refine ih (i + 1) (upd cl (300 * t + i) 0) (by omega) (fun z hz => ?_) (fun k hk => ?_)
    · rw [pk_un (by omega)]; exact h1 z hz
    · by_cases hki : k = i
      · subst hki; rw [pk_us]
      · rw [pk_un (by omega)]; exact h2 k (by omega)
theorem g_new9 {μ : MS} {Q : Int32 → MS → Prop} (hU : UI μ) {n : Nat} (hn : n ≤ 300) (hq : ∀ (t : Nat) (cl : Nat → Int32), t < 202 → cnt μ t = 0 → (∀ i, i < 300 * t ∨ 300 * t + 300 ≤ i → cl i = mCell μ i) → (∀ k, k < n → cl (300 * t + k) = 0) → Q (nI t) (nCell (nSize μ (upd (mSize μ) t (nI n))) cl)) : wX9_newTrack (nI n) μ Q := by
  obtain ⟨t, ht, h0, hpos⟩ := UI.first μ
  have loop : ∀ (j i : Nat), i + j = t → wX9_newTrack_b2 (nI n) Q (j + 1) (nI i) μ := by
    intro j
    induction j with
    | zero =>
      intro i hi
      have hit : i = t := by omega
      subst hit
      rw [wX9_newTrack_b2_s]
      have i1 : vp_in (nI i) 202 := vp_in_nI ht (by decide)
      rw [nI_clamp (show i < 2 ^ 31 by omega), hU.1 i ht, h0]
      refine ⟨i1, fun _ => ⟨i1, n + 1, ?_⟩, fun h => absurd (by decide) h⟩
      exact g_fill rfl hn ht (fun cl h1 h2 => hq i cl ht h0 h1 h2) n 0 (mCell μ) (by omega) (fun _ _ => rfl) (fun k hk => absurd hk (by omega))
    | succ j ih =>
      intro i hi
      rw [wX9_newTrack_b2_s]
      have i1 : vp_in (nI i) 202 := vp_in_nI (by omega) (by decide)
      rw [nI_clamp (show i < 2 ^ 31 by omega), hU.1 i (by omega)]
      refine ⟨i1, fun h => absurd h (nI_nle (hpos i (by omega)) (by have := cnt_le μ i; omega)), fun _ y7 e7 => ?_⟩
      rw [e7, nI_1]
      exact ih (i + 1) (by omega)
  exact ⟨t + 1, loop t 0 (by omega)⟩
