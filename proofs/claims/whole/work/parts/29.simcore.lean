/-! ===== the two worlds side by side ===== -/
theorem fits (x : Int32) (n : Nat) : (∃ d, d < n ∧ x = nI d) ∨ ∀ d, d < n → x ≠ nI d := by
  by_cases h : ∃ d, d < n ∧ x = nI d
  · exact Or.inl h
  · exact Or.inr fun d hd e => h ⟨d, hd, e⟩
theorem nofit {x : Int32} {n : Nat} (hn : n < 2 ^ 31) (h : ∀ d, d < n → x ≠ nI d) (h0 : ¬ x < 0) : nI n ≤ x := by
  rcases pk_ix x hn with h1 | h1 | ⟨j, hj, e⟩
  · exact absurd h1 h0
  · exact h1
  · exact absurd e (h j hj)
theorem nofit2 {x : Int32} {n : Nat} (hn : n + 1 < 2 ^ 31) (h : ∀ d, d < n + 1 → x ≠ nI d) (h0 : ¬ x < 0) : nI n < x := by
  have h1 := nofit hn h h0
  rw [Int32.le_iff_toInt_le, nI_toInt hn] at h1
  rw [Int32.lt_iff_toInt_lt, nI_toInt (by omega)]
  omega
theorem z1 {A B : Prop} (h : B) : ((1 : Int32) = 0 → A) ∧ (¬ (1 : Int32) = 0 → B) := ⟨fun e => absurd e (by decide), fun _ => h⟩
theorem y1 {A B : Prop} (h : A) : (¬ (1 : Int32) = 0 → A) ∧ ((1 : Int32) = 0 → B) := ⟨fun _ => h, fun e => absurd e (by decide)⟩
theorem z0 {A B : Prop} (h : A) : ((0 : Int32) = 0 → A) ∧ (¬ (0 : Int32) = 0 → B) := ⟨fun _ => h, fun e => absurd rfl e⟩
theorem y0 {A B : Prop} (h : B) : (¬ (0 : Int32) = 0 → A) ∧ ((0 : Int32) = 0 → B) := ⟨fun e => absurd rfl e, fun _ => h⟩
theorem rg_y {A B : Prop} {x N : Int32} {n d : Nat} (hN : N = nI n) (hx : x = nI d) (hd : d < n) (hn : n < 2 ^ 31) (h : B) : (x < 0 → A) ∧ (¬ x < 0 → ((N ≤ x → A) ∧ (¬ N ≤ x → B))) := by
  subst hN hx
  exact ⟨fun q => absurd q (nI_pos (by omega)), fun _ => ⟨fun q => absurd ((nI_leI hn (by omega)).mp q) (by omega), fun _ => h⟩⟩
theorem rg_n {A B : Prop} {x N : Int32} {n : Nat} (hN : N = nI n) (hn : n < 2 ^ 31) (hx : ∀ d, d < n → x ≠ nI d) (h : A) : (x < 0 → A) ∧ (¬ x < 0 → ((N ≤ x → A) ∧ (¬ N ≤ x → B))) := by
  subst hN
  exact ⟨fun _ => h, fun q => ⟨fun _ => h, fun q2 => absurd (nofit hn hx q) q2⟩⟩
theorem rh_y {A B : Prop} {x N : Int32} {n d : Nat} (hN : N = nI n) (hx : x = nI d) (hd : d < n + 1) (hn : n + 1 < 2 ^ 31) (h : B) : (x < 0 → A) ∧ (¬ x < 0 → ((N < x → A) ∧ (¬ N < x → B))) := by
  subst hN hx
  exact ⟨fun q => absurd q (nI_pos (by omega)), fun _ => ⟨fun q => absurd ((nI_ltI (by omega) (by omega)).mp q) (by omega), fun _ => h⟩⟩
theorem rh_n {A B : Prop} {x N : Int32} {n : Nat} (hN : N = nI n) (hn : n + 1 < 2 ^ 31) (hx : ∀ d, d < n + 1 → x ≠ nI d) (h : A) : (x < 0 → A) ∧ (¬ x < 0 → ((N < x → A) ∧ (¬ N < x → B))) := by
  subst hN
  exact ⟨fun _ => h, fun q => ⟨fun _ => h, fun q2 => absurd (nofit2 hn hx q) q2⟩⟩
theorem e_isDrum {σ : CS} {Q : Int32 → CS → Prop} {d : Nat} (hd : d < 8) (h : Q 1 σ) : wX8_isDrum (nI d) σ Q := rg_y (n := 8) rfl rfl hd (by decide) h
theorem f_isDrum {σ : CS} {Q : Int32 → CS → Prop} {x : Int32} (hx : ∀ d, d < 8 → x ≠ nI d) (h : Q 0 σ) : wX8_isDrum x σ Q := rg_n (n := 8) rfl (by decide) hx h
theorem e_isKind {σ : CS} {Q : Int32 → CS → Prop} {d : Nat} (hd : d < 5) (h : Q 1 σ) : wX8_isKind (nI d) σ Q := rg_y (n := 5) rfl rfl hd (by decide) h
theorem f_isKind {σ : CS} {Q : Int32 → CS → Prop} {x : Int32} (hx : ∀ d, d < 5 → x ≠ nI d) (h : Q 0 σ) : wX8_isKind x σ Q := rg_n (n := 5) rfl (by decide) hx h
theorem e_isComb {σ : CS} {Q : Int32 → CS → Prop} {d : Nat} (hd : d < 4) (h : Q 1 σ) : wX8_isComb (nI d) σ Q := rg_y (n := 4) rfl rfl hd (by decide) h
theorem f_isComb {σ : CS} {Q : Int32 → CS → Prop} {x : Int32} (hx : ∀ d, d < 4 → x ≠ nI d) (h : Q 0 σ) : wX8_isComb x σ Q := rg_n (n := 4) rfl (by decide) hx h
theorem m_isDrum {μ : MS} {Q : Int32 → MS → Prop} {d : Nat} (hd : d < 7 + 1) (h : Q 1 μ) : wX9_isDrum (nI d) μ Q := rh_y (n := 7) rfl rfl hd (by decide) h
theorem n_isDrum {μ : MS} {Q : Int32 → MS → Prop} {x : Int32} (hx : ∀ d, d < 7 + 1 → x ≠ nI d) (h : Q 0 μ) : wX9_isDrum x μ Q := rh_n (n := 7) rfl (by decide) hx h
theorem m_isKind {μ : MS} {Q : Int32 → MS → Prop} {d : Nat} (hd : d < 4 + 1) (h : Q 1 μ) : wX9_isKind (nI d) μ Q := rh_y (n := 4) rfl rfl hd (by decide) h
theorem n_isKind {μ : MS} {Q : Int32 → MS → Prop} {x : Int32} (hx : ∀ d, d < 4 + 1 → x ≠ nI d) (h : Q 0 μ) : wX9_isKind x μ Q := rh_n (n := 4) rfl (by decide) hx h
theorem e_up {σ : CS} {Q : Int32 → CS → Prop} {d N : Nat} (hd : d < N + 1) (hN : N + 1 < 2 ^ 31) (h : Q 1 σ) : wX8_isUpTo (nI d) (nI N) σ Q := rh_y rfl rfl hd hN h
theorem f_up {σ : CS} {Q : Int32 → CS → Prop} {x : Int32} {N : Nat} (hN : N + 1 < 2 ^ 31) (hx : ∀ d, d < N + 1 → x ≠ nI d) (h : Q 0 σ) : wX8_isUpTo x (nI N) σ Q := rh_n rfl hN hx h
theorem m_in {μ : MS} {Q : Int32 → MS → Prop} {d N : Nat} (hd : d < N + 1) (hN : N + 1 < 2 ^ 31) (h : Q 1 μ) : wX9_in (nI d) (0 : Int32) (nI N) μ Q := rh_y rfl rfl hd hN h
theorem n_in {μ : MS} {Q : Int32 → MS → Prop} {x : Int32} {N : Nat} (hN : N + 1 < 2 ^ 31) (hx : ∀ d, d < N + 1 → x ≠ nI d) (h : Q 0 μ) : wX9_in x (0 : Int32) (nI N) μ Q := rh_n rfl hN hx h
theorem m_told {μ : MS} {Q : Int32 → MS → Prop} {n : Nat} (hn : n < 2 ^ 31) (h : Q (nI n) (nState μ 0)) : wX9_told (nI n) μ Q := ⟨fun _ => h, fun q => absurd (show (0 : Int32) ≤ nI n from (nI_leI (a := 0) (by decide) hn).mpr (by omega)) q⟩
theorem n_told {μ : MS} {Q : Int32 → MS → Prop} {x : Int32} (hx : ¬ (0 : Int32) ≤ x) (h : Q x (nState μ x)) : wX9_told x μ Q := ⟨fun q => absurd q hx, fun _ => h⟩
theorem nI_0le {n : Nat} (hn : n < 2 ^ 31) : (0 : Int32) ≤ nI n := (nI_leI (a := 0) (by decide) hn).mpr (by omega)
/-- a cell of a kind -/
def OKc (kd : Nat) (x : Int32) : Prop := (kd = 0 → x = 0 ∨ x = 1) ∧ (kd = 3 → fin23 x.toUInt32)
def Tr (T : Nat → Option TK) (sz cl : Nat → Int32) (a t kd : Nat) : Prop := ∃ (n c : Nat) (f : Nat → Int32), T a = some (kd, n, c, f) ∧ n ≤ 300 ∧ sz t = nI n ∧ (∀ k, k < n → cl (300 * t + k) = f k) ∧ ∀ k, k < n → OKc kd (f k)
def Lk (ρ : Nat → Nat) (o : Option Nat) (v : Int32) : Prop := (o = none ∧ v = -1) ∨ ∃ t, t < 202 ∧ o = some (ρ t) ∧ v = nI t
def Core (o : Nat → Option Nat) (kd : Nat → Nat) (T : Nat → Option TK) (v sz cl : Nat → Int32) : Prop := ∃ ρ : Nat → Nat, (∀ s, s < 200 → Lk ρ (o s) (v s)) ∧ (∀ s t, s < 200 → t < 202 → v s = nI t → Tr T sz cl (ρ t) t (kd s)) ∧ ∀ s s' t t', s < 200 → s' < 200 → t < 202 → t' < 202 → v s = nI t → v s' = nI t' → ρ t = ρ t' → t = t'
theorem Core.at {o : Nat → Option Nat} {kd : Nat → Nat} {T : Nat → Option TK} {v sz cl : Nat → Int32} (h : Core o kd T v sz cl) {s : Nat} (hs : s < 200) : (o s = none ∧ v s = -1) ∨ ∃ (a t n c : Nat) (f : Nat → Int32), o s = some a ∧ t < 202 ∧ v s = nI t ∧ T a = some (kd s, n, c, f) ∧ n ≤ 300 ∧ sz t = nI n ∧ (∀ k, k < n → cl (300 * t + k) = f k) ∧ ∀ k, k < n → OKc (kd s) (f k) := by
  obtain ⟨ρ, h1, h2, h3⟩ := h
  rcases h1 s hs with hh | ⟨t, ht, e1, e2⟩
  · exact Or.inl hh
  · obtain ⟨n, c, f, a1, a2, a3, a4, a5⟩ := h2 s t hs ht e2
    exact Or.inr ⟨ρ t, t, n, c, f, e1, ht, e2, a1, a2, a3, a4, a5⟩
theorem Core.map {o o' : Nat → Option Nat} {kd kd' : Nat → Nat} {T : Nat → Option TK} {v v' sz cl : Nat → Int32} (h : Core o kd T v sz cl) (hm : ∀ s, s < 200 → (o' s = none ∧ v' s = -1) ∨ ∃ s0, s0 < 200 ∧ o' s = o s0 ∧ v' s = v s0 ∧ kd' s = kd s0) : Core o' kd' T v' sz cl := by
  obtain ⟨ρ, h1, h2, h3⟩ := h
  have get : ∀ s t, s < 200 → t < 202 → v' s = nI t → ∃ s0, s0 < 200 ∧ v s0 = nI t ∧ kd' s = kd s0 := by
    intro s t hs ht e
    rcases hm s hs with ⟨a, b⟩ | ⟨s0, hs0, e1, e2, e3⟩
    · rw [b] at e; exact absurd e.symm (nI_m1 (by omega))
    · exact ⟨s0, hs0, by rw [← e2]; exact e, e3⟩
  refine ⟨ρ, fun s hs => ?_, fun s t hs ht e => ?_, fun s s' t t' hs hs' ht ht' e e' => ?_⟩
  · rcases hm s hs with ⟨a, b⟩ | ⟨s0, hs0, e1, e2, e3⟩
    · exact Or.inl ⟨a, b⟩
    · rw [e1, e2]; exact h1 s0 hs0
  · obtain ⟨s0, hs0, e1, e2⟩ := get s t hs ht e
    rw [e2]; exact h2 s0 t hs0 ht e1
  · obtain ⟨s0, hs0, e1, _⟩ := get s t hs ht e
    obtain ⟨s1, hs1, e2, _⟩ := get s' t' hs' ht' e'
    exact h3 s0 s1 t t' hs0 hs1 ht ht' e1 e2
theorem Core.tk {o : Nat → Option Nat} {kd : Nat → Nat} {T T' : Nat → Option TK} {v sz cl : Nat → Int32} (h : Core o kd T v sz cl) (hT : ∀ a x, T a = some x → T' a = some x) : Core o kd T' v sz cl := by
  obtain ⟨ρ, h1, h2, h3⟩ := h
  refine ⟨ρ, h1, fun s t hs ht e => ?_, h3⟩
  obtain ⟨n, c, f, a1, a2⟩ := h2 s t hs ht e
  exact ⟨n, c, f, hT _ _ a1, a2⟩
theorem Core.fresh {o : Nat → Option Nat} {kd : Nat → Nat} {T : Nat → Option TK} {v sz cl : Nat → Int32} (h : Core o kd T v sz cl) {a : Nat} (ha : T a = none) {s : Nat} (hs : s < 200) : o s ≠ some a := by
  intro e
  rcases h.at hs with ⟨e1, _⟩ | ⟨a1, t, n, c, f, e1, _, _, e2, _⟩
  · rw [e] at e1; cases e1
  · rw [e] at e1; cases e1; rw [ha] at e2; cases e2
theorem Core.new {o o' : Nat → Option Nat} {kd kd' : Nat → Nat} {T : Nat → Option TK} {v v' sz sz' cl cl' : Nat → Int32} (h : Core o kd T v sz cl) {s a t n c : Nat} {f : Nat → Int32} (hm : ∀ s', s' < 200 → s' ≠ s → o' s' = o s' ∧ v' s' = v s' ∧ kd' s' = kd s') (ho : o' s = some a) (hv : v' s = nI t) (ht : t < 202) (hT : T a = some (kd' s, n, c, f)) (hf : ∀ k, k < n → f k = 0) (hn : n ≤ 300) (ha : ∀ s', s' < 200 → o s' ≠ some a) (hfr : ∀ s', s' < 200 → v s' ≠ nI t) (hsz : ∀ t', sz' t' = if t' = t then nI n else sz t') (hc1 : ∀ i, i < 300 * t ∨ 300 * t + 300 ≤ i → cl' i = cl i) (hc2 : ∀ k, k < n → cl' (300 * t + k) = 0) : Core o' kd' T v' sz' cl' := by
  obtain ⟨ρ, h1, h2, h3⟩ := h
  have live : ∀ s' t', s' < 200 → s' ≠ s → t' < 202 → v' s' = nI t' → v s' = nI t' ∧ t' ≠ t ∧ ρ t' ≠ a := by
    intro s' t' hs' hne ht' e
    have e1 : v s' = nI t' := by rw [← (hm s' hs' hne).2.1]; exact e
    refine ⟨e1, fun q => hfr s' hs' (by rw [e1, q]), fun q => ?_⟩
    rcases h1 s' hs' with ⟨_, b⟩ | ⟨t1, ht1, b1, b2⟩
    · rw [e1] at b; exact nI_m1 (by omega) b
    · rw [e1] at b2
      have := (nI_eq (by omega) (by omega)).mp b2
      subst this
      exact ha s' hs' (by rw [b1, q])
  refine ⟨fun t' => if t' = t then a else ρ t', fun s' hs' => ?_, fun s' t' hs' ht' e => ?_, fun s1 s2 t1 t2 hs1 hs2 ht1 ht2 e1 e2 e => ?_⟩
  · by_cases hq : s' = s
    · subst hq; rw [ho, hv]; exact Or.inr ⟨t, ht, by simp, rfl⟩
    · obtain ⟨b1, b2, b3⟩ := hm s' hs' hq
      rcases h1 s' hs' with ⟨c1, c2⟩ | ⟨t1, ht1, c1, c2⟩
      · exact Or.inl ⟨by rw [b1, c1], by rw [b2, c2]⟩
      · refine Or.inr ⟨t1, ht1, ?_, by rw [b2, c2]⟩
        have := (live s' t1 hs' hq ht1 (by rw [b2, c2])).2.1
        rw [b1, c1]; simp only [if_neg this]
  · by_cases hq : s' = s
    · subst hq
      rw [hv] at e
      have := (nI_eq (by omega) (by omega)).mp e
      subst this
      refine ⟨n, c, f, by simp only [if_pos]; exact hT, hn, by rw [hsz]; simp, fun k hk => by rw [hc2 k hk, hf k hk], fun k hk => ?_⟩
      rw [hf k hk]
      exact ⟨fun _ => Or.inl rfl, fun _ => by unfold fin23; decide⟩
    · obtain ⟨b1, b2, b3⟩ := live s' t' hs' hq ht' e
      obtain ⟨n1, c1, f1, a1, a2, a3, a4, a5⟩ := h2 s' t' hs' ht' b1
      rw [(hm s' hs' hq).2.2]
      refine ⟨n1, c1, f1, by simp only [if_neg b2]; exact a1, a2, by rw [hsz, if_neg b2]; exact a3, fun k hk => ?_, a5⟩
      rw [hc1 _ (by omega)]; exact a4 k hk
  · have e : (if t1 = t then a else ρ t1) = (if t2 = t then a else ρ t2) := e
    have key : ∀ s' t', s' < 200 → t' < 202 → v' s' = nI t' → t' = t ∨ (t' ≠ t ∧ v s' = nI t' ∧ ρ t' ≠ a) := by
      intro s' t' hs' ht' e'
      by_cases hq : s' = s
      · subst hq; rw [hv] at e'; exact Or.inl ((nI_eq (by omega) (by omega)).mp e').symm
      · obtain ⟨b1, b2, b3⟩ := live s' t' hs' hq ht' e'
        exact Or.inr ⟨b2, b1, b3⟩
    rcases key s1 t1 hs1 ht1 e1 with q1 | ⟨q1, r1, w1⟩ <;> rcases key s2 t2 hs2 ht2 e2 with q2 | ⟨q2, r2, w2⟩
    · rw [q1, q2]
    · rw [if_pos q1, if_neg q2] at e; exact absurd e.symm w2
    · rw [if_neg q1, if_pos q2] at e; exact absurd e w1
    · rw [if_neg q1, if_neg q2] at e; exact h3 s1 s2 t1 t2 hs1 hs2 ht1 ht2 r1 r2 e
theorem Core.cell {o : Nat → Option Nat} {kd : Nat → Nat} {T T' : Nat → Option TK} {v sz cl : Nat → Int32} (h : Core o kd T v sz cl) {s a t n c k : Nat} {f : Nat → Int32} {x : Int32} (hs : s < 200) (ho : o s = some a) (hv : v s = nI t) (ht : t < 202) (hT : T a = some (kd s, n, c, f)) (hk : k < n) (hx : OKc (kd s) x) (hT' : ∀ a', T' a' = if a' = a then some (kd s, n, c, upd f k x) else T a') : Core o kd T' v sz (upd cl (300 * t + k) x) := by
  obtain ⟨ρ, h1, h2, h3⟩ := h
  have hρ : ρ t = a := by
    rcases h1 s hs with ⟨b, _⟩ | ⟨t1, ht1, b1, b2⟩
    · rw [ho] at b; cases b
    · rw [hv] at b2
      have := (nI_eq (by omega) (by omega)).mp b2
      subst this
      rw [ho] at b1; cases b1; rfl
  refine ⟨ρ, h1, fun s' t' hs' ht' e => ?_, h3⟩
  obtain ⟨n1, c1, f1, a1, a2, a3, a4, a5⟩ := h2 s' t' hs' ht' e
  by_cases hq : ρ t' = a
  · have htt := h3 s' s t' t hs' hs ht' ht e hv (by rw [hq, hρ])
    subst htt
    rw [hq, hT] at a1
    injection a1 with a1
    injection a1 with g1 a1
    injection a1 with g2 a1
    injection a1 with g3 g4
    subst g2 g3 g4
    refine ⟨n, c, upd f k x, by rw [hT', if_pos hq, g1], a2, a3, fun i hi => ?_, fun i hi => ?_⟩
    · by_cases hik : i = k
      · subst hik; rw [pk_us, pk_us]
      · rw [pk_un hik, pk_un (by omega)]; exact a4 i hi
    · by_cases hik : i = k
      · subst hik; rw [pk_us, ← g1]; exact hx
      · rw [pk_un hik]; exact a5 i hi
  · have htt : t' ≠ t := fun q => hq (by rw [q, hρ])
    refine ⟨n1, c1, f1, by rw [hT', if_neg hq]; exact a1, a2, a3, fun i hi => ?_, a5⟩
    have h300 : k < 300 := by
      obtain ⟨n2, c2, f2, b1, b2, _⟩ := h2 s t hs ht hv
      rw [hρ, hT] at b1; cases b1; omega
    rw [pk_un (by omega)]; exact a4 i hi
