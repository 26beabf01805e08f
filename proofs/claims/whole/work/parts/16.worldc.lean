/-! ===== the world of the class ===== -/
/-- a drum's fields: head, notes, places, gaps, weights, highest, greatest -/
abbrev DF : Type := Int32 × Int32 × Int32 × Int32 × Int64 × Int32 × UInt32
/-- a track: kind, places, where its cells lie, what they hold (floats by their bits) -/
abbrev TK : Type := Nat × Nat × Nat × (Nat → Int32)
/-- a comb: kind, how many teeth, where they lie, which they are -/
abbrev CM : Type := Int32 × Nat × Nat × (Nat → Option Nat)
/-- the class's state: refusal, slots of drums, drums, combs' slots, combs, tracks -/
abbrev CS : Type := Int32 × (Nat → Nat → Option Nat) × (Nat → DF) × (Nat → Option Nat) × (Nat → Option CM) × (Nat → Option TK)
abbrev sRf (σ : CS) : Int32 := σ.1
abbrev sSl (σ : CS) : Nat → Nat → Option Nat := σ.2.1
abbrev sDf (σ : CS) : Nat → DF := σ.2.2.1
abbrev sCb (σ : CS) : Nat → Option Nat := σ.2.2.2.1
abbrev sCm (σ : CS) : Nat → Option CM := σ.2.2.2.2.1
abbrev sTk (σ : CS) : Nat → Option TK := σ.2.2.2.2.2
abbrev pRf (σ : CS) (v : Int32) : CS := (v, σ.2)
abbrev pSl (σ : CS) (i k : Nat) (o : Option Nat) : CS := (σ.1, va_up σ.2.1 i (va_up (σ.2.1 i) k o), σ.2.2)
abbrev pDf (σ : CS) (i : Nat) (v : DF) : CS := (σ.1, σ.2.1, va_up σ.2.2.1 i v, σ.2.2.2)
abbrev pCb (σ : CS) (i : Nat) (o : Option Nat) : CS := (σ.1, σ.2.1, σ.2.2.1, va_up σ.2.2.2.1 i o, σ.2.2.2.2)
abbrev pCm (σ : CS) (b : Nat) (m : CM) : CS := (σ.1, σ.2.1, σ.2.2.1, σ.2.2.2.1, va_up σ.2.2.2.2.1 b (some m), σ.2.2.2.2.2)
abbrev pTk (σ : CS) (a : Nat) (t : TK) : CS := (σ.1, σ.2.1, σ.2.2.1, σ.2.2.2.1, σ.2.2.2.2.1, va_up σ.2.2.2.2.2 a (some t))
/-- where the fixed things lie: the object, its two arrays, the drums, their rows of tracks -/
abbrev CP : Type := Nat × Nat × Nat × (Nat → Nat) × (Nat → Nat)
abbrev aX (cp : CP) : Nat := cp.1
abbrev aD (cp : CP) : Nat := cp.2.1
abbrev aC (cp : CP) : Nat := cp.2.2.1
abbrev aDr (cp : CP) : Nat → Nat := cp.2.2.2.1
abbrev aDt (cp : CP) : Nat → Nat := cp.2.2.2.2
abbrev rrow (c : ClassId) (n : Nat) (f : Nat → Option Nat) : va_E := .inl (c, n, .inr (.inr (.inr (.inr f))))
def tci : Nat → Nat
  | 0 => 5
  | 1 => 6
  | 2 => 3
  | 3 => 4
  | _ => 0
def arrE (d : AC) (kd n : Nat) (f : Nat → Int32) : va_E := match kd with
  | 3 => .inl (d 3, n, .inr (.inr (.inl (fun k => (f k).toUInt32))))
  | k => .inl (d k, n, .inl f)
abbrev drumE (t : Nat) (v : DF) : va_E := .inr (2, [.ref t, .int v.1, .int v.2.1, .int v.2.2.1, .int v.2.2.2.1, .long v.2.2.2.2.1, .int v.2.2.2.2.2.1, .float v.2.2.2.2.2.2])
abbrev combE (k : Int32) (te : Nat) : va_E := .inr (1, [.int k, .ref te])
abbrev trackE (kd n c : Nat) : va_E := .inr (tci kd, [.int (nI n), .ref c])
abbrev boxE (da ca : Nat) (rf : Int32) : va_E := .inr (7, [.ref da, .ref ca, .int rf])
/-- kinds of cells that are never one -/
def tagE : va_E → Nat
  | .inr (1, _) => 1
  | .inr (2, _) => 2
  | .inr (7, _) => 7
  | .inr _ => 3
  | .inl (_, _, .inr (.inr (.inr (.inr _)))) => 4
  | .inl _ => 5
theorem tag_track (kd n c : Nat) : tagE (trackE kd n c) = 3 := by
  rcases kd with _ | _ | _ | _ | _ <;> rfl
theorem tag_arr (d : AC) (kd n : Nat) (f : Nat → Int32) : tagE (arrE d kd n f) = 5 := by
  rcases kd with _ | _ | _ | _ | _ <;> rfl
theorem ap_tag {G : Pic} {a b : Nat} {e1 e2 : va_E} (h1 : G a = some e1) (h2 : G b = some e2) (h : tagE e1 ≠ tagE e2) : a ≠ b := fun e => by
  subst e
  rw [h1] at h2
  exact h (congrArg tagE (Option.some.inj h2))
def CRep (d : AC) (cp : CP) (σ : CS) (G : Pic) : Prop :=
  G (aX cp) = some (boxE (aD cp) (aC cp) (sRf σ)) ∧
  (∃ f, G (aD cp) = some (rrow (d 6) 8 f) ∧ ∀ i, i < 8 → f i = some (aDr cp i)) ∧
  G (aC cp) = some (rrow (d 7) 4 (sCb σ)) ∧
  (∀ i, i < 8 → G (aDr cp i) = some (drumE (aDt cp i) (sDf σ i))) ∧
  (∀ i, i < 8 → G (aDt cp i) = some (rrow (d 5) 5 (sSl σ i))) ∧
  (∀ b m, sCm σ b = some m → G b = some (combE m.1 m.2.2.1) ∧ G m.2.2.1 = some (rrow (d 5) m.2.1 m.2.2.2)) ∧
  (∀ a t, sTk σ a = some t → t.1 < 5 ∧ G a = some (trackE t.1 t.2.1 t.2.2.1) ∧ G t.2.2.1 = some (arrE d t.1 t.2.1 t.2.2.2)) ∧
  (∀ i j, i < 8 → j < 8 → aDr cp i = aDr cp j → i = j) ∧ (∀ i j, i < 8 → j < 8 → aDt cp i = aDt cp j → i = j) ∧
  (∀ b m, sCm σ b = some m → aD cp ≠ m.2.2.1 ∧ aC cp ≠ m.2.2.1 ∧ ∀ i, i < 8 → aDt cp i ≠ m.2.2.1) ∧
  (∀ b b' m m', sCm σ b = some m → sCm σ b' = some m' → m.2.2.1 = m'.2.2.1 → b = b') ∧
  (∀ a a' t t', sTk σ a = some t → sTk σ a' = some t' → t.2.2.1 = t'.2.2.1 → a = a') ∧
  aD cp ≠ aC cp ∧ (∀ i, i < 8 → aD cp ≠ aDt cp i ∧ aC cp ≠ aDt cp i)
theorem CRep.rf {d : AC} {cp : CP} {σ : CS} {G : Pic} (h : CRep d cp σ G) (v : Int32) : CRep d cp (pRf σ v) (pset G (aX cp) (boxE (aD cp) (aC cp) v)) := by
  obtain ⟨h1, ⟨f, h2, h2'⟩, h3, h4, h5, h6, h7, h8, h9, h10, h11, h12, h13, h14⟩ := h
  refine ⟨pset_self, ⟨f, ?_, h2'⟩, ?_, fun i hi => ?_, fun i hi => ?_, fun b m hb => ⟨?_, ?_⟩, fun a t ha => ⟨(h7 a t ha).1, ?_, ?_⟩, h8, h9, h10, h11, h12, h13, h14⟩
  · rw [pset_ne (ap_tag h2 h1 (Nat.ne_of_beq_eq_false rfl))]; exact h2
  · rw [pset_ne (ap_tag h3 h1 (Nat.ne_of_beq_eq_false rfl))]; exact h3
  · rw [pset_ne (ap_tag (h4 i hi) h1 (Nat.ne_of_beq_eq_false rfl))]; exact h4 i hi
  · rw [pset_ne (ap_tag (h5 i hi) h1 (Nat.ne_of_beq_eq_false rfl))]; exact h5 i hi
  · rw [pset_ne (ap_tag (h6 b m hb).1 h1 (Nat.ne_of_beq_eq_false rfl))]; exact (h6 b m hb).1
  · rw [pset_ne (ap_tag (h6 b m hb).2 h1 (Nat.ne_of_beq_eq_false rfl))]; exact (h6 b m hb).2
  · rw [pset_ne (ap_tag (h7 a t ha).2.1 h1 (by rw [tag_track]; exact Nat.ne_of_beq_eq_false rfl))]; exact (h7 a t ha).2.1
  · rw [pset_ne (ap_tag (h7 a t ha).2.2 h1 (by rw [tag_arr]; exact Nat.ne_of_beq_eq_false rfl))]; exact (h7 a t ha).2.2
theorem CRep.df {d : AC} {cp : CP} {σ : CS} {G : Pic} (h : CRep d cp σ G) {j : Nat} (hj : j < 8) (v : DF) : CRep d cp (pDf σ j v) (pset G (aDr cp j) (drumE (aDt cp j) v)) := by
  obtain ⟨h1, ⟨f, h2, h2'⟩, h3, h4, h5, h6, h7, h8, h9, h10, h11, h12, h13, h14⟩ := h
  have k := h4 j hj
  refine ⟨?_, ⟨f, ?_, h2'⟩, ?_, fun i hi => ?_, fun i hi => ?_, fun b m hb => ⟨?_, ?_⟩, fun a t ha => ⟨(h7 a t ha).1, ?_, ?_⟩, h8, h9, h10, h11, h12, h13, h14⟩
  · rw [pset_ne (ap_tag h1 k (Nat.ne_of_beq_eq_false rfl))]; exact h1
  · rw [pset_ne (ap_tag h2 k (Nat.ne_of_beq_eq_false rfl))]; exact h2
  · rw [pset_ne (ap_tag h3 k (Nat.ne_of_beq_eq_false rfl))]; exact h3
  · by_cases hij : i = j
    · subst hij
      rw [pset_self]
      show some (drumE (aDt cp i) v) = some (drumE (aDt cp i) (va_up σ.2.2.1 i v i))
      rw [va_up_self]
    · rw [pset_ne (fun e => hij (h8 i j hi hj e)), h4 i hi]
      show some (drumE (aDt cp i) (σ.2.2.1 i)) = some (drumE (aDt cp i) (va_up σ.2.2.1 j v i))
      rw [va_up_ne _ _ hij]
  · rw [pset_ne (ap_tag (h5 i hi) k (Nat.ne_of_beq_eq_false rfl))]; exact h5 i hi
  · rw [pset_ne (ap_tag (h6 b m hb).1 k (Nat.ne_of_beq_eq_false rfl))]; exact (h6 b m hb).1
  · rw [pset_ne (ap_tag (h6 b m hb).2 k (Nat.ne_of_beq_eq_false rfl))]; exact (h6 b m hb).2
  · rw [pset_ne (ap_tag (h7 a t ha).2.1 k (by rw [tag_track]; exact Nat.ne_of_beq_eq_false rfl))]; exact (h7 a t ha).2.1
  · rw [pset_ne (ap_tag (h7 a t ha).2.2 k (by rw [tag_arr]; exact Nat.ne_of_beq_eq_false rfl))]; exact (h7 a t ha).2.2
theorem CRep.sl {d : AC} {cp : CP} {σ : CS} {G : Pic} (h : CRep d cp σ G) {j : Nat} (hj : j < 8) (k : Nat) (o : Option Nat) : CRep d cp (pSl σ j k o) (pset G (aDt cp j) (rrow (d 5) 5 (va_up (sSl σ j) k o))) := by
  obtain ⟨h1, ⟨f, h2, h2'⟩, h3, h4, h5, h6, h7, h8, h9, h10, h11, h12, h13, h14⟩ := h
  have kk := h5 j hj
  refine ⟨?_, ⟨f, ?_, h2'⟩, ?_, fun i hi => ?_, fun i hi => ?_, fun b m hb => ⟨?_, ?_⟩, fun a t ha => ⟨(h7 a t ha).1, ?_, ?_⟩, h8, h9, h10, h11, h12, h13, h14⟩
  · rw [pset_ne (ap_tag h1 kk (Nat.ne_of_beq_eq_false rfl))]; exact h1
  · rw [pset_ne (h14 j hj).1]; exact h2
  · rw [pset_ne (h14 j hj).2]; exact h3
  · rw [pset_ne (ap_tag (h4 i hi) kk (Nat.ne_of_beq_eq_false rfl))]; exact h4 i hi
  · by_cases hij : i = j
    · subst hij
      rw [pset_self]
      show some (rrow (d 5) 5 (va_up (sSl σ i) k o)) = some (rrow (d 5) 5 (va_up σ.2.1 i (va_up (σ.2.1 i) k o) i))
      rw [va_up_self]
    · rw [pset_ne (fun e => hij (h9 i j hi hj e)), h5 i hi]
      show some (rrow (d 5) 5 (σ.2.1 i)) = some (rrow (d 5) 5 (va_up σ.2.1 j (va_up (σ.2.1 j) k o) i))
      rw [va_up_ne _ _ hij]
  · rw [pset_ne (ap_tag (h6 b m hb).1 kk (Nat.ne_of_beq_eq_false rfl))]; exact (h6 b m hb).1
  · rw [pset_ne (Ne.symm ((h10 b m hb).2.2 j hj))]; exact (h6 b m hb).2
  · rw [pset_ne (ap_tag (h7 a t ha).2.1 kk (by rw [tag_track]; exact Nat.ne_of_beq_eq_false rfl))]; exact (h7 a t ha).2.1
  · rw [pset_ne (ap_tag (h7 a t ha).2.2 kk (by rw [tag_arr]; exact Nat.ne_of_beq_eq_false rfl))]; exact (h7 a t ha).2.2
theorem CRep.cb {d : AC} {cp : CP} {σ : CS} {G : Pic} (h : CRep d cp σ G) (k : Nat) (o : Option Nat) : CRep d cp (pCb σ k o) (pset G (aC cp) (rrow (d 7) 4 (va_up (sCb σ) k o))) := by
  obtain ⟨h1, ⟨f, h2, h2'⟩, h3, h4, h5, h6, h7, h8, h9, h10, h11, h12, h13, h14⟩ := h
  refine ⟨?_, ⟨f, ?_, h2'⟩, pset_self, fun i hi => ?_, fun i hi => ?_, fun b m hb => ⟨?_, ?_⟩, fun a t ha => ⟨(h7 a t ha).1, ?_, ?_⟩, h8, h9, h10, h11, h12, h13, h14⟩
  · rw [pset_ne (ap_tag h1 h3 (Nat.ne_of_beq_eq_false rfl))]; exact h1
  · rw [pset_ne h13]; exact h2
  · rw [pset_ne (ap_tag (h4 i hi) h3 (Nat.ne_of_beq_eq_false rfl))]; exact h4 i hi
  · rw [pset_ne (Ne.symm (h14 i hi).2)]; exact h5 i hi
  · rw [pset_ne (ap_tag (h6 b m hb).1 h3 (Nat.ne_of_beq_eq_false rfl))]; exact (h6 b m hb).1
  · rw [pset_ne (Ne.symm (h10 b m hb).2.1)]; exact (h6 b m hb).2
  · rw [pset_ne (ap_tag (h7 a t ha).2.1 h3 (by rw [tag_track]; exact Nat.ne_of_beq_eq_false rfl))]; exact (h7 a t ha).2.1
  · rw [pset_ne (ap_tag (h7 a t ha).2.2 h3 (by rw [tag_arr]; exact Nat.ne_of_beq_eq_false rfl))]; exact (h7 a t ha).2.2
theorem CRep.cm {d : AC} {cp : CP} {σ : CS} {G : Pic} (h : CRep d cp σ G) {b0 : Nat} {k0 : Int32} {n0 te : Nat} {tt : Nat → Option Nat} (hb0 : sCm σ b0 = some (k0, n0, te, tt)) (k : Nat) (o : Option Nat) : CRep d cp (pCm σ b0 (k0, n0, te, va_up tt k o)) (pset G te (rrow (d 5) n0 (va_up tt k o))) := by
  obtain ⟨h1, ⟨f, h2, h2'⟩, h3, h4, h5, h6, h7, h8, h9, h10, h11, h12, h13, h14⟩ := h
  have kk := (h6 b0 _ hb0).2
  have hap := h10 b0 _ hb0
  have old : ∀ b m, va_up σ.2.2.2.2.1 b0 (some (k0, n0, te, va_up tt k o)) b = some m → ∃ m0, sCm σ b = some m0 ∧ m0.1 = m.1 ∧ m0.2.2.1 = m.2.2.1 ∧ (b ≠ b0 → m0 = m) ∧ (b = b0 → m = (k0, n0, te, va_up tt k o)) := by
    intro b m hb
    by_cases hbb : b = b0
    · subst hbb
      rw [va_up_self] at hb
      cases hb
      exact ⟨_, hb0, rfl, rfl, fun h => absurd rfl h, fun _ => rfl⟩
    · rw [va_up_ne _ _ hbb] at hb
      exact ⟨m, hb, rfl, rfl, fun _ => rfl, fun h => absurd h hbb⟩
  refine ⟨?_, ⟨f, ?_, h2'⟩, ?_, fun i hi => ?_, fun i hi => ?_, fun b m hb => ?_, fun a t ha => ⟨(h7 a t ha).1, ?_, ?_⟩, h8, h9, fun b m hb => ?_, fun b b' m m' hb hb' e => ?_, h12, h13, h14⟩
  · rw [pset_ne (ap_tag h1 kk (Nat.ne_of_beq_eq_false rfl))]; exact h1
  · rw [pset_ne hap.1]; exact h2
  · rw [pset_ne hap.2.1]; exact h3
  · rw [pset_ne (ap_tag (h4 i hi) kk (Nat.ne_of_beq_eq_false rfl))]; exact h4 i hi
  · rw [pset_ne (hap.2.2 i hi)]; exact h5 i hi
  · obtain ⟨m0, a1, a2, a3, a4, a5⟩ := old b m hb
    refine ⟨?_, ?_⟩
    · rw [pset_ne (ap_tag (h6 b m0 a1).1 kk (Nat.ne_of_beq_eq_false rfl)), (h6 b m0 a1).1, a2, a3]
    · by_cases hbb : b = b0
      · have := a5 hbb
        subst this
        exact pset_self
      · have := a4 hbb
        subst this
        rw [pset_ne (fun e => hbb (h11 b b0 m0 _ a1 hb0 e))]
        exact (h6 b m0 a1).2
  · rw [pset_ne (ap_tag (h7 a t ha).2.1 kk (by rw [tag_track]; exact Nat.ne_of_beq_eq_false rfl))]; exact (h7 a t ha).2.1
  · rw [pset_ne (ap_tag (h7 a t ha).2.2 kk (by rw [tag_arr]; exact Nat.ne_of_beq_eq_false rfl))]; exact (h7 a t ha).2.2
  · obtain ⟨m0, a1, a2, a3, a4, a5⟩ := old b m hb
    rw [← a3]
    exact h10 b m0 a1
  · obtain ⟨m0, a1, a2, a3, a4, a5⟩ := old b m hb
    obtain ⟨m1, c1, c2, c3, c4, c5⟩ := old b' m' hb'
    exact h11 b b' m0 m1 a1 c1 (by rw [a3, c3]; exact e)
theorem CRep.tk {d : AC} {cp : CP} {σ : CS} {G : Pic} (h : CRep d cp σ G) {a0 kd n c : Nat} {f0 : Nat → Int32} (ha0 : sTk σ a0 = some (kd, n, c, f0)) (g : Nat → Int32) : CRep d cp (pTk σ a0 (kd, n, c, g)) (pset G c (arrE d kd n g)) := by
  obtain ⟨h1, ⟨f, h2, h2'⟩, h3, h4, h5, h6, h7, h8, h9, h10, h11, h12, h13, h14⟩ := h
  have kk := (h7 a0 _ ha0).2.2
  have old : ∀ a t, va_up σ.2.2.2.2.2 a0 (some (kd, n, c, g)) a = some t → ∃ t0, sTk σ a = some t0 ∧ t0.1 = t.1 ∧ t0.2.1 = t.2.1 ∧ t0.2.2.1 = t.2.2.1 ∧ (a ≠ a0 → t0 = t) ∧ (a = a0 → t = (kd, n, c, g)) := by
    intro a t ha
    by_cases haa : a = a0
    · subst haa
      rw [va_up_self] at ha
      cases ha
      exact ⟨_, ha0, rfl, rfl, rfl, fun h => absurd rfl h, fun _ => rfl⟩
    · rw [va_up_ne _ _ haa] at ha
      exact ⟨t, ha, rfl, rfl, rfl, fun _ => rfl, fun h => absurd h haa⟩
  have tg := tag_arr d kd n f0
  refine ⟨?_, ⟨f, ?_, h2'⟩, ?_, fun i hi => ?_, fun i hi => ?_, fun b m hb => ⟨?_, ?_⟩, fun a t ha => ?_, h8, h9, h10, h11, fun a a' t t' ha ha' e => ?_, h13, h14⟩
  · rw [pset_ne (ap_tag h1 kk (by rw [tag_arr]; exact Nat.ne_of_beq_eq_false rfl))]; exact h1
  · rw [pset_ne (ap_tag h2 kk (by rw [tag_arr]; exact Nat.ne_of_beq_eq_false rfl))]; exact h2
  · rw [pset_ne (ap_tag h3 kk (by rw [tag_arr]; exact Nat.ne_of_beq_eq_false rfl))]; exact h3
  · rw [pset_ne (ap_tag (h4 i hi) kk (by rw [tag_arr]; exact Nat.ne_of_beq_eq_false rfl))]; exact h4 i hi
  · rw [pset_ne (ap_tag (h5 i hi) kk (by rw [tag_arr]; exact Nat.ne_of_beq_eq_false rfl))]; exact h5 i hi
  · rw [pset_ne (ap_tag (h6 b m hb).1 kk (by rw [tag_arr]; exact Nat.ne_of_beq_eq_false rfl))]; exact (h6 b m hb).1
  · rw [pset_ne (ap_tag (h6 b m hb).2 kk (by rw [tag_arr]; exact Nat.ne_of_beq_eq_false rfl))]; exact (h6 b m hb).2
  · obtain ⟨t0, a1, a2, a3, a4, a5, a6⟩ := old a t ha
    refine ⟨by rw [← a2]; exact (h7 a t0 a1).1, ?_, ?_⟩
    · rw [pset_ne (ap_tag (h7 a t0 a1).2.1 kk (by rw [tag_track, tag_arr]; exact Nat.ne_of_beq_eq_false rfl)), (h7 a t0 a1).2.1, a2, a3, a4]
    · by_cases haa : a = a0
      · have := a6 haa
        subst this
        exact pset_self
      · have := a5 haa
        subst this
        rw [pset_ne (fun e => haa (h12 a a0 t0 _ a1 ha0 e))]
        exact (h7 a t0 a1).2.2
  · obtain ⟨t0, a1, a2, a3, a4, a5, a6⟩ := old a t ha
    obtain ⟨t1, c1, c2, c3, c4, c5, c6⟩ := old a' t' ha'
    exact h12 a a' t0 t1 a1 c1 (by rw [a4, c4]; exact e)
/-- cells that aren't there come: the rest stays -/
theorem CRep.grow {d : AC} {cp : CP} {σ : CS} {G : Pic} (h : CRep d cp σ G) {q : Nat} (hq : G q = none) (e : va_E) : CRep d cp σ (pset G q e) := by
  have key : ∀ {a : Nat} {e1 : va_E}, G a = some e1 → pset G q e a = some e1 := fun {a} {e1} ha => by
    rw [pset_ne (fun z => by rw [z, hq] at ha; cases ha)]; exact ha
  obtain ⟨h1, ⟨f, h2, h2'⟩, h3, h4, h5, h6, h7, h8, h9, h10, h11, h12, h13, h14⟩ := h
  exact ⟨key h1, ⟨f, key h2, h2'⟩, key h3, fun i hi => key (h4 i hi), fun i hi => key (h5 i hi), fun b m hb => ⟨key (h6 b m hb).1, key (h6 b m hb).2⟩, fun a t ha => ⟨(h7 a t ha).1, key (h7 a t ha).2.1, key (h7 a t ha).2.2⟩, h8, h9, h10, h11, h12, h13, h14⟩
/-- a picture that holds all that the first one held -/
theorem CRep.more {d : AC} {cp : CP} {σ : CS} {G G1 : Pic} (h : CRep d cp σ G) (key : ∀ (a : Nat) (e : va_E), G a = some e → G1 a = some e) : CRep d cp σ G1 := by
  obtain ⟨h1, ⟨f, h2, h2'⟩, h3, h4, h5, h6, h7, h8, h9, h10, h11, h12, h13, h14⟩ := h
  exact ⟨key _ _ h1, ⟨f, key _ _ h2, h2'⟩, key _ _ h3, fun i hi => key _ _ (h4 i hi), fun i hi => key _ _ (h5 i hi), fun b m hb => ⟨key _ _ (h6 b m hb).1, key _ _ (h6 b m hb).2⟩, fun a t ha => ⟨(h7 a t ha).1, key _ _ (h7 a t ha).2.1, key _ _ (h7 a t ha).2.2⟩, h8, h9, h10, h11, h12, h13, h14⟩
/-- a new track: two cells that weren't there -/
theorem CRep.newTk {d : AC} {cp : CP} {σ : CS} {G G1 : Pic} (h : CRep d cp σ G) (key : ∀ (a : Nat) (e : va_E), G a = some e → G1 a = some e) {a c kd n : Nat} (hkd : kd < 5) {g : Nat → Int32} (ha : G a = none) (hc : G c = none) (h1 : G1 a = some (trackE kd n c)) (h2 : G1 c = some (arrE d kd n g)) : sTk σ a = none ∧ CRep d cp (pTk σ a (kd, n, c, g)) G1 := by
  have hn : sTk σ a = none := by
    cases hs : sTk σ a with
    | none => rfl
    | some t => have := (h.2.2.2.2.2.2.1 a t hs).2.1; rw [ha] at this; cases this
  refine ⟨hn, ?_⟩
  obtain ⟨h1', h2', h3, h4, h5, h6, h7, h8, h9, h10, h11, h12, h13, h14⟩ := h.more key
  have h7o := h.2.2.2.2.2.2.1
  have old : ∀ x t, va_up σ.2.2.2.2.2 a (some (kd, n, c, g)) x = some t → (x = a ∧ t = (kd, n, c, g)) ∨ (x ≠ a ∧ sTk σ x = some t) := by
    intro x t hx
    by_cases hxa : x = a
    · subst hxa
      rw [va_up_self] at hx
      cases hx
      exact Or.inl ⟨rfl, rfl⟩
    · rw [va_up_ne _ _ hxa] at hx
      exact Or.inr ⟨hxa, hx⟩
  have nc : ∀ x t, sTk σ x = some t → t.2.2.1 ≠ c := fun x t hx e => by
    have := (h7o x t hx).2.2
    rw [e, hc] at this
    cases this
  refine ⟨h1', h2', h3, h4, h5, h6, fun x t hx => ?_, h8, h9, h10, h11, fun x x' t t' hx hx' e => ?_, h13, h14⟩
  · rcases old x t hx with ⟨rfl, rfl⟩ | ⟨-, hx⟩
    · exact ⟨hkd, h1, h2⟩
    · exact h7 x t hx
  · rcases old x t hx with ⟨e1, e2⟩ | ⟨-, hy⟩
    · rcases old x' t' hx' with ⟨e3, e4⟩ | ⟨-, hy'⟩
      · rw [e1, e3]
      · exact absurd (by rw [← e, e2]) (nc x' t' hy')
    · rcases old x' t' hx' with ⟨e3, e4⟩ | ⟨-, hy'⟩
      · exact absurd (by rw [e, e4]) (nc x t hy)
      · exact h12 x x' t t' hy hy' e
/-- a new comb: two cells that weren't there -/
theorem CRep.newCm {d : AC} {cp : CP} {σ : CS} {G G1 : Pic} (h : CRep d cp σ G) (key : ∀ (a : Nat) (e : va_E), G a = some e → G1 a = some e) {b te n : Nat} {k : Int32} {g : Nat → Option Nat} (hb : G b = none) (hte : G te = none) (h1 : G1 b = some (combE k te)) (h2 : G1 te = some (rrow (d 5) n g)) : sCm σ b = none ∧ CRep d cp (pCm σ b (k, n, te, g)) G1 := by
  have hn : sCm σ b = none := by
    cases hs : sCm σ b with
    | none => rfl
    | some t => have := (h.2.2.2.2.2.1 b t hs).1; rw [hb] at this; cases this
  refine ⟨hn, ?_⟩
  have h6o := h.2.2.2.2.2.1
  have hD := h.2.1
  have hC := h.2.2.1
  have hT := h.2.2.2.2.1
  obtain ⟨h1', h2', h3, h4, h5, h6, h7, h8, h9, h10, h11, h12, h13, h14⟩ := h.more key
  have old : ∀ x t, va_up σ.2.2.2.2.1 b (some (k, n, te, g)) x = some t → (x = b ∧ t = (k, n, te, g)) ∨ (x ≠ b ∧ sCm σ x = some t) := by
    intro x t hx
    by_cases hxa : x = b
    · subst hxa
      rw [va_up_self] at hx
      cases hx
      exact Or.inl ⟨rfl, rfl⟩
    · rw [va_up_ne _ _ hxa] at hx
      exact Or.inr ⟨hxa, hx⟩
  have nn : ∀ {x : Nat} {e : va_E}, G x = some e → x ≠ te := fun {x} {e} hx z => by rw [z, hte] at hx; cases hx
  refine ⟨h1', h2', h3, h4, h5, fun x t hx => ?_, h7, h8, h9, fun x t hx => ?_, fun x x' t t' hx hx' e => ?_, h12, h13, h14⟩
  · rcases old x t hx with ⟨rfl, rfl⟩ | ⟨-, hx⟩
    · exact ⟨h1, h2⟩
    · exact h6 x t hx
  · rcases old x t hx with ⟨rfl, rfl⟩ | ⟨-, hx⟩
    · obtain ⟨f, hD, -⟩ := hD
      exact ⟨nn hD, nn hC, fun i hi => nn (hT i hi)⟩
    · exact h10 x t hx
  · rcases old x t hx with ⟨e1, e2⟩ | ⟨-, hy⟩
    · rcases old x' t' hx' with ⟨e3, e4⟩ | ⟨-, hy'⟩
      · rw [e1, e3]
      · exact absurd (by rw [← e, e2]) (nn (h6o x' t' hy').2)
    · rcases old x' t' hx' with ⟨e3, e4⟩ | ⟨-, hy'⟩
      · exact absurd (by rw [e, e4]) (nn (h6o x t hy).2)
      · exact h11 x x' t t' hy hy' e
def ΩC (D : va_G) (d : AC) (cp : CP) : Wld CS := fun F σ H => ∃ G, ΩG D F G H ∧ CRep d cp σ G
theorem ΩC.mono (D : va_G) (d : AC) (cp : CP) : Mono (ΩC D d cp) := fun F F' _ H h hw => by
  obtain ⟨G, h1, h2⟩ := hw
  exact ⟨G, ΩG.mono D F F' G H h h1, h2⟩
