abbrev rmX9_newTrack : Room := { frames := 0, cells := 0, slots := 0, locals := 0 }
theorem nmhX9_newTrack : NoMH yX9_newTrack 1 := by decide +kernel
def wX9_newTrack_b26 (x1 : Int32) (Q : Int32 → MS → Prop) : Nat → Int32 → Int32 → MS → Prop
  | 0, _, _, _ => False
  | n + 1, v2, v3, μ =>
    (x1 ≤ v3 → Q v2 μ) ∧ (¬ x1 ≤ v3 → (vp_in (((300 : Int32) * v2) + v3) 60600 ∧ (∀ y6 : Int32, y6 = v3 + 1 → (wX9_newTrack_b26 x1 Q n v2 y6 (nCell μ (upd (mCell μ) (((300 : Int32) * v2) + v3).toNatClampNeg (0 : Int32)))))))
theorem wX9_newTrack_b26_s (x1 : Int32) (Q : Int32 → MS → Prop) (n : Nat) (v2 : Int32) (v3 : Int32) (μ : MS) : wX9_newTrack_b26 x1 Q (n + 1) v2 v3 μ = (
    (x1 ≤ v3 → Q v2 μ) ∧ (¬ x1 ≤ v3 → (vp_in (((300 : Int32) * v2) + v3) 60600 ∧ (∀ y6 : Int32, y6 = v3 + 1 → (wX9_newTrack_b26 x1 Q n v2 y6 (nCell μ (upd (mCell μ) (((300 : Int32) * v2) + v3).toNatClampNeg (0 : Int32)))))))) := rfl
def wX9_newTrack_b2 (x1 : Int32) (Q : Int32 → MS → Prop) : Nat → Int32 → MS → Prop
  | 0, _, _ => False
  | n + 1, v2, μ =>
    vp_in v2 202 ∧ (((mUses μ v2.toNatClampNeg) ≤ 0 → (vp_in v2 202 ∧ (∃ k26 : Nat, wX9_newTrack_b26 x1 Q k26 v2 (0 : Int32) (nSize μ (upd (mSize μ) v2.toNatClampNeg x1))))) ∧ (¬ (mUses μ v2.toNatClampNeg) ≤ 0 → (∀ y7 : Int32, y7 = v2 + 1 → (wX9_newTrack_b2 x1 Q n y7 μ))))
theorem wX9_newTrack_b2_s (x1 : Int32) (Q : Int32 → MS → Prop) (n : Nat) (v2 : Int32) (μ : MS) : wX9_newTrack_b2 x1 Q (n + 1) v2 μ = (
    vp_in v2 202 ∧ (((mUses μ v2.toNatClampNeg) ≤ 0 → (vp_in v2 202 ∧ (∃ k26 : Nat, wX9_newTrack_b26 x1 Q k26 v2 (0 : Int32) (nSize μ (upd (mSize μ) v2.toNatClampNeg x1))))) ∧ (¬ (mUses μ v2.toNatClampNeg) ≤ 0 → (∀ y7 : Int32, y7 = v2 + 1 → (wX9_newTrack_b2 x1 Q n y7 μ))))) := rfl
def wX9_newTrack (x1 : Int32) (μ : MS) (Q : Int32 → MS → Prop) : Prop :=
    ∃ k2 : Nat, wX9_newTrack_b2 x1 Q k2 (0 : Int32) μ
set_option maxHeartbeats 4000000 in
set_option maxRecDepth 100000 in
theorem tX9_newTrack (l : Launch) (D : va_G) (d : AC) (mp : Nat → Nat) (x1 : Int32) (μ : MS) {Q : Int32 → MS → Prop} (hq : wX9_newTrack x1 μ Q) : MT D d (ΩM D d mp) l yX9_newTrack (WS yX9_newTrack cX9_newTrack 4 (some (.int))) rmX9_newTrack [.ref (mp 0), .int x1] μ (qI Q) := by
  refine mt_of (ΩM.mono D d mp) (by decide +kernel) (Nat.le_of_ble_eq_true rfl) (fun p e s m below meth c A ls hx hb hr hml hown hts hlocks hnm hK hA hw hS hl => ?_)
  have hl : lv_has ls 4 [(0, .ref (mp 0)), (1, .int x1)] := hl
  have hown : s.vm.findClass RX9 = some m.cls := hown
  have b26 : ∀ (n : Nat) (v2 : Int32) (v3 : Int32) (μ : MS) (H : Heap) (locs : List Loc) (ls : Array Slot), wX9_newTrack_b26 x1 Q n v2 v3 μ → (ΩM D d mp) A μ H → va_S A s.heap H locs → lv_has ls 4 [(0, .ref (mp 0)), (1, .int x1), (2, .int v2), (3, .int v3)] → W p l e rmX9_newTrack s m [.ref (mp 0), .int x1].toArray below meth c H locs 0 0 (MQ below (Qo (qI Q) (fun u' t => (ΩM D d mp) A u' t.heap) A) [.ref (mp 0), .int x1].toArray s rmX9_newTrack.cells rmX9_newTrack.slots A) (F0 m 26 ls []) := by
    intro n
    induction n with
    | zero =>
      intro v2 v3 μ H locs ls hq
      exact absurd hq id
    | succ n ih =>
      intro v2 v3 μ H locs ls hq hw hS hl
      rw [wX9_newTrack_b26_s] at hq
      refine lv_iload_n hx hb dX9_newTrack_26 rfl (lv_at hl 3 rfl) ?_
      refine lv_iload_n hx hb dX9_newTrack_27 rfl (lv_at hl 1 rfl) ?_
      refine lv_icmp_ge (tgt := 50) hx hb dX9_newTrack_28 (by decide) (fun hc => ?_) (fun hc => ?_)
      · replace hq := hq.1 hc
        refine lv_iload_n hx hb dX9_newTrack_50 rfl (lv_at hl 2 rfl) ?_
        exact mt_reti hx hb hr hlocks hw hS (Nat.le_of_ble_eq_true rfl) (Nat.le_of_ble_eq_true rfl) dX9_newTrack_51 ⟨_, rfl, hq⟩
      · replace hq := hq.2 hc
        refine lv_aload_n hx hb dX9_newTrack_31 rfl (lv_at hl 0 rfl) ?_
        refine va_get (D := D) (ci := 8) (v := .ref (mp 1)) (C := RX9) (T := TX9) (N := 15) hx hb hts inX9 hown hK.1 hw.1 0 rfl rfl 0 (by decide) (hts _ q_461) (fun _ h9 => h9) rfl dX9_newTrack_32 ?_
        refine lv_sipush (v := 300) hx hb dX9_newTrack_35 (by decide) ?_
        refine lv_iload_n hx hb dX9_newTrack_38 rfl (lv_at hl 2 rfl) ?_
        refine lv_imul hx hb dX9_newTrack_39 ?_
        refine lv_iload_n hx hb dX9_newTrack_40 rfl (lv_at hl 3 rfl) ?_
        refine lv_iadd hx hb dX9_newTrack_41 ?_
        refine lv_iconst (v := 0) hx hb dX9_newTrack_42 (by decide) ?_
        refine va_iast hx hb hK.1 hw.1 hw.2 hS 1 8 rfl rfl hq.1 dX9_newTrack_43 (fun H locs hP hD hS => ?_)
        have hw : ΩM D d mp A (nCell μ (upd (mCell μ) (((300 : Int32) * v2) + v3).toNatClampNeg (0 : Int32))) H := ⟨hP, hD⟩
        replace hq := hq.2
        obtain ⟨y6, ey6⟩ : ∃ z : Int32, z = v3 + 1 := ⟨_, rfl⟩
        replace hq := hq y6 ey6
        refine lv_iinc (v := y6) (lv' := [(3, .int y6), (0, .ref (mp 0)), (1, .int x1), (2, .int v2)]) hx hb dX9_newTrack_44 hl (k := 3) rfl (by rw [ey6]; rfl) (by decide) rfl (fun ls hl => ?_)
        refine lv_goto (tgt := 26) hx hb dX9_newTrack_47 (by decide) ?_
        exact ih v2 y6 (nCell μ (upd (mCell μ) (((300 : Int32) * v2) + v3).toNatClampNeg (0 : Int32))) _ _ _ hq hw hS (lv_sub hl [1, 2, 3, 0] rfl)
  have b2 : ∀ (n : Nat) (v2 : Int32) (μ : MS) (H : Heap) (locs : List Loc) (ls : Array Slot), wX9_newTrack_b2 x1 Q n v2 μ → (ΩM D d mp) A μ H → va_S A s.heap H locs → lv_has ls 4 [(0, .ref (mp 0)), (1, .int x1), (2, .int v2)] → W p l e rmX9_newTrack s m [.ref (mp 0), .int x1].toArray below meth c H locs 0 0 (MQ below (Qo (qI Q) (fun u' t => (ΩM D d mp) A u' t.heap) A) [.ref (mp 0), .int x1].toArray s rmX9_newTrack.cells rmX9_newTrack.slots A) (F0 m 2 ls []) := by
    intro n
    induction n with
    | zero =>
      intro v2 μ H locs ls hq
      exact absurd hq id
    | succ n ih =>
      intro v2 μ H locs ls hq hw hS hl
      rw [wX9_newTrack_b2_s] at hq
      refine lv_aload_n hx hb dX9_newTrack_2 rfl (lv_at hl 0 rfl) ?_
      refine va_get (D := D) (ci := 8) (v := .ref (mp 3)) (C := RX9) (T := TX9) (N := 15) hx hb hts inX9 hown hK.1 hw.1 0 rfl rfl 2 (by decide) (hts _ q_463) (fun _ h9 => h9) rfl dX9_newTrack_3 ?_
      refine lv_iload_n hx hb dX9_newTrack_6 rfl (lv_at hl 2 rfl) ?_
      refine va_iald hx hb hK.1 hw.1 3 8 rfl rfl hq.1 dX9_newTrack_7 ?_
      replace hq := hq.2
      refine lv_if_le (tgt := 17) hx hb dX9_newTrack_8 (by decide) (fun hc => ?_) (fun hc => ?_)
      · replace hq := hq.1 hc
        refine lv_aload_n hx hb dX9_newTrack_17 rfl (lv_at hl 0 rfl) ?_
        refine va_get (D := D) (ci := 8) (v := .ref (mp 2)) (C := RX9) (T := TX9) (N := 15) hx hb hts inX9 hown hK.1 hw.1 0 rfl rfl 1 (by decide) (hts _ q_462) (fun _ h9 => h9) rfl dX9_newTrack_18 ?_
        refine lv_iload_n hx hb dX9_newTrack_21 rfl (lv_at hl 2 rfl) ?_
        refine lv_iload_n hx hb dX9_newTrack_22 rfl (lv_at hl 1 rfl) ?_
        refine va_iast hx hb hK.1 hw.1 hw.2 hS 2 8 rfl rfl hq.1 dX9_newTrack_23 (fun H locs hP hD hS => ?_)
        have hw : ΩM D d mp A (nSize μ (upd (mSize μ) v2.toNatClampNeg x1)) H := ⟨hP, hD⟩
        replace hq := hq.2
        refine lv_iconst (v := 0) hx hb dX9_newTrack_24 (by decide) ?_
        refine lv_istore_n (lv' := [(3, .int (0 : Int32)), (0, .ref (mp 0)), (1, .int x1), (2, .int v2)]) hx hb dX9_newTrack_25 rfl hl (by decide) rfl (fun ls hl => ?_)
        obtain ⟨k26, hq⟩ := hq
        exact b26 k26 v2 (0 : Int32) (nSize μ (upd (mSize μ) v2.toNatClampNeg x1)) _ _ _ hq hw hS (lv_sub hl [1, 2, 3, 0] rfl)
      · replace hq := hq.2 hc
        obtain ⟨y7, ey7⟩ : ∃ z : Int32, z = v2 + 1 := ⟨_, rfl⟩
        replace hq := hq y7 ey7
        refine lv_iinc (v := y7) (lv' := [(2, .int y7), (0, .ref (mp 0)), (1, .int x1)]) hx hb dX9_newTrack_11 hl (k := 2) rfl (by rw [ey7]; rfl) (by decide) rfl (fun ls hl => ?_)
        refine lv_goto (tgt := 2) hx hb dX9_newTrack_14 (by decide) ?_
        exact ih y7 μ _ _ _ hq hw hS (lv_sub hl [1, 2, 0] rfl)
  unfold wX9_newTrack at hq
  refine lv_iconst (v := 0) hx hb dX9_newTrack_0 (by decide) ?_
  refine lv_istore_n (lv' := [(2, .int (0 : Int32)), (0, .ref (mp 0)), (1, .int x1)]) hx hb dX9_newTrack_1 rfl hl (by decide) rfl (fun ls hl => ?_)
  obtain ⟨k2, hq⟩ := hq
  exact b2 k2 (0 : Int32) μ _ _ _ hq hw hS (lv_sub hl [1, 2, 0] rfl)
abbrev rmX9_drumGets : Room := { frames := 0, cells := 0, slots := 0, locals := 0 }
theorem nmhX9_drumGets : NoMH yX9_drumGets 3 := by decide +kernel
def wX9_drumGets_b21 (x1 : Int32) (x2 : Int32) (x3 : Int32) (Q : MS → Prop) (v4 : Int32) (μ : MS) : Prop :=
    vp_in v4 40 ∧ (((mDrums μ v4.toNatClampNeg) < 0 → (vp_in v4 40 ∧ (Q (nDrums μ (upd (mDrums μ) v4.toNatClampNeg x3))))) ∧ (¬ (mDrums μ v4.toNatClampNeg) < 0 → (vp_in v4 40 ∧ (vp_in (mDrums μ v4.toNatClampNeg) 202 ∧ (vp_in (mDrums μ v4.toNatClampNeg) 202 ∧ (vp_in v4 40 ∧ (Q (nDrums (nUses μ (upd (mUses μ) (mDrums μ v4.toNatClampNeg).toNatClampNeg ((mUses μ (mDrums μ v4.toNatClampNeg).toNatClampNeg) - (1 : Int32)))) (upd (mDrums (nUses μ (upd (mUses μ) (mDrums μ v4.toNatClampNeg).toNatClampNeg ((mUses μ (mDrums μ v4.toNatClampNeg).toNatClampNeg) - (1 : Int32))))) v4.toNatClampNeg x3)))))))))
def wX9_drumGets (x1 : Int32) (x2 : Int32) (x3 : Int32) (μ : MS) (Q : MS → Prop) : Prop :=
    ∀ y2 : Int32, y2 = (((5 : Int32) * x1) + x2) → ((x3 < 0 → wX9_drumGets_b21 x1 x2 x3 Q y2 μ) ∧ (¬ x3 < 0 → (vp_in x3 202 ∧ (vp_in x3 202 ∧ (wX9_drumGets_b21 x1 x2 x3 Q y2 (nUses μ (upd (mUses μ) x3.toNatClampNeg ((mUses μ x3.toNatClampNeg) + (1 : Int32)))))))))
set_option maxHeartbeats 4000000 in
set_option maxRecDepth 100000 in
theorem tX9_drumGets (l : Launch) (D : va_G) (d : AC) (mp : Nat → Nat) (x1 : Int32) (x2 : Int32) (x3 : Int32) (μ : MS) {Q : MS → Prop} (hq : wX9_drumGets x1 x2 x3 μ Q) : MT D d (ΩM D d mp) l yX9_drumGets (WS yX9_drumGets cX9_drumGets 5 none) rmX9_drumGets [.ref (mp 0), .int x1, .int x2, .int x3] μ (qV Q) := by
  refine mt_of (ΩM.mono D d mp) (by decide +kernel) (Nat.le_of_ble_eq_true rfl) (fun p e s m below meth c A ls hx hb hr hml hown hts hlocks hnm hK hA hw hS hl => ?_)
  have hl : lv_has ls 5 [(0, .ref (mp 0)), (1, .int x1), (2, .int x2), (3, .int x3)] := hl
  have hown : s.vm.findClass RX9 = some m.cls := hown
  have b21 : ∀ (v4 : Int32) (μ : MS) (H : Heap) (locs : List Loc) (ls : Array Slot), wX9_drumGets_b21 x1 x2 x3 Q v4 μ → (ΩM D d mp) A μ H → va_S A s.heap H locs → lv_has ls 5 [(0, .ref (mp 0)), (1, .int x1), (2, .int x2), (3, .int x3), (4, .int v4)] → W p l e rmX9_drumGets s m [.ref (mp 0), .int x1, .int x2, .int x3].toArray below meth c H locs 0 0 (MQ below (Qo (qV Q) (fun u' t => (ΩM D d mp) A u' t.heap) A) [.ref (mp 0), .int x1, .int x2, .int x3].toArray s rmX9_drumGets.cells rmX9_drumGets.slots A) (F0 m 21 ls []) := by
    intro v4 μ H locs ls hq hw hS hl
    unfold wX9_drumGets_b21 at hq
    refine lv_aload_n hx hb dX9_drumGets_21 rfl (lv_at hl 0 rfl) ?_
    refine va_get (D := D) (ci := 8) (v := .ref (mp 4)) (C := RX9) (T := TX9) (N := 15) hx hb hts inX9 hown hK.1 hw.1 0 rfl rfl 3 (by decide) (hts _ q_464) (fun _ h9 => h9) rfl dX9_drumGets_22 ?_
    refine lv_iload hx hb dX9_drumGets_25 (lv_at hl 4 rfl) ?_
    refine va_iald hx hb hK.1 hw.1 4 8 rfl rfl hq.1 dX9_drumGets_27 ?_
    replace hq := hq.2
    refine lv_if_lt (tgt := 47) hx hb dX9_drumGets_28 (by decide) (fun hc => ?_) (fun hc => ?_)
    · replace hq := hq.1 hc
      refine lv_aload_n hx hb dX9_drumGets_47 rfl (lv_at hl 0 rfl) ?_
      refine va_get (D := D) (ci := 8) (v := .ref (mp 4)) (C := RX9) (T := TX9) (N := 15) hx hb hts inX9 hown hK.1 hw.1 0 rfl rfl 3 (by decide) (hts _ q_464) (fun _ h9 => h9) rfl dX9_drumGets_48 ?_
      refine lv_iload hx hb dX9_drumGets_51 (lv_at hl 4 rfl) ?_
      refine lv_iload_n hx hb dX9_drumGets_53 rfl (lv_at hl 3 rfl) ?_
      refine va_iast hx hb hK.1 hw.1 hw.2 hS 4 8 rfl rfl hq.1 dX9_drumGets_54 (fun H locs hP hD hS => ?_)
      have hw : ΩM D d mp A (nDrums μ (upd (mDrums μ) v4.toNatClampNeg x3)) H := ⟨hP, hD⟩
      replace hq := hq.2
      exact mt_retv hx hb hr hlocks hw hS (Nat.le_of_ble_eq_true rfl) (Nat.le_of_ble_eq_true rfl) dX9_drumGets_55 ⟨rfl, hq⟩
    · replace hq := hq.2 hc
      refine lv_aload_n hx hb dX9_drumGets_31 rfl (lv_at hl 0 rfl) ?_
      refine va_get (D := D) (ci := 8) (v := .ref (mp 3)) (C := RX9) (T := TX9) (N := 15) hx hb hts inX9 hown hK.1 hw.1 0 rfl rfl 2 (by decide) (hts _ q_463) (fun _ h9 => h9) rfl dX9_drumGets_32 ?_
      refine lv_aload_n hx hb dX9_drumGets_35 rfl (lv_at hl 0 rfl) ?_
      refine va_get (D := D) (ci := 8) (v := .ref (mp 4)) (C := RX9) (T := TX9) (N := 15) hx hb hts inX9 hown hK.1 hw.1 0 rfl rfl 3 (by decide) (hts _ q_464) (fun _ h9 => h9) rfl dX9_drumGets_36 ?_
      refine lv_iload hx hb dX9_drumGets_39 (lv_at hl 4 rfl) ?_
      refine va_iald hx hb hK.1 hw.1 4 8 rfl rfl hq.1 dX9_drumGets_41 ?_
      replace hq := hq.2
      refine lv_dup2_11 hx hb dX9_drumGets_42 rfl rfl ?_
      refine va_iald hx hb hK.1 hw.1 3 8 rfl rfl hq.1 dX9_drumGets_43 ?_
      replace hq := hq.2
      refine lv_iconst (v := 1) hx hb dX9_drumGets_44 (by decide) ?_
      refine lv_isub hx hb dX9_drumGets_45 ?_
      refine va_iast hx hb hK.1 hw.1 hw.2 hS 3 8 rfl rfl hq.1 dX9_drumGets_46 (fun H locs hP hD hS => ?_)
      have hw : ΩM D d mp A (nUses μ (upd (mUses μ) (mDrums μ v4.toNatClampNeg).toNatClampNeg ((mUses μ (mDrums μ v4.toNatClampNeg).toNatClampNeg) - (1 : Int32)))) H := ⟨hP, hD⟩
      replace hq := hq.2
      refine lv_aload_n hx hb dX9_drumGets_47 rfl (lv_at hl 0 rfl) ?_
      refine va_get (D := D) (ci := 8) (v := .ref (mp 4)) (C := RX9) (T := TX9) (N := 15) hx hb hts inX9 hown hK.1 hw.1 0 rfl rfl 3 (by decide) (hts _ q_464) (fun _ h9 => h9) rfl dX9_drumGets_48 ?_
      refine lv_iload hx hb dX9_drumGets_51 (lv_at hl 4 rfl) ?_
      refine lv_iload_n hx hb dX9_drumGets_53 rfl (lv_at hl 3 rfl) ?_
      refine va_iast hx hb hK.1 hw.1 hw.2 hS 4 8 rfl rfl hq.1 dX9_drumGets_54 (fun H locs hP hD hS => ?_)
      have hw : ΩM D d mp A (nDrums (nUses μ (upd (mUses μ) (mDrums μ v4.toNatClampNeg).toNatClampNeg ((mUses μ (mDrums μ v4.toNatClampNeg).toNatClampNeg) - (1 : Int32)))) (upd (mDrums (nUses μ (upd (mUses μ) (mDrums μ v4.toNatClampNeg).toNatClampNeg ((mUses μ (mDrums μ v4.toNatClampNeg).toNatClampNeg) - (1 : Int32))))) v4.toNatClampNeg x3)) H := ⟨hP, hD⟩
      replace hq := hq.2
      exact mt_retv hx hb hr hlocks hw hS (Nat.le_of_ble_eq_true rfl) (Nat.le_of_ble_eq_true rfl) dX9_drumGets_55 ⟨rfl, hq⟩
  unfold wX9_drumGets at hq
  refine lv_iconst (v := 5) hx hb dX9_drumGets_0 (by decide) ?_
  refine lv_iload_n hx hb dX9_drumGets_1 rfl (lv_at hl 1 rfl) ?_
  refine lv_imul hx hb dX9_drumGets_2 ?_
  refine lv_iload_n hx hb dX9_drumGets_3 rfl (lv_at hl 2 rfl) ?_
  refine lv_iadd hx hb dX9_drumGets_4 ?_
  refine lv_topi (fun y2 ey2 => ?_)
  replace hq := hq y2 ey2
  refine lv_istore (lv' := [(4, .int y2), (0, .ref (mp 0)), (1, .int x1), (2, .int x2), (3, .int x3)]) hx hb dX9_drumGets_5 hl (by decide) rfl (fun ls hl => ?_)
  refine lv_iload_n hx hb dX9_drumGets_7 rfl (lv_at hl 4 rfl) ?_
  refine lv_if_lt (tgt := 21) hx hb dX9_drumGets_8 (by decide) (fun hc => ?_) (fun hc => ?_)
  · replace hq := hq.1 hc
    exact b21 y2 μ _ _ _ hq hw hS (lv_sub hl [1, 2, 3, 4, 0] rfl)
  · replace hq := hq.2 hc
    refine lv_aload_n hx hb dX9_drumGets_11 rfl (lv_at hl 1 rfl) ?_
    refine va_get (D := D) (ci := 8) (v := .ref (mp 3)) (C := RX9) (T := TX9) (N := 15) hx hb hts inX9 hown hK.1 hw.1 0 rfl rfl 2 (by decide) (hts _ q_463) (fun _ h9 => h9) rfl dX9_drumGets_12 ?_
    refine lv_iload_n hx hb dX9_drumGets_15 rfl (lv_at hl 4 rfl) ?_
    refine lv_dup2_11 hx hb dX9_drumGets_16 rfl rfl ?_
    refine va_iald hx hb hK.1 hw.1 3 8 rfl rfl hq.1 dX9_drumGets_17 ?_
    replace hq := hq.2
    refine lv_iconst (v := 1) hx hb dX9_drumGets_18 (by decide) ?_
    refine lv_iadd hx hb dX9_drumGets_19 ?_
    refine va_iast hx hb hK.1 hw.1 hw.2 hS 3 8 rfl rfl hq.1 dX9_drumGets_20 (fun H locs hP hD hS => ?_)
    have hw : ΩM D d mp A (nUses μ (upd (mUses μ) x3.toNatClampNeg ((mUses μ x3.toNatClampNeg) + (1 : Int32)))) H := ⟨hP, hD⟩
    replace hq := hq.2
    exact b21 y2 (nUses μ (upd (mUses μ) x3.toNatClampNeg ((mUses μ x3.toNatClampNeg) + (1 : Int32)))) _ _ _ hq hw hS (lv_sub hl [1, 2, 3, 4, 0] rfl)
abbrev rmX9_toothGets : Room := { frames := 0, cells := 0, slots := 0, locals := 0 }
theorem nmhX9_toothGets : NoMH yX9_toothGets 3 := by decide +kernel
def wX9_toothGets_b22 (x1 : Int32) (x2 : Int32) (x3 : Int32) (Q : MS → Prop) (v4 : Int32) (μ : MS) : Prop :=
    vp_in v4 160 ∧ (((mTeeth μ v4.toNatClampNeg) < 0 → (vp_in v4 160 ∧ (Q (nTeeth μ (upd (mTeeth μ) v4.toNatClampNeg x3))))) ∧ (¬ (mTeeth μ v4.toNatClampNeg) < 0 → (vp_in v4 160 ∧ (vp_in (mTeeth μ v4.toNatClampNeg) 202 ∧ (vp_in (mTeeth μ v4.toNatClampNeg) 202 ∧ (vp_in v4 160 ∧ (Q (nTeeth (nUses μ (upd (mUses μ) (mTeeth μ v4.toNatClampNeg).toNatClampNeg ((mUses μ (mTeeth μ v4.toNatClampNeg).toNatClampNeg) - (1 : Int32)))) (upd (mTeeth (nUses μ (upd (mUses μ) (mTeeth μ v4.toNatClampNeg).toNatClampNeg ((mUses μ (mTeeth μ v4.toNatClampNeg).toNatClampNeg) - (1 : Int32))))) v4.toNatClampNeg x3)))))))))
def wX9_toothGets (x1 : Int32) (x2 : Int32) (x3 : Int32) (μ : MS) (Q : MS → Prop) : Prop :=
    ∀ y2 : Int32, y2 = (((40 : Int32) * x1) + x2) → ((x3 < 0 → wX9_toothGets_b22 x1 x2 x3 Q y2 μ) ∧ (¬ x3 < 0 → (vp_in x3 202 ∧ (vp_in x3 202 ∧ (wX9_toothGets_b22 x1 x2 x3 Q y2 (nUses μ (upd (mUses μ) x3.toNatClampNeg ((mUses μ x3.toNatClampNeg) + (1 : Int32)))))))))
set_option maxHeartbeats 4000000 in
set_option maxRecDepth 100000 in
theorem tX9_toothGets (l : Launch) (D : va_G) (d : AC) (mp : Nat → Nat) (x1 : Int32) (x2 : Int32) (x3 : Int32) (μ : MS) {Q : MS → Prop} (hq : wX9_toothGets x1 x2 x3 μ Q) : MT D d (ΩM D d mp) l yX9_toothGets (WS yX9_toothGets cX9_toothGets 5 none) rmX9_toothGets [.ref (mp 0), .int x1, .int x2, .int x3] μ (qV Q) := by
  refine mt_of (ΩM.mono D d mp) (by decide +kernel) (Nat.le_of_ble_eq_true rfl) (fun p e s m below meth c A ls hx hb hr hml hown hts hlocks hnm hK hA hw hS hl => ?_)
  have hl : lv_has ls 5 [(0, .ref (mp 0)), (1, .int x1), (2, .int x2), (3, .int x3)] := hl
  have hown : s.vm.findClass RX9 = some m.cls := hown
  have b22 : ∀ (v4 : Int32) (μ : MS) (H : Heap) (locs : List Loc) (ls : Array Slot), wX9_toothGets_b22 x1 x2 x3 Q v4 μ → (ΩM D d mp) A μ H → va_S A s.heap H locs → lv_has ls 5 [(0, .ref (mp 0)), (1, .int x1), (2, .int x2), (3, .int x3), (4, .int v4)] → W p l e rmX9_toothGets s m [.ref (mp 0), .int x1, .int x2, .int x3].toArray below meth c H locs 0 0 (MQ below (Qo (qV Q) (fun u' t => (ΩM D d mp) A u' t.heap) A) [.ref (mp 0), .int x1, .int x2, .int x3].toArray s rmX9_toothGets.cells rmX9_toothGets.slots A) (F0 m 22 ls []) := by
    intro v4 μ H locs ls hq hw hS hl
    unfold wX9_toothGets_b22 at hq
    refine lv_aload_n hx hb dX9_toothGets_22 rfl (lv_at hl 0 rfl) ?_
    refine va_get (D := D) (ci := 8) (v := .ref (mp 5)) (C := RX9) (T := TX9) (N := 15) hx hb hts inX9 hown hK.1 hw.1 0 rfl rfl 4 (by decide) (hts _ q_465) (fun _ h9 => h9) rfl dX9_toothGets_23 ?_
    refine lv_iload hx hb dX9_toothGets_26 (lv_at hl 4 rfl) ?_
    refine va_iald hx hb hK.1 hw.1 5 8 rfl rfl hq.1 dX9_toothGets_28 ?_
    replace hq := hq.2
    refine lv_if_lt (tgt := 48) hx hb dX9_toothGets_29 (by decide) (fun hc => ?_) (fun hc => ?_)
    · replace hq := hq.1 hc
      refine lv_aload_n hx hb dX9_toothGets_48 rfl (lv_at hl 0 rfl) ?_
      refine va_get (D := D) (ci := 8) (v := .ref (mp 5)) (C := RX9) (T := TX9) (N := 15) hx hb hts inX9 hown hK.1 hw.1 0 rfl rfl 4 (by decide) (hts _ q_465) (fun _ h9 => h9) rfl dX9_toothGets_49 ?_
      refine lv_iload hx hb dX9_toothGets_52 (lv_at hl 4 rfl) ?_
      refine lv_iload_n hx hb dX9_toothGets_54 rfl (lv_at hl 3 rfl) ?_
      refine va_iast hx hb hK.1 hw.1 hw.2 hS 5 8 rfl rfl hq.1 dX9_toothGets_55 (fun H locs hP hD hS => ?_)
      have hw : ΩM D d mp A (nTeeth μ (upd (mTeeth μ) v4.toNatClampNeg x3)) H := ⟨hP, hD⟩
      replace hq := hq.2
      exact mt_retv hx hb hr hlocks hw hS (Nat.le_of_ble_eq_true rfl) (Nat.le_of_ble_eq_true rfl) dX9_toothGets_56 ⟨rfl, hq⟩
    · replace hq := hq.2 hc
      refine lv_aload_n hx hb dX9_toothGets_32 rfl (lv_at hl 0 rfl) ?_
      refine va_get (D := D) (ci := 8) (v := .ref (mp 3)) (C := RX9) (T := TX9) (N := 15) hx hb hts inX9 hown hK.1 hw.1 0 rfl rfl 2 (by decide) (hts _ q_463) (fun _ h9 => h9) rfl dX9_toothGets_33 ?_
      refine lv_aload_n hx hb dX9_toothGets_36 rfl (lv_at hl 0 rfl) ?_
      refine va_get (D := D) (ci := 8) (v := .ref (mp 5)) (C := RX9) (T := TX9) (N := 15) hx hb hts inX9 hown hK.1 hw.1 0 rfl rfl 4 (by decide) (hts _ q_465) (fun _ h9 => h9) rfl dX9_toothGets_37 ?_
      refine lv_iload hx hb dX9_toothGets_40 (lv_at hl 4 rfl) ?_
      refine va_iald hx hb hK.1 hw.1 5 8 rfl rfl hq.1 dX9_toothGets_42 ?_
      replace hq := hq.2
      refine lv_dup2_11 hx hb dX9_toothGets_43 rfl rfl ?_
      refine va_iald hx hb hK.1 hw.1 3 8 rfl rfl hq.1 dX9_toothGets_44 ?_
      replace hq := hq.2
      refine lv_iconst (v := 1) hx hb dX9_toothGets_45 (by decide) ?_
      refine lv_isub hx hb dX9_toothGets_46 ?_
      refine va_iast hx hb hK.1 hw.1 hw.2 hS 3 8 rfl rfl hq.1 dX9_toothGets_47 (fun H locs hP hD hS => ?_)
      have hw : ΩM D d mp A (nUses μ (upd (mUses μ) (mTeeth μ v4.toNatClampNeg).toNatClampNeg ((mUses μ (mTeeth μ v4.toNatClampNeg).toNatClampNeg) - (1 : Int32)))) H := ⟨hP, hD⟩
      replace hq := hq.2
      refine lv_aload_n hx hb dX9_toothGets_48 rfl (lv_at hl 0 rfl) ?_
      refine va_get (D := D) (ci := 8) (v := .ref (mp 5)) (C := RX9) (T := TX9) (N := 15) hx hb hts inX9 hown hK.1 hw.1 0 rfl rfl 4 (by decide) (hts _ q_465) (fun _ h9 => h9) rfl dX9_toothGets_49 ?_
      refine lv_iload hx hb dX9_toothGets_52 (lv_at hl 4 rfl) ?_
      refine lv_iload_n hx hb dX9_toothGets_54 rfl (lv_at hl 3 rfl) ?_
      refine va_iast hx hb hK.1 hw.1 hw.2 hS 5 8 rfl rfl hq.1 dX9_toothGets_55 (fun H locs hP hD hS => ?_)
      have hw : ΩM D d mp A (nTeeth (nUses μ (upd (mUses μ) (mTeeth μ v4.toNatClampNeg).toNatClampNeg ((mUses μ (mTeeth μ v4.toNatClampNeg).toNatClampNeg) - (1 : Int32)))) (upd (mTeeth (nUses μ (upd (mUses μ) (mTeeth μ v4.toNatClampNeg).toNatClampNeg ((mUses μ (mTeeth μ v4.toNatClampNeg).toNatClampNeg) - (1 : Int32))))) v4.toNatClampNeg x3)) H := ⟨hP, hD⟩
      replace hq := hq.2
      exact mt_retv hx hb hr hlocks hw hS (Nat.le_of_ble_eq_true rfl) (Nat.le_of_ble_eq_true rfl) dX9_toothGets_56 ⟨rfl, hq⟩
  unfold wX9_toothGets at hq
  refine lv_bipush (v := 40) hx hb dX9_toothGets_0 (by decide) ?_
  refine lv_iload_n hx hb dX9_toothGets_2 rfl (lv_at hl 1 rfl) ?_
  refine lv_imul hx hb dX9_toothGets_3 ?_
  refine lv_iload_n hx hb dX9_toothGets_4 rfl (lv_at hl 2 rfl) ?_
  refine lv_iadd hx hb dX9_toothGets_5 ?_
  refine lv_topi (fun y2 ey2 => ?_)
  replace hq := hq y2 ey2
  refine lv_istore (lv' := [(4, .int y2), (0, .ref (mp 0)), (1, .int x1), (2, .int x2), (3, .int x3)]) hx hb dX9_toothGets_6 hl (by decide) rfl (fun ls hl => ?_)
  refine lv_iload_n hx hb dX9_toothGets_8 rfl (lv_at hl 4 rfl) ?_
  refine lv_if_lt (tgt := 22) hx hb dX9_toothGets_9 (by decide) (fun hc => ?_) (fun hc => ?_)
  · replace hq := hq.1 hc
    exact b22 y2 μ _ _ _ hq hw hS (lv_sub hl [1, 2, 3, 4, 0] rfl)
  · replace hq := hq.2 hc
    refine lv_aload_n hx hb dX9_toothGets_12 rfl (lv_at hl 1 rfl) ?_
    refine va_get (D := D) (ci := 8) (v := .ref (mp 3)) (C := RX9) (T := TX9) (N := 15) hx hb hts inX9 hown hK.1 hw.1 0 rfl rfl 2 (by decide) (hts _ q_463) (fun _ h9 => h9) rfl dX9_toothGets_13 ?_
    refine lv_iload_n hx hb dX9_toothGets_16 rfl (lv_at hl 4 rfl) ?_
    refine lv_dup2_11 hx hb dX9_toothGets_17 rfl rfl ?_
    refine va_iald hx hb hK.1 hw.1 3 8 rfl rfl hq.1 dX9_toothGets_18 ?_
    replace hq := hq.2
    refine lv_iconst (v := 1) hx hb dX9_toothGets_19 (by decide) ?_
    refine lv_iadd hx hb dX9_toothGets_20 ?_
    refine va_iast hx hb hK.1 hw.1 hw.2 hS 3 8 rfl rfl hq.1 dX9_toothGets_21 (fun H locs hP hD hS => ?_)
    have hw : ΩM D d mp A (nUses μ (upd (mUses μ) x3.toNatClampNeg ((mUses μ x3.toNatClampNeg) + (1 : Int32)))) H := ⟨hP, hD⟩
    replace hq := hq.2
    exact b22 y2 (nUses μ (upd (mUses μ) x3.toNatClampNeg ((mUses μ x3.toNatClampNeg) + (1 : Int32)))) _ _ _ hq hw hS (lv_sub hl [1, 2, 3, 4, 0] rfl)
abbrev rmX9_writes : Room := { frames := 2, cells := 0, slots := 0, locals := 43 }
theorem nmhX9_writes : NoMH yX9_writes 4 := by decide +kernel
def wX9_writes (x1 : Int32) (x2 : Int32) (x3 : Int32) (x4 : Int32) (μ : MS) (Q : Int32 → MS → Prop) : Prop :=
    wX9_lacks x2 x3 μ (fun r10 u11 => (0 ≤ r10 → (∀ y12 : Int32, y12 = (((300 : Int32) * x2) + x3) → ((¬ x1 = 0 → ((¬ x1 = (3 : Int32) → (wX9_packed x1 x4 u11 (fun r13 u14 => vp_in y12 60600 ∧ (Q (0 : Int32) (nCell u14 (upd (mCell u14) y12.toNatClampNeg r13)))))) ∧ (x1 = (3 : Int32) → (wX9_in x4 (-8000000 : Int32) (8000000 : Int32) u11 (fun r15 u16 => (¬ r15 = 0 → (vf_n32 (FP.fmul (FP.i2f x4) (1040187392 : UInt32)) ∧ (wJxf58ca_floatToIntBits_5c35a (FP.fmul (FP.i2f x4) (1040187392 : UInt32)) u16 (fun r17 u18 => vp_in y12 60600 ∧ (Q (0 : Int32) (nCell u18 (upd (mCell u18) y12.toNatClampNeg r17))))))) ∧ (r15 = 0 → Q (-5 : Int32) u16)))))) ∧ (x1 = 0 → ((¬ x4 = 0 → (vp_in y12 60600 ∧ (Q (0 : Int32) (nCell u11 (upd (mCell u11) y12.toNatClampNeg (1 : Int32)))))) ∧ (x4 = 0 → (vp_in y12 60600 ∧ (Q (0 : Int32) (nCell u11 (upd (mCell u11) y12.toNatClampNeg (0 : Int32))))))))))) ∧ (¬ 0 ≤ r10 → Q r10 u11))
set_option maxHeartbeats 4000000 in
set_option maxRecDepth 100000 in
theorem tX9_writes (l : Launch) (D : va_G) (d : AC) (mp : Nat → Nat) (x1 : Int32) (x2 : Int32) (x3 : Int32) (x4 : Int32) (μ : MS) {Q : Int32 → MS → Prop} (hq : wX9_writes x1 x2 x3 x4 μ Q) : MT D d (ΩM D d mp) l yX9_writes (WS yX9_writes cX9_writes 7 (some (.int))) rmX9_writes [.ref (mp 0), .int x1, .int x2, .int x3, .int x4] μ (qI Q) := by
  refine mt_of (ΩM.mono D d mp) (by decide +kernel) (Nat.le_of_ble_eq_true rfl) (fun p e s m below meth c A ls hx hb hr hml hown hts hlocks hnm hK hA hw hS hl => ?_)
  have hl : lv_has ls 7 [(0, .ref (mp 0)), (1, .int x1), (2, .int x2), (3, .int x3), (4, .int x4)] := hl
  have hown : s.vm.findClass RX9 = some m.cls := hown
  unfold wX9_writes at hq
  refine lv_aload_n hx hb dX9_writes_0 rfl (lv_at hl 0 rfl) ?_
  refine lv_iload_n hx hb dX9_writes_1 rfl (lv_at hl 2 rfl) ?_
  refine lv_iload_n hx hb dX9_writes_2 rfl (lv_at hl 3 rfl) ?_
  refine mt_callV (index := 67) hx hb hml hown hts hK (ΩM.mono D d mp) hA hw hS hl.1 (tX9_lacks l D d mp x2 x3 μ hq) (ΩM.recv hK hw) q_557 q_34 q_554 q_556 q_21 nmhX9_lacks ⟨⟨Nat.le_of_ble_eq_true rfl, Nat.le_of_ble_eq_true rfl⟩, ⟨Nat.le_of_ble_eq_true rfl, Nat.le_of_ble_eq_true rfl⟩⟩ rfl (Nat.le_of_ble_eq_true rfl) dX9_writes_3 (fun _ u11 H locs hq hw hS => ?_)
  obtain ⟨r10, rfl, hq⟩ := hq
  refine W.eq (g2 := F0 m 6 ls [.int r10]) rfl ?_
  refine lv_istore (lv' := [(5, .int r10), (0, .ref (mp 0)), (1, .int x1), (2, .int x2), (3, .int x3), (4, .int x4)]) hx hb dX9_writes_6 hl (by decide) rfl (fun ls hl => ?_)
  refine lv_iload hx hb dX9_writes_8 (lv_at hl 0 rfl) ?_
  refine lv_if_ge (tgt := 16) hx hb dX9_writes_10 (by decide) (fun hc => ?_) (fun hc => ?_)
  · replace hq := hq.1 hc
    refine lv_sipush (v := 300) hx hb dX9_writes_16 (by decide) ?_
    refine lv_iload_n hx hb dX9_writes_19 rfl (lv_at hl 3 rfl) ?_
    refine lv_imul hx hb dX9_writes_20 ?_
    refine lv_iload_n hx hb dX9_writes_21 rfl (lv_at hl 4 rfl) ?_
    refine lv_iadd hx hb dX9_writes_22 ?_
    refine lv_topi (fun y12 ey12 => ?_)
    replace hq := hq y12 ey12
    refine lv_istore (lv' := [(6, .int y12), (5, .int r10), (0, .ref (mp 0)), (1, .int x1), (2, .int x2), (3, .int x3), (4, .int x4)]) hx hb dX9_writes_23 hl (by decide) rfl (fun ls hl => ?_)
    refine lv_iload_n hx hb dX9_writes_25 rfl (lv_at hl 3 rfl) ?_
    refine lv_if_ne (tgt := 49) hx hb dX9_writes_26 (by decide) (fun hc => ?_) (fun hc => ?_)
    · replace hq := hq.1 hc
      refine lv_iload_n hx hb dX9_writes_49 rfl (lv_at hl 3 rfl) ?_
      refine lv_iconst (v := 3) hx hb dX9_writes_50 (by decide) ?_
      refine lv_icmp_ne (tgt := 88) hx hb dX9_writes_51 (by decide) (fun hc => ?_) (fun hc => ?_)
      · replace hq := hq.1 hc
        refine lv_aload_n hx hb dX9_writes_88 rfl (lv_at hl 2 rfl) ?_
        refine va_get (D := D) (ci := 8) (v := .ref (mp 1)) (C := RX9) (T := TX9) (N := 15) hx hb hts inX9 hown hK.1 hw.1 0 rfl rfl 0 (by decide) (hts _ q_461) (fun _ h9 => h9) rfl dX9_writes_89 ?_
        refine lv_iload hx hb dX9_writes_92 (lv_at hl 0 rfl) ?_
        refine lv_iload_n hx hb dX9_writes_94 rfl (lv_at hl 3 rfl) ?_
        refine lv_iload hx hb dX9_writes_95 (lv_at hl 6 rfl) ?_
        refine mt_callS (index := 80) hx hb hml hown hts hK (ΩM.mono D d mp) hA hw hS hl.1 (tX9_packed l D d mp x1 x4 u11 hq) q_581 q_34 q_579 q_580 nmhX9_packed ⟨⟨Nat.le_of_ble_eq_true rfl, Nat.le_of_ble_eq_true rfl⟩, ⟨Nat.le_of_ble_eq_true rfl, Nat.le_of_ble_eq_true rfl⟩⟩ rfl (Nat.le_of_ble_eq_true rfl) dX9_writes_97 (fun _ u14 H locs hq hw hS => ?_)
        obtain ⟨r13, rfl, hq⟩ := hq
        refine W.eq (g2 := F0 m 100 ls [.int r13, .int y12, .ref (mp 1)]) rfl ?_
        refine va_iast hx hb hK.1 hw.1 hw.2 hS 1 8 rfl rfl hq.1 dX9_writes_100 (fun H locs hP hD hS => ?_)
        have hw : ΩM D d mp A (nCell u14 (upd (mCell u14) y12.toNatClampNeg r13)) H := ⟨hP, hD⟩
        replace hq := hq.2
        refine lv_iconst (v := 0) hx hb dX9_writes_101 (by decide) ?_
        exact mt_reti hx hb hr hlocks hw hS (Nat.le_of_ble_eq_true rfl) (Nat.le_of_ble_eq_true rfl) dX9_writes_102 ⟨_, rfl, hq⟩
      · replace hq := hq.2 hc
        refine lv_iload hx hb dX9_writes_54 (lv_at hl 6 rfl) ?_
        refine lv_ldc (v := -8000000) hx hb hown (hts _ q_566) dX9_writes_56 ?_
        refine lv_ldc (v := 8000000) hx hb hown (hts _ q_567) dX9_writes_58 ?_
        refine mt_callS (index := 58) hx hb hml hown hts hK (ΩM.mono D d mp) hA hw hS hl.1 (tX9_in l D d mp x4 (-8000000 : Int32) (8000000 : Int32) u11 hq) q_518 q_34 q_516 q_517 nmhX9_in ⟨⟨Nat.le_of_ble_eq_true rfl, Nat.le_of_ble_eq_true rfl⟩, ⟨Nat.le_of_ble_eq_true rfl, Nat.le_of_ble_eq_true rfl⟩⟩ rfl (Nat.le_of_ble_eq_true rfl) dX9_writes_60 (fun _ u16 H locs hq hw hS => ?_)
        obtain ⟨r15, rfl, hzr15, hq⟩ := hq
        refine W.eq (g2 := F0 m 63 ls [.int r15]) rfl ?_
        refine lv_if_ne (tgt := 69) hx hb dX9_writes_63 (by decide) (fun hc => ?_) (fun hc => ?_)
        · replace hq := hq.1 hc
          refine lv_aload_n hx hb dX9_writes_69 rfl (lv_at hl 2 rfl) ?_
          refine va_get (D := D) (ci := 8) (v := .ref (mp 1)) (C := RX9) (T := TX9) (N := 15) hx hb hts inX9 hown hK.1 hw.1 0 rfl rfl 0 (by decide) (hts _ q_461) (fun _ h9 => h9) rfl dX9_writes_70 ?_
          refine lv_iload hx hb dX9_writes_73 (lv_at hl 0 rfl) ?_
          refine lv_iload hx hb dX9_writes_75 (lv_at hl 6 rfl) ?_
          refine lv_i2f hx hb dX9_writes_77 ?_
          refine lv_ldcf (v := 1040187392) hx hb hown (hts _ q_568) dX9_writes_78 ?_
          refine lv_fmul hx hb dX9_writes_80 hq.1 ?_
          replace hq := hq.2
          refine mt_callS (index := 74) hx hb hml hown hts hK (ΩM.mono D d mp) hA hw hS hl.1 (tJxf58ca_floatToIntBits_5c35a l D d mp (FP.fmul (FP.i2f x4) (1040187392 : UInt32)) u16 hq) q_571 q_41 q_569 q_570 nmhJxf58ca_floatToIntBits_5c35a ⟨⟨Nat.le_of_ble_eq_true rfl, Nat.le_of_ble_eq_true rfl⟩, ⟨Nat.le_of_ble_eq_true rfl, Nat.le_of_ble_eq_true rfl⟩⟩ rfl (Nat.le_of_ble_eq_true rfl) dX9_writes_81 (fun _ u18 H locs hq hw hS => ?_)
          obtain ⟨r17, rfl, hq⟩ := hq
          refine W.eq (g2 := F0 m 84 ls [.int r17, .int y12, .ref (mp 1)]) rfl ?_
          refine va_iast hx hb hK.1 hw.1 hw.2 hS 1 8 rfl rfl hq.1 dX9_writes_84 (fun H locs hP hD hS => ?_)
          have hw : ΩM D d mp A (nCell u18 (upd (mCell u18) y12.toNatClampNeg r17)) H := ⟨hP, hD⟩
          replace hq := hq.2
          refine lv_goto (tgt := 101) hx hb dX9_writes_85 (by decide) ?_
          refine lv_iconst (v := 0) hx hb dX9_writes_101 (by decide) ?_
          exact mt_reti hx hb hr hlocks hw hS (Nat.le_of_ble_eq_true rfl) (Nat.le_of_ble_eq_true rfl) dX9_writes_102 ⟨_, rfl, hq⟩
        · replace hq := hq.2 hc
          refine lv_bipush (v := -5) hx hb dX9_writes_66 (by decide) ?_
          exact mt_reti hx hb hr hlocks hw hS (Nat.le_of_ble_eq_true rfl) (Nat.le_of_ble_eq_true rfl) dX9_writes_68 ⟨_, rfl, hq⟩
    · replace hq := hq.2 hc
      refine lv_aload_n hx hb dX9_writes_29 rfl (lv_at hl 2 rfl) ?_
      refine va_get (D := D) (ci := 8) (v := .ref (mp 1)) (C := RX9) (T := TX9) (N := 15) hx hb hts inX9 hown hK.1 hw.1 0 rfl rfl 0 (by decide) (hts _ q_461) (fun _ h9 => h9) rfl dX9_writes_30 ?_
      refine lv_iload hx hb dX9_writes_33 (lv_at hl 0 rfl) ?_
      refine lv_iload hx hb dX9_writes_35 (lv_at hl 6 rfl) ?_
      refine lv_if_ne (tgt := 44) hx hb dX9_writes_37 (by decide) (fun hc => ?_) (fun hc => ?_)
      · replace hq := hq.1 hc
        refine lv_iconst (v := 1) hx hb dX9_writes_44 (by decide) ?_
        refine va_iast hx hb hK.1 hw.1 hw.2 hS 1 8 rfl rfl hq.1 dX9_writes_45 (fun H locs hP hD hS => ?_)
        have hw : ΩM D d mp A (nCell u11 (upd (mCell u11) y12.toNatClampNeg (1 : Int32))) H := ⟨hP, hD⟩
        replace hq := hq.2
        refine lv_goto (tgt := 101) hx hb dX9_writes_46 (by decide) ?_
        refine lv_iconst (v := 0) hx hb dX9_writes_101 (by decide) ?_
        exact mt_reti hx hb hr hlocks hw hS (Nat.le_of_ble_eq_true rfl) (Nat.le_of_ble_eq_true rfl) dX9_writes_102 ⟨_, rfl, hq⟩
      · replace hq := hq.2 hc
        refine lv_iconst (v := 0) hx hb dX9_writes_40 (by decide) ?_
        refine lv_goto (tgt := 45) hx hb dX9_writes_41 (by decide) ?_
        refine va_iast hx hb hK.1 hw.1 hw.2 hS 1 8 rfl rfl hq.1 dX9_writes_45 (fun H locs hP hD hS => ?_)
        have hw : ΩM D d mp A (nCell u11 (upd (mCell u11) y12.toNatClampNeg (0 : Int32))) H := ⟨hP, hD⟩
        replace hq := hq.2
        refine lv_goto (tgt := 101) hx hb dX9_writes_46 (by decide) ?_
        refine lv_iconst (v := 0) hx hb dX9_writes_101 (by decide) ?_
        exact mt_reti hx hb hr hlocks hw hS (Nat.le_of_ble_eq_true rfl) (Nat.le_of_ble_eq_true rfl) dX9_writes_102 ⟨_, rfl, hq⟩
  · replace hq := hq.2 hc
    refine lv_iload hx hb dX9_writes_13 (lv_at hl 0 rfl) ?_
    exact mt_reti hx hb hr hlocks hw hS (Nat.le_of_ble_eq_true rfl) (Nat.le_of_ble_eq_true rfl) dX9_writes_15 ⟨_, rfl, hq⟩
abbrev rmX9_turns : Room := { frames := 2, cells := 0, slots := 0, locals := 43 }
theorem nmhX9_turns : NoMH yX9_turns 4 := by decide +kernel
def wX9_turns (x1 : Int32) (x2 : Int32) (x3 : Int32) (x4 : Int32) (μ : MS) (Q : Int32 → MS → Prop) : Prop :=
    wX9_lacks x2 x3 μ (fun r16 u17 => (0 ≤ r16 → (∀ y18 : Int32, y18 = (((300 : Int32) * x2) + x3) → (vp_in y18 60600 ∧ (∀ y19 : Int32, y19 = (mCell u17 y18.toNatClampNeg) → ((¬ x1 = 0 → ((¬ x1 = (3 : Int32) → ((¬ x1 = (1 : Int32) → ((¬ x1 = (2 : Int32) → (wX9_packed x1 (y19 - x4) u17 (fun r20 u21 => vp_in y18 60600 ∧ (Q (0 : Int32) (nCell u21 (upd (mCell u21) y18.toNatClampNeg r20)))))) ∧ (x1 = (2 : Int32) → (wX9_packed x1 (y19 * x4) u17 (fun r22 u23 => vp_in y18 60600 ∧ (Q (0 : Int32) (nCell u23 (upd (mCell u23) y18.toNatClampNeg r22)))))))) ∧ (x1 = (1 : Int32) → (wX9_packed x1 (y19 + x4) u17 (fun r24 u25 => vp_in y18 60600 ∧ (Q (0 : Int32) (nCell u25 (upd (mCell u25) y18.toNatClampNeg r24)))))))) ∧ (x1 = (3 : Int32) → (wX9_in x4 (-4000 : Int32) (4000 : Int32) u17 (fun r26 u27 => (¬ r26 = 0 → (vn_sni2f y19 = false ∧ (vf_n32 (FP.fmul (FP.i2f x4) (1048576000 : UInt32)) ∧ (vf_n32 (FP.fmul y19.toUInt32 (FP.fmul (FP.i2f x4) (1048576000 : UInt32))) ∧ (∀ y28 : UInt32, y28 = (FP.fmul y19.toUInt32 (FP.fmul (FP.i2f x4) (1048576000 : UInt32))) → (((Op.cmpValue (FP.fcmp y28 (3379831808 : UInt32)) CmpOp.g) < 0 → Q (-5 : Int32) u27) ∧ (¬ (Op.cmpValue (FP.fcmp y28 (3379831808 : UInt32)) CmpOp.g) < 0 → (((Op.cmpValue (FP.fcmp y28 (1232348160 : UInt32)) CmpOp.l) ≤ 0 → (wJxf58ca_floatToIntBits_5c35a y28 u27 (fun r29 u30 => vp_in y18 60600 ∧ (Q (0 : Int32) (nCell u30 (upd (mCell u30) y18.toNatClampNeg r29)))))) ∧ (¬ (Op.cmpValue (FP.fcmp y28 (1232348160 : UInt32)) CmpOp.l) ≤ 0 → Q (-5 : Int32) u27))))))))) ∧ (r26 = 0 → Q (-5 : Int32) u27)))))) ∧ (x1 = 0 → ((¬ (x4 &&& (1 : Int32)) = 0 → (vp_in y18 60600 ∧ (Q (0 : Int32) (nCell u17 (upd (mCell u17) y18.toNatClampNeg ((1 : Int32) - y19)))))) ∧ ((x4 &&& (1 : Int32)) = 0 → (vp_in y18 60600 ∧ (Q (0 : Int32) (nCell u17 (upd (mCell u17) y18.toNatClampNeg y19)))))))))))) ∧ (¬ 0 ≤ r16 → Q r16 u17))
set_option maxHeartbeats 4000000 in
set_option maxRecDepth 100000 in
theorem tX9_turns (l : Launch) (D : va_G) (d : AC) (mp : Nat → Nat) (x1 : Int32) (x2 : Int32) (x3 : Int32) (x4 : Int32) (μ : MS) {Q : Int32 → MS → Prop} (hq : wX9_turns x1 x2 x3 x4 μ Q) : MT D d (ΩM D d mp) l yX9_turns (WS yX9_turns cX9_turns 9 (some (.int))) rmX9_turns [.ref (mp 0), .int x1, .int x2, .int x3, .int x4] μ (qI Q) := by
  refine mt_of (ΩM.mono D d mp) (by decide +kernel) (Nat.le_of_ble_eq_true rfl) (fun p e s m below meth c A ls hx hb hr hml hown hts hlocks hnm hK hA hw hS hl => ?_)
  have hl : lv_has ls 9 [(0, .ref (mp 0)), (1, .int x1), (2, .int x2), (3, .int x3), (4, .int x4)] := hl
  have hown : s.vm.findClass RX9 = some m.cls := hown
  unfold wX9_turns at hq
  refine lv_aload_n hx hb dX9_turns_0 rfl (lv_at hl 0 rfl) ?_
  refine lv_iload_n hx hb dX9_turns_1 rfl (lv_at hl 2 rfl) ?_
  refine lv_iload_n hx hb dX9_turns_2 rfl (lv_at hl 3 rfl) ?_
  refine mt_callV (index := 67) hx hb hml hown hts hK (ΩM.mono D d mp) hA hw hS hl.1 (tX9_lacks l D d mp x2 x3 μ hq) (ΩM.recv hK hw) q_557 q_34 q_554 q_556 q_21 nmhX9_lacks ⟨⟨Nat.le_of_ble_eq_true rfl, Nat.le_of_ble_eq_true rfl⟩, ⟨Nat.le_of_ble_eq_true rfl, Nat.le_of_ble_eq_true rfl⟩⟩ rfl (Nat.le_of_ble_eq_true rfl) dX9_turns_3 (fun _ u17 H locs hq hw hS => ?_)
  obtain ⟨r16, rfl, hq⟩ := hq
  refine W.eq (g2 := F0 m 6 ls [.int r16]) rfl ?_
  refine lv_istore (lv' := [(5, .int r16), (0, .ref (mp 0)), (1, .int x1), (2, .int x2), (3, .int x3), (4, .int x4)]) hx hb dX9_turns_6 hl (by decide) rfl (fun ls hl => ?_)
  refine lv_iload hx hb dX9_turns_8 (lv_at hl 0 rfl) ?_
  refine lv_if_ge (tgt := 16) hx hb dX9_turns_10 (by decide) (fun hc => ?_) (fun hc => ?_)
  · replace hq := hq.1 hc
    refine lv_sipush (v := 300) hx hb dX9_turns_16 (by decide) ?_
    refine lv_iload_n hx hb dX9_turns_19 rfl (lv_at hl 3 rfl) ?_
    refine lv_imul hx hb dX9_turns_20 ?_
    refine lv_iload_n hx hb dX9_turns_21 rfl (lv_at hl 4 rfl) ?_
    refine lv_iadd hx hb dX9_turns_22 ?_
    refine lv_topi (fun y18 ey18 => ?_)
    replace hq := hq y18 ey18
    refine lv_istore (lv' := [(6, .int y18), (5, .int r16), (0, .ref (mp 0)), (1, .int x1), (2, .int x2), (3, .int x3), (4, .int x4)]) hx hb dX9_turns_23 hl (by decide) rfl (fun ls hl => ?_)
    refine lv_aload_n hx hb dX9_turns_25 rfl (lv_at hl 2 rfl) ?_
    refine va_get (D := D) (ci := 8) (v := .ref (mp 1)) (C := RX9) (T := TX9) (N := 15) hx hb hts inX9 hown hK.1 hw.1 0 rfl rfl 0 (by decide) (hts _ q_461) (fun _ h9 => h9) rfl dX9_turns_26 ?_
    refine lv_iload hx hb dX9_turns_29 (lv_at hl 0 rfl) ?_
    refine va_iald hx hb hK.1 hw.1 1 8 rfl rfl hq.1 dX9_turns_31 ?_
    replace hq := hq.2
    refine lv_topi (fun y19 ey19 => ?_)
    replace hq := hq y19 ey19
    refine lv_istore (lv' := [(7, .int y19), (6, .int y18), (5, .int r16), (0, .ref (mp 0)), (1, .int x1), (2, .int x2), (3, .int x3), (4, .int x4)]) hx hb dX9_turns_32 hl (by decide) rfl (fun ls hl => ?_)
    refine lv_iload_n hx hb dX9_turns_34 rfl (lv_at hl 4 rfl) ?_
    refine lv_if_ne (tgt := 64) hx hb dX9_turns_35 (by decide) (fun hc => ?_) (fun hc => ?_)
    · replace hq := hq.1 hc
      refine lv_iload_n hx hb dX9_turns_64 rfl (lv_at hl 4 rfl) ?_
      refine lv_iconst (v := 3) hx hb dX9_turns_65 (by decide) ?_
      refine lv_icmp_ne (tgt := 134) hx hb dX9_turns_66 (by decide) (fun hc => ?_) (fun hc => ?_)
      · replace hq := hq.1 hc
        refine lv_aload_n hx hb dX9_turns_134 rfl (lv_at hl 3 rfl) ?_
        refine va_get (D := D) (ci := 8) (v := .ref (mp 1)) (C := RX9) (T := TX9) (N := 15) hx hb hts inX9 hown hK.1 hw.1 0 rfl rfl 0 (by decide) (hts _ q_461) (fun _ h9 => h9) rfl dX9_turns_135 ?_
        refine lv_iload hx hb dX9_turns_138 (lv_at hl 1 rfl) ?_
        refine lv_iload_n hx hb dX9_turns_140 rfl (lv_at hl 4 rfl) ?_
        refine lv_iload_n hx hb dX9_turns_141 rfl (lv_at hl 4 rfl) ?_
        refine lv_iconst (v := 1) hx hb dX9_turns_142 (by decide) ?_
        refine lv_icmp_ne (tgt := 154) hx hb dX9_turns_143 (by decide) (fun hc => ?_) (fun hc => ?_)
        · replace hq := hq.1 hc
          refine lv_iload_n hx hb dX9_turns_154 rfl (lv_at hl 4 rfl) ?_
          refine lv_iconst (v := 2) hx hb dX9_turns_155 (by decide) ?_
          refine lv_icmp_ne (tgt := 167) hx hb dX9_turns_156 (by decide) (fun hc => ?_) (fun hc => ?_)
          · replace hq := hq.1 hc
            refine lv_iload hx hb dX9_turns_167 (lv_at hl 0 rfl) ?_
            refine lv_iload hx hb dX9_turns_169 (lv_at hl 7 rfl) ?_
            refine lv_isub hx hb dX9_turns_171 ?_
            refine mt_callS (index := 80) hx hb hml hown hts hK (ΩM.mono D d mp) hA hw hS hl.1 (tX9_packed l D d mp x1 (y19 - x4) u17 hq) q_581 q_34 q_579 q_580 nmhX9_packed ⟨⟨Nat.le_of_ble_eq_true rfl, Nat.le_of_ble_eq_true rfl⟩, ⟨Nat.le_of_ble_eq_true rfl, Nat.le_of_ble_eq_true rfl⟩⟩ rfl (Nat.le_of_ble_eq_true rfl) dX9_turns_172 (fun _ u21 H locs hq hw hS => ?_)
            obtain ⟨r20, rfl, hq⟩ := hq
            refine W.eq (g2 := F0 m 175 ls [.int r20, .int y18, .ref (mp 1)]) rfl ?_
            refine va_iast hx hb hK.1 hw.1 hw.2 hS 1 8 rfl rfl hq.1 dX9_turns_175 (fun H locs hP hD hS => ?_)
            have hw : ΩM D d mp A (nCell u21 (upd (mCell u21) y18.toNatClampNeg r20)) H := ⟨hP, hD⟩
            replace hq := hq.2
            refine lv_iconst (v := 0) hx hb dX9_turns_176 (by decide) ?_
            exact mt_reti hx hb hr hlocks hw hS (Nat.le_of_ble_eq_true rfl) (Nat.le_of_ble_eq_true rfl) dX9_turns_177 ⟨_, rfl, hq⟩
          · replace hq := hq.2 hc
            refine lv_iload hx hb dX9_turns_159 (lv_at hl 0 rfl) ?_
            refine lv_iload hx hb dX9_turns_161 (lv_at hl 7 rfl) ?_
            refine lv_imul hx hb dX9_turns_163 ?_
            refine lv_goto (tgt := 172) hx hb dX9_turns_164 (by decide) ?_
            refine mt_callS (index := 80) hx hb hml hown hts hK (ΩM.mono D d mp) hA hw hS hl.1 (tX9_packed l D d mp x1 (y19 * x4) u17 hq) q_581 q_34 q_579 q_580 nmhX9_packed ⟨⟨Nat.le_of_ble_eq_true rfl, Nat.le_of_ble_eq_true rfl⟩, ⟨Nat.le_of_ble_eq_true rfl, Nat.le_of_ble_eq_true rfl⟩⟩ rfl (Nat.le_of_ble_eq_true rfl) dX9_turns_172 (fun _ u23 H locs hq hw hS => ?_)
            obtain ⟨r22, rfl, hq⟩ := hq
            refine W.eq (g2 := F0 m 175 ls [.int r22, .int y18, .ref (mp 1)]) rfl ?_
            refine va_iast hx hb hK.1 hw.1 hw.2 hS 1 8 rfl rfl hq.1 dX9_turns_175 (fun H locs hP hD hS => ?_)
            have hw : ΩM D d mp A (nCell u23 (upd (mCell u23) y18.toNatClampNeg r22)) H := ⟨hP, hD⟩
            replace hq := hq.2
            refine lv_iconst (v := 0) hx hb dX9_turns_176 (by decide) ?_
            exact mt_reti hx hb hr hlocks hw hS (Nat.le_of_ble_eq_true rfl) (Nat.le_of_ble_eq_true rfl) dX9_turns_177 ⟨_, rfl, hq⟩
        · replace hq := hq.2 hc
          refine lv_iload hx hb dX9_turns_146 (lv_at hl 0 rfl) ?_
          refine lv_iload hx hb dX9_turns_148 (lv_at hl 7 rfl) ?_
          refine lv_iadd hx hb dX9_turns_150 ?_
          refine lv_goto (tgt := 172) hx hb dX9_turns_151 (by decide) ?_
          refine mt_callS (index := 80) hx hb hml hown hts hK (ΩM.mono D d mp) hA hw hS hl.1 (tX9_packed l D d mp x1 (y19 + x4) u17 hq) q_581 q_34 q_579 q_580 nmhX9_packed ⟨⟨Nat.le_of_ble_eq_true rfl, Nat.le_of_ble_eq_true rfl⟩, ⟨Nat.le_of_ble_eq_true rfl, Nat.le_of_ble_eq_true rfl⟩⟩ rfl (Nat.le_of_ble_eq_true rfl) dX9_turns_172 (fun _ u25 H locs hq hw hS => ?_)
          obtain ⟨r24, rfl, hq⟩ := hq
          refine W.eq (g2 := F0 m 175 ls [.int r24, .int y18, .ref (mp 1)]) rfl ?_
          refine va_iast hx hb hK.1 hw.1 hw.2 hS 1 8 rfl rfl hq.1 dX9_turns_175 (fun H locs hP hD hS => ?_)
          have hw : ΩM D d mp A (nCell u25 (upd (mCell u25) y18.toNatClampNeg r24)) H := ⟨hP, hD⟩
          replace hq := hq.2
          refine lv_iconst (v := 0) hx hb dX9_turns_176 (by decide) ?_
          exact mt_reti hx hb hr hlocks hw hS (Nat.le_of_ble_eq_true rfl) (Nat.le_of_ble_eq_true rfl) dX9_turns_177 ⟨_, rfl, hq⟩
      · replace hq := hq.2 hc
        refine lv_iload hx hb dX9_turns_69 (lv_at hl 7 rfl) ?_
        refine lv_sipush (v := -4000) hx hb dX9_turns_71 (by decide) ?_
        refine lv_sipush (v := 4000) hx hb dX9_turns_74 (by decide) ?_
        refine mt_callS (index := 58) hx hb hml hown hts hK (ΩM.mono D d mp) hA hw hS hl.1 (tX9_in l D d mp x4 (-4000 : Int32) (4000 : Int32) u17 hq) q_518 q_34 q_516 q_517 nmhX9_in ⟨⟨Nat.le_of_ble_eq_true rfl, Nat.le_of_ble_eq_true rfl⟩, ⟨Nat.le_of_ble_eq_true rfl, Nat.le_of_ble_eq_true rfl⟩⟩ rfl (Nat.le_of_ble_eq_true rfl) dX9_turns_77 (fun _ u27 H locs hq hw hS => ?_)
        obtain ⟨r26, rfl, hzr26, hq⟩ := hq
        refine W.eq (g2 := F0 m 80 ls [.int r26]) rfl ?_
        refine lv_if_ne (tgt := 86) hx hb dX9_turns_80 (by decide) (fun hc => ?_) (fun hc => ?_)
        · replace hq := hq.1 hc
          refine lv_iload hx hb dX9_turns_86 (lv_at hl 0 rfl) ?_
          refine vn_i2f hx hb (hml.trans hl.1.symm) hown (hts _ q_591) (hts _ q_593) (hts _ q_592) (hts _ q_41) hq.1 (Nat.le_of_ble_eq_true rfl) (Nat.le_of_ble_eq_true rfl) dX9_turns_88 ?_
          replace hq := hq.2
          refine lv_iload hx hb dX9_turns_91 (lv_at hl 7 rfl) ?_
          refine lv_i2f hx hb dX9_turns_93 ?_
          refine lv_ldcf (v := 1048576000) hx hb hown (hts _ q_594) dX9_turns_94 ?_
          refine lv_fmul hx hb dX9_turns_96 hq.1 ?_
          replace hq := hq.2
          refine lv_fmul hx hb dX9_turns_97 hq.1 ?_
          replace hq := hq.2
          refine lv_topf (fun y28 ey28 => ?_)
          replace hq := hq y28 ey28
          refine lv_fstore (lv' := [(8, .float y28), (7, .int y19), (6, .int y18), (5, .int r16), (0, .ref (mp 0)), (1, .int x1), (2, .int x2), (3, .int x3), (4, .int x4)]) hx hb dX9_turns_98 hl (by decide) rfl (fun ls hl => ?_)
          refine lv_fload hx hb dX9_turns_100 (lv_at hl 0 rfl) ?_
          refine lv_ldcf (v := 3379831808) hx hb hown (hts _ q_595) dX9_turns_102 ?_
          refine lv_fcmp hx hb dX9_turns_104 ?_
          refine lv_if_lt (tgt := 116) hx hb dX9_turns_105 (by decide) (fun hc => ?_) (fun hc => ?_)
          · replace hq := hq.1 hc
            refine lv_bipush (v := -5) hx hb dX9_turns_116 (by decide) ?_
            exact mt_reti hx hb hr hlocks hw hS (Nat.le_of_ble_eq_true rfl) (Nat.le_of_ble_eq_true rfl) dX9_turns_118 ⟨_, rfl, hq⟩
          · replace hq := hq.2 hc
            refine lv_fload hx hb dX9_turns_108 (lv_at hl 0 rfl) ?_
            refine lv_ldcf (v := 1232348160) hx hb hown (hts _ q_596) dX9_turns_110 ?_
            refine lv_fcmp hx hb dX9_turns_112 ?_
            refine lv_if_le (tgt := 119) hx hb dX9_turns_113 (by decide) (fun hc => ?_) (fun hc => ?_)
            · replace hq := hq.1 hc
              refine lv_aload_n hx hb dX9_turns_119 rfl (lv_at hl 4 rfl) ?_
              refine va_get (D := D) (ci := 8) (v := .ref (mp 1)) (C := RX9) (T := TX9) (N := 15) hx hb hts inX9 hown hK.1 hw.1 0 rfl rfl 0 (by decide) (hts _ q_461) (fun _ h9 => h9) rfl dX9_turns_120 ?_
              refine lv_iload hx hb dX9_turns_123 (lv_at hl 2 rfl) ?_
              refine lv_fload hx hb dX9_turns_125 (lv_at hl 0 rfl) ?_
              refine mt_callS (index := 74) hx hb hml hown hts hK (ΩM.mono D d mp) hA hw hS hl.1 (tJxf58ca_floatToIntBits_5c35a l D d mp y28 u27 hq) q_571 q_41 q_569 q_570 nmhJxf58ca_floatToIntBits_5c35a ⟨⟨Nat.le_of_ble_eq_true rfl, Nat.le_of_ble_eq_true rfl⟩, ⟨Nat.le_of_ble_eq_true rfl, Nat.le_of_ble_eq_true rfl⟩⟩ rfl (Nat.le_of_ble_eq_true rfl) dX9_turns_127 (fun _ u30 H locs hq hw hS => ?_)
              obtain ⟨r29, rfl, hq⟩ := hq
              refine W.eq (g2 := F0 m 130 ls [.int r29, .int y18, .ref (mp 1)]) rfl ?_
              refine va_iast hx hb hK.1 hw.1 hw.2 hS 1 8 rfl rfl hq.1 dX9_turns_130 (fun H locs hP hD hS => ?_)
              have hw : ΩM D d mp A (nCell u30 (upd (mCell u30) y18.toNatClampNeg r29)) H := ⟨hP, hD⟩
              replace hq := hq.2
              refine lv_goto (tgt := 176) hx hb dX9_turns_131 (by decide) ?_
              refine lv_iconst (v := 0) hx hb dX9_turns_176 (by decide) ?_
              exact mt_reti hx hb hr hlocks hw hS (Nat.le_of_ble_eq_true rfl) (Nat.le_of_ble_eq_true rfl) dX9_turns_177 ⟨_, rfl, hq⟩
            · replace hq := hq.2 hc
              refine lv_bipush (v := -5) hx hb dX9_turns_116 (by decide) ?_
              exact mt_reti hx hb hr hlocks hw hS (Nat.le_of_ble_eq_true rfl) (Nat.le_of_ble_eq_true rfl) dX9_turns_118 ⟨_, rfl, hq⟩
        · replace hq := hq.2 hc
          refine lv_bipush (v := -5) hx hb dX9_turns_83 (by decide) ?_
          exact mt_reti hx hb hr hlocks hw hS (Nat.le_of_ble_eq_true rfl) (Nat.le_of_ble_eq_true rfl) dX9_turns_85 ⟨_, rfl, hq⟩
    · replace hq := hq.2 hc
      refine lv_aload_n hx hb dX9_turns_38 rfl (lv_at hl 3 rfl) ?_
      refine va_get (D := D) (ci := 8) (v := .ref (mp 1)) (C := RX9) (T := TX9) (N := 15) hx hb hts inX9 hown hK.1 hw.1 0 rfl rfl 0 (by decide) (hts _ q_461) (fun _ h9 => h9) rfl dX9_turns_39 ?_
      refine lv_iload hx hb dX9_turns_42 (lv_at hl 1 rfl) ?_
      refine lv_iload hx hb dX9_turns_44 (lv_at hl 7 rfl) ?_
      refine lv_iconst (v := 1) hx hb dX9_turns_46 (by decide) ?_
      refine lv_iand hx hb dX9_turns_47 ?_
      refine lv_if_ne (tgt := 56) hx hb dX9_turns_48 (by decide) (fun hc => ?_) (fun hc => ?_)
      · replace hq := hq.1 hc
        refine lv_iconst (v := 1) hx hb dX9_turns_56 (by decide) ?_
        refine lv_iload hx hb dX9_turns_57 (lv_at hl 0 rfl) ?_
        refine lv_isub hx hb dX9_turns_59 ?_
        refine va_iast hx hb hK.1 hw.1 hw.2 hS 1 8 rfl rfl hq.1 dX9_turns_60 (fun H locs hP hD hS => ?_)
        have hw : ΩM D d mp A (nCell u17 (upd (mCell u17) y18.toNatClampNeg ((1 : Int32) - y19))) H := ⟨hP, hD⟩
        replace hq := hq.2
        refine lv_goto (tgt := 176) hx hb dX9_turns_61 (by decide) ?_
        refine lv_iconst (v := 0) hx hb dX9_turns_176 (by decide) ?_
        exact mt_reti hx hb hr hlocks hw hS (Nat.le_of_ble_eq_true rfl) (Nat.le_of_ble_eq_true rfl) dX9_turns_177 ⟨_, rfl, hq⟩
      · replace hq := hq.2 hc
        refine lv_iload hx hb dX9_turns_51 (lv_at hl 0 rfl) ?_
        refine lv_goto (tgt := 60) hx hb dX9_turns_53 (by decide) ?_
        refine va_iast hx hb hK.1 hw.1 hw.2 hS 1 8 rfl rfl hq.1 dX9_turns_60 (fun H locs hP hD hS => ?_)
        have hw : ΩM D d mp A (nCell u17 (upd (mCell u17) y18.toNatClampNeg y19)) H := ⟨hP, hD⟩
        replace hq := hq.2
        refine lv_goto (tgt := 176) hx hb dX9_turns_61 (by decide) ?_
        refine lv_iconst (v := 0) hx hb dX9_turns_176 (by decide) ?_
        exact mt_reti hx hb hr hlocks hw hS (Nat.le_of_ble_eq_true rfl) (Nat.le_of_ble_eq_true rfl) dX9_turns_177 ⟨_, rfl, hq⟩
  · replace hq := hq.2 hc
    refine lv_iload hx hb dX9_turns_13 (lv_at hl 0 rfl) ?_
    exact mt_reti hx hb hr hlocks hw hS (Nat.le_of_ble_eq_true rfl) (Nat.le_of_ble_eq_true rfl) dX9_turns_15 ⟨_, rfl, hq⟩
abbrev rmX9_reads : Room := { frames := 1, cells := 0, slots := 0, locals := 22 }
theorem nmhX9_reads : NoMH yX9_reads 2 := by decide +kernel
def wX9_reads (x1 : Int32) (x2 : Int32) (μ : MS) (Q : Int32 → MS → Prop) : Prop :=
    wX9_lacks x1 x2 μ (fun r3 u4 => (0 ≤ r3 → (vp_in (((300 : Int32) * x1) + x2) 60600 ∧ (Q (mCell (nState u4 r3) (((300 : Int32) * x1) + x2).toNatClampNeg) (nState u4 r3)))) ∧ (¬ 0 ≤ r3 → Q (0 : Int32) (nState u4 r3)))
set_option maxHeartbeats 4000000 in
set_option maxRecDepth 100000 in
theorem tX9_reads (l : Launch) (D : va_G) (d : AC) (mp : Nat → Nat) (x1 : Int32) (x2 : Int32) (μ : MS) {Q : Int32 → MS → Prop} (hq : wX9_reads x1 x2 μ Q) : MT D d (ΩM D d mp) l yX9_reads (WS yX9_reads cX9_reads 4 (some (.int))) rmX9_reads [.ref (mp 0), .int x1, .int x2] μ (qI Q) := by
  refine mt_of (ΩM.mono D d mp) (by decide +kernel) (Nat.le_of_ble_eq_true rfl) (fun p e s m below meth c A ls hx hb hr hml hown hts hlocks hnm hK hA hw hS hl => ?_)
  have hl : lv_has ls 4 [(0, .ref (mp 0)), (1, .int x1), (2, .int x2)] := hl
  have hown : s.vm.findClass RX9 = some m.cls := hown
  unfold wX9_reads at hq
  refine lv_aload_n hx hb dX9_reads_0 rfl (lv_at hl 0 rfl) ?_
  refine lv_iload_n hx hb dX9_reads_1 rfl (lv_at hl 1 rfl) ?_
  refine lv_iload_n hx hb dX9_reads_2 rfl (lv_at hl 2 rfl) ?_
  refine mt_callV (index := 67) hx hb hml hown hts hK (ΩM.mono D d mp) hA hw hS hl.1 (tX9_lacks l D d mp x1 x2 μ hq) (ΩM.recv hK hw) q_557 q_34 q_554 q_556 q_21 nmhX9_lacks ⟨⟨Nat.le_of_ble_eq_true rfl, Nat.le_of_ble_eq_true rfl⟩, ⟨Nat.le_of_ble_eq_true rfl, Nat.le_of_ble_eq_true rfl⟩⟩ rfl (Nat.le_of_ble_eq_true rfl) dX9_reads_3 (fun _ u4 H locs hq hw hS => ?_)
  obtain ⟨r3, rfl, hq⟩ := hq
  refine W.eq (g2 := F0 m 6 ls [.int r3]) rfl ?_
  refine lv_istore_n (lv' := [(3, .int r3), (0, .ref (mp 0)), (1, .int x1), (2, .int x2)]) hx hb dX9_reads_6 rfl hl (by decide) rfl (fun ls hl => ?_)
  refine lv_aload_n hx hb dX9_reads_7 rfl (lv_at hl 1 rfl) ?_
  refine lv_iload_n hx hb dX9_reads_8 rfl (lv_at hl 0 rfl) ?_
  refine va_put (D := D) (ci := 8) (v := .int r3) (ty := .int) (C := RX9) (T := TX9) (N := 15) hx hb hts inX9 tyX9 tyX9_ok nmX9 hown hK.1 hw.1 hw.2 hS 0 rfl rfl 14 (by decide) (hts _ q_475) (fun _ h9 => h9) rfl (by decide +kernel) rfl rfl (Nat.le_of_ble_eq_true rfl) dX9_reads_9 (fun H locs hP hD hS => ?_)
  have hw : ΩM D d mp A (nState u4 r3) H := ⟨hP, hD⟩
  refine lv_iload_n hx hb dX9_reads_12 rfl (lv_at hl 0 rfl) ?_
  refine lv_if_ge (tgt := 20) hx hb dX9_reads_13 (by decide) (fun hc => ?_) (fun hc => ?_)
  · replace hq := hq.1 hc
    refine lv_aload_n hx hb dX9_reads_20 rfl (lv_at hl 1 rfl) ?_
    refine va_get (D := D) (ci := 8) (v := .ref (mp 1)) (C := RX9) (T := TX9) (N := 15) hx hb hts inX9 hown hK.1 hw.1 0 rfl rfl 0 (by decide) (hts _ q_461) (fun _ h9 => h9) rfl dX9_reads_21 ?_
    refine lv_sipush (v := 300) hx hb dX9_reads_24 (by decide) ?_
    refine lv_iload_n hx hb dX9_reads_27 rfl (lv_at hl 2 rfl) ?_
    refine lv_imul hx hb dX9_reads_28 ?_
    refine lv_iload_n hx hb dX9_reads_29 rfl (lv_at hl 3 rfl) ?_
    refine lv_iadd hx hb dX9_reads_30 ?_
    refine va_iald hx hb hK.1 hw.1 1 8 rfl rfl hq.1 dX9_reads_31 ?_
    replace hq := hq.2
    exact mt_reti hx hb hr hlocks hw hS (Nat.le_of_ble_eq_true rfl) (Nat.le_of_ble_eq_true rfl) dX9_reads_32 ⟨_, rfl, hq⟩
  · replace hq := hq.2 hc
    refine lv_iconst (v := 0) hx hb dX9_reads_16 (by decide) ?_
    refine lv_goto (tgt := 32) hx hb dX9_reads_17 (by decide) ?_
    exact mt_reti hx hb hr hlocks hw hS (Nat.le_of_ble_eq_true rfl) (Nat.le_of_ble_eq_true rfl) dX9_reads_32 ⟨_, rfl, hq⟩
abbrev rmX9_cut : Room := { frames := 2, cells := 0, slots := 0, locals := 42 }
theorem nmhX9_cut : NoMH yX9_cut 3 := by decide +kernel
def wX9_cut (x1 : Int32) (x2 : Int32) (x3 : Int32) (μ : MS) (Q : Int32 → MS → Prop) : Prop :=
    wX9_isDrum x1 μ (fun r19 u20 => (r19 = 0 → wX9_told (-1 : Int32) u20 (fun r21 u22 => Q r21 u22)) ∧ (¬ r19 = 0 → (wX9_isKind x2 u20 (fun r23 u24 => (¬ r23 = 0 → (wX9_in x3 (0 : Int32) (300 : Int32) u24 (fun r25 u26 => (¬ r25 = 0 → (wX9_newTrack x3 u26 (fun r27 u28 => wX9_drumGets x1 x2 r27 u28 (fun u30 => wX9_told x3 u30 (fun r31 u32 => Q r31 u32))))) ∧ (r25 = 0 → wX9_told (-4 : Int32) u26 (fun r33 u34 => Q r33 u34))))) ∧ (r23 = 0 → wX9_told (-1 : Int32) u24 (fun r35 u36 => Q r35 u36))))))
set_option maxHeartbeats 4000000 in
set_option maxRecDepth 100000 in
theorem tX9_cut (l : Launch) (D : va_G) (d : AC) (mp : Nat → Nat) (x1 : Int32) (x2 : Int32) (x3 : Int32) (μ : MS) {Q : Int32 → MS → Prop} (hq : wX9_cut x1 x2 x3 μ Q) : MT D d (ΩM D d mp) l yX9_cut (WS yX9_cut cX9_cut 4 (some (.int))) rmX9_cut [.ref (mp 0), .int x1, .int x2, .int x3] μ (qI Q) := by
  refine mt_of (ΩM.mono D d mp) (by decide +kernel) (Nat.le_of_ble_eq_true rfl) (fun p e s m below meth c A ls hx hb hr hml hown hts hlocks hnm hK hA hw hS hl => ?_)
  have hl : lv_has ls 4 [(0, .ref (mp 0)), (1, .int x1), (2, .int x2), (3, .int x3)] := hl
  have hown : s.vm.findClass RX9 = some m.cls := hown
  unfold wX9_cut at hq
  refine lv_iload_n hx hb dX9_cut_0 rfl (lv_at hl 1 rfl) ?_
  refine mt_callS (index := 90) hx hb hml hown hts hK (ΩM.mono D d mp) hA hw hS hl.1 (tX9_isDrum l D d mp x1 μ hq) q_515 q_34 q_513 q_514 nmhX9_isDrum ⟨⟨Nat.le_of_ble_eq_true rfl, Nat.le_of_ble_eq_true rfl⟩, ⟨Nat.le_of_ble_eq_true rfl, Nat.le_of_ble_eq_true rfl⟩⟩ rfl (Nat.le_of_ble_eq_true rfl) dX9_cut_1 (fun _ u20 H locs hq hw hS => ?_)
  obtain ⟨r19, rfl, hzr19, hq⟩ := hq
  refine W.eq (g2 := F0 m 4 ls [.int r19]) rfl ?_
  refine lv_if_eq (tgt := 14) hx hb dX9_cut_4 (by decide) (fun hc => ?_) (fun hc => ?_)
  · replace hq := hq.1 hc
    refine lv_aload_n hx hb dX9_cut_14 rfl (lv_at hl 0 rfl) ?_
    refine lv_iconst (v := -1) hx hb dX9_cut_15 (by decide) ?_
    refine mt_callV (index := 96) hx hb hml hown hts hK (ΩM.mono D d mp) hA hw hS hl.1 (tX9_told l D d mp (-1 : Int32) u20 hq) (ΩM.recv hK hw) q_525 q_34 q_522 q_524 q_17 nmhX9_told ⟨⟨Nat.le_of_ble_eq_true rfl, Nat.le_of_ble_eq_true rfl⟩, ⟨Nat.le_of_ble_eq_true rfl, Nat.le_of_ble_eq_true rfl⟩⟩ rfl (Nat.le_of_ble_eq_true rfl) dX9_cut_16 (fun _ u22 H locs hq hw hS => ?_)
    obtain ⟨r21, rfl, hq⟩ := hq
    refine W.eq (g2 := F0 m 19 ls [.int r21]) rfl ?_
    exact mt_reti hx hb hr hlocks hw hS (Nat.le_of_ble_eq_true rfl) (Nat.le_of_ble_eq_true rfl) dX9_cut_19 ⟨_, rfl, hq⟩
  · replace hq := hq.2 hc
    refine lv_iload_n hx hb dX9_cut_7 rfl (lv_at hl 2 rfl) ?_
    refine mt_callS (index := 93) hx hb hml hown hts hK (ΩM.mono D d mp) hA hw hS hl.1 (tX9_isKind l D d mp x2 u20 hq) q_521 q_34 q_519 q_520 nmhX9_isKind ⟨⟨Nat.le_of_ble_eq_true rfl, Nat.le_of_ble_eq_true rfl⟩, ⟨Nat.le_of_ble_eq_true rfl, Nat.le_of_ble_eq_true rfl⟩⟩ rfl (Nat.le_of_ble_eq_true rfl) dX9_cut_8 (fun _ u24 H locs hq hw hS => ?_)
    obtain ⟨r23, rfl, hzr23, hq⟩ := hq
    refine W.eq (g2 := F0 m 11 ls [.int r23]) rfl ?_
    refine lv_if_ne (tgt := 20) hx hb dX9_cut_11 (by decide) (fun hc => ?_) (fun hc => ?_)
    · replace hq := hq.1 hc
      refine lv_iload_n hx hb dX9_cut_20 rfl (lv_at hl 3 rfl) ?_
      refine lv_iconst (v := 0) hx hb dX9_cut_21 (by decide) ?_
      refine lv_sipush (v := 300) hx hb dX9_cut_22 (by decide) ?_
      refine mt_callS (index := 58) hx hb hml hown hts hK (ΩM.mono D d mp) hA hw hS hl.1 (tX9_in l D d mp x3 (0 : Int32) (300 : Int32) u24 hq) q_518 q_34 q_516 q_517 nmhX9_in ⟨⟨Nat.le_of_ble_eq_true rfl, Nat.le_of_ble_eq_true rfl⟩, ⟨Nat.le_of_ble_eq_true rfl, Nat.le_of_ble_eq_true rfl⟩⟩ rfl (Nat.le_of_ble_eq_true rfl) dX9_cut_25 (fun _ u26 H locs hq hw hS => ?_)
      obtain ⟨r25, rfl, hzr25, hq⟩ := hq
      refine W.eq (g2 := F0 m 28 ls [.int r25]) rfl ?_
      refine lv_if_ne (tgt := 38) hx hb dX9_cut_28 (by decide) (fun hc => ?_) (fun hc => ?_)
      · replace hq := hq.1 hc
        refine lv_aload_n hx hb dX9_cut_38 rfl (lv_at hl 0 rfl) ?_
        refine lv_iload_n hx hb dX9_cut_39 rfl (lv_at hl 1 rfl) ?_
        refine lv_iload_n hx hb dX9_cut_40 rfl (lv_at hl 2 rfl) ?_
        refine lv_aload_n hx hb dX9_cut_41 rfl (lv_at hl 0 rfl) ?_
        refine lv_iload_n hx hb dX9_cut_42 rfl (lv_at hl 3 rfl) ?_
        refine mt_callV (index := 100) hx hb hml hown hts hK (ΩM.mono D d mp) hA hw hS hl.1 (tX9_newTrack l D d mp x3 u26 hq) (ΩM.recv hK hw) q_529 q_34 q_526 q_528 q_18 nmhX9_newTrack ⟨⟨Nat.le_of_ble_eq_true rfl, Nat.le_of_ble_eq_true rfl⟩, ⟨Nat.le_of_ble_eq_true rfl, Nat.le_of_ble_eq_true rfl⟩⟩ rfl (Nat.le_of_ble_eq_true rfl) dX9_cut_43 (fun _ u28 H locs hq hw hS => ?_)
        obtain ⟨r27, rfl, hq⟩ := hq
        refine W.eq (g2 := F0 m 46 ls [.int r27, .int x2, .int x1, .ref (mp 0)]) rfl ?_
        refine mt_callV (index := 103) hx hb hml hown hts hK (ΩM.mono D d mp) hA hw hS hl.1 (tX9_drumGets l D d mp x1 x2 r27 u28 hq) (ΩM.recv hK hw) q_533 q_34 q_530 q_532 q_19 nmhX9_drumGets ⟨⟨Nat.le_of_ble_eq_true rfl, Nat.le_of_ble_eq_true rfl⟩, ⟨Nat.le_of_ble_eq_true rfl, Nat.le_of_ble_eq_true rfl⟩⟩ rfl (Nat.le_of_ble_eq_true rfl) dX9_cut_46 (fun _ u30 H locs hq hw hS => ?_)
        obtain ⟨rfl, hq⟩ := hq
        refine W.eq (g2 := F0 m 49 ls []) rfl ?_
        refine lv_aload_n hx hb dX9_cut_49 rfl (lv_at hl 0 rfl) ?_
        refine lv_iload_n hx hb dX9_cut_50 rfl (lv_at hl 3 rfl) ?_
        refine mt_callV (index := 96) hx hb hml hown hts hK (ΩM.mono D d mp) hA hw hS hl.1 (tX9_told l D d mp x3 u30 hq) (ΩM.recv hK hw) q_525 q_34 q_522 q_524 q_17 nmhX9_told ⟨⟨Nat.le_of_ble_eq_true rfl, Nat.le_of_ble_eq_true rfl⟩, ⟨Nat.le_of_ble_eq_true rfl, Nat.le_of_ble_eq_true rfl⟩⟩ rfl (Nat.le_of_ble_eq_true rfl) dX9_cut_51 (fun _ u32 H locs hq hw hS => ?_)
        obtain ⟨r31, rfl, hq⟩ := hq
        refine W.eq (g2 := F0 m 54 ls [.int r31]) rfl ?_
        exact mt_reti hx hb hr hlocks hw hS (Nat.le_of_ble_eq_true rfl) (Nat.le_of_ble_eq_true rfl) dX9_cut_54 ⟨_, rfl, hq⟩
      · replace hq := hq.2 hc
        refine lv_aload_n hx hb dX9_cut_31 rfl (lv_at hl 0 rfl) ?_
        refine lv_bipush (v := -4) hx hb dX9_cut_32 (by decide) ?_
        refine mt_callV (index := 96) hx hb hml hown hts hK (ΩM.mono D d mp) hA hw hS hl.1 (tX9_told l D d mp (-4 : Int32) u26 hq) (ΩM.recv hK hw) q_525 q_34 q_522 q_524 q_17 nmhX9_told ⟨⟨Nat.le_of_ble_eq_true rfl, Nat.le_of_ble_eq_true rfl⟩, ⟨Nat.le_of_ble_eq_true rfl, Nat.le_of_ble_eq_true rfl⟩⟩ rfl (Nat.le_of_ble_eq_true rfl) dX9_cut_34 (fun _ u34 H locs hq hw hS => ?_)
        obtain ⟨r33, rfl, hq⟩ := hq
        refine W.eq (g2 := F0 m 37 ls [.int r33]) rfl ?_
        exact mt_reti hx hb hr hlocks hw hS (Nat.le_of_ble_eq_true rfl) (Nat.le_of_ble_eq_true rfl) dX9_cut_37 ⟨_, rfl, hq⟩
    · replace hq := hq.2 hc
      refine lv_aload_n hx hb dX9_cut_14 rfl (lv_at hl 0 rfl) ?_
      refine lv_iconst (v := -1) hx hb dX9_cut_15 (by decide) ?_
      refine mt_callV (index := 96) hx hb hml hown hts hK (ΩM.mono D d mp) hA hw hS hl.1 (tX9_told l D d mp (-1 : Int32) u24 hq) (ΩM.recv hK hw) q_525 q_34 q_522 q_524 q_17 nmhX9_told ⟨⟨Nat.le_of_ble_eq_true rfl, Nat.le_of_ble_eq_true rfl⟩, ⟨Nat.le_of_ble_eq_true rfl, Nat.le_of_ble_eq_true rfl⟩⟩ rfl (Nat.le_of_ble_eq_true rfl) dX9_cut_16 (fun _ u36 H locs hq hw hS => ?_)
      obtain ⟨r35, rfl, hq⟩ := hq
      refine W.eq (g2 := F0 m 19 ls [.int r35]) rfl ?_
      exact mt_reti hx hb hr hlocks hw hS (Nat.le_of_ble_eq_true rfl) (Nat.le_of_ble_eq_true rfl) dX9_cut_19 ⟨_, rfl, hq⟩
abbrev rmX9_strip : Room := { frames := 2, cells := 0, slots := 0, locals := 42 }
theorem nmhX9_strip : NoMH yX9_strip 2 := by decide +kernel
def wX9_strip (x1 : Int32) (x2 : Int32) (μ : MS) (Q : Int32 → MS → Prop) : Prop :=
    wX9_isDrum x1 μ (fun r16 u17 => (r16 = 0 → wX9_told (-1 : Int32) u17 (fun r18 u19 => Q r18 u19)) ∧ (¬ r16 = 0 → (wX9_isKind x2 u17 (fun r20 u21 => (¬ r20 = 0 → (vp_in (((5 : Int32) * x1) + x2) 40 ∧ (∀ y22 : Int32, y22 = (mDrums u21 (((5 : Int32) * x1) + x2).toNatClampNeg) → ((0 ≤ y22 → (wX9_drumGets x1 x2 (-1 : Int32) u21 (fun u24 => vp_in y22 202 ∧ wX9_told (mSize u24 y22.toNatClampNeg) u24 (fun r25 u26 => Q r25 u26)))) ∧ (¬ 0 ≤ y22 → wX9_told (-2 : Int32) u21 (fun r27 u28 => Q r27 u28)))))) ∧ (r20 = 0 → wX9_told (-1 : Int32) u21 (fun r29 u30 => Q r29 u30))))))
set_option maxHeartbeats 4000000 in
set_option maxRecDepth 100000 in
theorem tX9_strip (l : Launch) (D : va_G) (d : AC) (mp : Nat → Nat) (x1 : Int32) (x2 : Int32) (μ : MS) {Q : Int32 → MS → Prop} (hq : wX9_strip x1 x2 μ Q) : MT D d (ΩM D d mp) l yX9_strip (WS yX9_strip cX9_strip 4 (some (.int))) rmX9_strip [.ref (mp 0), .int x1, .int x2] μ (qI Q) := by
  refine mt_of (ΩM.mono D d mp) (by decide +kernel) (Nat.le_of_ble_eq_true rfl) (fun p e s m below meth c A ls hx hb hr hml hown hts hlocks hnm hK hA hw hS hl => ?_)
  have hl : lv_has ls 4 [(0, .ref (mp 0)), (1, .int x1), (2, .int x2)] := hl
  have hown : s.vm.findClass RX9 = some m.cls := hown
  unfold wX9_strip at hq
  refine lv_iload_n hx hb dX9_strip_0 rfl (lv_at hl 1 rfl) ?_
  refine mt_callS (index := 90) hx hb hml hown hts hK (ΩM.mono D d mp) hA hw hS hl.1 (tX9_isDrum l D d mp x1 μ hq) q_515 q_34 q_513 q_514 nmhX9_isDrum ⟨⟨Nat.le_of_ble_eq_true rfl, Nat.le_of_ble_eq_true rfl⟩, ⟨Nat.le_of_ble_eq_true rfl, Nat.le_of_ble_eq_true rfl⟩⟩ rfl (Nat.le_of_ble_eq_true rfl) dX9_strip_1 (fun _ u17 H locs hq hw hS => ?_)
  obtain ⟨r16, rfl, hzr16, hq⟩ := hq
  refine W.eq (g2 := F0 m 4 ls [.int r16]) rfl ?_
  refine lv_if_eq (tgt := 14) hx hb dX9_strip_4 (by decide) (fun hc => ?_) (fun hc => ?_)
  · replace hq := hq.1 hc
    refine lv_aload_n hx hb dX9_strip_14 rfl (lv_at hl 0 rfl) ?_
    refine lv_iconst (v := -1) hx hb dX9_strip_15 (by decide) ?_
    refine mt_callV (index := 96) hx hb hml hown hts hK (ΩM.mono D d mp) hA hw hS hl.1 (tX9_told l D d mp (-1 : Int32) u17 hq) (ΩM.recv hK hw) q_525 q_34 q_522 q_524 q_17 nmhX9_told ⟨⟨Nat.le_of_ble_eq_true rfl, Nat.le_of_ble_eq_true rfl⟩, ⟨Nat.le_of_ble_eq_true rfl, Nat.le_of_ble_eq_true rfl⟩⟩ rfl (Nat.le_of_ble_eq_true rfl) dX9_strip_16 (fun _ u19 H locs hq hw hS => ?_)
    obtain ⟨r18, rfl, hq⟩ := hq
    refine W.eq (g2 := F0 m 19 ls [.int r18]) rfl ?_
    exact mt_reti hx hb hr hlocks hw hS (Nat.le_of_ble_eq_true rfl) (Nat.le_of_ble_eq_true rfl) dX9_strip_19 ⟨_, rfl, hq⟩
  · replace hq := hq.2 hc
    refine lv_iload_n hx hb dX9_strip_7 rfl (lv_at hl 2 rfl) ?_
    refine mt_callS (index := 93) hx hb hml hown hts hK (ΩM.mono D d mp) hA hw hS hl.1 (tX9_isKind l D d mp x2 u17 hq) q_521 q_34 q_519 q_520 nmhX9_isKind ⟨⟨Nat.le_of_ble_eq_true rfl, Nat.le_of_ble_eq_true rfl⟩, ⟨Nat.le_of_ble_eq_true rfl, Nat.le_of_ble_eq_true rfl⟩⟩ rfl (Nat.le_of_ble_eq_true rfl) dX9_strip_8 (fun _ u21 H locs hq hw hS => ?_)
    obtain ⟨r20, rfl, hzr20, hq⟩ := hq
    refine W.eq (g2 := F0 m 11 ls [.int r20]) rfl ?_
    refine lv_if_ne (tgt := 20) hx hb dX9_strip_11 (by decide) (fun hc => ?_) (fun hc => ?_)
    · replace hq := hq.1 hc
      refine lv_aload_n hx hb dX9_strip_20 rfl (lv_at hl 0 rfl) ?_
      refine va_get (D := D) (ci := 8) (v := .ref (mp 4)) (C := RX9) (T := TX9) (N := 15) hx hb hts inX9 hown hK.1 hw.1 0 rfl rfl 3 (by decide) (hts _ q_464) (fun _ h9 => h9) rfl dX9_strip_21 ?_
      refine lv_iconst (v := 5) hx hb dX9_strip_24 (by decide) ?_
      refine lv_iload_n hx hb dX9_strip_25 rfl (lv_at hl 1 rfl) ?_
      refine lv_imul hx hb dX9_strip_26 ?_
      refine lv_iload_n hx hb dX9_strip_27 rfl (lv_at hl 2 rfl) ?_
      refine lv_iadd hx hb dX9_strip_28 ?_
      refine va_iald hx hb hK.1 hw.1 4 8 rfl rfl hq.1 dX9_strip_29 ?_
      replace hq := hq.2
      refine lv_topi (fun y22 ey22 => ?_)
      replace hq := hq y22 ey22
      refine lv_istore_n (lv' := [(3, .int y22), (0, .ref (mp 0)), (1, .int x1), (2, .int x2)]) hx hb dX9_strip_30 rfl hl (by decide) rfl (fun ls hl => ?_)
      refine lv_iload_n hx hb dX9_strip_31 rfl (lv_at hl 0 rfl) ?_
      refine lv_if_ge (tgt := 42) hx hb dX9_strip_32 (by decide) (fun hc => ?_) (fun hc => ?_)
      · replace hq := hq.1 hc
        refine lv_aload_n hx hb dX9_strip_42 rfl (lv_at hl 1 rfl) ?_
        refine lv_iload_n hx hb dX9_strip_43 rfl (lv_at hl 2 rfl) ?_
        refine lv_iload_n hx hb dX9_strip_44 rfl (lv_at hl 3 rfl) ?_
        refine lv_iconst (v := -1) hx hb dX9_strip_45 (by decide) ?_
        refine mt_callV (index := 103) hx hb hml hown hts hK (ΩM.mono D d mp) hA hw hS hl.1 (tX9_drumGets l D d mp x1 x2 (-1 : Int32) u21 hq) (ΩM.recv hK hw) q_533 q_34 q_530 q_532 q_19 nmhX9_drumGets ⟨⟨Nat.le_of_ble_eq_true rfl, Nat.le_of_ble_eq_true rfl⟩, ⟨Nat.le_of_ble_eq_true rfl, Nat.le_of_ble_eq_true rfl⟩⟩ rfl (Nat.le_of_ble_eq_true rfl) dX9_strip_46 (fun _ u24 H locs hq hw hS => ?_)
        obtain ⟨rfl, hq⟩ := hq
        refine W.eq (g2 := F0 m 49 ls []) rfl ?_
        refine lv_aload_n hx hb dX9_strip_49 rfl (lv_at hl 1 rfl) ?_
        refine lv_aload_n hx hb dX9_strip_50 rfl (lv_at hl 1 rfl) ?_
        refine va_get (D := D) (ci := 8) (v := .ref (mp 2)) (C := RX9) (T := TX9) (N := 15) hx hb hts inX9 hown hK.1 hw.1 0 rfl rfl 1 (by decide) (hts _ q_462) (fun _ h9 => h9) rfl dX9_strip_51 ?_
        refine lv_iload_n hx hb dX9_strip_54 rfl (lv_at hl 0 rfl) ?_
        refine va_iald hx hb hK.1 hw.1 2 8 rfl rfl hq.1 dX9_strip_55 ?_
        replace hq := hq.2
        refine mt_callV (index := 96) hx hb hml hown hts hK (ΩM.mono D d mp) hA hw hS hl.1 (tX9_told l D d mp (mSize u24 y22.toNatClampNeg) u24 hq) (ΩM.recv hK hw) q_525 q_34 q_522 q_524 q_17 nmhX9_told ⟨⟨Nat.le_of_ble_eq_true rfl, Nat.le_of_ble_eq_true rfl⟩, ⟨Nat.le_of_ble_eq_true rfl, Nat.le_of_ble_eq_true rfl⟩⟩ rfl (Nat.le_of_ble_eq_true rfl) dX9_strip_56 (fun _ u26 H locs hq hw hS => ?_)
        obtain ⟨r25, rfl, hq⟩ := hq
        refine W.eq (g2 := F0 m 59 ls [.int r25]) rfl ?_
        exact mt_reti hx hb hr hlocks hw hS (Nat.le_of_ble_eq_true rfl) (Nat.le_of_ble_eq_true rfl) dX9_strip_59 ⟨_, rfl, hq⟩
      · replace hq := hq.2 hc
        refine lv_aload_n hx hb dX9_strip_35 rfl (lv_at hl 1 rfl) ?_
        refine lv_bipush (v := -2) hx hb dX9_strip_36 (by decide) ?_
        refine mt_callV (index := 96) hx hb hml hown hts hK (ΩM.mono D d mp) hA hw hS hl.1 (tX9_told l D d mp (-2 : Int32) u21 hq) (ΩM.recv hK hw) q_525 q_34 q_522 q_524 q_17 nmhX9_told ⟨⟨Nat.le_of_ble_eq_true rfl, Nat.le_of_ble_eq_true rfl⟩, ⟨Nat.le_of_ble_eq_true rfl, Nat.le_of_ble_eq_true rfl⟩⟩ rfl (Nat.le_of_ble_eq_true rfl) dX9_strip_38 (fun _ u28 H locs hq hw hS => ?_)
        obtain ⟨r27, rfl, hq⟩ := hq
        refine W.eq (g2 := F0 m 41 ls [.int r27]) rfl ?_
        exact mt_reti hx hb hr hlocks hw hS (Nat.le_of_ble_eq_true rfl) (Nat.le_of_ble_eq_true rfl) dX9_strip_41 ⟨_, rfl, hq⟩
    · replace hq := hq.2 hc
      refine lv_aload_n hx hb dX9_strip_14 rfl (lv_at hl 0 rfl) ?_
      refine lv_iconst (v := -1) hx hb dX9_strip_15 (by decide) ?_
      refine mt_callV (index := 96) hx hb hml hown hts hK (ΩM.mono D d mp) hA hw hS hl.1 (tX9_told l D d mp (-1 : Int32) u21 hq) (ΩM.recv hK hw) q_525 q_34 q_522 q_524 q_17 nmhX9_told ⟨⟨Nat.le_of_ble_eq_true rfl, Nat.le_of_ble_eq_true rfl⟩, ⟨Nat.le_of_ble_eq_true rfl, Nat.le_of_ble_eq_true rfl⟩⟩ rfl (Nat.le_of_ble_eq_true rfl) dX9_strip_16 (fun _ u30 H locs hq hw hS => ?_)
      obtain ⟨r29, rfl, hq⟩ := hq
      refine W.eq (g2 := F0 m 19 ls [.int r29]) rfl ?_
      exact mt_reti hx hb hr hlocks hw hS (Nat.le_of_ble_eq_true rfl) (Nat.le_of_ble_eq_true rfl) dX9_strip_19 ⟨_, rfl, hq⟩
abbrev rmX9_share : Room := { frames := 2, cells := 0, slots := 0, locals := 42 }
theorem nmhX9_share : NoMH yX9_share 3 := by decide +kernel
def wX9_share (x1 : Int32) (x2 : Int32) (x3 : Int32) (μ : MS) (Q : Int32 → MS → Prop) : Prop :=
    wX9_isDrum x1 μ (fun r20 u21 => (r20 = 0 → wX9_told (-1 : Int32) u21 (fun r22 u23 => Q r22 u23)) ∧ (¬ r20 = 0 → (wX9_isDrum x2 u21 (fun r24 u25 => (r24 = 0 → wX9_told (-1 : Int32) u25 (fun r26 u27 => Q r26 u27)) ∧ (¬ r24 = 0 → (wX9_isKind x3 u25 (fun r28 u29 => (¬ r28 = 0 → (vp_in (((5 : Int32) * x1) + x3) 40 ∧ (∀ y30 : Int32, y30 = (mDrums u29 (((5 : Int32) * x1) + x3).toNatClampNeg) → ((0 ≤ y30 → (wX9_drumGets x2 x3 y30 u29 (fun u32 => vp_in y30 202 ∧ wX9_told (mSize u32 y30.toNatClampNeg) u32 (fun r33 u34 => Q r33 u34)))) ∧ (¬ 0 ≤ y30 → wX9_told (-2 : Int32) u29 (fun r35 u36 => Q r35 u36)))))) ∧ (r28 = 0 → wX9_told (-1 : Int32) u29 (fun r37 u38 => Q r37 u38)))))))))
set_option maxHeartbeats 4000000 in
set_option maxRecDepth 100000 in
theorem tX9_share (l : Launch) (D : va_G) (d : AC) (mp : Nat → Nat) (x1 : Int32) (x2 : Int32) (x3 : Int32) (μ : MS) {Q : Int32 → MS → Prop} (hq : wX9_share x1 x2 x3 μ Q) : MT D d (ΩM D d mp) l yX9_share (WS yX9_share cX9_share 5 (some (.int))) rmX9_share [.ref (mp 0), .int x1, .int x2, .int x3] μ (qI Q) := by
  refine mt_of (ΩM.mono D d mp) (by decide +kernel) (Nat.le_of_ble_eq_true rfl) (fun p e s m below meth c A ls hx hb hr hml hown hts hlocks hnm hK hA hw hS hl => ?_)
  have hl : lv_has ls 5 [(0, .ref (mp 0)), (1, .int x1), (2, .int x2), (3, .int x3)] := hl
  have hown : s.vm.findClass RX9 = some m.cls := hown
  unfold wX9_share at hq
  refine lv_iload_n hx hb dX9_share_0 rfl (lv_at hl 1 rfl) ?_
  refine mt_callS (index := 90) hx hb hml hown hts hK (ΩM.mono D d mp) hA hw hS hl.1 (tX9_isDrum l D d mp x1 μ hq) q_515 q_34 q_513 q_514 nmhX9_isDrum ⟨⟨Nat.le_of_ble_eq_true rfl, Nat.le_of_ble_eq_true rfl⟩, ⟨Nat.le_of_ble_eq_true rfl, Nat.le_of_ble_eq_true rfl⟩⟩ rfl (Nat.le_of_ble_eq_true rfl) dX9_share_1 (fun _ u21 H locs hq hw hS => ?_)
  obtain ⟨r20, rfl, hzr20, hq⟩ := hq
  refine W.eq (g2 := F0 m 4 ls [.int r20]) rfl ?_
  refine lv_if_eq (tgt := 21) hx hb dX9_share_4 (by decide) (fun hc => ?_) (fun hc => ?_)
  · replace hq := hq.1 hc
    refine lv_aload_n hx hb dX9_share_21 rfl (lv_at hl 0 rfl) ?_
    refine lv_iconst (v := -1) hx hb dX9_share_22 (by decide) ?_
    refine mt_callV (index := 96) hx hb hml hown hts hK (ΩM.mono D d mp) hA hw hS hl.1 (tX9_told l D d mp (-1 : Int32) u21 hq) (ΩM.recv hK hw) q_525 q_34 q_522 q_524 q_17 nmhX9_told ⟨⟨Nat.le_of_ble_eq_true rfl, Nat.le_of_ble_eq_true rfl⟩, ⟨Nat.le_of_ble_eq_true rfl, Nat.le_of_ble_eq_true rfl⟩⟩ rfl (Nat.le_of_ble_eq_true rfl) dX9_share_23 (fun _ u23 H locs hq hw hS => ?_)
    obtain ⟨r22, rfl, hq⟩ := hq
    refine W.eq (g2 := F0 m 26 ls [.int r22]) rfl ?_
    exact mt_reti hx hb hr hlocks hw hS (Nat.le_of_ble_eq_true rfl) (Nat.le_of_ble_eq_true rfl) dX9_share_26 ⟨_, rfl, hq⟩
  · replace hq := hq.2 hc
    refine lv_iload_n hx hb dX9_share_7 rfl (lv_at hl 2 rfl) ?_
    refine mt_callS (index := 90) hx hb hml hown hts hK (ΩM.mono D d mp) hA hw hS hl.1 (tX9_isDrum l D d mp x2 u21 hq) q_515 q_34 q_513 q_514 nmhX9_isDrum ⟨⟨Nat.le_of_ble_eq_true rfl, Nat.le_of_ble_eq_true rfl⟩, ⟨Nat.le_of_ble_eq_true rfl, Nat.le_of_ble_eq_true rfl⟩⟩ rfl (Nat.le_of_ble_eq_true rfl) dX9_share_8 (fun _ u25 H locs hq hw hS => ?_)
    obtain ⟨r24, rfl, hzr24, hq⟩ := hq
    refine W.eq (g2 := F0 m 11 ls [.int r24]) rfl ?_
    refine lv_if_eq (tgt := 21) hx hb dX9_share_11 (by decide) (fun hc => ?_) (fun hc => ?_)
    · replace hq := hq.1 hc
      refine lv_aload_n hx hb dX9_share_21 rfl (lv_at hl 0 rfl) ?_
      refine lv_iconst (v := -1) hx hb dX9_share_22 (by decide) ?_
      refine mt_callV (index := 96) hx hb hml hown hts hK (ΩM.mono D d mp) hA hw hS hl.1 (tX9_told l D d mp (-1 : Int32) u25 hq) (ΩM.recv hK hw) q_525 q_34 q_522 q_524 q_17 nmhX9_told ⟨⟨Nat.le_of_ble_eq_true rfl, Nat.le_of_ble_eq_true rfl⟩, ⟨Nat.le_of_ble_eq_true rfl, Nat.le_of_ble_eq_true rfl⟩⟩ rfl (Nat.le_of_ble_eq_true rfl) dX9_share_23 (fun _ u27 H locs hq hw hS => ?_)
      obtain ⟨r26, rfl, hq⟩ := hq
      refine W.eq (g2 := F0 m 26 ls [.int r26]) rfl ?_
      exact mt_reti hx hb hr hlocks hw hS (Nat.le_of_ble_eq_true rfl) (Nat.le_of_ble_eq_true rfl) dX9_share_26 ⟨_, rfl, hq⟩
    · replace hq := hq.2 hc
      refine lv_iload_n hx hb dX9_share_14 rfl (lv_at hl 3 rfl) ?_
      refine mt_callS (index := 93) hx hb hml hown hts hK (ΩM.mono D d mp) hA hw hS hl.1 (tX9_isKind l D d mp x3 u25 hq) q_521 q_34 q_519 q_520 nmhX9_isKind ⟨⟨Nat.le_of_ble_eq_true rfl, Nat.le_of_ble_eq_true rfl⟩, ⟨Nat.le_of_ble_eq_true rfl, Nat.le_of_ble_eq_true rfl⟩⟩ rfl (Nat.le_of_ble_eq_true rfl) dX9_share_15 (fun _ u29 H locs hq hw hS => ?_)
      obtain ⟨r28, rfl, hzr28, hq⟩ := hq
      refine W.eq (g2 := F0 m 18 ls [.int r28]) rfl ?_
      refine lv_if_ne (tgt := 27) hx hb dX9_share_18 (by decide) (fun hc => ?_) (fun hc => ?_)
      · replace hq := hq.1 hc
        refine lv_aload_n hx hb dX9_share_27 rfl (lv_at hl 0 rfl) ?_
        refine va_get (D := D) (ci := 8) (v := .ref (mp 4)) (C := RX9) (T := TX9) (N := 15) hx hb hts inX9 hown hK.1 hw.1 0 rfl rfl 3 (by decide) (hts _ q_464) (fun _ h9 => h9) rfl dX9_share_28 ?_
        refine lv_iconst (v := 5) hx hb dX9_share_31 (by decide) ?_
        refine lv_iload_n hx hb dX9_share_32 rfl (lv_at hl 1 rfl) ?_
        refine lv_imul hx hb dX9_share_33 ?_
        refine lv_iload_n hx hb dX9_share_34 rfl (lv_at hl 3 rfl) ?_
        refine lv_iadd hx hb dX9_share_35 ?_
        refine va_iald hx hb hK.1 hw.1 4 8 rfl rfl hq.1 dX9_share_36 ?_
        replace hq := hq.2
        refine lv_topi (fun y30 ey30 => ?_)
        replace hq := hq y30 ey30
        refine lv_istore (lv' := [(4, .int y30), (0, .ref (mp 0)), (1, .int x1), (2, .int x2), (3, .int x3)]) hx hb dX9_share_37 hl (by decide) rfl (fun ls hl => ?_)
        refine lv_iload hx hb dX9_share_39 (lv_at hl 0 rfl) ?_
        refine lv_if_ge (tgt := 51) hx hb dX9_share_41 (by decide) (fun hc => ?_) (fun hc => ?_)
        · replace hq := hq.1 hc
          refine lv_aload_n hx hb dX9_share_51 rfl (lv_at hl 1 rfl) ?_
          refine lv_iload_n hx hb dX9_share_52 rfl (lv_at hl 3 rfl) ?_
          refine lv_iload_n hx hb dX9_share_53 rfl (lv_at hl 4 rfl) ?_
          refine lv_iload hx hb dX9_share_54 (lv_at hl 0 rfl) ?_
          refine mt_callV (index := 103) hx hb hml hown hts hK (ΩM.mono D d mp) hA hw hS hl.1 (tX9_drumGets l D d mp x2 x3 y30 u29 hq) (ΩM.recv hK hw) q_533 q_34 q_530 q_532 q_19 nmhX9_drumGets ⟨⟨Nat.le_of_ble_eq_true rfl, Nat.le_of_ble_eq_true rfl⟩, ⟨Nat.le_of_ble_eq_true rfl, Nat.le_of_ble_eq_true rfl⟩⟩ rfl (Nat.le_of_ble_eq_true rfl) dX9_share_56 (fun _ u32 H locs hq hw hS => ?_)
          obtain ⟨rfl, hq⟩ := hq
          refine W.eq (g2 := F0 m 59 ls []) rfl ?_
          refine lv_aload_n hx hb dX9_share_59 rfl (lv_at hl 1 rfl) ?_
          refine lv_aload_n hx hb dX9_share_60 rfl (lv_at hl 1 rfl) ?_
          refine va_get (D := D) (ci := 8) (v := .ref (mp 2)) (C := RX9) (T := TX9) (N := 15) hx hb hts inX9 hown hK.1 hw.1 0 rfl rfl 1 (by decide) (hts _ q_462) (fun _ h9 => h9) rfl dX9_share_61 ?_
          refine lv_iload hx hb dX9_share_64 (lv_at hl 0 rfl) ?_
          refine va_iald hx hb hK.1 hw.1 2 8 rfl rfl hq.1 dX9_share_66 ?_
          replace hq := hq.2
          refine mt_callV (index := 96) hx hb hml hown hts hK (ΩM.mono D d mp) hA hw hS hl.1 (tX9_told l D d mp (mSize u32 y30.toNatClampNeg) u32 hq) (ΩM.recv hK hw) q_525 q_34 q_522 q_524 q_17 nmhX9_told ⟨⟨Nat.le_of_ble_eq_true rfl, Nat.le_of_ble_eq_true rfl⟩, ⟨Nat.le_of_ble_eq_true rfl, Nat.le_of_ble_eq_true rfl⟩⟩ rfl (Nat.le_of_ble_eq_true rfl) dX9_share_67 (fun _ u34 H locs hq hw hS => ?_)
          obtain ⟨r33, rfl, hq⟩ := hq
          refine W.eq (g2 := F0 m 70 ls [.int r33]) rfl ?_
          exact mt_reti hx hb hr hlocks hw hS (Nat.le_of_ble_eq_true rfl) (Nat.le_of_ble_eq_true rfl) dX9_share_70 ⟨_, rfl, hq⟩
        · replace hq := hq.2 hc
          refine lv_aload_n hx hb dX9_share_44 rfl (lv_at hl 1 rfl) ?_
          refine lv_bipush (v := -2) hx hb dX9_share_45 (by decide) ?_
          refine mt_callV (index := 96) hx hb hml hown hts hK (ΩM.mono D d mp) hA hw hS hl.1 (tX9_told l D d mp (-2 : Int32) u29 hq) (ΩM.recv hK hw) q_525 q_34 q_522 q_524 q_17 nmhX9_told ⟨⟨Nat.le_of_ble_eq_true rfl, Nat.le_of_ble_eq_true rfl⟩, ⟨Nat.le_of_ble_eq_true rfl, Nat.le_of_ble_eq_true rfl⟩⟩ rfl (Nat.le_of_ble_eq_true rfl) dX9_share_47 (fun _ u36 H locs hq hw hS => ?_)
          obtain ⟨r35, rfl, hq⟩ := hq
          refine W.eq (g2 := F0 m 50 ls [.int r35]) rfl ?_
          exact mt_reti hx hb hr hlocks hw hS (Nat.le_of_ble_eq_true rfl) (Nat.le_of_ble_eq_true rfl) dX9_share_50 ⟨_, rfl, hq⟩
      · replace hq := hq.2 hc
        refine lv_aload_n hx hb dX9_share_21 rfl (lv_at hl 0 rfl) ?_
        refine lv_iconst (v := -1) hx hb dX9_share_22 (by decide) ?_
        refine mt_callV (index := 96) hx hb hml hown hts hK (ΩM.mono D d mp) hA hw hS hl.1 (tX9_told l D d mp (-1 : Int32) u29 hq) (ΩM.recv hK hw) q_525 q_34 q_522 q_524 q_17 nmhX9_told ⟨⟨Nat.le_of_ble_eq_true rfl, Nat.le_of_ble_eq_true rfl⟩, ⟨Nat.le_of_ble_eq_true rfl, Nat.le_of_ble_eq_true rfl⟩⟩ rfl (Nat.le_of_ble_eq_true rfl) dX9_share_23 (fun _ u38 H locs hq hw hS => ?_)
        obtain ⟨r37, rfl, hq⟩ := hq
        refine W.eq (g2 := F0 m 26 ls [.int r37]) rfl ?_
        exact mt_reti hx hb hr hlocks hw hS (Nat.le_of_ble_eq_true rfl) (Nat.le_of_ble_eq_true rfl) dX9_share_26 ⟨_, rfl, hq⟩
abbrev rmX9_places : Room := { frames := 2, cells := 0, slots := 0, locals := 42 }
theorem nmhX9_places : NoMH yX9_places 2 := by decide +kernel
def wX9_places (x1 : Int32) (x2 : Int32) (μ : MS) (Q : Int32 → MS → Prop) : Prop :=
    wX9_isDrum x1 μ (fun r14 u15 => (r14 = 0 → wX9_told (-1 : Int32) u15 (fun r16 u17 => Q r16 u17)) ∧ (¬ r14 = 0 → (wX9_isKind x2 u15 (fun r18 u19 => (¬ r18 = 0 → (vp_in (((5 : Int32) * x1) + x2) 40 ∧ (∀ y20 : Int32, y20 = (mDrums u19 (((5 : Int32) * x1) + x2).toNatClampNeg) → ((0 ≤ y20 → (vp_in y20 202 ∧ wX9_told (mSize u19 y20.toNatClampNeg) u19 (fun r21 u22 => Q r21 u22))) ∧ (¬ 0 ≤ y20 → wX9_told (-2 : Int32) u19 (fun r23 u24 => Q r23 u24)))))) ∧ (r18 = 0 → wX9_told (-1 : Int32) u19 (fun r25 u26 => Q r25 u26))))))
set_option maxHeartbeats 4000000 in
set_option maxRecDepth 100000 in
theorem tX9_places (l : Launch) (D : va_G) (d : AC) (mp : Nat → Nat) (x1 : Int32) (x2 : Int32) (μ : MS) {Q : Int32 → MS → Prop} (hq : wX9_places x1 x2 μ Q) : MT D d (ΩM D d mp) l yX9_places (WS yX9_places cX9_places 4 (some (.int))) rmX9_places [.ref (mp 0), .int x1, .int x2] μ (qI Q) := by
  refine mt_of (ΩM.mono D d mp) (by decide +kernel) (Nat.le_of_ble_eq_true rfl) (fun p e s m below meth c A ls hx hb hr hml hown hts hlocks hnm hK hA hw hS hl => ?_)
  have hl : lv_has ls 4 [(0, .ref (mp 0)), (1, .int x1), (2, .int x2)] := hl
  have hown : s.vm.findClass RX9 = some m.cls := hown
  unfold wX9_places at hq
  refine lv_iload_n hx hb dX9_places_0 rfl (lv_at hl 1 rfl) ?_
  refine mt_callS (index := 90) hx hb hml hown hts hK (ΩM.mono D d mp) hA hw hS hl.1 (tX9_isDrum l D d mp x1 μ hq) q_515 q_34 q_513 q_514 nmhX9_isDrum ⟨⟨Nat.le_of_ble_eq_true rfl, Nat.le_of_ble_eq_true rfl⟩, ⟨Nat.le_of_ble_eq_true rfl, Nat.le_of_ble_eq_true rfl⟩⟩ rfl (Nat.le_of_ble_eq_true rfl) dX9_places_1 (fun _ u15 H locs hq hw hS => ?_)
  obtain ⟨r14, rfl, hzr14, hq⟩ := hq
  refine W.eq (g2 := F0 m 4 ls [.int r14]) rfl ?_
  refine lv_if_eq (tgt := 14) hx hb dX9_places_4 (by decide) (fun hc => ?_) (fun hc => ?_)
  · replace hq := hq.1 hc
    refine lv_aload_n hx hb dX9_places_14 rfl (lv_at hl 0 rfl) ?_
    refine lv_iconst (v := -1) hx hb dX9_places_15 (by decide) ?_
    refine mt_callV (index := 96) hx hb hml hown hts hK (ΩM.mono D d mp) hA hw hS hl.1 (tX9_told l D d mp (-1 : Int32) u15 hq) (ΩM.recv hK hw) q_525 q_34 q_522 q_524 q_17 nmhX9_told ⟨⟨Nat.le_of_ble_eq_true rfl, Nat.le_of_ble_eq_true rfl⟩, ⟨Nat.le_of_ble_eq_true rfl, Nat.le_of_ble_eq_true rfl⟩⟩ rfl (Nat.le_of_ble_eq_true rfl) dX9_places_16 (fun _ u17 H locs hq hw hS => ?_)
    obtain ⟨r16, rfl, hq⟩ := hq
    refine W.eq (g2 := F0 m 19 ls [.int r16]) rfl ?_
    exact mt_reti hx hb hr hlocks hw hS (Nat.le_of_ble_eq_true rfl) (Nat.le_of_ble_eq_true rfl) dX9_places_19 ⟨_, rfl, hq⟩
  · replace hq := hq.2 hc
    refine lv_iload_n hx hb dX9_places_7 rfl (lv_at hl 2 rfl) ?_
    refine mt_callS (index := 93) hx hb hml hown hts hK (ΩM.mono D d mp) hA hw hS hl.1 (tX9_isKind l D d mp x2 u15 hq) q_521 q_34 q_519 q_520 nmhX9_isKind ⟨⟨Nat.le_of_ble_eq_true rfl, Nat.le_of_ble_eq_true rfl⟩, ⟨Nat.le_of_ble_eq_true rfl, Nat.le_of_ble_eq_true rfl⟩⟩ rfl (Nat.le_of_ble_eq_true rfl) dX9_places_8 (fun _ u19 H locs hq hw hS => ?_)
    obtain ⟨r18, rfl, hzr18, hq⟩ := hq
    refine W.eq (g2 := F0 m 11 ls [.int r18]) rfl ?_
    refine lv_if_ne (tgt := 20) hx hb dX9_places_11 (by decide) (fun hc => ?_) (fun hc => ?_)
    · replace hq := hq.1 hc
      refine lv_aload_n hx hb dX9_places_20 rfl (lv_at hl 0 rfl) ?_
      refine va_get (D := D) (ci := 8) (v := .ref (mp 4)) (C := RX9) (T := TX9) (N := 15) hx hb hts inX9 hown hK.1 hw.1 0 rfl rfl 3 (by decide) (hts _ q_464) (fun _ h9 => h9) rfl dX9_places_21 ?_
      refine lv_iconst (v := 5) hx hb dX9_places_24 (by decide) ?_
      refine lv_iload_n hx hb dX9_places_25 rfl (lv_at hl 1 rfl) ?_
      refine lv_imul hx hb dX9_places_26 ?_
      refine lv_iload_n hx hb dX9_places_27 rfl (lv_at hl 2 rfl) ?_
      refine lv_iadd hx hb dX9_places_28 ?_
      refine va_iald hx hb hK.1 hw.1 4 8 rfl rfl hq.1 dX9_places_29 ?_
      replace hq := hq.2
      refine lv_topi (fun y20 ey20 => ?_)
      replace hq := hq y20 ey20
      refine lv_istore_n (lv' := [(3, .int y20), (0, .ref (mp 0)), (1, .int x1), (2, .int x2)]) hx hb dX9_places_30 rfl hl (by decide) rfl (fun ls hl => ?_)
      refine lv_aload_n hx hb dX9_places_31 rfl (lv_at hl 1 rfl) ?_
      refine lv_iload_n hx hb dX9_places_32 rfl (lv_at hl 0 rfl) ?_
      refine lv_if_ge (tgt := 41) hx hb dX9_places_33 (by decide) (fun hc => ?_) (fun hc => ?_)
      · replace hq := hq.1 hc
        refine lv_aload_n hx hb dX9_places_41 rfl (lv_at hl 1 rfl) ?_
        refine va_get (D := D) (ci := 8) (v := .ref (mp 2)) (C := RX9) (T := TX9) (N := 15) hx hb hts inX9 hown hK.1 hw.1 0 rfl rfl 1 (by decide) (hts _ q_462) (fun _ h9 => h9) rfl dX9_places_42 ?_
        refine lv_iload_n hx hb dX9_places_45 rfl (lv_at hl 0 rfl) ?_
        refine va_iald hx hb hK.1 hw.1 2 8 rfl rfl hq.1 dX9_places_46 ?_
        replace hq := hq.2
        refine mt_callV (index := 96) hx hb hml hown hts hK (ΩM.mono D d mp) hA hw hS hl.1 (tX9_told l D d mp (mSize u19 y20.toNatClampNeg) u19 hq) (ΩM.recv hK hw) q_525 q_34 q_522 q_524 q_17 nmhX9_told ⟨⟨Nat.le_of_ble_eq_true rfl, Nat.le_of_ble_eq_true rfl⟩, ⟨Nat.le_of_ble_eq_true rfl, Nat.le_of_ble_eq_true rfl⟩⟩ rfl (Nat.le_of_ble_eq_true rfl) dX9_places_47 (fun _ u22 H locs hq hw hS => ?_)
        obtain ⟨r21, rfl, hq⟩ := hq
        refine W.eq (g2 := F0 m 50 ls [.int r21]) rfl ?_
        exact mt_reti hx hb hr hlocks hw hS (Nat.le_of_ble_eq_true rfl) (Nat.le_of_ble_eq_true rfl) dX9_places_50 ⟨_, rfl, hq⟩
      · replace hq := hq.2 hc
        refine lv_bipush (v := -2) hx hb dX9_places_36 (by decide) ?_
        refine lv_goto (tgt := 47) hx hb dX9_places_38 (by decide) ?_
        refine mt_callV (index := 96) hx hb hml hown hts hK (ΩM.mono D d mp) hA hw hS hl.1 (tX9_told l D d mp (-2 : Int32) u19 hq) (ΩM.recv hK hw) q_525 q_34 q_522 q_524 q_17 nmhX9_told ⟨⟨Nat.le_of_ble_eq_true rfl, Nat.le_of_ble_eq_true rfl⟩, ⟨Nat.le_of_ble_eq_true rfl, Nat.le_of_ble_eq_true rfl⟩⟩ rfl (Nat.le_of_ble_eq_true rfl) dX9_places_47 (fun _ u24 H locs hq hw hS => ?_)
        obtain ⟨r23, rfl, hq⟩ := hq
        refine W.eq (g2 := F0 m 50 ls [.int r23]) rfl ?_
        exact mt_reti hx hb hr hlocks hw hS (Nat.le_of_ble_eq_true rfl) (Nat.le_of_ble_eq_true rfl) dX9_places_50 ⟨_, rfl, hq⟩
    · replace hq := hq.2 hc
      refine lv_aload_n hx hb dX9_places_14 rfl (lv_at hl 0 rfl) ?_
      refine lv_iconst (v := -1) hx hb dX9_places_15 (by decide) ?_
      refine mt_callV (index := 96) hx hb hml hown hts hK (ΩM.mono D d mp) hA hw hS hl.1 (tX9_told l D d mp (-1 : Int32) u19 hq) (ΩM.recv hK hw) q_525 q_34 q_522 q_524 q_17 nmhX9_told ⟨⟨Nat.le_of_ble_eq_true rfl, Nat.le_of_ble_eq_true rfl⟩, ⟨Nat.le_of_ble_eq_true rfl, Nat.le_of_ble_eq_true rfl⟩⟩ rfl (Nat.le_of_ble_eq_true rfl) dX9_places_16 (fun _ u26 H locs hq hw hS => ?_)
      obtain ⟨r25, rfl, hq⟩ := hq
      refine W.eq (g2 := F0 m 19 ls [.int r25]) rfl ?_
      exact mt_reti hx hb hr hlocks hw hS (Nat.le_of_ble_eq_true rfl) (Nat.le_of_ble_eq_true rfl) dX9_places_19 ⟨_, rfl, hq⟩
abbrev rmX9_read : Room := { frames := 2, cells := 0, slots := 0, locals := 45 }
theorem nmhX9_read : NoMH yX9_read 3 := by decide +kernel
def wX9_read (x1 : Int32) (x2 : Int32) (x3 : Int32) (μ : MS) (Q : Int32 → MS → Prop) : Prop :=
    wX9_isDrum x1 μ (fun r7 u8 => (r7 = 0 → (Q (0 : Int32) (nState u8 (-1 : Int32)))) ∧ (¬ r7 = 0 → (wX9_isKind x2 u8 (fun r9 u10 => (¬ r9 = 0 → (vp_in (((5 : Int32) * x1) + x2) 40 ∧ (wX9_reads (mDrums u10 (((5 : Int32) * x1) + x2).toNatClampNeg) x3 u10 (fun r11 u12 => Q r11 u12)))) ∧ (r9 = 0 → (Q (0 : Int32) (nState u10 (-1 : Int32))))))))
set_option maxHeartbeats 4000000 in
set_option maxRecDepth 100000 in
theorem tX9_read (l : Launch) (D : va_G) (d : AC) (mp : Nat → Nat) (x1 : Int32) (x2 : Int32) (x3 : Int32) (μ : MS) {Q : Int32 → MS → Prop} (hq : wX9_read x1 x2 x3 μ Q) : MT D d (ΩM D d mp) l yX9_read (WS yX9_read cX9_read 4 (some (.int))) rmX9_read [.ref (mp 0), .int x1, .int x2, .int x3] μ (qI Q) := by
  refine mt_of (ΩM.mono D d mp) (by decide +kernel) (Nat.le_of_ble_eq_true rfl) (fun p e s m below meth c A ls hx hb hr hml hown hts hlocks hnm hK hA hw hS hl => ?_)
  have hl : lv_has ls 4 [(0, .ref (mp 0)), (1, .int x1), (2, .int x2), (3, .int x3)] := hl
  have hown : s.vm.findClass RX9 = some m.cls := hown
  unfold wX9_read at hq
  refine lv_iload_n hx hb dX9_read_0 rfl (lv_at hl 1 rfl) ?_
  refine mt_callS (index := 90) hx hb hml hown hts hK (ΩM.mono D d mp) hA hw hS hl.1 (tX9_isDrum l D d mp x1 μ hq) q_515 q_34 q_513 q_514 nmhX9_isDrum ⟨⟨Nat.le_of_ble_eq_true rfl, Nat.le_of_ble_eq_true rfl⟩, ⟨Nat.le_of_ble_eq_true rfl, Nat.le_of_ble_eq_true rfl⟩⟩ rfl (Nat.le_of_ble_eq_true rfl) dX9_read_1 (fun _ u8 H locs hq hw hS => ?_)
  obtain ⟨r7, rfl, hzr7, hq⟩ := hq
  refine W.eq (g2 := F0 m 4 ls [.int r7]) rfl ?_
  refine lv_if_eq (tgt := 14) hx hb dX9_read_4 (by decide) (fun hc => ?_) (fun hc => ?_)
  · replace hq := hq.1 hc
    refine lv_aload_n hx hb dX9_read_14 rfl (lv_at hl 0 rfl) ?_
    refine lv_iconst (v := -1) hx hb dX9_read_15 (by decide) ?_
    refine va_put (D := D) (ci := 8) (v := .int (-1 : Int32)) (ty := .int) (C := RX9) (T := TX9) (N := 15) hx hb hts inX9 tyX9 tyX9_ok nmX9 hown hK.1 hw.1 hw.2 hS 0 rfl rfl 14 (by decide) (hts _ q_475) (fun _ h9 => h9) rfl (by decide +kernel) rfl rfl (Nat.le_of_ble_eq_true rfl) dX9_read_16 (fun H locs hP hD hS => ?_)
    have hw : ΩM D d mp A (nState u8 (-1 : Int32)) H := ⟨hP, hD⟩
    refine lv_iconst (v := 0) hx hb dX9_read_19 (by decide) ?_
    exact mt_reti hx hb hr hlocks hw hS (Nat.le_of_ble_eq_true rfl) (Nat.le_of_ble_eq_true rfl) dX9_read_20 ⟨_, rfl, hq⟩
  · replace hq := hq.2 hc
    refine lv_iload_n hx hb dX9_read_7 rfl (lv_at hl 2 rfl) ?_
    refine mt_callS (index := 93) hx hb hml hown hts hK (ΩM.mono D d mp) hA hw hS hl.1 (tX9_isKind l D d mp x2 u8 hq) q_521 q_34 q_519 q_520 nmhX9_isKind ⟨⟨Nat.le_of_ble_eq_true rfl, Nat.le_of_ble_eq_true rfl⟩, ⟨Nat.le_of_ble_eq_true rfl, Nat.le_of_ble_eq_true rfl⟩⟩ rfl (Nat.le_of_ble_eq_true rfl) dX9_read_8 (fun _ u10 H locs hq hw hS => ?_)
    obtain ⟨r9, rfl, hzr9, hq⟩ := hq
    refine W.eq (g2 := F0 m 11 ls [.int r9]) rfl ?_
    refine lv_if_ne (tgt := 21) hx hb dX9_read_11 (by decide) (fun hc => ?_) (fun hc => ?_)
    · replace hq := hq.1 hc
      refine lv_aload_n hx hb dX9_read_21 rfl (lv_at hl 0 rfl) ?_
      refine lv_aload_n hx hb dX9_read_22 rfl (lv_at hl 0 rfl) ?_
      refine va_get (D := D) (ci := 8) (v := .ref (mp 4)) (C := RX9) (T := TX9) (N := 15) hx hb hts inX9 hown hK.1 hw.1 0 rfl rfl 3 (by decide) (hts _ q_464) (fun _ h9 => h9) rfl dX9_read_23 ?_
      refine lv_iconst (v := 5) hx hb dX9_read_26 (by decide) ?_
      refine lv_iload_n hx hb dX9_read_27 rfl (lv_at hl 1 rfl) ?_
      refine lv_imul hx hb dX9_read_28 ?_
      refine lv_iload_n hx hb dX9_read_29 rfl (lv_at hl 2 rfl) ?_
      refine lv_iadd hx hb dX9_read_30 ?_
      refine va_iald hx hb hK.1 hw.1 4 8 rfl rfl hq.1 dX9_read_31 ?_
      replace hq := hq.2
      refine lv_iload_n hx hb dX9_read_32 rfl (lv_at hl 3 rfl) ?_
      refine mt_callV (index := 107) hx hb hml hown hts hK (ΩM.mono D d mp) hA hw hS hl.1 (tX9_reads l D d mp (mDrums u10 (((5 : Int32) * x1) + x2).toNatClampNeg) x3 u10 hq) (ΩM.recv hK hw) q_553 q_34 q_550 q_552 q_20 nmhX9_reads ⟨⟨Nat.le_of_ble_eq_true rfl, Nat.le_of_ble_eq_true rfl⟩, ⟨Nat.le_of_ble_eq_true rfl, Nat.le_of_ble_eq_true rfl⟩⟩ rfl (Nat.le_of_ble_eq_true rfl) dX9_read_33 (fun _ u12 H locs hq hw hS => ?_)
      obtain ⟨r11, rfl, hq⟩ := hq
      refine W.eq (g2 := F0 m 36 ls [.int r11]) rfl ?_
      exact mt_reti hx hb hr hlocks hw hS (Nat.le_of_ble_eq_true rfl) (Nat.le_of_ble_eq_true rfl) dX9_read_36 ⟨_, rfl, hq⟩
    · replace hq := hq.2 hc
      refine lv_aload_n hx hb dX9_read_14 rfl (lv_at hl 0 rfl) ?_
      refine lv_iconst (v := -1) hx hb dX9_read_15 (by decide) ?_
      refine va_put (D := D) (ci := 8) (v := .int (-1 : Int32)) (ty := .int) (C := RX9) (T := TX9) (N := 15) hx hb hts inX9 tyX9 tyX9_ok nmX9 hown hK.1 hw.1 hw.2 hS 0 rfl rfl 14 (by decide) (hts _ q_475) (fun _ h9 => h9) rfl (by decide +kernel) rfl rfl (Nat.le_of_ble_eq_true rfl) dX9_read_16 (fun H locs hP hD hS => ?_)
      have hw : ΩM D d mp A (nState u10 (-1 : Int32)) H := ⟨hP, hD⟩
      refine lv_iconst (v := 0) hx hb dX9_read_19 (by decide) ?_
      exact mt_reti hx hb hr hlocks hw hS (Nat.le_of_ble_eq_true rfl) (Nat.le_of_ble_eq_true rfl) dX9_read_20 ⟨_, rfl, hq⟩
abbrev rmX9_write : Room := { frames := 3, cells := 0, slots := 0, locals := 69 }
theorem nmhX9_write : NoMH yX9_write 4 := by decide +kernel
def wX9_write (x1 : Int32) (x2 : Int32) (x3 : Int32) (x4 : Int32) (μ : MS) (Q : Int32 → MS → Prop) : Prop :=
    wX9_isDrum x1 μ (fun r13 u14 => (r13 = 0 → wX9_told (-1 : Int32) u14 (fun r15 u16 => Q r15 u16)) ∧ (¬ r13 = 0 → (wX9_isKind x2 u14 (fun r17 u18 => (¬ r17 = 0 → (vp_in (((5 : Int32) * x1) + x2) 40 ∧ (wX9_writes x2 (mDrums u18 (((5 : Int32) * x1) + x2).toNatClampNeg) x3 x4 u18 (fun r19 u20 => wX9_told r19 u20 (fun r21 u22 => Q r21 u22))))) ∧ (r17 = 0 → wX9_told (-1 : Int32) u18 (fun r23 u24 => Q r23 u24))))))
set_option maxHeartbeats 4000000 in
set_option maxRecDepth 100000 in
theorem tX9_write (l : Launch) (D : va_G) (d : AC) (mp : Nat → Nat) (x1 : Int32) (x2 : Int32) (x3 : Int32) (x4 : Int32) (μ : MS) {Q : Int32 → MS → Prop} (hq : wX9_write x1 x2 x3 x4 μ Q) : MT D d (ΩM D d mp) l yX9_write (WS yX9_write cX9_write 5 (some (.int))) rmX9_write [.ref (mp 0), .int x1, .int x2, .int x3, .int x4] μ (qI Q) := by
  refine mt_of (ΩM.mono D d mp) (by decide +kernel) (Nat.le_of_ble_eq_true rfl) (fun p e s m below meth c A ls hx hb hr hml hown hts hlocks hnm hK hA hw hS hl => ?_)
  have hl : lv_has ls 5 [(0, .ref (mp 0)), (1, .int x1), (2, .int x2), (3, .int x3), (4, .int x4)] := hl
  have hown : s.vm.findClass RX9 = some m.cls := hown
  unfold wX9_write at hq
  refine lv_iload_n hx hb dX9_write_0 rfl (lv_at hl 1 rfl) ?_
  refine mt_callS (index := 90) hx hb hml hown hts hK (ΩM.mono D d mp) hA hw hS hl.1 (tX9_isDrum l D d mp x1 μ hq) q_515 q_34 q_513 q_514 nmhX9_isDrum ⟨⟨Nat.le_of_ble_eq_true rfl, Nat.le_of_ble_eq_true rfl⟩, ⟨Nat.le_of_ble_eq_true rfl, Nat.le_of_ble_eq_true rfl⟩⟩ rfl (Nat.le_of_ble_eq_true rfl) dX9_write_1 (fun _ u14 H locs hq hw hS => ?_)
  obtain ⟨r13, rfl, hzr13, hq⟩ := hq
  refine W.eq (g2 := F0 m 4 ls [.int r13]) rfl ?_
  refine lv_if_eq (tgt := 14) hx hb dX9_write_4 (by decide) (fun hc => ?_) (fun hc => ?_)
  · replace hq := hq.1 hc
    refine lv_aload_n hx hb dX9_write_14 rfl (lv_at hl 0 rfl) ?_
    refine lv_iconst (v := -1) hx hb dX9_write_15 (by decide) ?_
    refine mt_callV (index := 96) hx hb hml hown hts hK (ΩM.mono D d mp) hA hw hS hl.1 (tX9_told l D d mp (-1 : Int32) u14 hq) (ΩM.recv hK hw) q_525 q_34 q_522 q_524 q_17 nmhX9_told ⟨⟨Nat.le_of_ble_eq_true rfl, Nat.le_of_ble_eq_true rfl⟩, ⟨Nat.le_of_ble_eq_true rfl, Nat.le_of_ble_eq_true rfl⟩⟩ rfl (Nat.le_of_ble_eq_true rfl) dX9_write_16 (fun _ u16 H locs hq hw hS => ?_)
    obtain ⟨r15, rfl, hq⟩ := hq
    refine W.eq (g2 := F0 m 19 ls [.int r15]) rfl ?_
    exact mt_reti hx hb hr hlocks hw hS (Nat.le_of_ble_eq_true rfl) (Nat.le_of_ble_eq_true rfl) dX9_write_19 ⟨_, rfl, hq⟩
  · replace hq := hq.2 hc
    refine lv_iload_n hx hb dX9_write_7 rfl (lv_at hl 2 rfl) ?_
    refine mt_callS (index := 93) hx hb hml hown hts hK (ΩM.mono D d mp) hA hw hS hl.1 (tX9_isKind l D d mp x2 u14 hq) q_521 q_34 q_519 q_520 nmhX9_isKind ⟨⟨Nat.le_of_ble_eq_true rfl, Nat.le_of_ble_eq_true rfl⟩, ⟨Nat.le_of_ble_eq_true rfl, Nat.le_of_ble_eq_true rfl⟩⟩ rfl (Nat.le_of_ble_eq_true rfl) dX9_write_8 (fun _ u18 H locs hq hw hS => ?_)
    obtain ⟨r17, rfl, hzr17, hq⟩ := hq
    refine W.eq (g2 := F0 m 11 ls [.int r17]) rfl ?_
    refine lv_if_ne (tgt := 20) hx hb dX9_write_11 (by decide) (fun hc => ?_) (fun hc => ?_)
    · replace hq := hq.1 hc
      refine lv_aload_n hx hb dX9_write_20 rfl (lv_at hl 0 rfl) ?_
      refine lv_aload_n hx hb dX9_write_21 rfl (lv_at hl 0 rfl) ?_
      refine lv_iload_n hx hb dX9_write_22 rfl (lv_at hl 2 rfl) ?_
      refine lv_aload_n hx hb dX9_write_23 rfl (lv_at hl 0 rfl) ?_
      refine va_get (D := D) (ci := 8) (v := .ref (mp 4)) (C := RX9) (T := TX9) (N := 15) hx hb hts inX9 hown hK.1 hw.1 0 rfl rfl 3 (by decide) (hts _ q_464) (fun _ h9 => h9) rfl dX9_write_24 ?_
      refine lv_iconst (v := 5) hx hb dX9_write_27 (by decide) ?_
      refine lv_iload_n hx hb dX9_write_28 rfl (lv_at hl 1 rfl) ?_
      refine lv_imul hx hb dX9_write_29 ?_
      refine lv_iload_n hx hb dX9_write_30 rfl (lv_at hl 2 rfl) ?_
      refine lv_iadd hx hb dX9_write_31 ?_
      refine va_iald hx hb hK.1 hw.1 4 8 rfl rfl hq.1 dX9_write_32 ?_
      replace hq := hq.2
      refine lv_iload_n hx hb dX9_write_33 rfl (lv_at hl 3 rfl) ?_
      refine lv_iload hx hb dX9_write_34 (lv_at hl 4 rfl) ?_
      refine mt_callV (index := 110) hx hb hml hown hts hK (ΩM.mono D d mp) hA hw hS hl.1 (tX9_writes l D d mp x2 (mDrums u18 (((5 : Int32) * x1) + x2).toNatClampNeg) x3 x4 u18 hq) (ΩM.recv hK hw) q_565 q_34 q_562 q_564 q_22 nmhX9_writes ⟨⟨Nat.le_of_ble_eq_true rfl, Nat.le_of_ble_eq_true rfl⟩, ⟨Nat.le_of_ble_eq_true rfl, Nat.le_of_ble_eq_true rfl⟩⟩ rfl (Nat.le_of_ble_eq_true rfl) dX9_write_36 (fun _ u20 H locs hq hw hS => ?_)
      obtain ⟨r19, rfl, hq⟩ := hq
      refine W.eq (g2 := F0 m 39 ls [.int r19, .ref (mp 0)]) rfl ?_
      refine mt_callV (index := 96) hx hb hml hown hts hK (ΩM.mono D d mp) hA hw hS hl.1 (tX9_told l D d mp r19 u20 hq) (ΩM.recv hK hw) q_525 q_34 q_522 q_524 q_17 nmhX9_told ⟨⟨Nat.le_of_ble_eq_true rfl, Nat.le_of_ble_eq_true rfl⟩, ⟨Nat.le_of_ble_eq_true rfl, Nat.le_of_ble_eq_true rfl⟩⟩ rfl (Nat.le_of_ble_eq_true rfl) dX9_write_39 (fun _ u22 H locs hq hw hS => ?_)
      obtain ⟨r21, rfl, hq⟩ := hq
      refine W.eq (g2 := F0 m 42 ls [.int r21]) rfl ?_
      exact mt_reti hx hb hr hlocks hw hS (Nat.le_of_ble_eq_true rfl) (Nat.le_of_ble_eq_true rfl) dX9_write_42 ⟨_, rfl, hq⟩
    · replace hq := hq.2 hc
      refine lv_aload_n hx hb dX9_write_14 rfl (lv_at hl 0 rfl) ?_
      refine lv_iconst (v := -1) hx hb dX9_write_15 (by decide) ?_
      refine mt_callV (index := 96) hx hb hml hown hts hK (ΩM.mono D d mp) hA hw hS hl.1 (tX9_told l D d mp (-1 : Int32) u18 hq) (ΩM.recv hK hw) q_525 q_34 q_522 q_524 q_17 nmhX9_told ⟨⟨Nat.le_of_ble_eq_true rfl, Nat.le_of_ble_eq_true rfl⟩, ⟨Nat.le_of_ble_eq_true rfl, Nat.le_of_ble_eq_true rfl⟩⟩ rfl (Nat.le_of_ble_eq_true rfl) dX9_write_16 (fun _ u24 H locs hq hw hS => ?_)
      obtain ⟨r23, rfl, hq⟩ := hq
      refine W.eq (g2 := F0 m 19 ls [.int r23]) rfl ?_
      exact mt_reti hx hb hr hlocks hw hS (Nat.le_of_ble_eq_true rfl) (Nat.le_of_ble_eq_true rfl) dX9_write_19 ⟨_, rfl, hq⟩
abbrev rmX9_turn : Room := { frames := 3, cells := 0, slots := 0, locals := 71 }
theorem nmhX9_turn : NoMH yX9_turn 4 := by decide +kernel
def wX9_turn (x1 : Int32) (x2 : Int32) (x3 : Int32) (x4 : Int32) (μ : MS) (Q : Int32 → MS → Prop) : Prop :=
    wX9_isDrum x1 μ (fun r13 u14 => (r13 = 0 → wX9_told (-1 : Int32) u14 (fun r15 u16 => Q r15 u16)) ∧ (¬ r13 = 0 → (wX9_isKind x2 u14 (fun r17 u18 => (¬ r17 = 0 → (vp_in (((5 : Int32) * x1) + x2) 40 ∧ (wX9_turns x2 (mDrums u18 (((5 : Int32) * x1) + x2).toNatClampNeg) x3 x4 u18 (fun r19 u20 => wX9_told r19 u20 (fun r21 u22 => Q r21 u22))))) ∧ (r17 = 0 → wX9_told (-1 : Int32) u18 (fun r23 u24 => Q r23 u24))))))
set_option maxHeartbeats 4000000 in
set_option maxRecDepth 100000 in
theorem tX9_turn (l : Launch) (D : va_G) (d : AC) (mp : Nat → Nat) (x1 : Int32) (x2 : Int32) (x3 : Int32) (x4 : Int32) (μ : MS) {Q : Int32 → MS → Prop} (hq : wX9_turn x1 x2 x3 x4 μ Q) : MT D d (ΩM D d mp) l yX9_turn (WS yX9_turn cX9_turn 5 (some (.int))) rmX9_turn [.ref (mp 0), .int x1, .int x2, .int x3, .int x4] μ (qI Q) := by
  refine mt_of (ΩM.mono D d mp) (by decide +kernel) (Nat.le_of_ble_eq_true rfl) (fun p e s m below meth c A ls hx hb hr hml hown hts hlocks hnm hK hA hw hS hl => ?_)
  have hl : lv_has ls 5 [(0, .ref (mp 0)), (1, .int x1), (2, .int x2), (3, .int x3), (4, .int x4)] := hl
  have hown : s.vm.findClass RX9 = some m.cls := hown
  unfold wX9_turn at hq
  refine lv_iload_n hx hb dX9_turn_0 rfl (lv_at hl 1 rfl) ?_
  refine mt_callS (index := 90) hx hb hml hown hts hK (ΩM.mono D d mp) hA hw hS hl.1 (tX9_isDrum l D d mp x1 μ hq) q_515 q_34 q_513 q_514 nmhX9_isDrum ⟨⟨Nat.le_of_ble_eq_true rfl, Nat.le_of_ble_eq_true rfl⟩, ⟨Nat.le_of_ble_eq_true rfl, Nat.le_of_ble_eq_true rfl⟩⟩ rfl (Nat.le_of_ble_eq_true rfl) dX9_turn_1 (fun _ u14 H locs hq hw hS => ?_)
  obtain ⟨r13, rfl, hzr13, hq⟩ := hq
  refine W.eq (g2 := F0 m 4 ls [.int r13]) rfl ?_
  refine lv_if_eq (tgt := 14) hx hb dX9_turn_4 (by decide) (fun hc => ?_) (fun hc => ?_)
  · replace hq := hq.1 hc
    refine lv_aload_n hx hb dX9_turn_14 rfl (lv_at hl 0 rfl) ?_
    refine lv_iconst (v := -1) hx hb dX9_turn_15 (by decide) ?_
    refine mt_callV (index := 96) hx hb hml hown hts hK (ΩM.mono D d mp) hA hw hS hl.1 (tX9_told l D d mp (-1 : Int32) u14 hq) (ΩM.recv hK hw) q_525 q_34 q_522 q_524 q_17 nmhX9_told ⟨⟨Nat.le_of_ble_eq_true rfl, Nat.le_of_ble_eq_true rfl⟩, ⟨Nat.le_of_ble_eq_true rfl, Nat.le_of_ble_eq_true rfl⟩⟩ rfl (Nat.le_of_ble_eq_true rfl) dX9_turn_16 (fun _ u16 H locs hq hw hS => ?_)
    obtain ⟨r15, rfl, hq⟩ := hq
    refine W.eq (g2 := F0 m 19 ls [.int r15]) rfl ?_
    exact mt_reti hx hb hr hlocks hw hS (Nat.le_of_ble_eq_true rfl) (Nat.le_of_ble_eq_true rfl) dX9_turn_19 ⟨_, rfl, hq⟩
  · replace hq := hq.2 hc
    refine lv_iload_n hx hb dX9_turn_7 rfl (lv_at hl 2 rfl) ?_
    refine mt_callS (index := 93) hx hb hml hown hts hK (ΩM.mono D d mp) hA hw hS hl.1 (tX9_isKind l D d mp x2 u14 hq) q_521 q_34 q_519 q_520 nmhX9_isKind ⟨⟨Nat.le_of_ble_eq_true rfl, Nat.le_of_ble_eq_true rfl⟩, ⟨Nat.le_of_ble_eq_true rfl, Nat.le_of_ble_eq_true rfl⟩⟩ rfl (Nat.le_of_ble_eq_true rfl) dX9_turn_8 (fun _ u18 H locs hq hw hS => ?_)
    obtain ⟨r17, rfl, hzr17, hq⟩ := hq
    refine W.eq (g2 := F0 m 11 ls [.int r17]) rfl ?_
    refine lv_if_ne (tgt := 20) hx hb dX9_turn_11 (by decide) (fun hc => ?_) (fun hc => ?_)
    · replace hq := hq.1 hc
      refine lv_aload_n hx hb dX9_turn_20 rfl (lv_at hl 0 rfl) ?_
      refine lv_aload_n hx hb dX9_turn_21 rfl (lv_at hl 0 rfl) ?_
      refine lv_iload_n hx hb dX9_turn_22 rfl (lv_at hl 2 rfl) ?_
      refine lv_aload_n hx hb dX9_turn_23 rfl (lv_at hl 0 rfl) ?_
      refine va_get (D := D) (ci := 8) (v := .ref (mp 4)) (C := RX9) (T := TX9) (N := 15) hx hb hts inX9 hown hK.1 hw.1 0 rfl rfl 3 (by decide) (hts _ q_464) (fun _ h9 => h9) rfl dX9_turn_24 ?_
      refine lv_iconst (v := 5) hx hb dX9_turn_27 (by decide) ?_
      refine lv_iload_n hx hb dX9_turn_28 rfl (lv_at hl 1 rfl) ?_
      refine lv_imul hx hb dX9_turn_29 ?_
      refine lv_iload_n hx hb dX9_turn_30 rfl (lv_at hl 2 rfl) ?_
      refine lv_iadd hx hb dX9_turn_31 ?_
      refine va_iald hx hb hK.1 hw.1 4 8 rfl rfl hq.1 dX9_turn_32 ?_
      replace hq := hq.2
      refine lv_iload_n hx hb dX9_turn_33 rfl (lv_at hl 3 rfl) ?_
      refine lv_iload hx hb dX9_turn_34 (lv_at hl 4 rfl) ?_
      refine mt_callV (index := 114) hx hb hml hown hts hK (ΩM.mono D d mp) hA hw hS hl.1 (tX9_turns l D d mp x2 (mDrums u18 (((5 : Int32) * x1) + x2).toNatClampNeg) x3 x4 u18 hq) (ΩM.recv hK hw) q_590 q_34 q_587 q_589 q_23 nmhX9_turns ⟨⟨Nat.le_of_ble_eq_true rfl, Nat.le_of_ble_eq_true rfl⟩, ⟨Nat.le_of_ble_eq_true rfl, Nat.le_of_ble_eq_true rfl⟩⟩ rfl (Nat.le_of_ble_eq_true rfl) dX9_turn_36 (fun _ u20 H locs hq hw hS => ?_)
      obtain ⟨r19, rfl, hq⟩ := hq
      refine W.eq (g2 := F0 m 39 ls [.int r19, .ref (mp 0)]) rfl ?_
      refine mt_callV (index := 96) hx hb hml hown hts hK (ΩM.mono D d mp) hA hw hS hl.1 (tX9_told l D d mp r19 u20 hq) (ΩM.recv hK hw) q_525 q_34 q_522 q_524 q_17 nmhX9_told ⟨⟨Nat.le_of_ble_eq_true rfl, Nat.le_of_ble_eq_true rfl⟩, ⟨Nat.le_of_ble_eq_true rfl, Nat.le_of_ble_eq_true rfl⟩⟩ rfl (Nat.le_of_ble_eq_true rfl) dX9_turn_39 (fun _ u22 H locs hq hw hS => ?_)
      obtain ⟨r21, rfl, hq⟩ := hq
      refine W.eq (g2 := F0 m 42 ls [.int r21]) rfl ?_
      exact mt_reti hx hb hr hlocks hw hS (Nat.le_of_ble_eq_true rfl) (Nat.le_of_ble_eq_true rfl) dX9_turn_42 ⟨_, rfl, hq⟩
    · replace hq := hq.2 hc
      refine lv_aload_n hx hb dX9_turn_14 rfl (lv_at hl 0 rfl) ?_
      refine lv_iconst (v := -1) hx hb dX9_turn_15 (by decide) ?_
      refine mt_callV (index := 96) hx hb hml hown hts hK (ΩM.mono D d mp) hA hw hS hl.1 (tX9_told l D d mp (-1 : Int32) u18 hq) (ΩM.recv hK hw) q_525 q_34 q_522 q_524 q_17 nmhX9_told ⟨⟨Nat.le_of_ble_eq_true rfl, Nat.le_of_ble_eq_true rfl⟩, ⟨Nat.le_of_ble_eq_true rfl, Nat.le_of_ble_eq_true rfl⟩⟩ rfl (Nat.le_of_ble_eq_true rfl) dX9_turn_16 (fun _ u24 H locs hq hw hS => ?_)
      obtain ⟨r23, rfl, hq⟩ := hq
      refine W.eq (g2 := F0 m 19 ls [.int r23]) rfl ?_
      exact mt_reti hx hb hr hlocks hw hS (Nat.le_of_ble_eq_true rfl) (Nat.le_of_ble_eq_true rfl) dX9_turn_19 ⟨_, rfl, hq⟩
abbrev rmX9_head : Room := { frames := 2, cells := 0, slots := 0, locals := 42 }
theorem nmhX9_head : NoMH yX9_head 2 := by decide +kernel
def wX9_head (x1 : Int32) (x2 : Int32) (μ : MS) (Q : Int32 → MS → Prop) : Prop :=
    wX9_isDrum x1 μ (fun r12 u13 => (¬ r12 = 0 → (wX9_in x2 (0 : Int32) (300 : Int32) u13 (fun r14 u15 => (¬ r14 = 0 → (vp_in x1 8 ∧ (∀ y16 : Int32, y16 = (mHeads u15 x1.toNatClampNeg) → (vp_in x1 8 ∧ (wX9_told y16 (nHeads u15 (upd (mHeads u15) x1.toNatClampNeg x2)) (fun r17 u18 => Q r17 u18)))))) ∧ (r14 = 0 → wX9_told (-4 : Int32) u15 (fun r19 u20 => Q r19 u20))))) ∧ (r12 = 0 → wX9_told (-1 : Int32) u13 (fun r21 u22 => Q r21 u22)))
set_option maxHeartbeats 4000000 in
set_option maxRecDepth 100000 in
theorem tX9_head (l : Launch) (D : va_G) (d : AC) (mp : Nat → Nat) (x1 : Int32) (x2 : Int32) (μ : MS) {Q : Int32 → MS → Prop} (hq : wX9_head x1 x2 μ Q) : MT D d (ΩM D d mp) l yX9_head (WS yX9_head cX9_head 4 (some (.int))) rmX9_head [.ref (mp 0), .int x1, .int x2] μ (qI Q) := by
  refine mt_of (ΩM.mono D d mp) (by decide +kernel) (Nat.le_of_ble_eq_true rfl) (fun p e s m below meth c A ls hx hb hr hml hown hts hlocks hnm hK hA hw hS hl => ?_)
  have hl : lv_has ls 4 [(0, .ref (mp 0)), (1, .int x1), (2, .int x2)] := hl
  have hown : s.vm.findClass RX9 = some m.cls := hown
  unfold wX9_head at hq
  refine lv_iload_n hx hb dX9_head_0 rfl (lv_at hl 1 rfl) ?_
  refine mt_callS (index := 90) hx hb hml hown hts hK (ΩM.mono D d mp) hA hw hS hl.1 (tX9_isDrum l D d mp x1 μ hq) q_515 q_34 q_513 q_514 nmhX9_isDrum ⟨⟨Nat.le_of_ble_eq_true rfl, Nat.le_of_ble_eq_true rfl⟩, ⟨Nat.le_of_ble_eq_true rfl, Nat.le_of_ble_eq_true rfl⟩⟩ rfl (Nat.le_of_ble_eq_true rfl) dX9_head_1 (fun _ u13 H locs hq hw hS => ?_)
  obtain ⟨r12, rfl, hzr12, hq⟩ := hq
  refine W.eq (g2 := F0 m 4 ls [.int r12]) rfl ?_
  refine lv_if_ne (tgt := 13) hx hb dX9_head_4 (by decide) (fun hc => ?_) (fun hc => ?_)
  · replace hq := hq.1 hc
    refine lv_iload_n hx hb dX9_head_13 rfl (lv_at hl 2 rfl) ?_
    refine lv_iconst (v := 0) hx hb dX9_head_14 (by decide) ?_
    refine lv_sipush (v := 300) hx hb dX9_head_15 (by decide) ?_
    refine mt_callS (index := 58) hx hb hml hown hts hK (ΩM.mono D d mp) hA hw hS hl.1 (tX9_in l D d mp x2 (0 : Int32) (300 : Int32) u13 hq) q_518 q_34 q_516 q_517 nmhX9_in ⟨⟨Nat.le_of_ble_eq_true rfl, Nat.le_of_ble_eq_true rfl⟩, ⟨Nat.le_of_ble_eq_true rfl, Nat.le_of_ble_eq_true rfl⟩⟩ rfl (Nat.le_of_ble_eq_true rfl) dX9_head_18 (fun _ u15 H locs hq hw hS => ?_)
    obtain ⟨r14, rfl, hzr14, hq⟩ := hq
    refine W.eq (g2 := F0 m 21 ls [.int r14]) rfl ?_
    refine lv_if_ne (tgt := 31) hx hb dX9_head_21 (by decide) (fun hc => ?_) (fun hc => ?_)
    · replace hq := hq.1 hc
      refine lv_aload_n hx hb dX9_head_31 rfl (lv_at hl 0 rfl) ?_
      refine va_get (D := D) (ci := 8) (v := .ref (mp 8)) (C := RX9) (T := TX9) (N := 15) hx hb hts inX9 hown hK.1 hw.1 0 rfl rfl 7 (by decide) (hts _ q_468) (fun _ h9 => h9) rfl dX9_head_32 ?_
      refine lv_iload_n hx hb dX9_head_35 rfl (lv_at hl 1 rfl) ?_
      refine va_iald hx hb hK.1 hw.1 8 8 rfl rfl hq.1 dX9_head_36 ?_
      replace hq := hq.2
      refine lv_topi (fun y16 ey16 => ?_)
      replace hq := hq y16 ey16
      refine lv_istore_n (lv' := [(3, .int y16), (0, .ref (mp 0)), (1, .int x1), (2, .int x2)]) hx hb dX9_head_37 rfl hl (by decide) rfl (fun ls hl => ?_)
      refine lv_aload_n hx hb dX9_head_38 rfl (lv_at hl 1 rfl) ?_
      refine va_get (D := D) (ci := 8) (v := .ref (mp 8)) (C := RX9) (T := TX9) (N := 15) hx hb hts inX9 hown hK.1 hw.1 0 rfl rfl 7 (by decide) (hts _ q_468) (fun _ h9 => h9) rfl dX9_head_39 ?_
      refine lv_iload_n hx hb dX9_head_42 rfl (lv_at hl 2 rfl) ?_
      refine lv_iload_n hx hb dX9_head_43 rfl (lv_at hl 3 rfl) ?_
      refine va_iast hx hb hK.1 hw.1 hw.2 hS 8 8 rfl rfl hq.1 dX9_head_44 (fun H locs hP hD hS => ?_)
      have hw : ΩM D d mp A (nHeads u15 (upd (mHeads u15) x1.toNatClampNeg x2)) H := ⟨hP, hD⟩
      replace hq := hq.2
      refine lv_aload_n hx hb dX9_head_45 rfl (lv_at hl 1 rfl) ?_
      refine lv_iload_n hx hb dX9_head_46 rfl (lv_at hl 0 rfl) ?_
      refine mt_callV (index := 96) hx hb hml hown hts hK (ΩM.mono D d mp) hA hw hS hl.1 (tX9_told l D d mp y16 (nHeads u15 (upd (mHeads u15) x1.toNatClampNeg x2)) hq) (ΩM.recv hK hw) q_525 q_34 q_522 q_524 q_17 nmhX9_told ⟨⟨Nat.le_of_ble_eq_true rfl, Nat.le_of_ble_eq_true rfl⟩, ⟨Nat.le_of_ble_eq_true rfl, Nat.le_of_ble_eq_true rfl⟩⟩ rfl (Nat.le_of_ble_eq_true rfl) dX9_head_47 (fun _ u18 H locs hq hw hS => ?_)
      obtain ⟨r17, rfl, hq⟩ := hq
      refine W.eq (g2 := F0 m 50 ls [.int r17]) rfl ?_
      exact mt_reti hx hb hr hlocks hw hS (Nat.le_of_ble_eq_true rfl) (Nat.le_of_ble_eq_true rfl) dX9_head_50 ⟨_, rfl, hq⟩
    · replace hq := hq.2 hc
      refine lv_aload_n hx hb dX9_head_24 rfl (lv_at hl 0 rfl) ?_
      refine lv_bipush (v := -4) hx hb dX9_head_25 (by decide) ?_
      refine mt_callV (index := 96) hx hb hml hown hts hK (ΩM.mono D d mp) hA hw hS hl.1 (tX9_told l D d mp (-4 : Int32) u15 hq) (ΩM.recv hK hw) q_525 q_34 q_522 q_524 q_17 nmhX9_told ⟨⟨Nat.le_of_ble_eq_true rfl, Nat.le_of_ble_eq_true rfl⟩, ⟨Nat.le_of_ble_eq_true rfl, Nat.le_of_ble_eq_true rfl⟩⟩ rfl (Nat.le_of_ble_eq_true rfl) dX9_head_27 (fun _ u20 H locs hq hw hS => ?_)
      obtain ⟨r19, rfl, hq⟩ := hq
      refine W.eq (g2 := F0 m 30 ls [.int r19]) rfl ?_
      exact mt_reti hx hb hr hlocks hw hS (Nat.le_of_ble_eq_true rfl) (Nat.le_of_ble_eq_true rfl) dX9_head_30 ⟨_, rfl, hq⟩
  · replace hq := hq.2 hc
    refine lv_aload_n hx hb dX9_head_7 rfl (lv_at hl 0 rfl) ?_
    refine lv_iconst (v := -1) hx hb dX9_head_8 (by decide) ?_
    refine mt_callV (index := 96) hx hb hml hown hts hK (ΩM.mono D d mp) hA hw hS hl.1 (tX9_told l D d mp (-1 : Int32) u13 hq) (ΩM.recv hK hw) q_525 q_34 q_522 q_524 q_17 nmhX9_told ⟨⟨Nat.le_of_ble_eq_true rfl, Nat.le_of_ble_eq_true rfl⟩, ⟨Nat.le_of_ble_eq_true rfl, Nat.le_of_ble_eq_true rfl⟩⟩ rfl (Nat.le_of_ble_eq_true rfl) dX9_head_9 (fun _ u22 H locs hq hw hS => ?_)
    obtain ⟨r21, rfl, hq⟩ := hq
    refine W.eq (g2 := F0 m 12 ls [.int r21]) rfl ?_
    exact mt_reti hx hb hr hlocks hw hS (Nat.le_of_ble_eq_true rfl) (Nat.le_of_ble_eq_true rfl) dX9_head_12 ⟨_, rfl, hq⟩
