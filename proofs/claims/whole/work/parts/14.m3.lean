theorem sw6 (x : Int32) : (x.toInt < 0 ∨ 5 < x.toInt) ∨ x.toInt = 0 ∨ x.toInt = 1 ∨ x.toInt = 2 ∨ x.toInt = 3 ∨ x.toInt = 4 ∨ x.toInt = 5 := by omega
abbrev rmX9_isThere : Room := { frames := 1, cells := 0, slots := 0, locals := 22 }
theorem nmhX9_isThere : NoMH yX9_isThere 3 := by decide +kernel
def wX9_isThere (x1 : Int32) (x2 : Int32) (x3 : Int32) (μ : MS) (Q : Int32 → MS → Prop) : Prop :=
    vp_in (((5 : Int32) * x1) + x2) 40 ∧ (wX9_lacks (mDrums μ (((5 : Int32) * x1) + x2).toNatClampNeg) x3 μ (fun r3 u4 => (¬ r3 = 0 → Q (0 : Int32) u4) ∧ (r3 = 0 → Q (1 : Int32) u4)))
set_option maxHeartbeats 4000000 in
set_option maxRecDepth 100000 in
theorem tX9_isThere (l : Launch) (D : va_G) (d : AC) (mp : Nat → Nat) (x1 : Int32) (x2 : Int32) (x3 : Int32) (μ : MS) {Q : Int32 → MS → Prop} (hq : wX9_isThere x1 x2 x3 μ Q) : MT D d (ΩM D d mp) l yX9_isThere (WS yX9_isThere cX9_isThere 4 (some (.boolean))) rmX9_isThere [.ref (mp 0), .int x1, .int x2, .int x3] μ (qZ Q) := by
  refine mt_of (ΩM.mono D d mp) (by decide +kernel) (Nat.le_of_ble_eq_true rfl) (fun p e s m below meth c A ls hx hb hr hml hown hts hlocks hnm hK hA hw hS hl => ?_)
  have hl : lv_has ls 4 [(0, .ref (mp 0)), (1, .int x1), (2, .int x2), (3, .int x3)] := hl
  have hown : s.vm.findClass RX9 = some m.cls := hown
  unfold wX9_isThere at hq
  refine lv_aload_n hx hb dX9_isThere_0 rfl (lv_at hl 0 rfl) ?_
  refine lv_aload_n hx hb dX9_isThere_1 rfl (lv_at hl 0 rfl) ?_
  refine va_get (D := D) (ci := 8) (v := .ref (mp 4)) (C := RX9) (T := TX9) (N := 15) hx hb hts inX9 hown hK.1 hw.1 0 rfl rfl 3 (by decide) (hts _ q_464) (fun _ h9 => h9) rfl dX9_isThere_2 ?_
  refine lv_iconst (v := 5) hx hb dX9_isThere_5 (by decide) ?_
  refine lv_iload_n hx hb dX9_isThere_6 rfl (lv_at hl 1 rfl) ?_
  refine lv_imul hx hb dX9_isThere_7 ?_
  refine lv_iload_n hx hb dX9_isThere_8 rfl (lv_at hl 2 rfl) ?_
  refine lv_iadd hx hb dX9_isThere_9 ?_
  refine va_iald hx hb hK.1 hw.1 4 8 rfl rfl hq.1 dX9_isThere_10 ?_
  replace hq := hq.2
  refine lv_iload_n hx hb dX9_isThere_11 rfl (lv_at hl 3 rfl) ?_
  refine mt_callV (index := 67) hx hb hml hown hts hK (ΩM.mono D d mp) hA hw hS hl.1 (tX9_lacks l D d mp (mDrums μ (((5 : Int32) * x1) + x2).toNatClampNeg) x3 μ hq) (ΩM.recv hK hw) q_557 q_34 q_554 q_556 q_21 nmhX9_lacks ⟨⟨Nat.le_of_ble_eq_true rfl, Nat.le_of_ble_eq_true rfl⟩, ⟨Nat.le_of_ble_eq_true rfl, Nat.le_of_ble_eq_true rfl⟩⟩ rfl (Nat.le_of_ble_eq_true rfl) dX9_isThere_12 (fun _ u4 H locs hq hw hS => ?_)
  obtain ⟨r3, rfl, hq⟩ := hq
  refine W.eq (g2 := F0 m 15 ls [.int r3]) rfl ?_
  refine lv_if_ne (tgt := 22) hx hb dX9_isThere_15 (by decide) (fun hc => ?_) (fun hc => ?_)
  · replace hq := hq.1 hc
    refine lv_iconst (v := 0) hx hb dX9_isThere_22 (by decide) ?_
    exact mt_retz hx hb hr hlocks hw hS (Nat.le_of_ble_eq_true rfl) (Nat.le_of_ble_eq_true rfl) dX9_isThere_23 rfl ⟨_, rfl, Or.inl rfl, hq⟩
  · replace hq := hq.2 hc
    refine lv_iconst (v := 1) hx hb dX9_isThere_18 (by decide) ?_
    refine lv_goto (tgt := 23) hx hb dX9_isThere_19 (by decide) ?_
    exact mt_retz hx hb hr hlocks hw hS (Nat.le_of_ble_eq_true rfl) (Nat.le_of_ble_eq_true rfl) dX9_isThere_23 rfl ⟨_, rfl, Or.inr rfl, hq⟩
abbrev rmX9_at : Room := { frames := 2, cells := 0, slots := 0, locals := 45 }
theorem nmhX9_at : NoMH yX9_at 3 := by decide +kernel
def wX9_at (x1 : Int32) (x2 : Int32) (x3 : Int32) (μ : MS) (Q : Int32 → MS → Prop) : Prop :=
    wX9_isThere x1 x2 x3 μ (fun r5 u6 => (r5 = 0 → (vp_in x1 8 ∧ (vp_in x1 8 ∧ ((x2 = 0 → (Q (1 : Int32) (nGaps u6 (upd (mGaps u6) x1.toNatClampNeg ((mGaps u6 x1.toNatClampNeg) + (1 : Int32)))))) ∧ (¬ x2 = 0 → ((¬ x2 = (2 : Int32) → ((¬ x2 = (1 : Int32) → ((¬ x2 = (3 : Int32) → (Q (0 : Int32) (nGaps u6 (upd (mGaps u6) x1.toNatClampNeg ((mGaps u6 x1.toNatClampNeg) + (1 : Int32)))))) ∧ (x2 = (3 : Int32) → (wJxf58ca_floatToIntBits_5c35a FP.fconst1 (nGaps u6 (upd (mGaps u6) x1.toNatClampNeg ((mGaps u6 x1.toNatClampNeg) + (1 : Int32)))) (fun r7 u8 => Q r7 u8))))) ∧ (x2 = (1 : Int32) → (Q (60 : Int32) (nGaps u6 (upd (mGaps u6) x1.toNatClampNeg ((mGaps u6 x1.toNatClampNeg) + (1 : Int32)))))))) ∧ (x2 = (2 : Int32) → (Q (1 : Int32) (nGaps u6 (upd (mGaps u6) x1.toNatClampNeg ((mGaps u6 x1.toNatClampNeg) + (1 : Int32)))))))))))) ∧ (¬ r5 = 0 → (vp_in (((5 : Int32) * x1) + x2) 40 ∧ (vp_in (((300 : Int32) * (mDrums u6 (((5 : Int32) * x1) + x2).toNatClampNeg)) + x3) 60600 ∧ (Q (mCell u6 (((300 : Int32) * (mDrums u6 (((5 : Int32) * x1) + x2).toNatClampNeg)) + x3).toNatClampNeg) u6)))))
set_option maxHeartbeats 4000000 in
set_option maxRecDepth 100000 in
theorem tX9_at (l : Launch) (D : va_G) (d : AC) (mp : Nat → Nat) (x1 : Int32) (x2 : Int32) (x3 : Int32) (μ : MS) {Q : Int32 → MS → Prop} (hq : wX9_at x1 x2 x3 μ Q) : MT D d (ΩM D d mp) l yX9_at (WS yX9_at cX9_at 4 (some (.int))) rmX9_at [.ref (mp 0), .int x1, .int x2, .int x3] μ (qI Q) := by
  refine mt_of (ΩM.mono D d mp) (by decide +kernel) (Nat.le_of_ble_eq_true rfl) (fun p e s m below meth c A ls hx hb hr hml hown hts hlocks hnm hK hA hw hS hl => ?_)
  have hl : lv_has ls 4 [(0, .ref (mp 0)), (1, .int x1), (2, .int x2), (3, .int x3)] := hl
  have hown : s.vm.findClass RX9 = some m.cls := hown
  unfold wX9_at at hq
  refine lv_aload_n hx hb dX9_at_0 rfl (lv_at hl 0 rfl) ?_
  refine lv_iload_n hx hb dX9_at_1 rfl (lv_at hl 1 rfl) ?_
  refine lv_iload_n hx hb dX9_at_2 rfl (lv_at hl 2 rfl) ?_
  refine lv_iload_n hx hb dX9_at_3 rfl (lv_at hl 3 rfl) ?_
  refine mt_callV (index := 117) hx hb hml hown hts hK (ΩM.mono D d mp) hA hw hS hl.1 (tX9_isThere l D d mp x1 x2 x3 μ hq) (ΩM.recv hK hw) q_608 q_34 q_605 q_607 q_24 nmhX9_isThere ⟨⟨Nat.le_of_ble_eq_true rfl, Nat.le_of_ble_eq_true rfl⟩, ⟨Nat.le_of_ble_eq_true rfl, Nat.le_of_ble_eq_true rfl⟩⟩ rfl (Nat.le_of_ble_eq_true rfl) dX9_at_4 (fun _ u6 H locs hq hw hS => ?_)
  obtain ⟨r5, rfl, hzr5, hq⟩ := hq
  refine W.eq (g2 := F0 m 7 ls [.int r5]) rfl ?_
  refine lv_if_eq (tgt := 32) hx hb dX9_at_7 (by decide) (fun hc => ?_) (fun hc => ?_)
  · replace hq := hq.1 hc
    refine lv_aload_n hx hb dX9_at_32 rfl (lv_at hl 0 rfl) ?_
    refine va_get (D := D) (ci := 8) (v := .ref (mp 11)) (C := RX9) (T := TX9) (N := 15) hx hb hts inX9 hown hK.1 hw.1 0 rfl rfl 10 (by decide) (hts _ q_471) (fun _ h9 => h9) rfl dX9_at_33 ?_
    refine lv_iload_n hx hb dX9_at_36 rfl (lv_at hl 1 rfl) ?_
    refine lv_dup2_11 hx hb dX9_at_37 rfl rfl ?_
    refine va_iald hx hb hK.1 hw.1 11 8 rfl rfl hq.1 dX9_at_38 ?_
    replace hq := hq.2
    refine lv_iconst (v := 1) hx hb dX9_at_39 (by decide) ?_
    refine lv_iadd hx hb dX9_at_40 ?_
    refine va_iast hx hb hK.1 hw.1 hw.2 hS 11 8 rfl rfl hq.1 dX9_at_41 (fun H locs hP hD hS => ?_)
    have hw : ΩM D d mp A (nGaps u6 (upd (mGaps u6) x1.toNatClampNeg ((mGaps u6 x1.toNatClampNeg) + (1 : Int32)))) H := ⟨hP, hD⟩
    replace hq := hq.2
    refine lv_iload_n hx hb dX9_at_42 rfl (lv_at hl 2 rfl) ?_
    refine lv_if_eq (tgt := 51) hx hb dX9_at_43 (by decide) (fun hc => ?_) (fun hc => ?_)
    · replace hq := hq.1 hc
      refine lv_iconst (v := 1) hx hb dX9_at_51 (by decide) ?_
      refine lv_goto (tgt := 78) hx hb dX9_at_52 (by decide) ?_
      exact mt_reti hx hb hr hlocks hw hS (Nat.le_of_ble_eq_true rfl) (Nat.le_of_ble_eq_true rfl) dX9_at_78 ⟨_, rfl, hq⟩
    · replace hq := hq.2 hc
      refine lv_iload_n hx hb dX9_at_46 rfl (lv_at hl 2 rfl) ?_
      refine lv_iconst (v := 2) hx hb dX9_at_47 (by decide) ?_
      refine lv_icmp_ne (tgt := 55) hx hb dX9_at_48 (by decide) (fun hc => ?_) (fun hc => ?_)
      · replace hq := hq.1 hc
        refine lv_iload_n hx hb dX9_at_55 rfl (lv_at hl 2 rfl) ?_
        refine lv_iconst (v := 1) hx hb dX9_at_56 (by decide) ?_
        refine lv_icmp_ne (tgt := 65) hx hb dX9_at_57 (by decide) (fun hc => ?_) (fun hc => ?_)
        · replace hq := hq.1 hc
          refine lv_iload_n hx hb dX9_at_65 rfl (lv_at hl 2 rfl) ?_
          refine lv_iconst (v := 3) hx hb dX9_at_66 (by decide) ?_
          refine lv_icmp_ne (tgt := 77) hx hb dX9_at_67 (by decide) (fun hc => ?_) (fun hc => ?_)
          · replace hq := hq.1 hc
            refine lv_iconst (v := 0) hx hb dX9_at_77 (by decide) ?_
            exact mt_reti hx hb hr hlocks hw hS (Nat.le_of_ble_eq_true rfl) (Nat.le_of_ble_eq_true rfl) dX9_at_78 ⟨_, rfl, hq⟩
          · replace hq := hq.2 hc
            refine lv_fconst1 hx hb dX9_at_70 ?_
            refine mt_callS (index := 74) hx hb hml hown hts hK (ΩM.mono D d mp) hA hw hS hl.1 (tJxf58ca_floatToIntBits_5c35a l D d mp FP.fconst1 (nGaps u6 (upd (mGaps u6) x1.toNatClampNeg ((mGaps u6 x1.toNatClampNeg) + (1 : Int32)))) hq) q_571 q_41 q_569 q_570 nmhJxf58ca_floatToIntBits_5c35a ⟨⟨Nat.le_of_ble_eq_true rfl, Nat.le_of_ble_eq_true rfl⟩, ⟨Nat.le_of_ble_eq_true rfl, Nat.le_of_ble_eq_true rfl⟩⟩ rfl (Nat.le_of_ble_eq_true rfl) dX9_at_71 (fun _ u8 H locs hq hw hS => ?_)
            obtain ⟨r7, rfl, hq⟩ := hq
            refine W.eq (g2 := F0 m 74 ls [.int r7]) rfl ?_
            refine lv_goto (tgt := 78) hx hb dX9_at_74 (by decide) ?_
            exact mt_reti hx hb hr hlocks hw hS (Nat.le_of_ble_eq_true rfl) (Nat.le_of_ble_eq_true rfl) dX9_at_78 ⟨_, rfl, hq⟩
        · replace hq := hq.2 hc
          refine lv_bipush (v := 60) hx hb dX9_at_60 (by decide) ?_
          refine lv_goto (tgt := 78) hx hb dX9_at_62 (by decide) ?_
          exact mt_reti hx hb hr hlocks hw hS (Nat.le_of_ble_eq_true rfl) (Nat.le_of_ble_eq_true rfl) dX9_at_78 ⟨_, rfl, hq⟩
      · replace hq := hq.2 hc
        refine lv_iconst (v := 1) hx hb dX9_at_51 (by decide) ?_
        refine lv_goto (tgt := 78) hx hb dX9_at_52 (by decide) ?_
        exact mt_reti hx hb hr hlocks hw hS (Nat.le_of_ble_eq_true rfl) (Nat.le_of_ble_eq_true rfl) dX9_at_78 ⟨_, rfl, hq⟩
  · replace hq := hq.2 hc
    refine lv_aload_n hx hb dX9_at_10 rfl (lv_at hl 0 rfl) ?_
    refine va_get (D := D) (ci := 8) (v := .ref (mp 1)) (C := RX9) (T := TX9) (N := 15) hx hb hts inX9 hown hK.1 hw.1 0 rfl rfl 0 (by decide) (hts _ q_461) (fun _ h9 => h9) rfl dX9_at_11 ?_
    refine lv_sipush (v := 300) hx hb dX9_at_14 (by decide) ?_
    refine lv_aload_n hx hb dX9_at_17 rfl (lv_at hl 0 rfl) ?_
    refine va_get (D := D) (ci := 8) (v := .ref (mp 4)) (C := RX9) (T := TX9) (N := 15) hx hb hts inX9 hown hK.1 hw.1 0 rfl rfl 3 (by decide) (hts _ q_464) (fun _ h9 => h9) rfl dX9_at_18 ?_
    refine lv_iconst (v := 5) hx hb dX9_at_21 (by decide) ?_
    refine lv_iload_n hx hb dX9_at_22 rfl (lv_at hl 1 rfl) ?_
    refine lv_imul hx hb dX9_at_23 ?_
    refine lv_iload_n hx hb dX9_at_24 rfl (lv_at hl 2 rfl) ?_
    refine lv_iadd hx hb dX9_at_25 ?_
    refine va_iald hx hb hK.1 hw.1 4 8 rfl rfl hq.1 dX9_at_26 ?_
    replace hq := hq.2
    refine lv_imul hx hb dX9_at_27 ?_
    refine lv_iload_n hx hb dX9_at_28 rfl (lv_at hl 3 rfl) ?_
    refine lv_iadd hx hb dX9_at_29 ?_
    refine va_iald hx hb hK.1 hw.1 1 8 rfl rfl hq.1 dX9_at_30 ?_
    replace hq := hq.2
    exact mt_reti hx hb hr hlocks hw hS (Nat.le_of_ble_eq_true rfl) (Nat.le_of_ble_eq_true rfl) dX9_at_31 ⟨_, rfl, hq⟩
abbrev rmX9_sounds : Room := { frames := 3, cells := 0, slots := 0, locals := 68 }
theorem nmhX9_sounds : NoMH yX9_sounds 2 := by decide +kernel
def wX9_sounds_b142 (x1 : Int32) (x2 : Int32) (Q : Int32 → MS → Prop) (v3 : Int32) (v4 : Int32) (v5 : Int32) (v6 : Int32) (v7 : Int32) (μ : MS) : Prop :=
    vp_in x1 8 ∧ (vp_in x1 8 ∧ (Q (1 : Int32) (nNotes μ (upd (mNotes μ) x1.toNatClampNeg ((mNotes μ x1.toNatClampNeg) + (1 : Int32))))))
def wX9_sounds_b134 (x1 : Int32) (x2 : Int32) (Q : Int32 → MS → Prop) (v3 : Int32) (v4 : Int32) (v5 : Int32) (v6 : Int32) (v7 : Int32) (μ : MS) : Prop :=
    vp_in x1 8 ∧ (wX9_sounds_b142 x1 x2 Q v3 v4 v5 v6 v7 (nLoud μ (upd (mLoud μ) x1.toNatClampNeg v6)))
def wX9_sounds_b107 (x1 : Int32) (x2 : Int32) (Q : Int32 → MS → Prop) (v3 : Int32) (v4 : Int32) (v5 : Int32) (v6 : Int32) (v7 : Int32) (μ : MS) : Prop :=
    vp_in x1 8 ∧ (((mNotes μ x1.toNatClampNeg) = 0 → wX9_sounds_b134 x1 x2 Q v3 v4 v5 v6 v7 μ) ∧ (¬ (mNotes μ x1.toNatClampNeg) = 0 → (vn_sni2f v6 = false ∧ (vp_in x1 8 ∧ (vn_sni2f (mLoud μ x1.toNatClampNeg) = false ∧ (((Op.cmpValue (FP.fcmp v6.toUInt32 ((mLoud μ x1.toNatClampNeg).toUInt32)) CmpOp.l) ≤ 0 → wX9_sounds_b142 x1 x2 Q v3 v4 v5 v6 v7 μ) ∧ (¬ (Op.cmpValue (FP.fcmp v6.toUInt32 ((mLoud μ x1.toNatClampNeg).toUInt32)) CmpOp.l) ≤ 0 → wX9_sounds_b134 x1 x2 Q v3 v4 v5 v6 v7 μ)))))))
def wX9_sounds_b99 (x1 : Int32) (x2 : Int32) (Q : Int32 → MS → Prop) (v3 : Int32) (v4 : Int32) (v5 : Int32) (v6 : Int32) (v7 : Int32) (μ : MS) : Prop :=
    vp_in x1 8 ∧ (wX9_sounds_b107 x1 x2 Q v3 v4 v5 v6 v7 (nHigh μ (upd (mHigh μ) x1.toNatClampNeg v7)))
def wX9_sounds (x1 : Int32) (x2 : Int32) (μ : MS) (Q : Int32 → MS → Prop) : Prop :=
    wX9_at x1 (0 : Int32) x2 μ (fun r12 u13 => wX9_at x1 (1 : Int32) x2 u13 (fun r14 u15 => wX9_at x1 (2 : Int32) x2 u15 (fun r16 u17 => wX9_at x1 (3 : Int32) x2 u17 (fun r18 u19 => wX9_at x1 (4 : Int32) x2 u19 (fun r20 u21 => ∀ y22 : Int32, y22 = (r14 + r20) → (vp_in x1 8 ∧ (vp_in x1 8 ∧ ((¬ r12 = 0 → (vp_in x1 8 ∧ (vp_in x1 8 ∧ (vp_in x1 8 ∧ (((mNotes (nWts (nPlayed u21 (upd (mPlayed u21) x1.toNatClampNeg ((mPlayed u21 x1.toNatClampNeg) + (1 : Int32)))) (vp_updL (mWts (nPlayed u21 (upd (mPlayed u21) x1.toNatClampNeg ((mPlayed u21 x1.toNatClampNeg) + (1 : Int32))))) x1.toNatClampNeg ((mWts (nPlayed u21 (upd (mPlayed u21) x1.toNatClampNeg ((mPlayed u21 x1.toNatClampNeg) + (1 : Int32)))) x1.toNatClampNeg) + (y22.toInt64 * r16.toInt64)))) x1.toNatClampNeg) = 0 → (wX9_sounds_b99 x1 x2 Q r12 r14 r16 r18 y22 (nWts (nPlayed u21 (upd (mPlayed u21) x1.toNatClampNeg ((mPlayed u21 x1.toNatClampNeg) + (1 : Int32)))) (vp_updL (mWts (nPlayed u21 (upd (mPlayed u21) x1.toNatClampNeg ((mPlayed u21 x1.toNatClampNeg) + (1 : Int32))))) x1.toNatClampNeg ((mWts (nPlayed u21 (upd (mPlayed u21) x1.toNatClampNeg ((mPlayed u21 x1.toNatClampNeg) + (1 : Int32)))) x1.toNatClampNeg) + (y22.toInt64 * r16.toInt64)))))) ∧ (¬ (mNotes (nWts (nPlayed u21 (upd (mPlayed u21) x1.toNatClampNeg ((mPlayed u21 x1.toNatClampNeg) + (1 : Int32)))) (vp_updL (mWts (nPlayed u21 (upd (mPlayed u21) x1.toNatClampNeg ((mPlayed u21 x1.toNatClampNeg) + (1 : Int32))))) x1.toNatClampNeg ((mWts (nPlayed u21 (upd (mPlayed u21) x1.toNatClampNeg ((mPlayed u21 x1.toNatClampNeg) + (1 : Int32)))) x1.toNatClampNeg) + (y22.toInt64 * r16.toInt64)))) x1.toNatClampNeg) = 0 → (vp_in x1 8 ∧ ((y22 ≤ (mHigh (nWts (nPlayed u21 (upd (mPlayed u21) x1.toNatClampNeg ((mPlayed u21 x1.toNatClampNeg) + (1 : Int32)))) (vp_updL (mWts (nPlayed u21 (upd (mPlayed u21) x1.toNatClampNeg ((mPlayed u21 x1.toNatClampNeg) + (1 : Int32))))) x1.toNatClampNeg ((mWts (nPlayed u21 (upd (mPlayed u21) x1.toNatClampNeg ((mPlayed u21 x1.toNatClampNeg) + (1 : Int32)))) x1.toNatClampNeg) + (y22.toInt64 * r16.toInt64)))) x1.toNatClampNeg) → (wX9_sounds_b107 x1 x2 Q r12 r14 r16 r18 y22 (nWts (nPlayed u21 (upd (mPlayed u21) x1.toNatClampNeg ((mPlayed u21 x1.toNatClampNeg) + (1 : Int32)))) (vp_updL (mWts (nPlayed u21 (upd (mPlayed u21) x1.toNatClampNeg ((mPlayed u21 x1.toNatClampNeg) + (1 : Int32))))) x1.toNatClampNeg ((mWts (nPlayed u21 (upd (mPlayed u21) x1.toNatClampNeg ((mPlayed u21 x1.toNatClampNeg) + (1 : Int32)))) x1.toNatClampNeg) + (y22.toInt64 * r16.toInt64)))))) ∧ (¬ y22 ≤ (mHigh (nWts (nPlayed u21 (upd (mPlayed u21) x1.toNatClampNeg ((mPlayed u21 x1.toNatClampNeg) + (1 : Int32)))) (vp_updL (mWts (nPlayed u21 (upd (mPlayed u21) x1.toNatClampNeg ((mPlayed u21 x1.toNatClampNeg) + (1 : Int32))))) x1.toNatClampNeg ((mWts (nPlayed u21 (upd (mPlayed u21) x1.toNatClampNeg ((mPlayed u21 x1.toNatClampNeg) + (1 : Int32)))) x1.toNatClampNeg) + (y22.toInt64 * r16.toInt64)))) x1.toNatClampNeg) → (wX9_sounds_b99 x1 x2 Q r12 r14 r16 r18 y22 (nWts (nPlayed u21 (upd (mPlayed u21) x1.toNatClampNeg ((mPlayed u21 x1.toNatClampNeg) + (1 : Int32)))) (vp_updL (mWts (nPlayed u21 (upd (mPlayed u21) x1.toNatClampNeg ((mPlayed u21 x1.toNatClampNeg) + (1 : Int32))))) x1.toNatClampNeg ((mWts (nPlayed u21 (upd (mPlayed u21) x1.toNatClampNeg ((mPlayed u21 x1.toNatClampNeg) + (1 : Int32)))) x1.toNatClampNeg) + (y22.toInt64 * r16.toInt64)))))))))))))) ∧ (r12 = 0 → (Q (0 : Int32) (nPlayed u21 (upd (mPlayed u21) x1.toNatClampNeg ((mPlayed u21 x1.toNatClampNeg) + (1 : Int32))))))))))))))
set_option maxHeartbeats 4000000 in
set_option maxRecDepth 100000 in
theorem tX9_sounds (l : Launch) (D : va_G) (d : AC) (mp : Nat → Nat) (x1 : Int32) (x2 : Int32) (μ : MS) {Q : Int32 → MS → Prop} (hq : wX9_sounds x1 x2 μ Q) : MT D d (ΩM D d mp) l yX9_sounds (WS yX9_sounds cX9_sounds 8 (some (.boolean))) rmX9_sounds [.ref (mp 0), .int x1, .int x2] μ (qZ Q) := by
  refine mt_of (ΩM.mono D d mp) (by decide +kernel) (Nat.le_of_ble_eq_true rfl) (fun p e s m below meth c A ls hx hb hr hml hown hts hlocks hnm hK hA hw hS hl => ?_)
  have hl : lv_has ls 8 [(0, .ref (mp 0)), (1, .int x1), (2, .int x2)] := hl
  have hown : s.vm.findClass RX9 = some m.cls := hown
  have b142 : ∀ (v3 : Int32) (v4 : Int32) (v5 : Int32) (v6 : Int32) (v7 : Int32) (μ : MS) (H : Heap) (locs : List Loc) (ls : Array Slot), wX9_sounds_b142 x1 x2 Q v3 v4 v5 v6 v7 μ → (ΩM D d mp) A μ H → va_S A s.heap H locs → lv_has ls 8 [(0, .ref (mp 0)), (1, .int x1), (2, .int x2), (3, .int v3), (4, .int v4), (5, .int v5), (6, .int v6), (7, .int v7)] → W p l e rmX9_sounds s m [.ref (mp 0), .int x1, .int x2].toArray below meth c H locs 0 0 (MQ below (Qo (qZ Q) (fun u' t => (ΩM D d mp) A u' t.heap) A) [.ref (mp 0), .int x1, .int x2].toArray s rmX9_sounds.cells rmX9_sounds.slots A) (F0 m 142 ls []) := by
    intro v3 v4 v5 v6 v7 μ H locs ls hq hw hS hl
    unfold wX9_sounds_b142 at hq
    refine lv_aload_n hx hb dX9_sounds_142 rfl (lv_at hl 0 rfl) ?_
    refine va_get (D := D) (ci := 8) (v := .ref (mp 9)) (C := RX9) (T := TX9) (N := 15) hx hb hts inX9 hown hK.1 hw.1 0 rfl rfl 8 (by decide) (hts _ q_469) (fun _ h9 => h9) rfl dX9_sounds_143 ?_
    refine lv_iload_n hx hb dX9_sounds_146 rfl (lv_at hl 1 rfl) ?_
    refine lv_dup2_11 hx hb dX9_sounds_147 rfl rfl ?_
    refine va_iald hx hb hK.1 hw.1 9 8 rfl rfl hq.1 dX9_sounds_148 ?_
    replace hq := hq.2
    refine lv_iconst (v := 1) hx hb dX9_sounds_149 (by decide) ?_
    refine lv_iadd hx hb dX9_sounds_150 ?_
    refine va_iast hx hb hK.1 hw.1 hw.2 hS 9 8 rfl rfl hq.1 dX9_sounds_151 (fun H locs hP hD hS => ?_)
    have hw : ΩM D d mp A (nNotes μ (upd (mNotes μ) x1.toNatClampNeg ((mNotes μ x1.toNatClampNeg) + (1 : Int32)))) H := ⟨hP, hD⟩
    replace hq := hq.2
    refine lv_iconst (v := 1) hx hb dX9_sounds_152 (by decide) ?_
    exact mt_retz hx hb hr hlocks hw hS (Nat.le_of_ble_eq_true rfl) (Nat.le_of_ble_eq_true rfl) dX9_sounds_153 rfl ⟨_, rfl, Or.inr rfl, hq⟩
  have b134 : ∀ (v3 : Int32) (v4 : Int32) (v5 : Int32) (v6 : Int32) (v7 : Int32) (μ : MS) (H : Heap) (locs : List Loc) (ls : Array Slot), wX9_sounds_b134 x1 x2 Q v3 v4 v5 v6 v7 μ → (ΩM D d mp) A μ H → va_S A s.heap H locs → lv_has ls 8 [(0, .ref (mp 0)), (1, .int x1), (2, .int x2), (3, .int v3), (4, .int v4), (5, .int v5), (6, .int v6), (7, .int v7)] → W p l e rmX9_sounds s m [.ref (mp 0), .int x1, .int x2].toArray below meth c H locs 0 0 (MQ below (Qo (qZ Q) (fun u' t => (ΩM D d mp) A u' t.heap) A) [.ref (mp 0), .int x1, .int x2].toArray s rmX9_sounds.cells rmX9_sounds.slots A) (F0 m 134 ls []) := by
    intro v3 v4 v5 v6 v7 μ H locs ls hq hw hS hl
    unfold wX9_sounds_b134 at hq
    refine lv_aload_n hx hb dX9_sounds_134 rfl (lv_at hl 0 rfl) ?_
    refine va_get (D := D) (ci := 8) (v := .ref (mp 14)) (C := RX9) (T := TX9) (N := 15) hx hb hts inX9 hown hK.1 hw.1 0 rfl rfl 13 (by decide) (hts _ q_474) (fun _ h9 => h9) rfl dX9_sounds_135 ?_
    refine lv_iload_n hx hb dX9_sounds_138 rfl (lv_at hl 1 rfl) ?_
    refine lv_iload hx hb dX9_sounds_139 (lv_at hl 6 rfl) ?_
    refine va_iast hx hb hK.1 hw.1 hw.2 hS 14 8 rfl rfl hq.1 dX9_sounds_141 (fun H locs hP hD hS => ?_)
    have hw : ΩM D d mp A (nLoud μ (upd (mLoud μ) x1.toNatClampNeg v6)) H := ⟨hP, hD⟩
    replace hq := hq.2
    exact b142 v3 v4 v5 v6 v7 (nLoud μ (upd (mLoud μ) x1.toNatClampNeg v6)) _ _ _ hq hw hS (lv_sub hl [0, 1, 2, 3, 4, 5, 6, 7] rfl)
  have b107 : ∀ (v3 : Int32) (v4 : Int32) (v5 : Int32) (v6 : Int32) (v7 : Int32) (μ : MS) (H : Heap) (locs : List Loc) (ls : Array Slot), wX9_sounds_b107 x1 x2 Q v3 v4 v5 v6 v7 μ → (ΩM D d mp) A μ H → va_S A s.heap H locs → lv_has ls 8 [(0, .ref (mp 0)), (1, .int x1), (2, .int x2), (3, .int v3), (4, .int v4), (5, .int v5), (6, .int v6), (7, .int v7)] → W p l e rmX9_sounds s m [.ref (mp 0), .int x1, .int x2].toArray below meth c H locs 0 0 (MQ below (Qo (qZ Q) (fun u' t => (ΩM D d mp) A u' t.heap) A) [.ref (mp 0), .int x1, .int x2].toArray s rmX9_sounds.cells rmX9_sounds.slots A) (F0 m 107 ls []) := by
    intro v3 v4 v5 v6 v7 μ H locs ls hq hw hS hl
    unfold wX9_sounds_b107 at hq
    refine lv_aload_n hx hb dX9_sounds_107 rfl (lv_at hl 0 rfl) ?_
    refine va_get (D := D) (ci := 8) (v := .ref (mp 9)) (C := RX9) (T := TX9) (N := 15) hx hb hts inX9 hown hK.1 hw.1 0 rfl rfl 8 (by decide) (hts _ q_469) (fun _ h9 => h9) rfl dX9_sounds_108 ?_
    refine lv_iload_n hx hb dX9_sounds_111 rfl (lv_at hl 1 rfl) ?_
    refine va_iald hx hb hK.1 hw.1 9 8 rfl rfl hq.1 dX9_sounds_112 ?_
    replace hq := hq.2
    refine lv_if_eq (tgt := 134) hx hb dX9_sounds_113 (by decide) (fun hc => ?_) (fun hc => ?_)
    · replace hq := hq.1 hc
      exact b134 v3 v4 v5 v6 v7 μ _ _ _ hq hw hS (lv_sub hl [0, 1, 2, 3, 4, 5, 6, 7] rfl)
    · replace hq := hq.2 hc
      refine lv_iload hx hb dX9_sounds_116 (lv_at hl 6 rfl) ?_
      refine vn_i2f hx hb (hml.trans hl.1.symm) hown (hts _ q_591) (hts _ q_593) (hts _ q_592) (hts _ q_41) hq.1 (Nat.le_of_ble_eq_true rfl) (Nat.le_of_ble_eq_true rfl) dX9_sounds_118 ?_
      replace hq := hq.2
      refine lv_aload_n hx hb dX9_sounds_121 rfl (lv_at hl 0 rfl) ?_
      refine va_get (D := D) (ci := 8) (v := .ref (mp 14)) (C := RX9) (T := TX9) (N := 15) hx hb hts inX9 hown hK.1 hw.1 0 rfl rfl 13 (by decide) (hts _ q_474) (fun _ h9 => h9) rfl dX9_sounds_122 ?_
      refine lv_iload_n hx hb dX9_sounds_125 rfl (lv_at hl 1 rfl) ?_
      refine va_iald hx hb hK.1 hw.1 14 8 rfl rfl hq.1 dX9_sounds_126 ?_
      replace hq := hq.2
      refine vn_i2f hx hb (hml.trans hl.1.symm) hown (hts _ q_591) (hts _ q_593) (hts _ q_592) (hts _ q_41) hq.1 (Nat.le_of_ble_eq_true rfl) (Nat.le_of_ble_eq_true rfl) dX9_sounds_127 ?_
      replace hq := hq.2
      refine lv_fcmp hx hb dX9_sounds_130 ?_
      refine lv_if_le (tgt := 142) hx hb dX9_sounds_131 (by decide) (fun hc => ?_) (fun hc => ?_)
      · replace hq := hq.1 hc
        exact b142 v3 v4 v5 v6 v7 μ _ _ _ hq hw hS (lv_sub hl [0, 1, 2, 3, 4, 5, 6, 7] rfl)
      · replace hq := hq.2 hc
        exact b134 v3 v4 v5 v6 v7 μ _ _ _ hq hw hS (lv_sub hl [0, 1, 2, 3, 4, 5, 6, 7] rfl)
  have b99 : ∀ (v3 : Int32) (v4 : Int32) (v5 : Int32) (v6 : Int32) (v7 : Int32) (μ : MS) (H : Heap) (locs : List Loc) (ls : Array Slot), wX9_sounds_b99 x1 x2 Q v3 v4 v5 v6 v7 μ → (ΩM D d mp) A μ H → va_S A s.heap H locs → lv_has ls 8 [(0, .ref (mp 0)), (1, .int x1), (2, .int x2), (3, .int v3), (4, .int v4), (5, .int v5), (6, .int v6), (7, .int v7)] → W p l e rmX9_sounds s m [.ref (mp 0), .int x1, .int x2].toArray below meth c H locs 0 0 (MQ below (Qo (qZ Q) (fun u' t => (ΩM D d mp) A u' t.heap) A) [.ref (mp 0), .int x1, .int x2].toArray s rmX9_sounds.cells rmX9_sounds.slots A) (F0 m 99 ls []) := by
    intro v3 v4 v5 v6 v7 μ H locs ls hq hw hS hl
    unfold wX9_sounds_b99 at hq
    refine lv_aload_n hx hb dX9_sounds_99 rfl (lv_at hl 0 rfl) ?_
    refine va_get (D := D) (ci := 8) (v := .ref (mp 13)) (C := RX9) (T := TX9) (N := 15) hx hb hts inX9 hown hK.1 hw.1 0 rfl rfl 12 (by decide) (hts _ q_473) (fun _ h9 => h9) rfl dX9_sounds_100 ?_
    refine lv_iload_n hx hb dX9_sounds_103 rfl (lv_at hl 1 rfl) ?_
    refine lv_iload hx hb dX9_sounds_104 (lv_at hl 7 rfl) ?_
    refine va_iast hx hb hK.1 hw.1 hw.2 hS 13 8 rfl rfl hq.1 dX9_sounds_106 (fun H locs hP hD hS => ?_)
    have hw : ΩM D d mp A (nHigh μ (upd (mHigh μ) x1.toNatClampNeg v7)) H := ⟨hP, hD⟩
    replace hq := hq.2
    exact b107 v3 v4 v5 v6 v7 (nHigh μ (upd (mHigh μ) x1.toNatClampNeg v7)) _ _ _ hq hw hS (lv_sub hl [0, 1, 2, 3, 4, 5, 6, 7] rfl)
  unfold wX9_sounds at hq
  refine lv_aload_n hx hb dX9_sounds_0 rfl (lv_at hl 0 rfl) ?_
  refine lv_iload_n hx hb dX9_sounds_1 rfl (lv_at hl 1 rfl) ?_
  refine lv_iconst (v := 0) hx hb dX9_sounds_2 (by decide) ?_
  refine lv_iload_n hx hb dX9_sounds_3 rfl (lv_at hl 2 rfl) ?_
  refine mt_callV (index := 120) hx hb hml hown hts hK (ΩM.mono D d mp) hA hw hS hl.1 (tX9_at l D d mp x1 (0 : Int32) x2 μ hq) (ΩM.recv hK hw) q_616 q_34 q_613 q_615 q_26 nmhX9_at ⟨⟨Nat.le_of_ble_eq_true rfl, Nat.le_of_ble_eq_true rfl⟩, ⟨Nat.le_of_ble_eq_true rfl, Nat.le_of_ble_eq_true rfl⟩⟩ rfl (Nat.le_of_ble_eq_true rfl) dX9_sounds_4 (fun _ u13 H locs hq hw hS => ?_)
  obtain ⟨r12, rfl, hq⟩ := hq
  refine W.eq (g2 := F0 m 7 ls [.int r12]) rfl ?_
  refine lv_istore_n (lv' := [(3, .int r12), (0, .ref (mp 0)), (1, .int x1), (2, .int x2)]) hx hb dX9_sounds_7 rfl hl (by decide) rfl (fun ls hl => ?_)
  refine lv_aload_n hx hb dX9_sounds_8 rfl (lv_at hl 1 rfl) ?_
  refine lv_iload_n hx hb dX9_sounds_9 rfl (lv_at hl 2 rfl) ?_
  refine lv_iconst (v := 1) hx hb dX9_sounds_10 (by decide) ?_
  refine lv_iload_n hx hb dX9_sounds_11 rfl (lv_at hl 3 rfl) ?_
  refine mt_callV (index := 120) hx hb hml hown hts hK (ΩM.mono D d mp) hA hw hS hl.1 (tX9_at l D d mp x1 (1 : Int32) x2 u13 hq) (ΩM.recv hK hw) q_616 q_34 q_613 q_615 q_26 nmhX9_at ⟨⟨Nat.le_of_ble_eq_true rfl, Nat.le_of_ble_eq_true rfl⟩, ⟨Nat.le_of_ble_eq_true rfl, Nat.le_of_ble_eq_true rfl⟩⟩ rfl (Nat.le_of_ble_eq_true rfl) dX9_sounds_12 (fun _ u15 H locs hq hw hS => ?_)
  obtain ⟨r14, rfl, hq⟩ := hq
  refine W.eq (g2 := F0 m 15 ls [.int r14]) rfl ?_
  refine lv_istore (lv' := [(4, .int r14), (3, .int r12), (0, .ref (mp 0)), (1, .int x1), (2, .int x2)]) hx hb dX9_sounds_15 hl (by decide) rfl (fun ls hl => ?_)
  refine lv_aload_n hx hb dX9_sounds_17 rfl (lv_at hl 2 rfl) ?_
  refine lv_iload_n hx hb dX9_sounds_18 rfl (lv_at hl 3 rfl) ?_
  refine lv_iconst (v := 2) hx hb dX9_sounds_19 (by decide) ?_
  refine lv_iload_n hx hb dX9_sounds_20 rfl (lv_at hl 4 rfl) ?_
  refine mt_callV (index := 120) hx hb hml hown hts hK (ΩM.mono D d mp) hA hw hS hl.1 (tX9_at l D d mp x1 (2 : Int32) x2 u15 hq) (ΩM.recv hK hw) q_616 q_34 q_613 q_615 q_26 nmhX9_at ⟨⟨Nat.le_of_ble_eq_true rfl, Nat.le_of_ble_eq_true rfl⟩, ⟨Nat.le_of_ble_eq_true rfl, Nat.le_of_ble_eq_true rfl⟩⟩ rfl (Nat.le_of_ble_eq_true rfl) dX9_sounds_21 (fun _ u17 H locs hq hw hS => ?_)
  obtain ⟨r16, rfl, hq⟩ := hq
  refine W.eq (g2 := F0 m 24 ls [.int r16]) rfl ?_
  refine lv_istore (lv' := [(5, .int r16), (4, .int r14), (3, .int r12), (0, .ref (mp 0)), (1, .int x1), (2, .int x2)]) hx hb dX9_sounds_24 hl (by decide) rfl (fun ls hl => ?_)
  refine lv_aload_n hx hb dX9_sounds_26 rfl (lv_at hl 3 rfl) ?_
  refine lv_iload_n hx hb dX9_sounds_27 rfl (lv_at hl 4 rfl) ?_
  refine lv_iconst (v := 3) hx hb dX9_sounds_28 (by decide) ?_
  refine lv_iload_n hx hb dX9_sounds_29 rfl (lv_at hl 5 rfl) ?_
  refine mt_callV (index := 120) hx hb hml hown hts hK (ΩM.mono D d mp) hA hw hS hl.1 (tX9_at l D d mp x1 (3 : Int32) x2 u17 hq) (ΩM.recv hK hw) q_616 q_34 q_613 q_615 q_26 nmhX9_at ⟨⟨Nat.le_of_ble_eq_true rfl, Nat.le_of_ble_eq_true rfl⟩, ⟨Nat.le_of_ble_eq_true rfl, Nat.le_of_ble_eq_true rfl⟩⟩ rfl (Nat.le_of_ble_eq_true rfl) dX9_sounds_30 (fun _ u19 H locs hq hw hS => ?_)
  obtain ⟨r18, rfl, hq⟩ := hq
  refine W.eq (g2 := F0 m 33 ls [.int r18]) rfl ?_
  refine lv_istore (lv' := [(6, .int r18), (5, .int r16), (4, .int r14), (3, .int r12), (0, .ref (mp 0)), (1, .int x1), (2, .int x2)]) hx hb dX9_sounds_33 hl (by decide) rfl (fun ls hl => ?_)
  refine lv_iload hx hb dX9_sounds_35 (lv_at hl 2 rfl) ?_
  refine lv_aload_n hx hb dX9_sounds_37 rfl (lv_at hl 4 rfl) ?_
  refine lv_iload_n hx hb dX9_sounds_38 rfl (lv_at hl 5 rfl) ?_
  refine lv_iconst (v := 4) hx hb dX9_sounds_39 (by decide) ?_
  refine lv_iload_n hx hb dX9_sounds_40 rfl (lv_at hl 6 rfl) ?_
  refine mt_callV (index := 120) hx hb hml hown hts hK (ΩM.mono D d mp) hA hw hS hl.1 (tX9_at l D d mp x1 (4 : Int32) x2 u19 hq) (ΩM.recv hK hw) q_616 q_34 q_613 q_615 q_26 nmhX9_at ⟨⟨Nat.le_of_ble_eq_true rfl, Nat.le_of_ble_eq_true rfl⟩, ⟨Nat.le_of_ble_eq_true rfl, Nat.le_of_ble_eq_true rfl⟩⟩ rfl (Nat.le_of_ble_eq_true rfl) dX9_sounds_41 (fun _ u21 H locs hq hw hS => ?_)
  obtain ⟨r20, rfl, hq⟩ := hq
  refine W.eq (g2 := F0 m 44 ls [.int r20, .int r14]) rfl ?_
  refine lv_iadd hx hb dX9_sounds_44 ?_
  refine lv_topi (fun y22 ey22 => ?_)
  replace hq := hq y22 ey22
  refine lv_istore (lv' := [(7, .int y22), (6, .int r18), (5, .int r16), (4, .int r14), (3, .int r12), (0, .ref (mp 0)), (1, .int x1), (2, .int x2)]) hx hb dX9_sounds_45 hl (by decide) rfl (fun ls hl => ?_)
  refine lv_aload_n hx hb dX9_sounds_47 rfl (lv_at hl 5 rfl) ?_
  refine va_get (D := D) (ci := 8) (v := .ref (mp 10)) (C := RX9) (T := TX9) (N := 15) hx hb hts inX9 hown hK.1 hw.1 0 rfl rfl 9 (by decide) (hts _ q_470) (fun _ h9 => h9) rfl dX9_sounds_48 ?_
  refine lv_iload_n hx hb dX9_sounds_51 rfl (lv_at hl 6 rfl) ?_
  refine lv_dup2_11 hx hb dX9_sounds_52 rfl rfl ?_
  refine va_iald hx hb hK.1 hw.1 10 8 rfl rfl hq.1 dX9_sounds_53 ?_
  replace hq := hq.2
  refine lv_iconst (v := 1) hx hb dX9_sounds_54 (by decide) ?_
  refine lv_iadd hx hb dX9_sounds_55 ?_
  refine va_iast hx hb hK.1 hw.1 hw.2 hS 10 8 rfl rfl hq.1 dX9_sounds_56 (fun H locs hP hD hS => ?_)
  have hw : ΩM D d mp A (nPlayed u21 (upd (mPlayed u21) x1.toNatClampNeg ((mPlayed u21 x1.toNatClampNeg) + (1 : Int32)))) H := ⟨hP, hD⟩
  replace hq := hq.2
  refine lv_iload_n hx hb dX9_sounds_57 rfl (lv_at hl 4 rfl) ?_
  refine lv_if_ne (tgt := 63) hx hb dX9_sounds_58 (by decide) (fun hc => ?_) (fun hc => ?_)
  · replace hq := hq.1 hc
    refine lv_aload_n hx hb dX9_sounds_63 rfl (lv_at hl 5 rfl) ?_
    refine va_get (D := D) (ci := 8) (v := .ref (mp 12)) (C := RX9) (T := TX9) (N := 15) hx hb hts inX9 hown hK.1 hw.1 0 rfl rfl 11 (by decide) (hts _ q_472) (fun _ h9 => h9) rfl dX9_sounds_64 ?_
    refine lv_iload_n hx hb dX9_sounds_67 rfl (lv_at hl 6 rfl) ?_
    refine lv_dup2_11 hx hb dX9_sounds_68 rfl rfl ?_
    refine va_lald hx hb hK.1 hw.1 12 9 rfl rfl hq.1 dX9_sounds_69 ?_
    replace hq := hq.2
    refine lv_iload hx hb dX9_sounds_70 (lv_at hl 0 rfl) ?_
    refine lv_i2l hx hb dX9_sounds_72 rfl ?_
    refine lv_iload hx hb dX9_sounds_73 (lv_at hl 2 rfl) ?_
    refine lv_i2l hx hb dX9_sounds_75 rfl ?_
    refine lv_lmul hx hb dX9_sounds_76 ?_
    refine lv_ladd hx hb dX9_sounds_77 ?_
    refine va_last hx hb hK.1 hw.1 hw.2 hS 12 9 rfl rfl hq.1 dX9_sounds_78 (fun H locs hP hD hS => ?_)
    have hw : ΩM D d mp A (nWts (nPlayed u21 (upd (mPlayed u21) x1.toNatClampNeg ((mPlayed u21 x1.toNatClampNeg) + (1 : Int32)))) (vp_updL (mWts (nPlayed u21 (upd (mPlayed u21) x1.toNatClampNeg ((mPlayed u21 x1.toNatClampNeg) + (1 : Int32))))) x1.toNatClampNeg ((mWts (nPlayed u21 (upd (mPlayed u21) x1.toNatClampNeg ((mPlayed u21 x1.toNatClampNeg) + (1 : Int32)))) x1.toNatClampNeg) + (y22.toInt64 * r16.toInt64)))) H := ⟨hP, hD⟩
    replace hq := hq.2
    refine lv_aload_n hx hb dX9_sounds_79 rfl (lv_at hl 5 rfl) ?_
    refine va_get (D := D) (ci := 8) (v := .ref (mp 9)) (C := RX9) (T := TX9) (N := 15) hx hb hts inX9 hown hK.1 hw.1 0 rfl rfl 8 (by decide) (hts _ q_469) (fun _ h9 => h9) rfl dX9_sounds_80 ?_
    refine lv_iload_n hx hb dX9_sounds_83 rfl (lv_at hl 6 rfl) ?_
    refine va_iald hx hb hK.1 hw.1 9 8 rfl rfl hq.1 dX9_sounds_84 ?_
    replace hq := hq.2
    refine lv_if_eq (tgt := 99) hx hb dX9_sounds_85 (by decide) (fun hc => ?_) (fun hc => ?_)
    · replace hq := hq.1 hc
      exact b99 r12 r14 r16 r18 y22 (nWts (nPlayed u21 (upd (mPlayed u21) x1.toNatClampNeg ((mPlayed u21 x1.toNatClampNeg) + (1 : Int32)))) (vp_updL (mWts (nPlayed u21 (upd (mPlayed u21) x1.toNatClampNeg ((mPlayed u21 x1.toNatClampNeg) + (1 : Int32))))) x1.toNatClampNeg ((mWts (nPlayed u21 (upd (mPlayed u21) x1.toNatClampNeg ((mPlayed u21 x1.toNatClampNeg) + (1 : Int32)))) x1.toNatClampNeg) + (y22.toInt64 * r16.toInt64)))) _ _ _ hq hw hS (lv_sub hl [5, 6, 7, 4, 3, 2, 1, 0] rfl)
    · replace hq := hq.2 hc
      refine lv_iload hx hb dX9_sounds_88 (lv_at hl 0 rfl) ?_
      refine lv_aload_n hx hb dX9_sounds_90 rfl (lv_at hl 5 rfl) ?_
      refine va_get (D := D) (ci := 8) (v := .ref (mp 13)) (C := RX9) (T := TX9) (N := 15) hx hb hts inX9 hown hK.1 hw.1 0 rfl rfl 12 (by decide) (hts _ q_473) (fun _ h9 => h9) rfl dX9_sounds_91 ?_
      refine lv_iload_n hx hb dX9_sounds_94 rfl (lv_at hl 6 rfl) ?_
      refine va_iald hx hb hK.1 hw.1 13 8 rfl rfl hq.1 dX9_sounds_95 ?_
      replace hq := hq.2
      refine lv_icmp_le (tgt := 107) hx hb dX9_sounds_96 (by decide) (fun hc => ?_) (fun hc => ?_)
      · replace hq := hq.1 hc
        exact b107 r12 r14 r16 r18 y22 (nWts (nPlayed u21 (upd (mPlayed u21) x1.toNatClampNeg ((mPlayed u21 x1.toNatClampNeg) + (1 : Int32)))) (vp_updL (mWts (nPlayed u21 (upd (mPlayed u21) x1.toNatClampNeg ((mPlayed u21 x1.toNatClampNeg) + (1 : Int32))))) x1.toNatClampNeg ((mWts (nPlayed u21 (upd (mPlayed u21) x1.toNatClampNeg ((mPlayed u21 x1.toNatClampNeg) + (1 : Int32)))) x1.toNatClampNeg) + (y22.toInt64 * r16.toInt64)))) _ _ _ hq hw hS (lv_sub hl [5, 6, 7, 4, 3, 2, 1, 0] rfl)
      · replace hq := hq.2 hc
        exact b99 r12 r14 r16 r18 y22 (nWts (nPlayed u21 (upd (mPlayed u21) x1.toNatClampNeg ((mPlayed u21 x1.toNatClampNeg) + (1 : Int32)))) (vp_updL (mWts (nPlayed u21 (upd (mPlayed u21) x1.toNatClampNeg ((mPlayed u21 x1.toNatClampNeg) + (1 : Int32))))) x1.toNatClampNeg ((mWts (nPlayed u21 (upd (mPlayed u21) x1.toNatClampNeg ((mPlayed u21 x1.toNatClampNeg) + (1 : Int32)))) x1.toNatClampNeg) + (y22.toInt64 * r16.toInt64)))) _ _ _ hq hw hS (lv_sub hl [5, 6, 7, 4, 3, 2, 1, 0] rfl)
  · replace hq := hq.2 hc
    refine lv_iconst (v := 0) hx hb dX9_sounds_61 (by decide) ?_
    exact mt_retz hx hb hr hlocks hw hS (Nat.le_of_ble_eq_true rfl) (Nat.le_of_ble_eq_true rfl) dX9_sounds_62 rfl ⟨_, rfl, Or.inl rfl, hq⟩
abbrev rmX9_play : Room := { frames := 4, cells := 0, slots := 0, locals := 95 }
theorem nmhX9_play : NoMH yX9_play 2 := by decide +kernel
def wX9_play_b123 (x1 : Int32) (x2 : Int32) (K38 : Int32 → Int32 → Int32 → MS → Prop) (Q : Int32 → MS → Prop) (v3 : Int32) (v4 : Int32) (v5 : Int32) (v6 : Int32) (v7 : Int32) (t0 : Int32) (t1 : Int32) (μ : MS) : Prop :=
    ∀ y70 : Int32, y70 = (t1 + t0) → (vp_in x1 8 ∧ (vp_in x1 8 ∧ (∀ y71 : Int32, y71 = v5 + 1 → (K38 y70 v4 y71 (nHeads μ (upd (mHeads μ) x1.toNatClampNeg ((mHeads μ x1.toNatClampNeg) + (1 : Int32))))))))
def wX9_play_b63 (x1 : Int32) (x2 : Int32) (K38 : Int32 → Int32 → Int32 → MS → Prop) (Q : Int32 → MS → Prop) : Nat → Int32 → Int32 → Int32 → Int32 → Int32 → MS → Prop
  | 0, _, _, _, _, _, _ => False
  | n + 1, v3, v4, v5, v6, v7, μ =>
    ((5 : Int32) ≤ v7 → ((¬ v4 = 0 → (wX9_sounds x1 v6 μ (fun r68 u69 => (r68 = 0 → wX9_play_b123 x1 x2 K38 Q v3 v4 v5 v6 v7 (0 : Int32) v3 u69) ∧ (¬ r68 = 0 → wX9_play_b123 x1 x2 K38 Q v3 v4 v5 v6 v7 (1 : Int32) v3 u69)))) ∧ (v4 = 0 → (∀ y72 : Int32, y72 = v5 + 1 → K38 v3 v4 y72 μ)))) ∧ (¬ (5 : Int32) ≤ v7 → ((¬ v4 = 0 → (∀ y73 : Int32, y73 = v7 + 1 → (wX9_play_b63 x1 x2 K38 Q n v3 (1 : Int32) v5 v6 y73 μ))) ∧ (v4 = 0 → (wX9_isThere x1 v7 v6 μ (fun r74 u75 => (r74 = 0 → (∀ y76 : Int32, y76 = v7 + 1 → (wX9_play_b63 x1 x2 K38 Q n v3 (0 : Int32) v5 v6 y76 u75))) ∧ (¬ r74 = 0 → (∀ y77 : Int32, y77 = v7 + 1 → (wX9_play_b63 x1 x2 K38 Q n v3 (1 : Int32) v5 v6 y77 u75))))))))
theorem wX9_play_b63_s (x1 : Int32) (x2 : Int32) (K38 : Int32 → Int32 → Int32 → MS → Prop) (Q : Int32 → MS → Prop) (n : Nat) (v3 : Int32) (v4 : Int32) (v5 : Int32) (v6 : Int32) (v7 : Int32) (μ : MS) : wX9_play_b63 x1 x2 K38 Q (n + 1) v3 v4 v5 v6 v7 μ = (
    ((5 : Int32) ≤ v7 → ((¬ v4 = 0 → (wX9_sounds x1 v6 μ (fun r68 u69 => (r68 = 0 → wX9_play_b123 x1 x2 K38 Q v3 v4 v5 v6 v7 (0 : Int32) v3 u69) ∧ (¬ r68 = 0 → wX9_play_b123 x1 x2 K38 Q v3 v4 v5 v6 v7 (1 : Int32) v3 u69)))) ∧ (v4 = 0 → (∀ y72 : Int32, y72 = v5 + 1 → K38 v3 v4 y72 μ)))) ∧ (¬ (5 : Int32) ≤ v7 → ((¬ v4 = 0 → (∀ y73 : Int32, y73 = v7 + 1 → (wX9_play_b63 x1 x2 K38 Q n v3 (1 : Int32) v5 v6 y73 μ))) ∧ (v4 = 0 → (wX9_isThere x1 v7 v6 μ (fun r74 u75 => (r74 = 0 → (∀ y76 : Int32, y76 = v7 + 1 → (wX9_play_b63 x1 x2 K38 Q n v3 (0 : Int32) v5 v6 y76 u75))) ∧ (¬ r74 = 0 → (∀ y77 : Int32, y77 = v7 + 1 → (wX9_play_b63 x1 x2 K38 Q n v3 (1 : Int32) v5 v6 y77 u75))))))))) := rfl
def wX9_play_b38 (x1 : Int32) (x2 : Int32) (Q : Int32 → MS → Prop) : Nat → Int32 → Int32 → Int32 → MS → Prop
  | 0, _, _, _, _ => False
  | n + 1, v3, v4, v5, μ =>
    (x2 ≤ v5 → wX9_told v3 μ (fun r63 u64 => Q r63 u64)) ∧ (¬ x2 ≤ v5 → ((v4 = 0 → wX9_told v3 μ (fun r65 u66 => Q r65 u66)) ∧ (¬ v4 = 0 → (vp_in x1 8 ∧ (∀ y67 : Int32, y67 = (mHeads μ x1.toNatClampNeg) → (∃ k63 : Nat, wX9_play_b63 x1 x2 (wX9_play_b38 x1 x2 Q n) Q k63 v3 (0 : Int32) v5 y67 (0 : Int32) μ))))))
theorem wX9_play_b38_s (x1 : Int32) (x2 : Int32) (Q : Int32 → MS → Prop) (n : Nat) (v3 : Int32) (v4 : Int32) (v5 : Int32) (μ : MS) : wX9_play_b38 x1 x2 Q (n + 1) v3 v4 v5 μ = (
    (x2 ≤ v5 → wX9_told v3 μ (fun r63 u64 => Q r63 u64)) ∧ (¬ x2 ≤ v5 → ((v4 = 0 → wX9_told v3 μ (fun r65 u66 => Q r65 u66)) ∧ (¬ v4 = 0 → (vp_in x1 8 ∧ (∀ y67 : Int32, y67 = (mHeads μ x1.toNatClampNeg) → (∃ k63 : Nat, wX9_play_b63 x1 x2 (wX9_play_b38 x1 x2 Q n) Q k63 v3 (0 : Int32) v5 y67 (0 : Int32) μ))))))) := rfl
def wX9_play (x1 : Int32) (x2 : Int32) (μ : MS) (Q : Int32 → MS → Prop) : Prop :=
    wX9_isDrum x1 μ (fun r59 u60 => (¬ r59 = 0 → (wX9_in x2 (0 : Int32) (20 : Int32) u60 (fun r61 u62 => (¬ r61 = 0 → (∃ k38 : Nat, wX9_play_b38 x1 x2 Q k38 (0 : Int32) (1 : Int32) (0 : Int32) u62)) ∧ (r61 = 0 → wX9_told (-4 : Int32) u62 (fun r78 u79 => Q r78 u79))))) ∧ (r59 = 0 → wX9_told (-1 : Int32) u60 (fun r80 u81 => Q r80 u81)))
set_option maxHeartbeats 4000000 in
set_option maxRecDepth 100000 in
theorem tX9_play (l : Launch) (D : va_G) (d : AC) (mp : Nat → Nat) (x1 : Int32) (x2 : Int32) (μ : MS) {Q : Int32 → MS → Prop} (hq : wX9_play x1 x2 μ Q) : MT D d (ΩM D d mp) l yX9_play (WS yX9_play cX9_play 8 (some (.int))) rmX9_play [.ref (mp 0), .int x1, .int x2] μ (qI Q) := by
  refine mt_of (ΩM.mono D d mp) (by decide +kernel) (Nat.le_of_ble_eq_true rfl) (fun p e s m below meth c A ls hx hb hr hml hown hts hlocks hnm hK hA hw hS hl => ?_)
  have hl : lv_has ls 8 [(0, .ref (mp 0)), (1, .int x1), (2, .int x2)] := hl
  have hown : s.vm.findClass RX9 = some m.cls := hown
  have b123 : ∀ (K38 : Int32 → Int32 → Int32 → MS → Prop) (hK38 : ∀ (v3 : Int32) (v4 : Int32) (v5 : Int32) (μ : MS) (H : Heap) (locs : List Loc) (ls : Array Slot), K38 v3 v4 v5 μ → (ΩM D d mp) A μ H → va_S A s.heap H locs → lv_has ls 8 [(0, .ref (mp 0)), (1, .int x1), (2, .int x2), (3, .int v3), (4, .int v4), (5, .int v5)] → W p l e rmX9_play s m [.ref (mp 0), .int x1, .int x2].toArray below meth c H locs 0 0 (MQ below (Qo (qI Q) (fun u' t => (ΩM D d mp) A u' t.heap) A) [.ref (mp 0), .int x1, .int x2].toArray s rmX9_play.cells rmX9_play.slots A) (F0 m 38 ls [])) (v3 : Int32) (v4 : Int32) (v5 : Int32) (v6 : Int32) (v7 : Int32) (t0 : Int32) (t1 : Int32) (μ : MS) (H : Heap) (locs : List Loc) (ls : Array Slot), wX9_play_b123 x1 x2 K38 Q v3 v4 v5 v6 v7 t0 t1 μ → (ΩM D d mp) A μ H → va_S A s.heap H locs → lv_has ls 8 [(0, .ref (mp 0)), (1, .int x1), (2, .int x2), (3, .int v3), (4, .int v4), (5, .int v5), (6, .int v6), (7, .int v7)] → W p l e rmX9_play s m [.ref (mp 0), .int x1, .int x2].toArray below meth c H locs 0 0 (MQ below (Qo (qI Q) (fun u' t => (ΩM D d mp) A u' t.heap) A) [.ref (mp 0), .int x1, .int x2].toArray s rmX9_play.cells rmX9_play.slots A) (F0 m 123 ls [.int t0, .int t1]) := by
    intro K38 hK38 v3 v4 v5 v6 v7 t0 t1 μ H locs ls hq hw hS hl
    unfold wX9_play_b123 at hq
    refine lv_iadd hx hb dX9_play_123 ?_
    refine lv_topi (fun y70 ey70 => ?_)
    replace hq := hq y70 ey70
    refine lv_istore_n (lv' := [(3, .int y70), (0, .ref (mp 0)), (1, .int x1), (2, .int x2), (4, .int v4), (5, .int v5), (6, .int v6), (7, .int v7)]) hx hb dX9_play_124 rfl hl (by decide) rfl (fun ls hl => ?_)
    refine lv_aload_n hx hb dX9_play_125 rfl (lv_at hl 1 rfl) ?_
    refine va_get (D := D) (ci := 8) (v := .ref (mp 8)) (C := RX9) (T := TX9) (N := 15) hx hb hts inX9 hown hK.1 hw.1 0 rfl rfl 7 (by decide) (hts _ q_468) (fun _ h9 => h9) rfl dX9_play_126 ?_
    refine lv_iload_n hx hb dX9_play_129 rfl (lv_at hl 2 rfl) ?_
    refine lv_dup2_11 hx hb dX9_play_130 rfl rfl ?_
    refine va_iald hx hb hK.1 hw.1 8 8 rfl rfl hq.1 dX9_play_131 ?_
    replace hq := hq.2
    refine lv_iconst (v := 1) hx hb dX9_play_132 (by decide) ?_
    refine lv_iadd hx hb dX9_play_133 ?_
    refine va_iast hx hb hK.1 hw.1 hw.2 hS 8 8 rfl rfl hq.1 dX9_play_134 (fun H locs hP hD hS => ?_)
    have hw : ΩM D d mp A (nHeads μ (upd (mHeads μ) x1.toNatClampNeg ((mHeads μ x1.toNatClampNeg) + (1 : Int32)))) H := ⟨hP, hD⟩
    replace hq := hq.2
    obtain ⟨y71, ey71⟩ : ∃ z : Int32, z = v5 + 1 := ⟨_, rfl⟩
    replace hq := hq y71 ey71
    refine lv_iinc (v := y71) (lv' := [(5, .int y71), (3, .int y70), (0, .ref (mp 0)), (1, .int x1), (2, .int x2), (4, .int v4), (6, .int v6), (7, .int v7)]) hx hb dX9_play_135 hl (k := 5) rfl (by rw [ey71]; rfl) (by decide) rfl (fun ls hl => ?_)
    refine lv_goto (tgt := 38) hx hb dX9_play_138 (by decide) ?_
    exact hK38 y70 v4 y71 (nHeads μ (upd (mHeads μ) x1.toNatClampNeg ((mHeads μ x1.toNatClampNeg) + (1 : Int32)))) _ _ _ hq hw hS (lv_sub hl [2, 3, 4, 1, 5, 0] rfl)
  have b63 : ∀ (K38 : Int32 → Int32 → Int32 → MS → Prop) (hK38 : ∀ (v3 : Int32) (v4 : Int32) (v5 : Int32) (μ : MS) (H : Heap) (locs : List Loc) (ls : Array Slot), K38 v3 v4 v5 μ → (ΩM D d mp) A μ H → va_S A s.heap H locs → lv_has ls 8 [(0, .ref (mp 0)), (1, .int x1), (2, .int x2), (3, .int v3), (4, .int v4), (5, .int v5)] → W p l e rmX9_play s m [.ref (mp 0), .int x1, .int x2].toArray below meth c H locs 0 0 (MQ below (Qo (qI Q) (fun u' t => (ΩM D d mp) A u' t.heap) A) [.ref (mp 0), .int x1, .int x2].toArray s rmX9_play.cells rmX9_play.slots A) (F0 m 38 ls [])) (n : Nat) (v3 : Int32) (v4 : Int32) (v5 : Int32) (v6 : Int32) (v7 : Int32) (μ : MS) (H : Heap) (locs : List Loc) (ls : Array Slot), wX9_play_b63 x1 x2 K38 Q n v3 v4 v5 v6 v7 μ → (ΩM D d mp) A μ H → va_S A s.heap H locs → lv_has ls 8 [(0, .ref (mp 0)), (1, .int x1), (2, .int x2), (3, .int v3), (4, .int v4), (5, .int v5), (6, .int v6), (7, .int v7)] → W p l e rmX9_play s m [.ref (mp 0), .int x1, .int x2].toArray below meth c H locs 0 0 (MQ below (Qo (qI Q) (fun u' t => (ΩM D d mp) A u' t.heap) A) [.ref (mp 0), .int x1, .int x2].toArray s rmX9_play.cells rmX9_play.slots A) (F0 m 63 ls []) := by
    intro K38 hK38 n
    induction n with
    | zero =>
      intro v3 v4 v5 v6 v7 μ H locs ls hq
      exact absurd hq id
    | succ n ih =>
      intro v3 v4 v5 v6 v7 μ H locs ls hq hw hS hl
      rw [wX9_play_b63_s] at hq
      refine lv_iload hx hb dX9_play_63 (lv_at hl 7 rfl) ?_
      refine lv_iconst (v := 5) hx hb dX9_play_65 (by decide) ?_
      refine lv_icmp_ge (tgt := 99) hx hb dX9_play_66 (by decide) (fun hc => ?_) (fun hc => ?_)
      · replace hq := hq.1 hc
        refine lv_iload hx hb dX9_play_99 (lv_at hl 4 rfl) ?_
        refine lv_if_ne (tgt := 107) hx hb dX9_play_101 (by decide) (fun hc => ?_) (fun hc => ?_)
        · replace hq := hq.1 hc
          refine lv_iload_n hx hb dX9_play_107 rfl (lv_at hl 3 rfl) ?_
          refine lv_aload_n hx hb dX9_play_108 rfl (lv_at hl 0 rfl) ?_
          refine lv_iload_n hx hb dX9_play_109 rfl (lv_at hl 1 rfl) ?_
          refine lv_iload hx hb dX9_play_110 (lv_at hl 6 rfl) ?_
          refine mt_callV (index := 124) hx hb hml hown hts hK (ΩM.mono D d mp) hA hw hS hl.1 (tX9_sounds l D d mp x1 v6 μ hq) (ΩM.recv hK hw) q_612 q_34 q_609 q_611 q_25 nmhX9_sounds ⟨⟨Nat.le_of_ble_eq_true rfl, Nat.le_of_ble_eq_true rfl⟩, ⟨Nat.le_of_ble_eq_true rfl, Nat.le_of_ble_eq_true rfl⟩⟩ rfl (Nat.le_of_ble_eq_true rfl) dX9_play_112 (fun _ u69 H locs hq hw hS => ?_)
          obtain ⟨r68, rfl, hzr68, hq⟩ := hq
          refine W.eq (g2 := F0 m 115 ls [.int r68, .int v3]) rfl ?_
          refine lv_if_eq (tgt := 122) hx hb dX9_play_115 (by decide) (fun hc => ?_) (fun hc => ?_)
          · replace hq := hq.1 hc
            refine lv_iconst (v := 0) hx hb dX9_play_122 (by decide) ?_
            exact b123 K38 hK38 v3 v4 v5 v6 v7 (0 : Int32) v3 u69 _ _ _ hq hw hS (lv_sub hl [0, 1, 2, 3, 4, 5, 6, 7] rfl)
          · replace hq := hq.2 hc
            refine lv_iconst (v := 1) hx hb dX9_play_118 (by decide) ?_
            refine lv_goto (tgt := 123) hx hb dX9_play_119 (by decide) ?_
            exact b123 K38 hK38 v3 v4 v5 v6 v7 (1 : Int32) v3 u69 _ _ _ hq hw hS (lv_sub hl [0, 1, 2, 3, 4, 5, 6, 7] rfl)
        · replace hq := hq.2 hc
          refine lv_goto (tgt := 135) hx hb dX9_play_104 (by decide) ?_
          obtain ⟨y72, ey72⟩ : ∃ z : Int32, z = v5 + 1 := ⟨_, rfl⟩
          replace hq := hq y72 ey72
          refine lv_iinc (v := y72) (lv' := [(5, .int y72), (0, .ref (mp 0)), (1, .int x1), (2, .int x2), (3, .int v3), (4, .int v4), (6, .int v6), (7, .int v7)]) hx hb dX9_play_135 hl (k := 5) rfl (by rw [ey72]; rfl) (by decide) rfl (fun ls hl => ?_)
          refine lv_goto (tgt := 38) hx hb dX9_play_138 (by decide) ?_
          exact hK38 v3 v4 y72 μ _ _ _ hq hw hS (lv_sub hl [1, 2, 3, 4, 5, 0] rfl)
      · replace hq := hq.2 hc
        refine lv_iload hx hb dX9_play_69 (lv_at hl 4 rfl) ?_
        refine lv_if_ne (tgt := 86) hx hb dX9_play_71 (by decide) (fun hc => ?_) (fun hc => ?_)
        · replace hq := hq.1 hc
          refine lv_iconst (v := 1) hx hb dX9_play_86 (by decide) ?_
          refine lv_goto (tgt := 91) hx hb dX9_play_87 (by decide) ?_
          refine lv_istore (lv' := [(4, .int (1 : Int32)), (0, .ref (mp 0)), (1, .int x1), (2, .int x2), (3, .int v3), (5, .int v5), (6, .int v6), (7, .int v7)]) hx hb dX9_play_91 hl (by decide) rfl (fun ls hl => ?_)
          obtain ⟨y73, ey73⟩ : ∃ z : Int32, z = v7 + 1 := ⟨_, rfl⟩
          replace hq := hq y73 ey73
          refine lv_iinc (v := y73) (lv' := [(7, .int y73), (4, .int (1 : Int32)), (0, .ref (mp 0)), (1, .int x1), (2, .int x2), (3, .int v3), (5, .int v5), (6, .int v6)]) hx hb dX9_play_93 hl (k := 7) rfl (by rw [ey73]; rfl) (by decide) rfl (fun ls hl => ?_)
          refine lv_goto (tgt := 63) hx hb dX9_play_96 (by decide) ?_
          exact ih v3 (1 : Int32) v5 v6 y73 μ _ _ _ hq hw hS (lv_sub hl [2, 3, 4, 5, 1, 6, 7, 0] rfl)
        · replace hq := hq.2 hc
          refine lv_aload_n hx hb dX9_play_74 rfl (lv_at hl 0 rfl) ?_
          refine lv_iload_n hx hb dX9_play_75 rfl (lv_at hl 1 rfl) ?_
          refine lv_iload hx hb dX9_play_76 (lv_at hl 7 rfl) ?_
          refine lv_iload hx hb dX9_play_78 (lv_at hl 6 rfl) ?_
          refine mt_callV (index := 117) hx hb hml hown hts hK (ΩM.mono D d mp) hA hw hS hl.1 (tX9_isThere l D d mp x1 v7 v6 μ hq) (ΩM.recv hK hw) q_608 q_34 q_605 q_607 q_24 nmhX9_isThere ⟨⟨Nat.le_of_ble_eq_true rfl, Nat.le_of_ble_eq_true rfl⟩, ⟨Nat.le_of_ble_eq_true rfl, Nat.le_of_ble_eq_true rfl⟩⟩ rfl (Nat.le_of_ble_eq_true rfl) dX9_play_80 (fun _ u75 H locs hq hw hS => ?_)
          obtain ⟨r74, rfl, hzr74, hq⟩ := hq
          refine W.eq (g2 := F0 m 83 ls [.int r74]) rfl ?_
          refine lv_if_eq (tgt := 90) hx hb dX9_play_83 (by decide) (fun hc => ?_) (fun hc => ?_)
          · replace hq := hq.1 hc
            refine lv_iconst (v := 0) hx hb dX9_play_90 (by decide) ?_
            refine lv_istore (lv' := [(4, .int (0 : Int32)), (0, .ref (mp 0)), (1, .int x1), (2, .int x2), (3, .int v3), (5, .int v5), (6, .int v6), (7, .int v7)]) hx hb dX9_play_91 hl (by decide) rfl (fun ls hl => ?_)
            obtain ⟨y76, ey76⟩ : ∃ z : Int32, z = v7 + 1 := ⟨_, rfl⟩
            replace hq := hq y76 ey76
            refine lv_iinc (v := y76) (lv' := [(7, .int y76), (4, .int (0 : Int32)), (0, .ref (mp 0)), (1, .int x1), (2, .int x2), (3, .int v3), (5, .int v5), (6, .int v6)]) hx hb dX9_play_93 hl (k := 7) rfl (by rw [ey76]; rfl) (by decide) rfl (fun ls hl => ?_)
            refine lv_goto (tgt := 63) hx hb dX9_play_96 (by decide) ?_
            exact ih v3 (0 : Int32) v5 v6 y76 u75 _ _ _ hq hw hS (lv_sub hl [2, 3, 4, 5, 1, 6, 7, 0] rfl)
          · replace hq := hq.2 hc
            refine lv_iconst (v := 1) hx hb dX9_play_86 (by decide) ?_
            refine lv_goto (tgt := 91) hx hb dX9_play_87 (by decide) ?_
            refine lv_istore (lv' := [(4, .int (1 : Int32)), (0, .ref (mp 0)), (1, .int x1), (2, .int x2), (3, .int v3), (5, .int v5), (6, .int v6), (7, .int v7)]) hx hb dX9_play_91 hl (by decide) rfl (fun ls hl => ?_)
            obtain ⟨y77, ey77⟩ : ∃ z : Int32, z = v7 + 1 := ⟨_, rfl⟩
            replace hq := hq y77 ey77
            refine lv_iinc (v := y77) (lv' := [(7, .int y77), (4, .int (1 : Int32)), (0, .ref (mp 0)), (1, .int x1), (2, .int x2), (3, .int v3), (5, .int v5), (6, .int v6)]) hx hb dX9_play_93 hl (k := 7) rfl (by rw [ey77]; rfl) (by decide) rfl (fun ls hl => ?_)
            refine lv_goto (tgt := 63) hx hb dX9_play_96 (by decide) ?_
            exact ih v3 (1 : Int32) v5 v6 y77 u75 _ _ _ hq hw hS (lv_sub hl [2, 3, 4, 5, 1, 6, 7, 0] rfl)
  have b38 : ∀ (n : Nat) (v3 : Int32) (v4 : Int32) (v5 : Int32) (μ : MS) (H : Heap) (locs : List Loc) (ls : Array Slot), wX9_play_b38 x1 x2 Q n v3 v4 v5 μ → (ΩM D d mp) A μ H → va_S A s.heap H locs → lv_has ls 8 [(0, .ref (mp 0)), (1, .int x1), (2, .int x2), (3, .int v3), (4, .int v4), (5, .int v5)] → W p l e rmX9_play s m [.ref (mp 0), .int x1, .int x2].toArray below meth c H locs 0 0 (MQ below (Qo (qI Q) (fun u' t => (ΩM D d mp) A u' t.heap) A) [.ref (mp 0), .int x1, .int x2].toArray s rmX9_play.cells rmX9_play.slots A) (F0 m 38 ls []) := by
    intro n
    induction n with
    | zero =>
      intro v3 v4 v5 μ H locs ls hq
      exact absurd hq id
    | succ n ih =>
      intro v3 v4 v5 μ H locs ls hq hw hS hl
      rw [wX9_play_b38_s] at hq
      refine lv_iload hx hb dX9_play_38 (lv_at hl 5 rfl) ?_
      refine lv_iload_n hx hb dX9_play_40 rfl (lv_at hl 2 rfl) ?_
      refine lv_icmp_ge (tgt := 141) hx hb dX9_play_41 (by decide) (fun hc => ?_) (fun hc => ?_)
      · replace hq := hq.1 hc
        refine lv_aload_n hx hb dX9_play_141 rfl (lv_at hl 0 rfl) ?_
        refine lv_iload_n hx hb dX9_play_142 rfl (lv_at hl 3 rfl) ?_
        refine mt_callV (index := 96) hx hb hml hown hts hK (ΩM.mono D d mp) hA hw hS hl.1 (tX9_told l D d mp v3 μ hq) (ΩM.recv hK hw) q_525 q_34 q_522 q_524 q_17 nmhX9_told ⟨⟨Nat.le_of_ble_eq_true rfl, Nat.le_of_ble_eq_true rfl⟩, ⟨Nat.le_of_ble_eq_true rfl, Nat.le_of_ble_eq_true rfl⟩⟩ rfl (Nat.le_of_ble_eq_true rfl) dX9_play_143 (fun _ u64 H locs hq hw hS => ?_)
        obtain ⟨r63, rfl, hq⟩ := hq
        refine W.eq (g2 := F0 m 146 ls [.int r63]) rfl ?_
        exact mt_reti hx hb hr hlocks hw hS (Nat.le_of_ble_eq_true rfl) (Nat.le_of_ble_eq_true rfl) dX9_play_146 ⟨_, rfl, hq⟩
      · replace hq := hq.2 hc
        refine lv_iload hx hb dX9_play_44 (lv_at hl 4 rfl) ?_
        refine lv_if_eq (tgt := 141) hx hb dX9_play_46 (by decide) (fun hc => ?_) (fun hc => ?_)
        · replace hq := hq.1 hc
          refine lv_aload_n hx hb dX9_play_141 rfl (lv_at hl 0 rfl) ?_
          refine lv_iload_n hx hb dX9_play_142 rfl (lv_at hl 3 rfl) ?_
          refine mt_callV (index := 96) hx hb hml hown hts hK (ΩM.mono D d mp) hA hw hS hl.1 (tX9_told l D d mp v3 μ hq) (ΩM.recv hK hw) q_525 q_34 q_522 q_524 q_17 nmhX9_told ⟨⟨Nat.le_of_ble_eq_true rfl, Nat.le_of_ble_eq_true rfl⟩, ⟨Nat.le_of_ble_eq_true rfl, Nat.le_of_ble_eq_true rfl⟩⟩ rfl (Nat.le_of_ble_eq_true rfl) dX9_play_143 (fun _ u66 H locs hq hw hS => ?_)
          obtain ⟨r65, rfl, hq⟩ := hq
          refine W.eq (g2 := F0 m 146 ls [.int r65]) rfl ?_
          exact mt_reti hx hb hr hlocks hw hS (Nat.le_of_ble_eq_true rfl) (Nat.le_of_ble_eq_true rfl) dX9_play_146 ⟨_, rfl, hq⟩
        · replace hq := hq.2 hc
          refine lv_aload_n hx hb dX9_play_49 rfl (lv_at hl 0 rfl) ?_
          refine va_get (D := D) (ci := 8) (v := .ref (mp 8)) (C := RX9) (T := TX9) (N := 15) hx hb hts inX9 hown hK.1 hw.1 0 rfl rfl 7 (by decide) (hts _ q_468) (fun _ h9 => h9) rfl dX9_play_50 ?_
          refine lv_iload_n hx hb dX9_play_53 rfl (lv_at hl 1 rfl) ?_
          refine va_iald hx hb hK.1 hw.1 8 8 rfl rfl hq.1 dX9_play_54 ?_
          replace hq := hq.2
          refine lv_topi (fun y67 ey67 => ?_)
          replace hq := hq y67 ey67
          refine lv_istore (lv' := [(6, .int y67), (0, .ref (mp 0)), (1, .int x1), (2, .int x2), (3, .int v3), (4, .int v4), (5, .int v5)]) hx hb dX9_play_55 hl (by decide) rfl (fun ls hl => ?_)
          refine lv_iconst (v := 0) hx hb dX9_play_57 (by decide) ?_
          refine lv_istore (lv' := [(4, .int (0 : Int32)), (6, .int y67), (0, .ref (mp 0)), (1, .int x1), (2, .int x2), (3, .int v3), (5, .int v5)]) hx hb dX9_play_58 hl (by decide) rfl (fun ls hl => ?_)
          refine lv_iconst (v := 0) hx hb dX9_play_60 (by decide) ?_
          refine lv_istore (lv' := [(7, .int (0 : Int32)), (4, .int (0 : Int32)), (6, .int y67), (0, .ref (mp 0)), (1, .int x1), (2, .int x2), (3, .int v3), (5, .int v5)]) hx hb dX9_play_61 hl (by decide) rfl (fun ls hl => ?_)
          obtain ⟨k63, hq⟩ := hq
          exact b63 (wX9_play_b38 x1 x2 Q n) ih k63 v3 (0 : Int32) v5 y67 (0 : Int32) μ _ _ _ hq hw hS (lv_sub hl [3, 4, 5, 6, 1, 7, 2, 0] rfl)
  unfold wX9_play at hq
  refine lv_iload_n hx hb dX9_play_0 rfl (lv_at hl 1 rfl) ?_
  refine mt_callS (index := 90) hx hb hml hown hts hK (ΩM.mono D d mp) hA hw hS hl.1 (tX9_isDrum l D d mp x1 μ hq) q_515 q_34 q_513 q_514 nmhX9_isDrum ⟨⟨Nat.le_of_ble_eq_true rfl, Nat.le_of_ble_eq_true rfl⟩, ⟨Nat.le_of_ble_eq_true rfl, Nat.le_of_ble_eq_true rfl⟩⟩ rfl (Nat.le_of_ble_eq_true rfl) dX9_play_1 (fun _ u60 H locs hq hw hS => ?_)
  obtain ⟨r59, rfl, hzr59, hq⟩ := hq
  refine W.eq (g2 := F0 m 4 ls [.int r59]) rfl ?_
  refine lv_if_ne (tgt := 13) hx hb dX9_play_4 (by decide) (fun hc => ?_) (fun hc => ?_)
  · replace hq := hq.1 hc
    refine lv_iload_n hx hb dX9_play_13 rfl (lv_at hl 2 rfl) ?_
    refine lv_iconst (v := 0) hx hb dX9_play_14 (by decide) ?_
    refine lv_bipush (v := 20) hx hb dX9_play_15 (by decide) ?_
    refine mt_callS (index := 58) hx hb hml hown hts hK (ΩM.mono D d mp) hA hw hS hl.1 (tX9_in l D d mp x2 (0 : Int32) (20 : Int32) u60 hq) q_518 q_34 q_516 q_517 nmhX9_in ⟨⟨Nat.le_of_ble_eq_true rfl, Nat.le_of_ble_eq_true rfl⟩, ⟨Nat.le_of_ble_eq_true rfl, Nat.le_of_ble_eq_true rfl⟩⟩ rfl (Nat.le_of_ble_eq_true rfl) dX9_play_17 (fun _ u62 H locs hq hw hS => ?_)
    obtain ⟨r61, rfl, hzr61, hq⟩ := hq
    refine W.eq (g2 := F0 m 20 ls [.int r61]) rfl ?_
    refine lv_if_ne (tgt := 30) hx hb dX9_play_20 (by decide) (fun hc => ?_) (fun hc => ?_)
    · replace hq := hq.1 hc
      refine lv_iconst (v := 0) hx hb dX9_play_30 (by decide) ?_
      refine lv_istore_n (lv' := [(3, .int (0 : Int32)), (0, .ref (mp 0)), (1, .int x1), (2, .int x2)]) hx hb dX9_play_31 rfl hl (by decide) rfl (fun ls hl => ?_)
      refine lv_iconst (v := 1) hx hb dX9_play_32 (by decide) ?_
      refine lv_istore (lv' := [(4, .int (1 : Int32)), (3, .int (0 : Int32)), (0, .ref (mp 0)), (1, .int x1), (2, .int x2)]) hx hb dX9_play_33 hl (by decide) rfl (fun ls hl => ?_)
      refine lv_iconst (v := 0) hx hb dX9_play_35 (by decide) ?_
      refine lv_istore (lv' := [(5, .int (0 : Int32)), (4, .int (1 : Int32)), (3, .int (0 : Int32)), (0, .ref (mp 0)), (1, .int x1), (2, .int x2)]) hx hb dX9_play_36 hl (by decide) rfl (fun ls hl => ?_)
      obtain ⟨k38, hq⟩ := hq
      exact b38 k38 (0 : Int32) (1 : Int32) (0 : Int32) u62 _ _ _ hq hw hS (lv_sub hl [3, 4, 5, 2, 1, 0] rfl)
    · replace hq := hq.2 hc
      refine lv_aload_n hx hb dX9_play_23 rfl (lv_at hl 0 rfl) ?_
      refine lv_bipush (v := -4) hx hb dX9_play_24 (by decide) ?_
      refine mt_callV (index := 96) hx hb hml hown hts hK (ΩM.mono D d mp) hA hw hS hl.1 (tX9_told l D d mp (-4 : Int32) u62 hq) (ΩM.recv hK hw) q_525 q_34 q_522 q_524 q_17 nmhX9_told ⟨⟨Nat.le_of_ble_eq_true rfl, Nat.le_of_ble_eq_true rfl⟩, ⟨Nat.le_of_ble_eq_true rfl, Nat.le_of_ble_eq_true rfl⟩⟩ rfl (Nat.le_of_ble_eq_true rfl) dX9_play_26 (fun _ u79 H locs hq hw hS => ?_)
      obtain ⟨r78, rfl, hq⟩ := hq
      refine W.eq (g2 := F0 m 29 ls [.int r78]) rfl ?_
      exact mt_reti hx hb hr hlocks hw hS (Nat.le_of_ble_eq_true rfl) (Nat.le_of_ble_eq_true rfl) dX9_play_29 ⟨_, rfl, hq⟩
  · replace hq := hq.2 hc
    refine lv_aload_n hx hb dX9_play_7 rfl (lv_at hl 0 rfl) ?_
    refine lv_iconst (v := -1) hx hb dX9_play_8 (by decide) ?_
    refine mt_callV (index := 96) hx hb hml hown hts hK (ΩM.mono D d mp) hA hw hS hl.1 (tX9_told l D d mp (-1 : Int32) u60 hq) (ΩM.recv hK hw) q_525 q_34 q_522 q_524 q_17 nmhX9_told ⟨⟨Nat.le_of_ble_eq_true rfl, Nat.le_of_ble_eq_true rfl⟩, ⟨Nat.le_of_ble_eq_true rfl, Nat.le_of_ble_eq_true rfl⟩⟩ rfl (Nat.le_of_ble_eq_true rfl) dX9_play_9 (fun _ u81 H locs hq hw hS => ?_)
    obtain ⟨r80, rfl, hq⟩ := hq
    refine W.eq (g2 := F0 m 12 ls [.int r80]) rfl ?_
    exact mt_reti hx hb hr hlocks hw hS (Nat.le_of_ble_eq_true rfl) (Nat.le_of_ble_eq_true rfl) dX9_play_12 ⟨_, rfl, hq⟩
abbrev rmX9_heard : Room := { frames := 2, cells := 0, slots := 0, locals := 42 }
theorem nmhX9_heard : NoMH yX9_heard 2 := by decide +kernel
def wX9_heard (x1 : Int32) (x2 : Int32) (μ : MS) (Q : Int64 → MS → Prop) : Prop :=
    wX9_isDrum x1 μ (fun r5 u6 => (r5 = 0 → (Q (0 : Int64) (nState u6 (-1 : Int32)))) ∧ (¬ r5 = 0 → (wX9_in x2 (0 : Int32) (6 : Int32) u6 (fun r7 u8 => (¬ r7 = 0 → ((x2.toInt < 0 ∨ 5 < x2.toInt → (vp_in x1 8 ∧ (Q ((mHeads (nState u8 (0 : Int32)) x1.toNatClampNeg).toInt64) (nState u8 (0 : Int32))))) ∧ (x2.toInt = 0 → (vp_in x1 8 ∧ (Q ((mNotes (nState u8 (0 : Int32)) x1.toNatClampNeg).toInt64) (nState u8 (0 : Int32))))) ∧ (x2.toInt = 1 → (vp_in x1 8 ∧ (Q ((mPlayed (nState u8 (0 : Int32)) x1.toNatClampNeg).toInt64) (nState u8 (0 : Int32))))) ∧ (x2.toInt = 2 → (vp_in x1 8 ∧ (Q ((mGaps (nState u8 (0 : Int32)) x1.toNatClampNeg).toInt64) (nState u8 (0 : Int32))))) ∧ (x2.toInt = 3 → (vp_in x1 8 ∧ (Q (mWts (nState u8 (0 : Int32)) x1.toNatClampNeg) (nState u8 (0 : Int32))))) ∧ (x2.toInt = 4 → (vp_in x1 8 ∧ ((¬ (mNotes (nState u8 (0 : Int32)) x1.toNatClampNeg) = 0 → (vp_in x1 8 ∧ (Q ((mHigh (nState u8 (0 : Int32)) x1.toNatClampNeg).toInt64) (nState u8 (0 : Int32))))) ∧ ((mNotes (nState u8 (0 : Int32)) x1.toNatClampNeg) = 0 → (Q (0 : Int64) (nState u8 (0 : Int32))))))) ∧ (x2.toInt = 5 → (vp_in x1 8 ∧ ((¬ (mNotes (nState u8 (0 : Int32)) x1.toNatClampNeg) = 0 → (vp_in x1 8 ∧ (Q ((mLoud (nState u8 (0 : Int32)) x1.toNatClampNeg).toInt64) (nState u8 (0 : Int32))))) ∧ ((mNotes (nState u8 (0 : Int32)) x1.toNatClampNeg) = 0 → (Q (0 : Int64) (nState u8 (0 : Int32))))))))) ∧ (r7 = 0 → (Q (0 : Int64) (nState u8 (-1 : Int32))))))))
set_option maxHeartbeats 4000000 in
set_option maxRecDepth 100000 in
theorem tX9_heard (l : Launch) (D : va_G) (d : AC) (mp : Nat → Nat) (x1 : Int32) (x2 : Int32) (μ : MS) {Q : Int64 → MS → Prop} (hq : wX9_heard x1 x2 μ Q) : MT D d (ΩM D d mp) l yX9_heard (WS yX9_heard cX9_heard 3 (some (.long))) rmX9_heard [.ref (mp 0), .int x1, .int x2] μ (qL Q) := by
  refine mt_of (ΩM.mono D d mp) (by decide +kernel) (Nat.le_of_ble_eq_true rfl) (fun p e s m below meth c A ls hx hb hr hml hown hts hlocks hnm hK hA hw hS hl => ?_)
  have hl : lv_has ls 3 [(0, .ref (mp 0)), (1, .int x1), (2, .int x2)] := hl
  have hown : s.vm.findClass RX9 = some m.cls := hown
  unfold wX9_heard at hq
  refine lv_iload_n hx hb dX9_heard_0 rfl (lv_at hl 1 rfl) ?_
  refine mt_callS (index := 90) hx hb hml hown hts hK (ΩM.mono D d mp) hA hw hS hl.1 (tX9_isDrum l D d mp x1 μ hq) q_515 q_34 q_513 q_514 nmhX9_isDrum ⟨⟨Nat.le_of_ble_eq_true rfl, Nat.le_of_ble_eq_true rfl⟩, ⟨Nat.le_of_ble_eq_true rfl, Nat.le_of_ble_eq_true rfl⟩⟩ rfl (Nat.le_of_ble_eq_true rfl) dX9_heard_1 (fun _ u6 H locs hq hw hS => ?_)
  obtain ⟨r5, rfl, hzr5, hq⟩ := hq
  refine W.eq (g2 := F0 m 4 ls [.int r5]) rfl ?_
  refine lv_if_eq (tgt := 17) hx hb dX9_heard_4 (by decide) (fun hc => ?_) (fun hc => ?_)
  · replace hq := hq.1 hc
    refine lv_aload_n hx hb dX9_heard_17 rfl (lv_at hl 0 rfl) ?_
    refine lv_iconst (v := -1) hx hb dX9_heard_18 (by decide) ?_
    refine va_put (D := D) (ci := 8) (v := .int (-1 : Int32)) (ty := .int) (C := RX9) (T := TX9) (N := 15) hx hb hts inX9 tyX9 tyX9_ok nmX9 hown hK.1 hw.1 hw.2 hS 0 rfl rfl 14 (by decide) (hts _ q_475) (fun _ h9 => h9) rfl (by decide +kernel) rfl rfl (Nat.le_of_ble_eq_true rfl) dX9_heard_19 (fun H locs hP hD hS => ?_)
    have hw : ΩM D d mp A (nState u6 (-1 : Int32)) H := ⟨hP, hD⟩
    refine lv_lconst (v := 0) hx hb dX9_heard_22 (by decide) ?_
    exact mt_retl hx hb hr hlocks hw hS (Nat.le_of_ble_eq_true rfl) (Nat.le_of_ble_eq_true rfl) dX9_heard_23 ⟨_, rfl, hq⟩
  · replace hq := hq.2 hc
    refine lv_iload_n hx hb dX9_heard_7 rfl (lv_at hl 2 rfl) ?_
    refine lv_iconst (v := 0) hx hb dX9_heard_8 (by decide) ?_
    refine lv_bipush (v := 6) hx hb dX9_heard_9 (by decide) ?_
    refine mt_callS (index := 58) hx hb hml hown hts hK (ΩM.mono D d mp) hA hw hS hl.1 (tX9_in l D d mp x2 (0 : Int32) (6 : Int32) u6 hq) q_518 q_34 q_516 q_517 nmhX9_in ⟨⟨Nat.le_of_ble_eq_true rfl, Nat.le_of_ble_eq_true rfl⟩, ⟨Nat.le_of_ble_eq_true rfl, Nat.le_of_ble_eq_true rfl⟩⟩ rfl (Nat.le_of_ble_eq_true rfl) dX9_heard_11 (fun _ u8 H locs hq hw hS => ?_)
    obtain ⟨r7, rfl, hzr7, hq⟩ := hq
    refine W.eq (g2 := F0 m 14 ls [.int r7]) rfl ?_
    refine lv_if_ne (tgt := 24) hx hb dX9_heard_14 (by decide) (fun hc => ?_) (fun hc => ?_)
    · replace hq := hq.1 hc
      refine lv_aload_n hx hb dX9_heard_24 rfl (lv_at hl 0 rfl) ?_
      refine lv_iconst (v := 0) hx hb dX9_heard_25 (by decide) ?_
      refine va_put (D := D) (ci := 8) (v := .int (0 : Int32)) (ty := .int) (C := RX9) (T := TX9) (N := 15) hx hb hts inX9 tyX9 tyX9_ok nmX9 hown hK.1 hw.1 hw.2 hS 0 rfl rfl 14 (by decide) (hts _ q_475) (fun _ h9 => h9) rfl (by decide +kernel) rfl rfl (Nat.le_of_ble_eq_true rfl) dX9_heard_26 (fun H locs hP hD hS => ?_)
      have hw : ΩM D d mp A (nState u8 (0 : Int32)) H := ⟨hP, hD⟩
      refine lv_iload_n hx hb dX9_heard_29 rfl (lv_at hl 2 rfl) ?_
      rcases sw6 x2 with hc | hc | hc | hc | hc | hc | hc
      · replace hq := hq.1 hc
        refine lv_tableOut (tgt := 141) hx hb dX9_heard_30 (by first | omega | exact hc) (by decide) ?_
        refine lv_aload_n hx hb dX9_heard_141 rfl (lv_at hl 0 rfl) ?_
        refine va_get (D := D) (ci := 8) (v := .ref (mp 8)) (C := RX9) (T := TX9) (N := 15) hx hb hts inX9 hown hK.1 hw.1 0 rfl rfl 7 (by decide) (hts _ q_468) (fun _ h9 => h9) rfl dX9_heard_142 ?_
        refine lv_iload_n hx hb dX9_heard_145 rfl (lv_at hl 1 rfl) ?_
        refine va_iald hx hb hK.1 hw.1 8 8 rfl rfl hq.1 dX9_heard_146 ?_
        replace hq := hq.2
        refine lv_i2l hx hb dX9_heard_147 rfl ?_
        exact mt_retl hx hb hr hlocks hw hS (Nat.le_of_ble_eq_true rfl) (Nat.le_of_ble_eq_true rfl) dX9_heard_148 ⟨_, rfl, hq⟩
      · replace hq := hq.2.1 hc
        refine lv_tableIn (tgt := 68) hx hb dX9_heard_30 (by rw [hc]; decide) (by rw [hc]; decide) (by rw [hc]; rfl) (by decide) ?_
        refine lv_aload_n hx hb dX9_heard_68 rfl (lv_at hl 0 rfl) ?_
        refine va_get (D := D) (ci := 8) (v := .ref (mp 9)) (C := RX9) (T := TX9) (N := 15) hx hb hts inX9 hown hK.1 hw.1 0 rfl rfl 8 (by decide) (hts _ q_469) (fun _ h9 => h9) rfl dX9_heard_69 ?_
        refine lv_iload_n hx hb dX9_heard_72 rfl (lv_at hl 1 rfl) ?_
        refine va_iald hx hb hK.1 hw.1 9 8 rfl rfl hq.1 dX9_heard_73 ?_
        replace hq := hq.2
        refine lv_i2l hx hb dX9_heard_74 rfl ?_
        exact mt_retl hx hb hr hlocks hw hS (Nat.le_of_ble_eq_true rfl) (Nat.le_of_ble_eq_true rfl) dX9_heard_75 ⟨_, rfl, hq⟩
      · replace hq := hq.2.2.1 hc
        refine lv_tableIn (tgt := 76) hx hb dX9_heard_30 (by rw [hc]; decide) (by rw [hc]; decide) (by rw [hc]; rfl) (by decide) ?_
        refine lv_aload_n hx hb dX9_heard_76 rfl (lv_at hl 0 rfl) ?_
        refine va_get (D := D) (ci := 8) (v := .ref (mp 10)) (C := RX9) (T := TX9) (N := 15) hx hb hts inX9 hown hK.1 hw.1 0 rfl rfl 9 (by decide) (hts _ q_470) (fun _ h9 => h9) rfl dX9_heard_77 ?_
        refine lv_iload_n hx hb dX9_heard_80 rfl (lv_at hl 1 rfl) ?_
        refine va_iald hx hb hK.1 hw.1 10 8 rfl rfl hq.1 dX9_heard_81 ?_
        replace hq := hq.2
        refine lv_i2l hx hb dX9_heard_82 rfl ?_
        exact mt_retl hx hb hr hlocks hw hS (Nat.le_of_ble_eq_true rfl) (Nat.le_of_ble_eq_true rfl) dX9_heard_83 ⟨_, rfl, hq⟩
      · replace hq := hq.2.2.2.1 hc
        refine lv_tableIn (tgt := 84) hx hb dX9_heard_30 (by rw [hc]; decide) (by rw [hc]; decide) (by rw [hc]; rfl) (by decide) ?_
        refine lv_aload_n hx hb dX9_heard_84 rfl (lv_at hl 0 rfl) ?_
        refine va_get (D := D) (ci := 8) (v := .ref (mp 11)) (C := RX9) (T := TX9) (N := 15) hx hb hts inX9 hown hK.1 hw.1 0 rfl rfl 10 (by decide) (hts _ q_471) (fun _ h9 => h9) rfl dX9_heard_85 ?_
        refine lv_iload_n hx hb dX9_heard_88 rfl (lv_at hl 1 rfl) ?_
        refine va_iald hx hb hK.1 hw.1 11 8 rfl rfl hq.1 dX9_heard_89 ?_
        replace hq := hq.2
        refine lv_i2l hx hb dX9_heard_90 rfl ?_
        exact mt_retl hx hb hr hlocks hw hS (Nat.le_of_ble_eq_true rfl) (Nat.le_of_ble_eq_true rfl) dX9_heard_91 ⟨_, rfl, hq⟩
      · replace hq := hq.2.2.2.2.1 hc
        refine lv_tableIn (tgt := 92) hx hb dX9_heard_30 (by rw [hc]; decide) (by rw [hc]; decide) (by rw [hc]; rfl) (by decide) ?_
        refine lv_aload_n hx hb dX9_heard_92 rfl (lv_at hl 0 rfl) ?_
        refine va_get (D := D) (ci := 8) (v := .ref (mp 12)) (C := RX9) (T := TX9) (N := 15) hx hb hts inX9 hown hK.1 hw.1 0 rfl rfl 11 (by decide) (hts _ q_472) (fun _ h9 => h9) rfl dX9_heard_93 ?_
        refine lv_iload_n hx hb dX9_heard_96 rfl (lv_at hl 1 rfl) ?_
        refine va_lald hx hb hK.1 hw.1 12 9 rfl rfl hq.1 dX9_heard_97 ?_
        replace hq := hq.2
        exact mt_retl hx hb hr hlocks hw hS (Nat.le_of_ble_eq_true rfl) (Nat.le_of_ble_eq_true rfl) dX9_heard_98 ⟨_, rfl, hq⟩
      · replace hq := hq.2.2.2.2.2.1 hc
        refine lv_tableIn (tgt := 99) hx hb dX9_heard_30 (by rw [hc]; decide) (by rw [hc]; decide) (by rw [hc]; rfl) (by decide) ?_
        refine lv_aload_n hx hb dX9_heard_99 rfl (lv_at hl 0 rfl) ?_
        refine va_get (D := D) (ci := 8) (v := .ref (mp 9)) (C := RX9) (T := TX9) (N := 15) hx hb hts inX9 hown hK.1 hw.1 0 rfl rfl 8 (by decide) (hts _ q_469) (fun _ h9 => h9) rfl dX9_heard_100 ?_
        refine lv_iload_n hx hb dX9_heard_103 rfl (lv_at hl 1 rfl) ?_
        refine va_iald hx hb hK.1 hw.1 9 8 rfl rfl hq.1 dX9_heard_104 ?_
        replace hq := hq.2
        refine lv_if_ne (tgt := 112) hx hb dX9_heard_105 (by decide) (fun hc => ?_) (fun hc => ?_)
        · replace hq := hq.1 hc
          refine lv_aload_n hx hb dX9_heard_112 rfl (lv_at hl 0 rfl) ?_
          refine va_get (D := D) (ci := 8) (v := .ref (mp 13)) (C := RX9) (T := TX9) (N := 15) hx hb hts inX9 hown hK.1 hw.1 0 rfl rfl 12 (by decide) (hts _ q_473) (fun _ h9 => h9) rfl dX9_heard_113 ?_
          refine lv_iload_n hx hb dX9_heard_116 rfl (lv_at hl 1 rfl) ?_
          refine va_iald hx hb hK.1 hw.1 13 8 rfl rfl hq.1 dX9_heard_117 ?_
          replace hq := hq.2
          refine lv_i2l hx hb dX9_heard_118 rfl ?_
          exact mt_retl hx hb hr hlocks hw hS (Nat.le_of_ble_eq_true rfl) (Nat.le_of_ble_eq_true rfl) dX9_heard_119 ⟨_, rfl, hq⟩
        · replace hq := hq.2 hc
          refine lv_lconst (v := 0) hx hb dX9_heard_108 (by decide) ?_
          refine lv_goto (tgt := 119) hx hb dX9_heard_109 (by decide) ?_
          exact mt_retl hx hb hr hlocks hw hS (Nat.le_of_ble_eq_true rfl) (Nat.le_of_ble_eq_true rfl) dX9_heard_119 ⟨_, rfl, hq⟩
      · replace hq := hq.2.2.2.2.2.2 hc
        refine lv_tableIn (tgt := 120) hx hb dX9_heard_30 (by rw [hc]; decide) (by rw [hc]; decide) (by rw [hc]; rfl) (by decide) ?_
        refine lv_aload_n hx hb dX9_heard_120 rfl (lv_at hl 0 rfl) ?_
        refine va_get (D := D) (ci := 8) (v := .ref (mp 9)) (C := RX9) (T := TX9) (N := 15) hx hb hts inX9 hown hK.1 hw.1 0 rfl rfl 8 (by decide) (hts _ q_469) (fun _ h9 => h9) rfl dX9_heard_121 ?_
        refine lv_iload_n hx hb dX9_heard_124 rfl (lv_at hl 1 rfl) ?_
        refine va_iald hx hb hK.1 hw.1 9 8 rfl rfl hq.1 dX9_heard_125 ?_
        replace hq := hq.2
        refine lv_if_ne (tgt := 133) hx hb dX9_heard_126 (by decide) (fun hc => ?_) (fun hc => ?_)
        · replace hq := hq.1 hc
          refine lv_aload_n hx hb dX9_heard_133 rfl (lv_at hl 0 rfl) ?_
          refine va_get (D := D) (ci := 8) (v := .ref (mp 14)) (C := RX9) (T := TX9) (N := 15) hx hb hts inX9 hown hK.1 hw.1 0 rfl rfl 13 (by decide) (hts _ q_474) (fun _ h9 => h9) rfl dX9_heard_134 ?_
          refine lv_iload_n hx hb dX9_heard_137 rfl (lv_at hl 1 rfl) ?_
          refine va_iald hx hb hK.1 hw.1 14 8 rfl rfl hq.1 dX9_heard_138 ?_
          replace hq := hq.2
          refine lv_i2l hx hb dX9_heard_139 rfl ?_
          exact mt_retl hx hb hr hlocks hw hS (Nat.le_of_ble_eq_true rfl) (Nat.le_of_ble_eq_true rfl) dX9_heard_140 ⟨_, rfl, hq⟩
        · replace hq := hq.2 hc
          refine lv_lconst (v := 0) hx hb dX9_heard_129 (by decide) ?_
          refine lv_goto (tgt := 140) hx hb dX9_heard_130 (by decide) ?_
          exact mt_retl hx hb hr hlocks hw hS (Nat.le_of_ble_eq_true rfl) (Nat.le_of_ble_eq_true rfl) dX9_heard_140 ⟨_, rfl, hq⟩
    · replace hq := hq.2 hc
      refine lv_aload_n hx hb dX9_heard_17 rfl (lv_at hl 0 rfl) ?_
      refine lv_iconst (v := -1) hx hb dX9_heard_18 (by decide) ?_
      refine va_put (D := D) (ci := 8) (v := .int (-1 : Int32)) (ty := .int) (C := RX9) (T := TX9) (N := 15) hx hb hts inX9 tyX9 tyX9_ok nmX9 hown hK.1 hw.1 hw.2 hS 0 rfl rfl 14 (by decide) (hts _ q_475) (fun _ h9 => h9) rfl (by decide +kernel) rfl rfl (Nat.le_of_ble_eq_true rfl) dX9_heard_19 (fun H locs hP hD hS => ?_)
      have hw : ΩM D d mp A (nState u8 (-1 : Int32)) H := ⟨hP, hD⟩
      refine lv_lconst (v := 0) hx hb dX9_heard_22 (by decide) ?_
      exact mt_retl hx hb hr hlocks hw hS (Nat.le_of_ble_eq_true rfl) (Nat.le_of_ble_eq_true rfl) dX9_heard_23 ⟨_, rfl, hq⟩
abbrev rmX9_quiet : Room := { frames := 2, cells := 0, slots := 0, locals := 42 }
theorem nmhX9_quiet : NoMH yX9_quiet 1 := by decide +kernel
def wX9_quiet (x1 : Int32) (μ : MS) (Q : Int32 → MS → Prop) : Prop :=
    wX9_isDrum x1 μ (fun r8 u9 => (¬ r8 = 0 → (vp_in x1 8 ∧ (∀ y10 : Int32, y10 = (mNotes u9 x1.toNatClampNeg) → (vp_in x1 8 ∧ (vp_in x1 8 ∧ (vp_in x1 8 ∧ (vp_in x1 8 ∧ (wX9_told y10 (nWts (nGaps (nPlayed (nNotes u9 (upd (mNotes u9) x1.toNatClampNeg (0 : Int32))) (upd (mPlayed (nNotes u9 (upd (mNotes u9) x1.toNatClampNeg (0 : Int32)))) x1.toNatClampNeg (0 : Int32))) (upd (mGaps (nPlayed (nNotes u9 (upd (mNotes u9) x1.toNatClampNeg (0 : Int32))) (upd (mPlayed (nNotes u9 (upd (mNotes u9) x1.toNatClampNeg (0 : Int32)))) x1.toNatClampNeg (0 : Int32)))) x1.toNatClampNeg (0 : Int32))) (vp_updL (mWts (nGaps (nPlayed (nNotes u9 (upd (mNotes u9) x1.toNatClampNeg (0 : Int32))) (upd (mPlayed (nNotes u9 (upd (mNotes u9) x1.toNatClampNeg (0 : Int32)))) x1.toNatClampNeg (0 : Int32))) (upd (mGaps (nPlayed (nNotes u9 (upd (mNotes u9) x1.toNatClampNeg (0 : Int32))) (upd (mPlayed (nNotes u9 (upd (mNotes u9) x1.toNatClampNeg (0 : Int32)))) x1.toNatClampNeg (0 : Int32)))) x1.toNatClampNeg (0 : Int32)))) x1.toNatClampNeg (0 : Int64))) (fun r11 u12 => Q r11 u12))))))))) ∧ (r8 = 0 → wX9_told (-1 : Int32) u9 (fun r13 u14 => Q r13 u14)))
set_option maxHeartbeats 4000000 in
set_option maxRecDepth 100000 in
theorem tX9_quiet (l : Launch) (D : va_G) (d : AC) (mp : Nat → Nat) (x1 : Int32) (μ : MS) {Q : Int32 → MS → Prop} (hq : wX9_quiet x1 μ Q) : MT D d (ΩM D d mp) l yX9_quiet (WS yX9_quiet cX9_quiet 3 (some (.int))) rmX9_quiet [.ref (mp 0), .int x1] μ (qI Q) := by
  refine mt_of (ΩM.mono D d mp) (by decide +kernel) (Nat.le_of_ble_eq_true rfl) (fun p e s m below meth c A ls hx hb hr hml hown hts hlocks hnm hK hA hw hS hl => ?_)
  have hl : lv_has ls 3 [(0, .ref (mp 0)), (1, .int x1)] := hl
  have hown : s.vm.findClass RX9 = some m.cls := hown
  unfold wX9_quiet at hq
  refine lv_iload_n hx hb dX9_quiet_0 rfl (lv_at hl 1 rfl) ?_
  refine mt_callS (index := 90) hx hb hml hown hts hK (ΩM.mono D d mp) hA hw hS hl.1 (tX9_isDrum l D d mp x1 μ hq) q_515 q_34 q_513 q_514 nmhX9_isDrum ⟨⟨Nat.le_of_ble_eq_true rfl, Nat.le_of_ble_eq_true rfl⟩, ⟨Nat.le_of_ble_eq_true rfl, Nat.le_of_ble_eq_true rfl⟩⟩ rfl (Nat.le_of_ble_eq_true rfl) dX9_quiet_1 (fun _ u9 H locs hq hw hS => ?_)
  obtain ⟨r8, rfl, hzr8, hq⟩ := hq
  refine W.eq (g2 := F0 m 4 ls [.int r8]) rfl ?_
  refine lv_if_ne (tgt := 13) hx hb dX9_quiet_4 (by decide) (fun hc => ?_) (fun hc => ?_)
  · replace hq := hq.1 hc
    refine lv_aload_n hx hb dX9_quiet_13 rfl (lv_at hl 0 rfl) ?_
    refine va_get (D := D) (ci := 8) (v := .ref (mp 9)) (C := RX9) (T := TX9) (N := 15) hx hb hts inX9 hown hK.1 hw.1 0 rfl rfl 8 (by decide) (hts _ q_469) (fun _ h9 => h9) rfl dX9_quiet_14 ?_
    refine lv_iload_n hx hb dX9_quiet_17 rfl (lv_at hl 1 rfl) ?_
    refine va_iald hx hb hK.1 hw.1 9 8 rfl rfl hq.1 dX9_quiet_18 ?_
    replace hq := hq.2
    refine lv_topi (fun y10 ey10 => ?_)
    replace hq := hq y10 ey10
    refine lv_istore_n (lv' := [(2, .int y10), (0, .ref (mp 0)), (1, .int x1)]) hx hb dX9_quiet_19 rfl hl (by decide) rfl (fun ls hl => ?_)
    refine lv_aload_n hx hb dX9_quiet_20 rfl (lv_at hl 1 rfl) ?_
    refine va_get (D := D) (ci := 8) (v := .ref (mp 9)) (C := RX9) (T := TX9) (N := 15) hx hb hts inX9 hown hK.1 hw.1 0 rfl rfl 8 (by decide) (hts _ q_469) (fun _ h9 => h9) rfl dX9_quiet_21 ?_
    refine lv_iload_n hx hb dX9_quiet_24 rfl (lv_at hl 2 rfl) ?_
    refine lv_iconst (v := 0) hx hb dX9_quiet_25 (by decide) ?_
    refine va_iast hx hb hK.1 hw.1 hw.2 hS 9 8 rfl rfl hq.1 dX9_quiet_26 (fun H locs hP hD hS => ?_)
    have hw : ΩM D d mp A (nNotes u9 (upd (mNotes u9) x1.toNatClampNeg (0 : Int32))) H := ⟨hP, hD⟩
    replace hq := hq.2
    refine lv_aload_n hx hb dX9_quiet_27 rfl (lv_at hl 1 rfl) ?_
    refine va_get (D := D) (ci := 8) (v := .ref (mp 10)) (C := RX9) (T := TX9) (N := 15) hx hb hts inX9 hown hK.1 hw.1 0 rfl rfl 9 (by decide) (hts _ q_470) (fun _ h9 => h9) rfl dX9_quiet_28 ?_
    refine lv_iload_n hx hb dX9_quiet_31 rfl (lv_at hl 2 rfl) ?_
    refine lv_iconst (v := 0) hx hb dX9_quiet_32 (by decide) ?_
    refine va_iast hx hb hK.1 hw.1 hw.2 hS 10 8 rfl rfl hq.1 dX9_quiet_33 (fun H locs hP hD hS => ?_)
    have hw : ΩM D d mp A (nPlayed (nNotes u9 (upd (mNotes u9) x1.toNatClampNeg (0 : Int32))) (upd (mPlayed (nNotes u9 (upd (mNotes u9) x1.toNatClampNeg (0 : Int32)))) x1.toNatClampNeg (0 : Int32))) H := ⟨hP, hD⟩
    replace hq := hq.2
    refine lv_aload_n hx hb dX9_quiet_34 rfl (lv_at hl 1 rfl) ?_
    refine va_get (D := D) (ci := 8) (v := .ref (mp 11)) (C := RX9) (T := TX9) (N := 15) hx hb hts inX9 hown hK.1 hw.1 0 rfl rfl 10 (by decide) (hts _ q_471) (fun _ h9 => h9) rfl dX9_quiet_35 ?_
    refine lv_iload_n hx hb dX9_quiet_38 rfl (lv_at hl 2 rfl) ?_
    refine lv_iconst (v := 0) hx hb dX9_quiet_39 (by decide) ?_
    refine va_iast hx hb hK.1 hw.1 hw.2 hS 11 8 rfl rfl hq.1 dX9_quiet_40 (fun H locs hP hD hS => ?_)
    have hw : ΩM D d mp A (nGaps (nPlayed (nNotes u9 (upd (mNotes u9) x1.toNatClampNeg (0 : Int32))) (upd (mPlayed (nNotes u9 (upd (mNotes u9) x1.toNatClampNeg (0 : Int32)))) x1.toNatClampNeg (0 : Int32))) (upd (mGaps (nPlayed (nNotes u9 (upd (mNotes u9) x1.toNatClampNeg (0 : Int32))) (upd (mPlayed (nNotes u9 (upd (mNotes u9) x1.toNatClampNeg (0 : Int32)))) x1.toNatClampNeg (0 : Int32)))) x1.toNatClampNeg (0 : Int32))) H := ⟨hP, hD⟩
    replace hq := hq.2
    refine lv_aload_n hx hb dX9_quiet_41 rfl (lv_at hl 1 rfl) ?_
    refine va_get (D := D) (ci := 8) (v := .ref (mp 12)) (C := RX9) (T := TX9) (N := 15) hx hb hts inX9 hown hK.1 hw.1 0 rfl rfl 11 (by decide) (hts _ q_472) (fun _ h9 => h9) rfl dX9_quiet_42 ?_
    refine lv_iload_n hx hb dX9_quiet_45 rfl (lv_at hl 2 rfl) ?_
    refine lv_lconst (v := 0) hx hb dX9_quiet_46 (by decide) ?_
    refine va_last hx hb hK.1 hw.1 hw.2 hS 12 9 rfl rfl hq.1 dX9_quiet_47 (fun H locs hP hD hS => ?_)
    have hw : ΩM D d mp A (nWts (nGaps (nPlayed (nNotes u9 (upd (mNotes u9) x1.toNatClampNeg (0 : Int32))) (upd (mPlayed (nNotes u9 (upd (mNotes u9) x1.toNatClampNeg (0 : Int32)))) x1.toNatClampNeg (0 : Int32))) (upd (mGaps (nPlayed (nNotes u9 (upd (mNotes u9) x1.toNatClampNeg (0 : Int32))) (upd (mPlayed (nNotes u9 (upd (mNotes u9) x1.toNatClampNeg (0 : Int32)))) x1.toNatClampNeg (0 : Int32)))) x1.toNatClampNeg (0 : Int32))) (vp_updL (mWts (nGaps (nPlayed (nNotes u9 (upd (mNotes u9) x1.toNatClampNeg (0 : Int32))) (upd (mPlayed (nNotes u9 (upd (mNotes u9) x1.toNatClampNeg (0 : Int32)))) x1.toNatClampNeg (0 : Int32))) (upd (mGaps (nPlayed (nNotes u9 (upd (mNotes u9) x1.toNatClampNeg (0 : Int32))) (upd (mPlayed (nNotes u9 (upd (mNotes u9) x1.toNatClampNeg (0 : Int32)))) x1.toNatClampNeg (0 : Int32)))) x1.toNatClampNeg (0 : Int32)))) x1.toNatClampNeg (0 : Int64))) H := ⟨hP, hD⟩
    replace hq := hq.2
    refine lv_aload_n hx hb dX9_quiet_48 rfl (lv_at hl 1 rfl) ?_
    refine lv_iload_n hx hb dX9_quiet_49 rfl (lv_at hl 0 rfl) ?_
    refine mt_callV (index := 96) hx hb hml hown hts hK (ΩM.mono D d mp) hA hw hS hl.1 (tX9_told l D d mp y10 (nWts (nGaps (nPlayed (nNotes u9 (upd (mNotes u9) x1.toNatClampNeg (0 : Int32))) (upd (mPlayed (nNotes u9 (upd (mNotes u9) x1.toNatClampNeg (0 : Int32)))) x1.toNatClampNeg (0 : Int32))) (upd (mGaps (nPlayed (nNotes u9 (upd (mNotes u9) x1.toNatClampNeg (0 : Int32))) (upd (mPlayed (nNotes u9 (upd (mNotes u9) x1.toNatClampNeg (0 : Int32)))) x1.toNatClampNeg (0 : Int32)))) x1.toNatClampNeg (0 : Int32))) (vp_updL (mWts (nGaps (nPlayed (nNotes u9 (upd (mNotes u9) x1.toNatClampNeg (0 : Int32))) (upd (mPlayed (nNotes u9 (upd (mNotes u9) x1.toNatClampNeg (0 : Int32)))) x1.toNatClampNeg (0 : Int32))) (upd (mGaps (nPlayed (nNotes u9 (upd (mNotes u9) x1.toNatClampNeg (0 : Int32))) (upd (mPlayed (nNotes u9 (upd (mNotes u9) x1.toNatClampNeg (0 : Int32)))) x1.toNatClampNeg (0 : Int32)))) x1.toNatClampNeg (0 : Int32)))) x1.toNatClampNeg (0 : Int64))) hq) (ΩM.recv hK hw) q_525 q_34 q_522 q_524 q_17 nmhX9_told ⟨⟨Nat.le_of_ble_eq_true rfl, Nat.le_of_ble_eq_true rfl⟩, ⟨Nat.le_of_ble_eq_true rfl, Nat.le_of_ble_eq_true rfl⟩⟩ rfl (Nat.le_of_ble_eq_true rfl) dX9_quiet_50 (fun _ u12 H locs hq hw hS => ?_)
    obtain ⟨r11, rfl, hq⟩ := hq
    refine W.eq (g2 := F0 m 53 ls [.int r11]) rfl ?_
    exact mt_reti hx hb hr hlocks hw hS (Nat.le_of_ble_eq_true rfl) (Nat.le_of_ble_eq_true rfl) dX9_quiet_53 ⟨_, rfl, hq⟩
  · replace hq := hq.2 hc
    refine lv_aload_n hx hb dX9_quiet_7 rfl (lv_at hl 0 rfl) ?_
    refine lv_iconst (v := -1) hx hb dX9_quiet_8 (by decide) ?_
    refine mt_callV (index := 96) hx hb hml hown hts hK (ΩM.mono D d mp) hA hw hS hl.1 (tX9_told l D d mp (-1 : Int32) u9 hq) (ΩM.recv hK hw) q_525 q_34 q_522 q_524 q_17 nmhX9_told ⟨⟨Nat.le_of_ble_eq_true rfl, Nat.le_of_ble_eq_true rfl⟩, ⟨Nat.le_of_ble_eq_true rfl, Nat.le_of_ble_eq_true rfl⟩⟩ rfl (Nat.le_of_ble_eq_true rfl) dX9_quiet_9 (fun _ u14 H locs hq hw hS => ?_)
    obtain ⟨r13, rfl, hq⟩ := hq
    refine W.eq (g2 := F0 m 12 ls [.int r13]) rfl ?_
    exact mt_reti hx hb hr hlocks hw hS (Nat.le_of_ble_eq_true rfl) (Nat.le_of_ble_eq_true rfl) dX9_quiet_12 ⟨_, rfl, hq⟩
