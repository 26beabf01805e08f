abbrev rmJxf58ca_isNaN_12338 : Room := { frames := 0, cells := 0, slots := 0, locals := 0 }
theorem nmhJxf58ca_isNaN_12338 : NoMH yJxf58ca_isNaN_12338 1 := by decide +kernel
def wJxf58ca_isNaN_12338 (x0 : UInt32) (μ : MS) (Q : Int32 → MS → Prop) : Prop :=
    ((Op.cmpValue (FP.fcmp x0 x0) CmpOp.l) = 0 → Q (0 : Int32) μ) ∧ (¬ (Op.cmpValue (FP.fcmp x0 x0) CmpOp.l) = 0 → Q (1 : Int32) μ)
set_option maxHeartbeats 4000000 in
set_option maxRecDepth 100000 in
theorem tJxf58ca_isNaN_12338 (l : Launch) (D : va_G) (d : AC) (mp : Nat → Nat) (x0 : UInt32) (μ : MS) {Q : Int32 → MS → Prop} (hq : wJxf58ca_isNaN_12338 x0 μ Q) : MT D d (ΩM D d mp) l yJxf58ca_isNaN_12338 (WS yJxf58ca_isNaN_12338 cJxf58ca_isNaN_12338 1 (some (.boolean))) rmJxf58ca_isNaN_12338 [.float x0] μ (qZ Q) := by
  refine mt_ofF (ΩM.mono D d mp) (by decide +kernel) (Nat.le_of_ble_eq_true rfl) (fun p e s m below meth c A ls hx hb hr hml hown hts hlocks hnm hK hA hw hS hl => ?_)
  have hl : lv_has ls 1 [(0, .float x0)] := hl
  have hown : s.vm.findClass RJxf58ca = some m.cls := hown
  unfold wJxf58ca_isNaN_12338 at hq
  refine lv_fload_n hx hb dJxf58ca_isNaN_12338_0 rfl (lv_at hl 0 rfl) ?_
  refine lv_fload_n hx hb dJxf58ca_isNaN_12338_1 rfl (lv_at hl 0 rfl) ?_
  refine lv_fcmp hx hb dJxf58ca_isNaN_12338_2 ?_
  refine lv_if_eq (tgt := 10) hx hb dJxf58ca_isNaN_12338_3 (by decide) (fun hc => ?_) (fun hc => ?_)
  · replace hq := hq.1 hc
    refine lv_iconst (v := 0) hx hb dJxf58ca_isNaN_12338_10 (by decide) ?_
    exact mt_retz hx hb hr hlocks hw hS (Nat.le_of_ble_eq_true rfl) (Nat.le_of_ble_eq_true rfl) dJxf58ca_isNaN_12338_11 rfl ⟨_, rfl, Or.inl rfl, hq⟩
  · replace hq := hq.2 hc
    refine lv_iconst (v := 1) hx hb dJxf58ca_isNaN_12338_6 (by decide) ?_
    refine lv_goto (tgt := 11) hx hb dJxf58ca_isNaN_12338_7 (by decide) ?_
    exact mt_retz hx hb hr hlocks hw hS (Nat.le_of_ble_eq_true rfl) (Nat.le_of_ble_eq_true rfl) dJxf58ca_isNaN_12338_11 rfl ⟨_, rfl, Or.inr rfl, hq⟩
abbrev rmJxf58ca_floatToIntBits_5c35a : Room := { frames := 1, cells := 0, slots := 0, locals := 23 }
theorem nmhJxf58ca_floatToIntBits_5c35a : NoMH yJxf58ca_floatToIntBits_5c35a 1 := by decide +kernel
def wJxf58ca_floatToIntBits_5c35a (x0 : UInt32) (μ : MS) (Q : Int32 → MS → Prop) : Prop :=
    wJxf58ca_isNaN_12338 x0 μ (fun r3 u4 => (¬ r3 = 0 → Q (2143289344 : Int32) u4) ∧ (r3 = 0 → (Q x0.toInt32 u4)))
set_option maxHeartbeats 4000000 in
set_option maxRecDepth 100000 in
theorem tJxf58ca_floatToIntBits_5c35a (l : Launch) (D : va_G) (d : AC) (mp : Nat → Nat) (x0 : UInt32) (μ : MS) {Q : Int32 → MS → Prop} (hq : wJxf58ca_floatToIntBits_5c35a x0 μ Q) : MT D d (ΩM D d mp) l yJxf58ca_floatToIntBits_5c35a (WS yJxf58ca_floatToIntBits_5c35a cJxf58ca_floatToIntBits_5c35a 1 (some (.int))) rmJxf58ca_floatToIntBits_5c35a [.float x0] μ (qI Q) := by
  refine mt_ofF (ΩM.mono D d mp) (by decide +kernel) (Nat.le_of_ble_eq_true rfl) (fun p e s m below meth c A ls hx hb hr hml hown hts hlocks hnm hK hA hw hS hl => ?_)
  have hl : lv_has ls 1 [(0, .float x0)] := hl
  have hown : s.vm.findClass RJxf58ca = some m.cls := hown
  unfold wJxf58ca_floatToIntBits_5c35a at hq
  refine lv_fload_n hx hb dJxf58ca_floatToIntBits_5c35a_0 rfl (lv_at hl 0 rfl) ?_
  refine mt_callS (index := 59) hx hb hml hown hts hK (ΩM.mono D d mp) hA hw hS hl.1 (tJxf58ca_isNaN_12338 l D d mp x0 μ hq) q_574 q_41 q_572 q_573 nmhJxf58ca_isNaN_12338 ⟨⟨Nat.le_of_ble_eq_true rfl, Nat.le_of_ble_eq_true rfl⟩, ⟨Nat.le_of_ble_eq_true rfl, Nat.le_of_ble_eq_true rfl⟩⟩ rfl (Nat.le_of_ble_eq_true rfl) dJxf58ca_floatToIntBits_5c35a_1 (fun _ u4 H locs hq hw hS => ?_)
  obtain ⟨r3, rfl, hzr3, hq⟩ := hq
  refine W.eq (g2 := F0 m 4 ls [.int r3]) rfl ?_
  refine lv_if_ne (tgt := 12) hx hb dJxf58ca_floatToIntBits_5c35a_4 (by decide) (fun hc => ?_) (fun hc => ?_)
  · replace hq := hq.1 hc
    refine lv_ldc (v := 2143289344) hx hb hown (hts _ q_578) dJxf58ca_floatToIntBits_5c35a_12 ?_
    exact mt_reti hx hb hr hlocks hw hS (Nat.le_of_ble_eq_true rfl) (Nat.le_of_ble_eq_true rfl) dJxf58ca_floatToIntBits_5c35a_14 ⟨_, rfl, hq⟩
  · replace hq := hq.2 hc
    refine lv_fload_n hx hb dJxf58ca_floatToIntBits_5c35a_7 rfl (lv_at hl 0 rfl) ?_
    refine vn_f2i hx hb (hml.trans hl.1.symm) hown (hts _ q_575) (hts _ q_577) (hts _ q_576) (hts _ q_41) (Nat.le_of_ble_eq_true rfl) (Nat.le_of_ble_eq_true rfl) dJxf58ca_floatToIntBits_5c35a_8 ?_
    exact mt_reti hx hb hr hlocks hw hS (Nat.le_of_ble_eq_true rfl) (Nat.le_of_ble_eq_true rfl) dJxf58ca_floatToIntBits_5c35a_11 ⟨_, rfl, hq⟩
abbrev rmX9_told : Room := { frames := 0, cells := 0, slots := 0, locals := 0 }
theorem nmhX9_told : NoMH yX9_told 1 := by decide +kernel
def wX9_told (x1 : Int32) (μ : MS) (Q : Int32 → MS → Prop) : Prop :=
    (0 ≤ x1 → (Q x1 (nState μ (0 : Int32)))) ∧ (¬ 0 ≤ x1 → Q x1 (nState μ x1))
set_option maxHeartbeats 4000000 in
set_option maxRecDepth 100000 in
theorem tX9_told (l : Launch) (D : va_G) (d : AC) (mp : Nat → Nat) (x1 : Int32) (μ : MS) {Q : Int32 → MS → Prop} (hq : wX9_told x1 μ Q) : MT D d (ΩM D d mp) l yX9_told (WS yX9_told cX9_told 2 (some (.int))) rmX9_told [.ref (mp 0), .int x1] μ (qI Q) := by
  refine mt_of (ΩM.mono D d mp) (by decide +kernel) (Nat.le_of_ble_eq_true rfl) (fun p e s m below meth c A ls hx hb hr hml hown hts hlocks hnm hK hA hw hS hl => ?_)
  have hl : lv_has ls 2 [(0, .ref (mp 0)), (1, .int x1)] := hl
  have hown : s.vm.findClass RX9 = some m.cls := hown
  unfold wX9_told at hq
  refine lv_aload_n hx hb dX9_told_0 rfl (lv_at hl 0 rfl) ?_
  refine lv_iload_n hx hb dX9_told_1 rfl (lv_at hl 1 rfl) ?_
  refine lv_if_ge (tgt := 9) hx hb dX9_told_2 (by decide) (fun hc => ?_) (fun hc => ?_)
  · replace hq := hq.1 hc
    refine lv_iconst (v := 0) hx hb dX9_told_9 (by decide) ?_
    refine va_put (D := D) (ci := 8) (v := .int (0 : Int32)) (ty := .int) (C := RX9) (T := TX9) (N := 15) hx hb hts inX9 tyX9 tyX9_ok nmX9 hown hK.1 hw.1 hw.2 hS 0 rfl rfl 14 (by decide) (hts _ q_475) (fun _ h9 => h9) rfl (by decide +kernel) rfl rfl (Nat.le_of_ble_eq_true rfl) dX9_told_10 (fun H locs hP hD hS => ?_)
    have hw : ΩM D d mp A (nState μ (0 : Int32)) H := ⟨hP, hD⟩
    refine lv_iload_n hx hb dX9_told_13 rfl (lv_at hl 1 rfl) ?_
    exact mt_reti hx hb hr hlocks hw hS (Nat.le_of_ble_eq_true rfl) (Nat.le_of_ble_eq_true rfl) dX9_told_14 ⟨_, rfl, hq⟩
  · replace hq := hq.2 hc
    refine lv_iload_n hx hb dX9_told_5 rfl (lv_at hl 1 rfl) ?_
    refine lv_goto (tgt := 10) hx hb dX9_told_6 (by decide) ?_
    refine va_put (D := D) (ci := 8) (v := .int x1) (ty := .int) (C := RX9) (T := TX9) (N := 15) hx hb hts inX9 tyX9 tyX9_ok nmX9 hown hK.1 hw.1 hw.2 hS 0 rfl rfl 14 (by decide) (hts _ q_475) (fun _ h9 => h9) rfl (by decide +kernel) rfl rfl (Nat.le_of_ble_eq_true rfl) dX9_told_10 (fun H locs hP hD hS => ?_)
    have hw : ΩM D d mp A (nState μ x1) H := ⟨hP, hD⟩
    refine lv_iload_n hx hb dX9_told_13 rfl (lv_at hl 1 rfl) ?_
    exact mt_reti hx hb hr hlocks hw hS (Nat.le_of_ble_eq_true rfl) (Nat.le_of_ble_eq_true rfl) dX9_told_14 ⟨_, rfl, hq⟩
abbrev rmX9_in : Room := { frames := 0, cells := 0, slots := 0, locals := 0 }
theorem nmhX9_in : NoMH yX9_in 3 := by decide +kernel
def wX9_in (x0 : Int32) (x1 : Int32) (x2 : Int32) (μ : MS) (Q : Int32 → MS → Prop) : Prop :=
    (x0 < x1 → Q (0 : Int32) μ) ∧ (¬ x0 < x1 → ((x2 < x0 → Q (0 : Int32) μ) ∧ (¬ x2 < x0 → Q (1 : Int32) μ)))
set_option maxHeartbeats 4000000 in
set_option maxRecDepth 100000 in
theorem tX9_in (l : Launch) (D : va_G) (d : AC) (mp : Nat → Nat) (x0 : Int32) (x1 : Int32) (x2 : Int32) (μ : MS) {Q : Int32 → MS → Prop} (hq : wX9_in x0 x1 x2 μ Q) : MT D d (ΩM D d mp) l yX9_in (WS yX9_in cX9_in 3 (some (.boolean))) rmX9_in [.int x0, .int x1, .int x2] μ (qZ Q) := by
  refine mt_of (ΩM.mono D d mp) (by decide +kernel) (Nat.le_of_ble_eq_true rfl) (fun p e s m below meth c A ls hx hb hr hml hown hts hlocks hnm hK hA hw hS hl => ?_)
  have hl : lv_has ls 3 [(0, .int x0), (1, .int x1), (2, .int x2)] := hl
  have hown : s.vm.findClass RX9 = some m.cls := hown
  unfold wX9_in at hq
  refine lv_iload_n hx hb dX9_in_0 rfl (lv_at hl 0 rfl) ?_
  refine lv_iload_n hx hb dX9_in_1 rfl (lv_at hl 1 rfl) ?_
  refine lv_icmp_lt (tgt := 14) hx hb dX9_in_2 (by decide) (fun hc => ?_) (fun hc => ?_)
  · replace hq := hq.1 hc
    refine lv_iconst (v := 0) hx hb dX9_in_14 (by decide) ?_
    exact mt_retz hx hb hr hlocks hw hS (Nat.le_of_ble_eq_true rfl) (Nat.le_of_ble_eq_true rfl) dX9_in_15 rfl ⟨_, rfl, Or.inl rfl, hq⟩
  · replace hq := hq.2 hc
    refine lv_iload_n hx hb dX9_in_5 rfl (lv_at hl 0 rfl) ?_
    refine lv_iload_n hx hb dX9_in_6 rfl (lv_at hl 2 rfl) ?_
    refine lv_icmp_gt (tgt := 14) hx hb dX9_in_7 (by decide) (fun hc => ?_) (fun hc => ?_)
    · replace hq := hq.1 hc
      refine lv_iconst (v := 0) hx hb dX9_in_14 (by decide) ?_
      exact mt_retz hx hb hr hlocks hw hS (Nat.le_of_ble_eq_true rfl) (Nat.le_of_ble_eq_true rfl) dX9_in_15 rfl ⟨_, rfl, Or.inl rfl, hq⟩
    · replace hq := hq.2 hc
      refine lv_iconst (v := 1) hx hb dX9_in_10 (by decide) ?_
      refine lv_goto (tgt := 15) hx hb dX9_in_11 (by decide) ?_
      exact mt_retz hx hb hr hlocks hw hS (Nat.le_of_ble_eq_true rfl) (Nat.le_of_ble_eq_true rfl) dX9_in_15 rfl ⟨_, rfl, Or.inr rfl, hq⟩
abbrev rmX9_isDrum : Room := { frames := 1, cells := 0, slots := 0, locals := 22 }
theorem nmhX9_isDrum : NoMH yX9_isDrum 1 := by decide +kernel
def wX9_isDrum (x0 : Int32) (μ : MS) (Q : Int32 → MS → Prop) : Prop :=
    wX9_in x0 (0 : Int32) (7 : Int32) μ (fun r3 u4 => Q r3 u4)
set_option maxHeartbeats 4000000 in
set_option maxRecDepth 100000 in
theorem tX9_isDrum (l : Launch) (D : va_G) (d : AC) (mp : Nat → Nat) (x0 : Int32) (μ : MS) {Q : Int32 → MS → Prop} (hq : wX9_isDrum x0 μ Q) : MT D d (ΩM D d mp) l yX9_isDrum (WS yX9_isDrum cX9_isDrum 1 (some (.boolean))) rmX9_isDrum [.int x0] μ (qZ Q) := by
  refine mt_of (ΩM.mono D d mp) (by decide +kernel) (Nat.le_of_ble_eq_true rfl) (fun p e s m below meth c A ls hx hb hr hml hown hts hlocks hnm hK hA hw hS hl => ?_)
  have hl : lv_has ls 1 [(0, .int x0)] := hl
  have hown : s.vm.findClass RX9 = some m.cls := hown
  unfold wX9_isDrum at hq
  refine lv_iload_n hx hb dX9_isDrum_0 rfl (lv_at hl 0 rfl) ?_
  refine lv_iconst (v := 0) hx hb dX9_isDrum_1 (by decide) ?_
  refine lv_bipush (v := 7) hx hb dX9_isDrum_2 (by decide) ?_
  refine mt_callS (index := 58) hx hb hml hown hts hK (ΩM.mono D d mp) hA hw hS hl.1 (tX9_in l D d mp x0 (0 : Int32) (7 : Int32) μ hq) q_518 q_34 q_516 q_517 nmhX9_in ⟨⟨Nat.le_of_ble_eq_true rfl, Nat.le_of_ble_eq_true rfl⟩, ⟨Nat.le_of_ble_eq_true rfl, Nat.le_of_ble_eq_true rfl⟩⟩ rfl (Nat.le_of_ble_eq_true rfl) dX9_isDrum_4 (fun _ u4 H locs hq hw hS => ?_)
  obtain ⟨r3, rfl, hzr3, hq⟩ := hq
  refine W.eq (g2 := F0 m 7 ls [.int r3]) rfl ?_
  exact mt_retz hx hb hr hlocks hw hS (Nat.le_of_ble_eq_true rfl) (Nat.le_of_ble_eq_true rfl) dX9_isDrum_7 (by rcases hzr3 with rfl | rfl <;> rfl) ⟨_, rfl, hzr3, hq⟩
abbrev rmX9_isKind : Room := { frames := 1, cells := 0, slots := 0, locals := 22 }
theorem nmhX9_isKind : NoMH yX9_isKind 1 := by decide +kernel
def wX9_isKind (x0 : Int32) (μ : MS) (Q : Int32 → MS → Prop) : Prop :=
    wX9_in x0 (0 : Int32) (4 : Int32) μ (fun r3 u4 => Q r3 u4)
set_option maxHeartbeats 4000000 in
set_option maxRecDepth 100000 in
theorem tX9_isKind (l : Launch) (D : va_G) (d : AC) (mp : Nat → Nat) (x0 : Int32) (μ : MS) {Q : Int32 → MS → Prop} (hq : wX9_isKind x0 μ Q) : MT D d (ΩM D d mp) l yX9_isKind (WS yX9_isKind cX9_isKind 1 (some (.boolean))) rmX9_isKind [.int x0] μ (qZ Q) := by
  refine mt_of (ΩM.mono D d mp) (by decide +kernel) (Nat.le_of_ble_eq_true rfl) (fun p e s m below meth c A ls hx hb hr hml hown hts hlocks hnm hK hA hw hS hl => ?_)
  have hl : lv_has ls 1 [(0, .int x0)] := hl
  have hown : s.vm.findClass RX9 = some m.cls := hown
  unfold wX9_isKind at hq
  refine lv_iload_n hx hb dX9_isKind_0 rfl (lv_at hl 0 rfl) ?_
  refine lv_iconst (v := 0) hx hb dX9_isKind_1 (by decide) ?_
  refine lv_iconst (v := 4) hx hb dX9_isKind_2 (by decide) ?_
  refine mt_callS (index := 58) hx hb hml hown hts hK (ΩM.mono D d mp) hA hw hS hl.1 (tX9_in l D d mp x0 (0 : Int32) (4 : Int32) μ hq) q_518 q_34 q_516 q_517 nmhX9_in ⟨⟨Nat.le_of_ble_eq_true rfl, Nat.le_of_ble_eq_true rfl⟩, ⟨Nat.le_of_ble_eq_true rfl, Nat.le_of_ble_eq_true rfl⟩⟩ rfl (Nat.le_of_ble_eq_true rfl) dX9_isKind_3 (fun _ u4 H locs hq hw hS => ?_)
  obtain ⟨r3, rfl, hzr3, hq⟩ := hq
  refine W.eq (g2 := F0 m 6 ls [.int r3]) rfl ?_
  exact mt_retz hx hb hr hlocks hw hS (Nat.le_of_ble_eq_true rfl) (Nat.le_of_ble_eq_true rfl) dX9_isKind_6 (by rcases hzr3 with rfl | rfl <;> rfl) ⟨_, rfl, hzr3, hq⟩
abbrev rmX9_isComb : Room := { frames := 1, cells := 0, slots := 0, locals := 22 }
theorem nmhX9_isComb : NoMH yX9_isComb 1 := by decide +kernel
def wX9_isComb_b22 (x1 : Int32) (Q : Int32 → MS → Prop)  (μ : MS) : Prop :=
    vp_in (0 : Int32) 4 ∧ (((mCK μ (0 : Int32).toNatClampNeg) = (-1 : Int32) → Q (0 : Int32) μ) ∧ (¬ (mCK μ (0 : Int32).toNatClampNeg) = (-1 : Int32) → Q (1 : Int32) μ))
def wX9_isComb (x1 : Int32) (μ : MS) (Q : Int32 → MS → Prop) : Prop :=
    wX9_in x1 (0 : Int32) (3 : Int32) μ (fun r3 u4 => (r3 = 0 → Q (0 : Int32) u4) ∧ (¬ r3 = 0 → ((x1 < 0 → wX9_isComb_b22 x1 Q u4) ∧ (¬ x1 < 0 → ((x1 ≤ (3 : Int32) → (vp_in x1 4 ∧ (((mCK u4 x1.toNatClampNeg) = (-1 : Int32) → Q (0 : Int32) u4) ∧ (¬ (mCK u4 x1.toNatClampNeg) = (-1 : Int32) → Q (1 : Int32) u4)))) ∧ (¬ x1 ≤ (3 : Int32) → wX9_isComb_b22 x1 Q u4))))))
set_option maxHeartbeats 4000000 in
set_option maxRecDepth 100000 in
theorem tX9_isComb (l : Launch) (D : va_G) (d : AC) (mp : Nat → Nat) (x1 : Int32) (μ : MS) {Q : Int32 → MS → Prop} (hq : wX9_isComb x1 μ Q) : MT D d (ΩM D d mp) l yX9_isComb (WS yX9_isComb cX9_isComb 2 (some (.boolean))) rmX9_isComb [.ref (mp 0), .int x1] μ (qZ Q) := by
  refine mt_of (ΩM.mono D d mp) (by decide +kernel) (Nat.le_of_ble_eq_true rfl) (fun p e s m below meth c A ls hx hb hr hml hown hts hlocks hnm hK hA hw hS hl => ?_)
  have hl : lv_has ls 2 [(0, .ref (mp 0)), (1, .int x1)] := hl
  have hown : s.vm.findClass RX9 = some m.cls := hown
  have b22 : ∀  (μ : MS) (H : Heap) (locs : List Loc) (ls : Array Slot), wX9_isComb_b22 x1 Q  μ → (ΩM D d mp) A μ H → va_S A s.heap H locs → lv_has ls 2 [(0, .ref (mp 0)), (1, .int x1)] → W p l e rmX9_isComb s m [.ref (mp 0), .int x1].toArray below meth c H locs 0 0 (MQ below (Qo (qZ Q) (fun u' t => (ΩM D d mp) A u' t.heap) A) [.ref (mp 0), .int x1].toArray s rmX9_isComb.cells rmX9_isComb.slots A) (F0 m 22 ls [.ref (mp 6)]) := by
    intro  μ H locs ls hq hw hS hl
    unfold wX9_isComb_b22 at hq
    refine lv_iconst (v := 0) hx hb dX9_isComb_22 (by decide) ?_
    refine lv_goto (tgt := 27) hx hb dX9_isComb_23 (by decide) ?_
    refine va_iald hx hb hK.1 hw.1 6 8 rfl rfl hq.1 dX9_isComb_27 ?_
    replace hq := hq.2
    refine lv_iconst (v := -1) hx hb dX9_isComb_28 (by decide) ?_
    refine lv_icmp_eq (tgt := 36) hx hb dX9_isComb_29 (by decide) (fun hc => ?_) (fun hc => ?_)
    · replace hq := hq.1 hc
      refine lv_iconst (v := 0) hx hb dX9_isComb_36 (by decide) ?_
      exact mt_retz hx hb hr hlocks hw hS (Nat.le_of_ble_eq_true rfl) (Nat.le_of_ble_eq_true rfl) dX9_isComb_37 rfl ⟨_, rfl, Or.inl rfl, hq⟩
    · replace hq := hq.2 hc
      refine lv_iconst (v := 1) hx hb dX9_isComb_32 (by decide) ?_
      refine lv_goto (tgt := 37) hx hb dX9_isComb_33 (by decide) ?_
      exact mt_retz hx hb hr hlocks hw hS (Nat.le_of_ble_eq_true rfl) (Nat.le_of_ble_eq_true rfl) dX9_isComb_37 rfl ⟨_, rfl, Or.inr rfl, hq⟩
  unfold wX9_isComb at hq
  refine lv_iload_n hx hb dX9_isComb_0 rfl (lv_at hl 1 rfl) ?_
  refine lv_iconst (v := 0) hx hb dX9_isComb_1 (by decide) ?_
  refine lv_iconst (v := 3) hx hb dX9_isComb_2 (by decide) ?_
  refine mt_callS (index := 58) hx hb hml hown hts hK (ΩM.mono D d mp) hA hw hS hl.1 (tX9_in l D d mp x1 (0 : Int32) (3 : Int32) μ hq) q_518 q_34 q_516 q_517 nmhX9_in ⟨⟨Nat.le_of_ble_eq_true rfl, Nat.le_of_ble_eq_true rfl⟩, ⟨Nat.le_of_ble_eq_true rfl, Nat.le_of_ble_eq_true rfl⟩⟩ rfl (Nat.le_of_ble_eq_true rfl) dX9_isComb_3 (fun _ u4 H locs hq hw hS => ?_)
  obtain ⟨r3, rfl, hzr3, hq⟩ := hq
  refine W.eq (g2 := F0 m 6 ls [.int r3]) rfl ?_
  refine lv_if_eq (tgt := 36) hx hb dX9_isComb_6 (by decide) (fun hc => ?_) (fun hc => ?_)
  · replace hq := hq.1 hc
    refine lv_iconst (v := 0) hx hb dX9_isComb_36 (by decide) ?_
    exact mt_retz hx hb hr hlocks hw hS (Nat.le_of_ble_eq_true rfl) (Nat.le_of_ble_eq_true rfl) dX9_isComb_37 rfl ⟨_, rfl, Or.inl rfl, hq⟩
  · replace hq := hq.2 hc
    refine lv_aload_n hx hb dX9_isComb_9 rfl (lv_at hl 0 rfl) ?_
    refine va_get (D := D) (ci := 8) (v := .ref (mp 6)) (C := RX9) (T := TX9) (N := 15) hx hb hts inX9 hown hK.1 hw.1 0 rfl rfl 5 (by decide) (hts _ q_466) (fun _ h9 => h9) rfl dX9_isComb_10 ?_
    refine lv_iload_n hx hb dX9_isComb_13 rfl (lv_at hl 1 rfl) ?_
    refine lv_if_lt (tgt := 22) hx hb dX9_isComb_14 (by decide) (fun hc => ?_) (fun hc => ?_)
    · replace hq := hq.1 hc
      exact b22 u4 _ _ _ hq hw hS (lv_sub hl [0, 1] rfl)
    · replace hq := hq.2 hc
      refine lv_iload_n hx hb dX9_isComb_17 rfl (lv_at hl 1 rfl) ?_
      refine lv_iconst (v := 3) hx hb dX9_isComb_18 (by decide) ?_
      refine lv_icmp_le (tgt := 26) hx hb dX9_isComb_19 (by decide) (fun hc => ?_) (fun hc => ?_)
      · replace hq := hq.1 hc
        refine lv_iload_n hx hb dX9_isComb_26 rfl (lv_at hl 1 rfl) ?_
        refine va_iald hx hb hK.1 hw.1 6 8 rfl rfl hq.1 dX9_isComb_27 ?_
        replace hq := hq.2
        refine lv_iconst (v := -1) hx hb dX9_isComb_28 (by decide) ?_
        refine lv_icmp_eq (tgt := 36) hx hb dX9_isComb_29 (by decide) (fun hc => ?_) (fun hc => ?_)
        · replace hq := hq.1 hc
          refine lv_iconst (v := 0) hx hb dX9_isComb_36 (by decide) ?_
          exact mt_retz hx hb hr hlocks hw hS (Nat.le_of_ble_eq_true rfl) (Nat.le_of_ble_eq_true rfl) dX9_isComb_37 rfl ⟨_, rfl, Or.inl rfl, hq⟩
        · replace hq := hq.2 hc
          refine lv_iconst (v := 1) hx hb dX9_isComb_32 (by decide) ?_
          refine lv_goto (tgt := 37) hx hb dX9_isComb_33 (by decide) ?_
          exact mt_retz hx hb hr hlocks hw hS (Nat.le_of_ble_eq_true rfl) (Nat.le_of_ble_eq_true rfl) dX9_isComb_37 rfl ⟨_, rfl, Or.inr rfl, hq⟩
      · replace hq := hq.2 hc
        exact b22 u4 _ _ _ hq hw hS (lv_sub hl [0, 1] rfl)
abbrev rmX9_isTooth : Room := { frames := 2, cells := 0, slots := 0, locals := 43 }
theorem nmhX9_isTooth : NoMH yX9_isTooth 2 := by decide +kernel
def wX9_isTooth (x1 : Int32) (x2 : Int32) (μ : MS) (Q : Int32 → MS → Prop) : Prop :=
    wX9_isComb x1 μ (fun r3 u4 => (r3 = 0 → Q (0 : Int32) u4) ∧ (¬ r3 = 0 → ((x2 < 0 → Q (0 : Int32) u4) ∧ (¬ x2 < 0 → (vp_in x1 4 ∧ (((mCT u4 x1.toNatClampNeg) ≤ x2 → Q (0 : Int32) u4) ∧ (¬ (mCT u4 x1.toNatClampNeg) ≤ x2 → Q (1 : Int32) u4)))))))
set_option maxHeartbeats 4000000 in
set_option maxRecDepth 100000 in
theorem tX9_isTooth (l : Launch) (D : va_G) (d : AC) (mp : Nat → Nat) (x1 : Int32) (x2 : Int32) (μ : MS) {Q : Int32 → MS → Prop} (hq : wX9_isTooth x1 x2 μ Q) : MT D d (ΩM D d mp) l yX9_isTooth (WS yX9_isTooth cX9_isTooth 3 (some (.boolean))) rmX9_isTooth [.ref (mp 0), .int x1, .int x2] μ (qZ Q) := by
  refine mt_of (ΩM.mono D d mp) (by decide +kernel) (Nat.le_of_ble_eq_true rfl) (fun p e s m below meth c A ls hx hb hr hml hown hts hlocks hnm hK hA hw hS hl => ?_)
  have hl : lv_has ls 3 [(0, .ref (mp 0)), (1, .int x1), (2, .int x2)] := hl
  have hown : s.vm.findClass RX9 = some m.cls := hown
  unfold wX9_isTooth at hq
  refine lv_aload_n hx hb dX9_isTooth_0 rfl (lv_at hl 0 rfl) ?_
  refine lv_iload_n hx hb dX9_isTooth_1 rfl (lv_at hl 1 rfl) ?_
  refine mt_callV (index := 62) hx hb hml hown hts hK (ΩM.mono D d mp) hA hw hS hl.1 (tX9_isComb l D d mp x1 μ hq) (ΩM.recv hK hw) q_644 q_34 q_641 q_643 q_29 nmhX9_isComb ⟨⟨Nat.le_of_ble_eq_true rfl, Nat.le_of_ble_eq_true rfl⟩, ⟨Nat.le_of_ble_eq_true rfl, Nat.le_of_ble_eq_true rfl⟩⟩ rfl (Nat.le_of_ble_eq_true rfl) dX9_isTooth_2 (fun _ u4 H locs hq hw hS => ?_)
  obtain ⟨r3, rfl, hzr3, hq⟩ := hq
  refine W.eq (g2 := F0 m 5 ls [.int r3]) rfl ?_
  refine lv_if_eq (tgt := 26) hx hb dX9_isTooth_5 (by decide) (fun hc => ?_) (fun hc => ?_)
  · replace hq := hq.1 hc
    refine lv_iconst (v := 0) hx hb dX9_isTooth_26 (by decide) ?_
    exact mt_retz hx hb hr hlocks hw hS (Nat.le_of_ble_eq_true rfl) (Nat.le_of_ble_eq_true rfl) dX9_isTooth_27 rfl ⟨_, rfl, Or.inl rfl, hq⟩
  · replace hq := hq.2 hc
    refine lv_iload_n hx hb dX9_isTooth_8 rfl (lv_at hl 2 rfl) ?_
    refine lv_if_lt (tgt := 26) hx hb dX9_isTooth_9 (by decide) (fun hc => ?_) (fun hc => ?_)
    · replace hq := hq.1 hc
      refine lv_iconst (v := 0) hx hb dX9_isTooth_26 (by decide) ?_
      exact mt_retz hx hb hr hlocks hw hS (Nat.le_of_ble_eq_true rfl) (Nat.le_of_ble_eq_true rfl) dX9_isTooth_27 rfl ⟨_, rfl, Or.inl rfl, hq⟩
    · replace hq := hq.2 hc
      refine lv_iload_n hx hb dX9_isTooth_12 rfl (lv_at hl 2 rfl) ?_
      refine lv_aload_n hx hb dX9_isTooth_13 rfl (lv_at hl 0 rfl) ?_
      refine va_get (D := D) (ci := 8) (v := .ref (mp 7)) (C := RX9) (T := TX9) (N := 15) hx hb hts inX9 hown hK.1 hw.1 0 rfl rfl 6 (by decide) (hts _ q_467) (fun _ h9 => h9) rfl dX9_isTooth_14 ?_
      refine lv_iload_n hx hb dX9_isTooth_17 rfl (lv_at hl 1 rfl) ?_
      refine va_iald hx hb hK.1 hw.1 7 8 rfl rfl hq.1 dX9_isTooth_18 ?_
      replace hq := hq.2
      refine lv_icmp_ge (tgt := 26) hx hb dX9_isTooth_19 (by decide) (fun hc => ?_) (fun hc => ?_)
      · replace hq := hq.1 hc
        refine lv_iconst (v := 0) hx hb dX9_isTooth_26 (by decide) ?_
        exact mt_retz hx hb hr hlocks hw hS (Nat.le_of_ble_eq_true rfl) (Nat.le_of_ble_eq_true rfl) dX9_isTooth_27 rfl ⟨_, rfl, Or.inl rfl, hq⟩
      · replace hq := hq.2 hc
        refine lv_iconst (v := 1) hx hb dX9_isTooth_22 (by decide) ?_
        refine lv_goto (tgt := 27) hx hb dX9_isTooth_23 (by decide) ?_
        exact mt_retz hx hb hr hlocks hw hS (Nat.le_of_ble_eq_true rfl) (Nat.le_of_ble_eq_true rfl) dX9_isTooth_27 rfl ⟨_, rfl, Or.inr rfl, hq⟩
abbrev rmX9_lacks : Room := { frames := 0, cells := 0, slots := 0, locals := 0 }
theorem nmhX9_lacks : NoMH yX9_lacks 2 := by decide +kernel
def wX9_lacks (x1 : Int32) (x2 : Int32) (μ : MS) (Q : Int32 → MS → Prop) : Prop :=
    (0 ≤ x1 → ((x2 < 0 → Q (-3 : Int32) μ) ∧ (¬ x2 < 0 → (vp_in x1 202 ∧ ((x2 < (mSize μ x1.toNatClampNeg) → Q (0 : Int32) μ) ∧ (¬ x2 < (mSize μ x1.toNatClampNeg) → Q (-3 : Int32) μ)))))) ∧ (¬ 0 ≤ x1 → Q (-2 : Int32) μ)
set_option maxHeartbeats 4000000 in
set_option maxRecDepth 100000 in
theorem tX9_lacks (l : Launch) (D : va_G) (d : AC) (mp : Nat → Nat) (x1 : Int32) (x2 : Int32) (μ : MS) {Q : Int32 → MS → Prop} (hq : wX9_lacks x1 x2 μ Q) : MT D d (ΩM D d mp) l yX9_lacks (WS yX9_lacks cX9_lacks 3 (some (.int))) rmX9_lacks [.ref (mp 0), .int x1, .int x2] μ (qI Q) := by
  refine mt_of (ΩM.mono D d mp) (by decide +kernel) (Nat.le_of_ble_eq_true rfl) (fun p e s m below meth c A ls hx hb hr hml hown hts hlocks hnm hK hA hw hS hl => ?_)
  have hl : lv_has ls 3 [(0, .ref (mp 0)), (1, .int x1), (2, .int x2)] := hl
  have hown : s.vm.findClass RX9 = some m.cls := hown
  unfold wX9_lacks at hq
  refine lv_iload_n hx hb dX9_lacks_0 rfl (lv_at hl 1 rfl) ?_
  refine lv_if_ge (tgt := 9) hx hb dX9_lacks_1 (by decide) (fun hc => ?_) (fun hc => ?_)
  · replace hq := hq.1 hc
    refine lv_iload_n hx hb dX9_lacks_9 rfl (lv_at hl 2 rfl) ?_
    refine lv_if_lt (tgt := 23) hx hb dX9_lacks_10 (by decide) (fun hc => ?_) (fun hc => ?_)
    · replace hq := hq.1 hc
      refine lv_bipush (v := -3) hx hb dX9_lacks_23 (by decide) ?_
      refine lv_goto (tgt := 29) hx hb dX9_lacks_25 (by decide) ?_
      exact mt_reti hx hb hr hlocks hw hS (Nat.le_of_ble_eq_true rfl) (Nat.le_of_ble_eq_true rfl) dX9_lacks_29 ⟨_, rfl, hq⟩
    · replace hq := hq.2 hc
      refine lv_iload_n hx hb dX9_lacks_13 rfl (lv_at hl 2 rfl) ?_
      refine lv_aload_n hx hb dX9_lacks_14 rfl (lv_at hl 0 rfl) ?_
      refine va_get (D := D) (ci := 8) (v := .ref (mp 2)) (C := RX9) (T := TX9) (N := 15) hx hb hts inX9 hown hK.1 hw.1 0 rfl rfl 1 (by decide) (hts _ q_462) (fun _ h9 => h9) rfl dX9_lacks_15 ?_
      refine lv_iload_n hx hb dX9_lacks_18 rfl (lv_at hl 1 rfl) ?_
      refine va_iald hx hb hK.1 hw.1 2 8 rfl rfl hq.1 dX9_lacks_19 ?_
      replace hq := hq.2
      refine lv_icmp_lt (tgt := 28) hx hb dX9_lacks_20 (by decide) (fun hc => ?_) (fun hc => ?_)
      · replace hq := hq.1 hc
        refine lv_iconst (v := 0) hx hb dX9_lacks_28 (by decide) ?_
        exact mt_reti hx hb hr hlocks hw hS (Nat.le_of_ble_eq_true rfl) (Nat.le_of_ble_eq_true rfl) dX9_lacks_29 ⟨_, rfl, hq⟩
      · replace hq := hq.2 hc
        refine lv_bipush (v := -3) hx hb dX9_lacks_23 (by decide) ?_
        refine lv_goto (tgt := 29) hx hb dX9_lacks_25 (by decide) ?_
        exact mt_reti hx hb hr hlocks hw hS (Nat.le_of_ble_eq_true rfl) (Nat.le_of_ble_eq_true rfl) dX9_lacks_29 ⟨_, rfl, hq⟩
  · replace hq := hq.2 hc
    refine lv_bipush (v := -2) hx hb dX9_lacks_4 (by decide) ?_
    refine lv_goto (tgt := 29) hx hb dX9_lacks_6 (by decide) ?_
    exact mt_reti hx hb hr hlocks hw hS (Nat.le_of_ble_eq_true rfl) (Nat.le_of_ble_eq_true rfl) dX9_lacks_29 ⟨_, rfl, hq⟩
abbrev rmX9_packed : Room := { frames := 0, cells := 0, slots := 0, locals := 0 }
theorem nmhX9_packed : NoMH yX9_packed 2 := by decide +kernel
def wX9_packed (x0 : Int32) (x1 : Int32) (μ : MS) (Q : Int32 → MS → Prop) : Prop :=
    (¬ x0 = (1 : Int32) → ((¬ x0 = (2 : Int32) → (Q ((x1 <<< ((24 : Int32) &&& 31)) >>> ((24 : Int32) &&& 31)) μ)) ∧ (x0 = (2 : Int32) → (Q ((x1 <<< ((16 : Int32) &&& 31)) >>> ((16 : Int32) &&& 31)) μ)))) ∧ (x0 = (1 : Int32) → (Q (x1 &&& (65535 : Int32)) μ))
set_option maxHeartbeats 4000000 in
set_option maxRecDepth 100000 in
theorem tX9_packed (l : Launch) (D : va_G) (d : AC) (mp : Nat → Nat) (x0 : Int32) (x1 : Int32) (μ : MS) {Q : Int32 → MS → Prop} (hq : wX9_packed x0 x1 μ Q) : MT D d (ΩM D d mp) l yX9_packed (WS yX9_packed cX9_packed 2 (some (.int))) rmX9_packed [.int x0, .int x1] μ (qI Q) := by
  refine mt_of (ΩM.mono D d mp) (by decide +kernel) (Nat.le_of_ble_eq_true rfl) (fun p e s m below meth c A ls hx hb hr hml hown hts hlocks hnm hK hA hw hS hl => ?_)
  have hl : lv_has ls 2 [(0, .int x0), (1, .int x1)] := hl
  have hown : s.vm.findClass RX9 = some m.cls := hown
  unfold wX9_packed at hq
  refine lv_iload_n hx hb dX9_packed_0 rfl (lv_at hl 0 rfl) ?_
  refine lv_iconst (v := 1) hx hb dX9_packed_1 (by decide) ?_
  refine lv_icmp_ne (tgt := 10) hx hb dX9_packed_2 (by decide) (fun hc => ?_) (fun hc => ?_)
  · replace hq := hq.1 hc
    refine lv_iload_n hx hb dX9_packed_10 rfl (lv_at hl 0 rfl) ?_
    refine lv_iconst (v := 2) hx hb dX9_packed_11 (by decide) ?_
    refine lv_icmp_ne (tgt := 23) hx hb dX9_packed_12 (by decide) (fun hc => ?_) (fun hc => ?_)
    · replace hq := hq.1 hc
      refine lv_iload_n hx hb dX9_packed_23 rfl (lv_at hl 1 rfl) ?_
      refine lv_bipush (v := 24) hx hb dX9_packed_24 (by decide) ?_
      refine lv_ishl hx hb dX9_packed_26 ?_
      refine lv_bipush (v := 24) hx hb dX9_packed_27 (by decide) ?_
      refine lv_ishr hx hb dX9_packed_29 ?_
      exact mt_reti hx hb hr hlocks hw hS (Nat.le_of_ble_eq_true rfl) (Nat.le_of_ble_eq_true rfl) dX9_packed_30 ⟨_, rfl, hq⟩
    · replace hq := hq.2 hc
      refine lv_iload_n hx hb dX9_packed_15 rfl (lv_at hl 1 rfl) ?_
      refine lv_bipush (v := 16) hx hb dX9_packed_16 (by decide) ?_
      refine lv_ishl hx hb dX9_packed_18 ?_
      refine lv_bipush (v := 16) hx hb dX9_packed_19 (by decide) ?_
      refine lv_ishr hx hb dX9_packed_21 ?_
      exact mt_reti hx hb hr hlocks hw hS (Nat.le_of_ble_eq_true rfl) (Nat.le_of_ble_eq_true rfl) dX9_packed_22 ⟨_, rfl, hq⟩
  · replace hq := hq.2 hc
    refine lv_iload_n hx hb dX9_packed_5 rfl (lv_at hl 1 rfl) ?_
    refine lv_ldc (v := 65535) hx hb hown (hts _ q_582) dX9_packed_6 ?_
    refine lv_iand hx hb dX9_packed_8 ?_
    exact mt_reti hx hb hr hlocks hw hS (Nat.le_of_ble_eq_true rfl) (Nat.le_of_ble_eq_true rfl) dX9_packed_9 ⟨_, rfl, hq⟩
