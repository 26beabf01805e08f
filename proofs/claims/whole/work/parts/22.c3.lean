abbrev rmX8_refuse : Room := { frames := 0, cells := 0, slots := 0, locals := 0 }
theorem nmhX8_refuse : NoMH yX8_refuse 1 := by decide +kernel
def wX8_refuse (x1 : Int32) (σ : CS) (Q : Int32 → CS → Prop) : Prop :=
    Q x1 (pRf σ x1)
set_option maxHeartbeats 4000000 in
set_option maxRecDepth 100000 in
theorem tX8_refuse (l : Launch) (D : va_G) (d : AC) (cp : CP) (x1 : Int32) (σ : CS) {Q : Int32 → CS → Prop} (hq : wX8_refuse x1 σ Q) : MT D d (ΩC D d cp) l yX8_refuse (WS yX8_refuse cX8_refuse 2 (some (.int))) rmX8_refuse [.ref (aX cp), .int x1] σ (qI Q) := by
  refine mt_of (ΩC.mono D d cp) (by decide +kernel) (Nat.le_of_ble_eq_true rfl) (fun p e s m below meth c A ls hx hb hr hml hown hts hlocks hnm hK hA hw hS hl => ?_)
  have hl : lv_has ls 2 [(0, .ref (aX cp)), (1, .int x1)] := hl
  have hown : s.vm.findClass RX8 = some m.cls := hown
  unfold wX8_refuse at hq
  refine lv_aload_n hx hb dX8_refuse_0 rfl (lv_at hl 0 rfl) ?_
  refine lv_iload_n hx hb dX8_refuse_1 rfl (lv_at hl 1 rfl) ?_
  refine c_putx hx hb hts hown hK hw hS (hts _ q_92) (fun _ h9 => h9) dX8_refuse_2 (fun H locs hw hS => ?_)
  refine lv_iload_n hx hb dX8_refuse_5 rfl (lv_at hl 1 rfl) ?_
  exact mt_reti hx hb hr hlocks hw hS (Nat.le_of_ble_eq_true rfl) (Nat.le_of_ble_eq_true rfl) dX8_refuse_6 ⟨_, rfl, hq⟩
abbrev rmX8_grant : Room := { frames := 0, cells := 0, slots := 0, locals := 0 }
theorem nmhX8_grant : NoMH yX8_grant 1 := by decide +kernel
def wX8_grant (x1 : Int32) (σ : CS) (Q : Int32 → CS → Prop) : Prop :=
    Q x1 (pRf σ (0 : Int32))
set_option maxHeartbeats 4000000 in
set_option maxRecDepth 100000 in
theorem tX8_grant (l : Launch) (D : va_G) (d : AC) (cp : CP) (x1 : Int32) (σ : CS) {Q : Int32 → CS → Prop} (hq : wX8_grant x1 σ Q) : MT D d (ΩC D d cp) l yX8_grant (WS yX8_grant cX8_grant 2 (some (.int))) rmX8_grant [.ref (aX cp), .int x1] σ (qI Q) := by
  refine mt_of (ΩC.mono D d cp) (by decide +kernel) (Nat.le_of_ble_eq_true rfl) (fun p e s m below meth c A ls hx hb hr hml hown hts hlocks hnm hK hA hw hS hl => ?_)
  have hl : lv_has ls 2 [(0, .ref (aX cp)), (1, .int x1)] := hl
  have hown : s.vm.findClass RX8 = some m.cls := hown
  unfold wX8_grant at hq
  refine lv_aload_n hx hb dX8_grant_0 rfl (lv_at hl 0 rfl) ?_
  refine lv_iconst (v := 0) hx hb dX8_grant_1 (by decide) ?_
  refine c_putx hx hb hts hown hK hw hS (hts _ q_92) (fun _ h9 => h9) dX8_grant_2 (fun H locs hw hS => ?_)
  refine lv_iload_n hx hb dX8_grant_5 rfl (lv_at hl 1 rfl) ?_
  exact mt_reti hx hb hr hlocks hw hS (Nat.le_of_ble_eq_true rfl) (Nat.le_of_ble_eq_true rfl) dX8_grant_6 ⟨_, rfl, hq⟩
abbrev rmX8_isUpTo : Room := { frames := 0, cells := 0, slots := 0, locals := 0 }
theorem nmhX8_isUpTo : NoMH yX8_isUpTo 2 := by decide +kernel
def wX8_isUpTo (x0 : Int32) (x1 : Int32) (σ : CS) (Q : Int32 → CS → Prop) : Prop :=
    (x0 < 0 → Q (0 : Int32) σ) ∧ (¬ x0 < 0 → ((x1 < x0 → Q (0 : Int32) σ) ∧ (¬ x1 < x0 → Q (1 : Int32) σ)))
set_option maxHeartbeats 4000000 in
set_option maxRecDepth 100000 in
theorem tX8_isUpTo (l : Launch) (D : va_G) (d : AC) (cp : CP) (x0 : Int32) (x1 : Int32) (σ : CS) {Q : Int32 → CS → Prop} (hq : wX8_isUpTo x0 x1 σ Q) : MT D d (ΩC D d cp) l yX8_isUpTo (WS yX8_isUpTo cX8_isUpTo 2 (some (.boolean))) rmX8_isUpTo [.int x0, .int x1] σ (qZ Q) := by
  refine mt_of (ΩC.mono D d cp) (by decide +kernel) (Nat.le_of_ble_eq_true rfl) (fun p e s m below meth c A ls hx hb hr hml hown hts hlocks hnm hK hA hw hS hl => ?_)
  have hl : lv_has ls 2 [(0, .int x0), (1, .int x1)] := hl
  have hown : s.vm.findClass RX8 = some m.cls := hown
  unfold wX8_isUpTo at hq
  refine lv_iload_n hx hb dX8_isUpTo_0 rfl (lv_at hl 0 rfl) ?_
  refine lv_if_lt (tgt := 13) hx hb dX8_isUpTo_1 (by decide) (fun hc => ?_) (fun hc => ?_)
  · replace hq := hq.1 hc
    refine lv_iconst (v := 0) hx hb dX8_isUpTo_13 (by decide) ?_
    exact mt_retz hx hb hr hlocks hw hS (Nat.le_of_ble_eq_true rfl) (Nat.le_of_ble_eq_true rfl) dX8_isUpTo_14 rfl ⟨_, rfl, Or.inl rfl, hq⟩
  · replace hq := hq.2 hc
    refine lv_iload_n hx hb dX8_isUpTo_4 rfl (lv_at hl 0 rfl) ?_
    refine lv_iload_n hx hb dX8_isUpTo_5 rfl (lv_at hl 1 rfl) ?_
    refine lv_icmp_gt (tgt := 13) hx hb dX8_isUpTo_6 (by decide) (fun hc => ?_) (fun hc => ?_)
    · replace hq := hq.1 hc
      refine lv_iconst (v := 0) hx hb dX8_isUpTo_13 (by decide) ?_
      exact mt_retz hx hb hr hlocks hw hS (Nat.le_of_ble_eq_true rfl) (Nat.le_of_ble_eq_true rfl) dX8_isUpTo_14 rfl ⟨_, rfl, Or.inl rfl, hq⟩
    · replace hq := hq.2 hc
      refine lv_iconst (v := 1) hx hb dX8_isUpTo_9 (by decide) ?_
      refine lv_goto (tgt := 14) hx hb dX8_isUpTo_10 (by decide) ?_
      exact mt_retz hx hb hr hlocks hw hS (Nat.le_of_ble_eq_true rfl) (Nat.le_of_ble_eq_true rfl) dX8_isUpTo_14 rfl ⟨_, rfl, Or.inr rfl, hq⟩
abbrev rmX8_isDrum : Room := { frames := 0, cells := 0, slots := 0, locals := 0 }
theorem nmhX8_isDrum : NoMH yX8_isDrum 1 := by decide +kernel
def wX8_isDrum (x0 : Int32) (σ : CS) (Q : Int32 → CS → Prop) : Prop :=
    (x0 < 0 → Q (0 : Int32) σ) ∧ (¬ x0 < 0 → (((8 : Int32) ≤ x0 → Q (0 : Int32) σ) ∧ (¬ (8 : Int32) ≤ x0 → Q (1 : Int32) σ)))
set_option maxHeartbeats 4000000 in
set_option maxRecDepth 100000 in
theorem tX8_isDrum (l : Launch) (D : va_G) (d : AC) (cp : CP) (x0 : Int32) (σ : CS) {Q : Int32 → CS → Prop} (hq : wX8_isDrum x0 σ Q) : MT D d (ΩC D d cp) l yX8_isDrum (WS yX8_isDrum cX8_isDrum 1 (some (.boolean))) rmX8_isDrum [.int x0] σ (qZ Q) := by
  refine mt_of (ΩC.mono D d cp) (by decide +kernel) (Nat.le_of_ble_eq_true rfl) (fun p e s m below meth c A ls hx hb hr hml hown hts hlocks hnm hK hA hw hS hl => ?_)
  have hl : lv_has ls 1 [(0, .int x0)] := hl
  have hown : s.vm.findClass RX8 = some m.cls := hown
  unfold wX8_isDrum at hq
  refine lv_iload_n hx hb dX8_isDrum_0 rfl (lv_at hl 0 rfl) ?_
  refine lv_if_lt (tgt := 14) hx hb dX8_isDrum_1 (by decide) (fun hc => ?_) (fun hc => ?_)
  · replace hq := hq.1 hc
    refine lv_iconst (v := 0) hx hb dX8_isDrum_14 (by decide) ?_
    exact mt_retz hx hb hr hlocks hw hS (Nat.le_of_ble_eq_true rfl) (Nat.le_of_ble_eq_true rfl) dX8_isDrum_15 rfl ⟨_, rfl, Or.inl rfl, hq⟩
  · replace hq := hq.2 hc
    refine lv_iload_n hx hb dX8_isDrum_4 rfl (lv_at hl 0 rfl) ?_
    refine lv_bipush (v := 8) hx hb dX8_isDrum_5 (by decide) ?_
    refine lv_icmp_ge (tgt := 14) hx hb dX8_isDrum_7 (by decide) (fun hc => ?_) (fun hc => ?_)
    · replace hq := hq.1 hc
      refine lv_iconst (v := 0) hx hb dX8_isDrum_14 (by decide) ?_
      exact mt_retz hx hb hr hlocks hw hS (Nat.le_of_ble_eq_true rfl) (Nat.le_of_ble_eq_true rfl) dX8_isDrum_15 rfl ⟨_, rfl, Or.inl rfl, hq⟩
    · replace hq := hq.2 hc
      refine lv_iconst (v := 1) hx hb dX8_isDrum_10 (by decide) ?_
      refine lv_goto (tgt := 15) hx hb dX8_isDrum_11 (by decide) ?_
      exact mt_retz hx hb hr hlocks hw hS (Nat.le_of_ble_eq_true rfl) (Nat.le_of_ble_eq_true rfl) dX8_isDrum_15 rfl ⟨_, rfl, Or.inr rfl, hq⟩
abbrev rmX8_isKind : Room := { frames := 0, cells := 0, slots := 0, locals := 0 }
theorem nmhX8_isKind : NoMH yX8_isKind 1 := by decide +kernel
def wX8_isKind (x0 : Int32) (σ : CS) (Q : Int32 → CS → Prop) : Prop :=
    (x0 < 0 → Q (0 : Int32) σ) ∧ (¬ x0 < 0 → (((5 : Int32) ≤ x0 → Q (0 : Int32) σ) ∧ (¬ (5 : Int32) ≤ x0 → Q (1 : Int32) σ)))
set_option maxHeartbeats 4000000 in
set_option maxRecDepth 100000 in
theorem tX8_isKind (l : Launch) (D : va_G) (d : AC) (cp : CP) (x0 : Int32) (σ : CS) {Q : Int32 → CS → Prop} (hq : wX8_isKind x0 σ Q) : MT D d (ΩC D d cp) l yX8_isKind (WS yX8_isKind cX8_isKind 1 (some (.boolean))) rmX8_isKind [.int x0] σ (qZ Q) := by
  refine mt_of (ΩC.mono D d cp) (by decide +kernel) (Nat.le_of_ble_eq_true rfl) (fun p e s m below meth c A ls hx hb hr hml hown hts hlocks hnm hK hA hw hS hl => ?_)
  have hl : lv_has ls 1 [(0, .int x0)] := hl
  have hown : s.vm.findClass RX8 = some m.cls := hown
  unfold wX8_isKind at hq
  refine lv_iload_n hx hb dX8_isKind_0 rfl (lv_at hl 0 rfl) ?_
  refine lv_if_lt (tgt := 13) hx hb dX8_isKind_1 (by decide) (fun hc => ?_) (fun hc => ?_)
  · replace hq := hq.1 hc
    refine lv_iconst (v := 0) hx hb dX8_isKind_13 (by decide) ?_
    exact mt_retz hx hb hr hlocks hw hS (Nat.le_of_ble_eq_true rfl) (Nat.le_of_ble_eq_true rfl) dX8_isKind_14 rfl ⟨_, rfl, Or.inl rfl, hq⟩
  · replace hq := hq.2 hc
    refine lv_iload_n hx hb dX8_isKind_4 rfl (lv_at hl 0 rfl) ?_
    refine lv_iconst (v := 5) hx hb dX8_isKind_5 (by decide) ?_
    refine lv_icmp_ge (tgt := 13) hx hb dX8_isKind_6 (by decide) (fun hc => ?_) (fun hc => ?_)
    · replace hq := hq.1 hc
      refine lv_iconst (v := 0) hx hb dX8_isKind_13 (by decide) ?_
      exact mt_retz hx hb hr hlocks hw hS (Nat.le_of_ble_eq_true rfl) (Nat.le_of_ble_eq_true rfl) dX8_isKind_14 rfl ⟨_, rfl, Or.inl rfl, hq⟩
    · replace hq := hq.2 hc
      refine lv_iconst (v := 1) hx hb dX8_isKind_9 (by decide) ?_
      refine lv_goto (tgt := 14) hx hb dX8_isKind_10 (by decide) ?_
      exact mt_retz hx hb hr hlocks hw hS (Nat.le_of_ble_eq_true rfl) (Nat.le_of_ble_eq_true rfl) dX8_isKind_14 rfl ⟨_, rfl, Or.inr rfl, hq⟩
abbrev rmX8_isComb : Room := { frames := 0, cells := 0, slots := 0, locals := 0 }
theorem nmhX8_isComb : NoMH yX8_isComb 1 := by decide +kernel
def wX8_isComb (x0 : Int32) (σ : CS) (Q : Int32 → CS → Prop) : Prop :=
    (x0 < 0 → Q (0 : Int32) σ) ∧ (¬ x0 < 0 → (((4 : Int32) ≤ x0 → Q (0 : Int32) σ) ∧ (¬ (4 : Int32) ≤ x0 → Q (1 : Int32) σ)))
set_option maxHeartbeats 4000000 in
set_option maxRecDepth 100000 in
theorem tX8_isComb (l : Launch) (D : va_G) (d : AC) (cp : CP) (x0 : Int32) (σ : CS) {Q : Int32 → CS → Prop} (hq : wX8_isComb x0 σ Q) : MT D d (ΩC D d cp) l yX8_isComb (WS yX8_isComb cX8_isComb 1 (some (.boolean))) rmX8_isComb [.int x0] σ (qZ Q) := by
  refine mt_of (ΩC.mono D d cp) (by decide +kernel) (Nat.le_of_ble_eq_true rfl) (fun p e s m below meth c A ls hx hb hr hml hown hts hlocks hnm hK hA hw hS hl => ?_)
  have hl : lv_has ls 1 [(0, .int x0)] := hl
  have hown : s.vm.findClass RX8 = some m.cls := hown
  unfold wX8_isComb at hq
  refine lv_iload_n hx hb dX8_isComb_0 rfl (lv_at hl 0 rfl) ?_
  refine lv_if_lt (tgt := 13) hx hb dX8_isComb_1 (by decide) (fun hc => ?_) (fun hc => ?_)
  · replace hq := hq.1 hc
    refine lv_iconst (v := 0) hx hb dX8_isComb_13 (by decide) ?_
    exact mt_retz hx hb hr hlocks hw hS (Nat.le_of_ble_eq_true rfl) (Nat.le_of_ble_eq_true rfl) dX8_isComb_14 rfl ⟨_, rfl, Or.inl rfl, hq⟩
  · replace hq := hq.2 hc
    refine lv_iload_n hx hb dX8_isComb_4 rfl (lv_at hl 0 rfl) ?_
    refine lv_iconst (v := 4) hx hb dX8_isComb_5 (by decide) ?_
    refine lv_icmp_ge (tgt := 13) hx hb dX8_isComb_6 (by decide) (fun hc => ?_) (fun hc => ?_)
    · replace hq := hq.1 hc
      refine lv_iconst (v := 0) hx hb dX8_isComb_13 (by decide) ?_
      exact mt_retz hx hb hr hlocks hw hS (Nat.le_of_ble_eq_true rfl) (Nat.le_of_ble_eq_true rfl) dX8_isComb_14 rfl ⟨_, rfl, Or.inl rfl, hq⟩
    · replace hq := hq.2 hc
      refine lv_iconst (v := 1) hx hb dX8_isComb_9 (by decide) ?_
      refine lv_goto (tgt := 14) hx hb dX8_isComb_10 (by decide) ?_
      exact mt_retz hx hb hr hlocks hw hS (Nat.le_of_ble_eq_true rfl) (Nat.le_of_ble_eq_true rfl) dX8_isComb_14 rfl ⟨_, rfl, Or.inr rfl, hq⟩
abbrev rmX8_combOf : Room := { frames := 1, cells := 0, slots := 0, locals := 20 }
theorem nmhX8_combOf : NoMH yX8_combOf 1 := by decide +kernel
def wX8_combOf (x1 : Int32) (σ : CS) (Q : Option Nat → CS → Prop) : Prop :=
    wX8_isComb x1 σ (fun r4 u5 => (r4 = 0 → Q none u5) ∧ (¬ r4 = 0 → (vp_in x1 4 ∧ (∀ o6 : Option Nat, o6 = sCb u5 x1.toNatClampNeg → Q o6 u5))))
set_option maxHeartbeats 4000000 in
set_option maxRecDepth 100000 in
theorem tX8_combOf (l : Launch) (D : va_G) (d : AC) (cp : CP) (x1 : Int32) (σ : CS) {Q : Option Nat → CS → Prop} (hq : wX8_combOf x1 σ Q) : MT D d (ΩC D d cp) l yX8_combOf (WS yX8_combOf cX8_combOf 2 (some (.object "MusicBoxes$Comb"))) rmX8_combOf [.ref (aX cp), .int x1] σ (qA Q) := by
  refine mt_of (ΩC.mono D d cp) (by decide +kernel) (Nat.le_of_ble_eq_true rfl) (fun p e s m below meth c A ls hx hb hr hml hown hts hlocks hnm hK hA hw hS hl => ?_)
  have hl : lv_has ls 2 [(0, .ref (aX cp)), (1, .int x1)] := hl
  have hown : s.vm.findClass RX8 = some m.cls := hown
  unfold wX8_combOf at hq
  refine lv_iload_n hx hb dX8_combOf_0 rfl (lv_at hl 1 rfl) ?_
  refine mt_callS (index := 87) hx hb hml hown hts hK (ΩC.mono D d cp) hA hw hS hl.1 (tX8_isComb l D d cp x1 σ hq) q_378 q_32 q_376 q_377 nmhX8_isComb ⟨⟨Nat.le_of_ble_eq_true rfl, Nat.le_of_ble_eq_true rfl⟩, ⟨Nat.le_of_ble_eq_true rfl, Nat.le_of_ble_eq_true rfl⟩⟩ rfl (Nat.le_of_ble_eq_true rfl) dX8_combOf_1 (fun _ u5 H locs hq hw hS => ?_)
  obtain ⟨r4, rfl, hzr4, hq⟩ := hq
  refine W.eq (g2 := F0 m 4 ls [.int r4]) rfl ?_
  refine lv_if_eq (tgt := 16) hx hb dX8_combOf_4 (by decide) (fun hc => ?_) (fun hc => ?_)
  · replace hq := hq.1 hc
    refine lv_null hx hb dX8_combOf_16 ?_
    exact mt_reta (o := none) hx hb hr hlocks hw hS (Nat.le_of_ble_eq_true rfl) (Nat.le_of_ble_eq_true rfl) dX8_combOf_17 ⟨_, rfl, hq⟩
  · replace hq := hq.2 hc
    refine lv_aload_n hx hb dX8_combOf_7 rfl (lv_at hl 0 rfl) ?_
    refine c_getx hx hb hts hown hK hw 1 (by decide) (hts _ q_91) (fun _ h9 => h9) rfl dX8_combOf_8 ?_
    refine lv_iload_n hx hb dX8_combOf_11 rfl (lv_at hl 1 rfl) ?_
    refine c_ldca hx hb hK hw hq.1 dX8_combOf_12 ?_
    replace hq := hq.2
    refine lv_topq (fun o6 eo6 => ?_)
    replace hq := hq o6 eo6
    refine lv_goto (tgt := 17) hx hb dX8_combOf_13 (by decide) ?_
    exact mt_reta (o := o6) hx hb hr hlocks hw hS (Nat.le_of_ble_eq_true rfl) (Nat.le_of_ble_eq_true rfl) dX8_combOf_17 ⟨_, rfl, hq⟩
abbrev rmX8_combWithTooth : Room := { frames := 2, cells := 0, slots := 0, locals := 41 }
theorem nmhX8_combWithTooth : NoMH yX8_combWithTooth 2 := by decide +kernel
def wX8_combWithTooth (x1 : Int32) (x2 : Int32) (σ : CS) (Q : Option Nat → CS → Prop) : Prop :=
    wX8_combOf x1 σ (fun r5 u6 => (r5 = none → Q none u6) ∧ (∀ a7 : Nat, r5 = some a7 → ((x2 < 0 → Q none u6) ∧ (¬ x2 < 0 → (∃ (k8 : Int32) (n8 te8 : Nat) (tt8 : Nat → Option Nat), sCm u6 a7 = some (k8, n8, te8, tt8) ∧ ((x2 < (nI n8) → Q (some a7) u6) ∧ (¬ x2 < (nI n8) → Q none u6)))))))
set_option maxHeartbeats 4000000 in
set_option maxRecDepth 100000 in
theorem tX8_combWithTooth (l : Launch) (D : va_G) (d : AC) (cp : CP) (x1 : Int32) (x2 : Int32) (σ : CS) {Q : Option Nat → CS → Prop} (hq : wX8_combWithTooth x1 x2 σ Q) : MT D d (ΩC D d cp) l yX8_combWithTooth (WS yX8_combWithTooth cX8_combWithTooth 4 (some (.object "MusicBoxes$Comb"))) rmX8_combWithTooth [.ref (aX cp), .int x1, .int x2] σ (qA Q) := by
  refine mt_of (ΩC.mono D d cp) (by decide +kernel) (Nat.le_of_ble_eq_true rfl) (fun p e s m below meth c A ls hx hb hr hml hown hts hlocks hnm hK hA hw hS hl => ?_)
  have hl : lv_has ls 4 [(0, .ref (aX cp)), (1, .int x1), (2, .int x2)] := hl
  have hown : s.vm.findClass RX8 = some m.cls := hown
  unfold wX8_combWithTooth at hq
  refine lv_aload_n hx hb dX8_combWithTooth_0 rfl (lv_at hl 0 rfl) ?_
  refine lv_iload_n hx hb dX8_combWithTooth_1 rfl (lv_at hl 1 rfl) ?_
  refine mt_callV (index := 96) hx hb hml hown hts hK (ΩC.mono D d cp) hA hw hS hl.1 (tX8_combOf l D d cp x1 σ hq) (c_recvX hK hw) q_401 q_32 q_398 q_400 q_12 nmhX8_combOf ⟨⟨Nat.le_of_ble_eq_true rfl, Nat.le_of_ble_eq_true rfl⟩, ⟨Nat.le_of_ble_eq_true rfl, Nat.le_of_ble_eq_true rfl⟩⟩ rfl (Nat.le_of_ble_eq_true rfl) dX8_combWithTooth_2 (fun _ u6 H locs hq hw hS => ?_)
  obtain ⟨r5, rfl, hq⟩ := hq
  refine W.eq (g2 := F0 m 5 ls [va_rf r5]) rfl ?_
  refine lv_astoreq_n (lv' := [(3, va_rf r5), (0, .ref (aX cp)), (1, .int x1), (2, .int x2)]) hx hb dX8_combWithTooth_5 rfl hl (by decide) rfl (fun ls hl => ?_)
  refine lv_aloadq_n hx hb dX8_combWithTooth_6 rfl (lv_at hl 0 rfl) ?_
  refine lv_ifnullq (tgt := 23) hx hb dX8_combWithTooth_7 (by decide) (fun hc => ?_) (fun a7 hc => ?_)
  · replace hq := hq.1 hc
    subst hc
    have hl : lv_has ls 4 [(3, .null), (0, .ref (aX cp)), (1, .int x1), (2, .int x2)] := hl
    refine lv_null hx hb dX8_combWithTooth_23 ?_
    exact mt_reta (o := none) hx hb hr hlocks hw hS (Nat.le_of_ble_eq_true rfl) (Nat.le_of_ble_eq_true rfl) dX8_combWithTooth_24 ⟨_, rfl, hq⟩
  · replace hq := hq.2 a7 hc
    subst hc
    have hl : lv_has ls 4 [(3, .ref a7), (0, .ref (aX cp)), (1, .int x1), (2, .int x2)] := hl
    refine lv_iload_n hx hb dX8_combWithTooth_10 rfl (lv_at hl 3 rfl) ?_
    refine lv_if_lt (tgt := 23) hx hb dX8_combWithTooth_11 (by decide) (fun hc => ?_) (fun hc => ?_)
    · replace hq := hq.1 hc
      refine lv_null hx hb dX8_combWithTooth_23 ?_
      exact mt_reta (o := none) hx hb hr hlocks hw hS (Nat.le_of_ble_eq_true rfl) (Nat.le_of_ble_eq_true rfl) dX8_combWithTooth_24 ⟨_, rfl, hq⟩
    · replace hq := hq.2 hc
      refine lv_iload_n hx hb dX8_combWithTooth_14 rfl (lv_at hl 3 rfl) ?_
      refine lv_aload_n hx hb dX8_combWithTooth_15 rfl (lv_at hl 0 rfl) ?_
      obtain ⟨k8, n8, te8, tt8, hm8, hq⟩ := hq
      refine c_getc hx hb hts hown hK hw hm8 1 (by decide) (hts _ q_388) (fun _ h9 => h9) rfl dX8_combWithTooth_16 ?_
      refine c_lente hx hb hK hw hm8 dX8_combWithTooth_19 ?_
      refine lv_icmp_lt (tgt := 25) hx hb dX8_combWithTooth_20 (by decide) (fun hc => ?_) (fun hc => ?_)
      · replace hq := hq.1 hc
        refine lv_aload_n hx hb dX8_combWithTooth_25 rfl (lv_at hl 0 rfl) ?_
        exact mt_reta (o := (some a7)) hx hb hr hlocks hw hS (Nat.le_of_ble_eq_true rfl) (Nat.le_of_ble_eq_true rfl) dX8_combWithTooth_26 ⟨_, rfl, hq⟩
      · replace hq := hq.2 hc
        refine lv_null hx hb dX8_combWithTooth_23 ?_
        exact mt_reta (o := none) hx hb hr hlocks hw hS (Nat.le_of_ble_eq_true rfl) (Nat.le_of_ble_eq_true rfl) dX8_combWithTooth_24 ⟨_, rfl, hq⟩
abbrev rmX8_wanted : Room := { frames := 0, cells := 0, slots := 0, locals := 0 }
theorem nmhX8_wanted : NoMH yX8_wanted 1 := by decide +kernel
def wX8_wanted (x1 : Option Nat) (σ : CS) (Q : Option Nat → CS → Prop) : Prop :=
    (x1 = none → (Q none (pRf σ (-2 : Int32)))) ∧ (∀ a2 : Nat, x1 = some a2 → (Q (some a2) (pRf σ (0 : Int32))))
set_option maxHeartbeats 4000000 in
set_option maxRecDepth 100000 in
theorem tX8_wanted (l : Launch) (D : va_G) (d : AC) (cp : CP) (x1 : Option Nat) (σ : CS) {Q : Option Nat → CS → Prop} (hq : wX8_wanted x1 σ Q) : MT D d (ΩC D d cp) l yX8_wanted (WS yX8_wanted cX8_wanted 2 (some (.object "MusicBoxes$Track"))) rmX8_wanted [.ref (aX cp), va_rf x1] σ (qA Q) := by
  refine mt_of (ΩC.mono D d cp) (by decide +kernel) (by cases x1 <;> exact Nat.le_of_ble_eq_true rfl) (fun p e s m below meth c A ls hx hb hr hml hown hts hlocks hnm hK hA hw hS hl => ?_)
  have hl : lv_has ls 2 [(0, .ref (aX cp)), (1, va_rf x1)] := by cases x1 <;> exact hl
  have hown : s.vm.findClass RX8 = some m.cls := hown
  unfold wX8_wanted at hq
  refine lv_aload_n hx hb dX8_wanted_0 rfl (lv_at hl 0 rfl) ?_
  refine lv_aloadq_n hx hb dX8_wanted_1 rfl (lv_at hl 1 rfl) ?_
  refine lv_ifnonnullq (tgt := 10) hx hb dX8_wanted_2 (by decide) (fun a2 hc => ?_) (fun hc => ?_)
  · replace hq := hq.2 a2 hc
    subst hc
    have hl : lv_has ls 2 [(0, .ref (aX cp)), (1, .ref a2)] := hl
    refine lv_iconst (v := 0) hx hb dX8_wanted_10 (by decide) ?_
    refine c_putx hx hb hts hown hK hw hS (hts _ q_92) (fun _ h9 => h9) dX8_wanted_11 (fun H locs hw hS => ?_)
    refine lv_aload_n hx hb dX8_wanted_14 rfl (lv_at hl 1 rfl) ?_
    exact mt_reta (o := (some a2)) hx hb hr hlocks hw hS (Nat.le_of_ble_eq_true rfl) (Nat.le_of_ble_eq_true rfl) dX8_wanted_15 ⟨_, rfl, hq⟩
  · replace hq := hq.1 hc
    subst hc
    have hl : lv_has ls 2 [(0, .ref (aX cp)), (1, .null)] := hl
    refine lv_bipush (v := -2) hx hb dX8_wanted_5 (by decide) ?_
    refine lv_goto (tgt := 11) hx hb dX8_wanted_7 (by decide) ?_
    refine c_putx hx hb hts hown hK hw hS (hts _ q_92) (fun _ h9 => h9) dX8_wanted_11 (fun H locs hw hS => ?_)
    refine lv_aload_nN hx hb dX8_wanted_14 rfl (lv_at hl 1 rfl) ?_
    exact mt_reta (o := none) hx hb hr hlocks hw hS (Nat.le_of_ble_eq_true rfl) (Nat.le_of_ble_eq_true rfl) dX8_wanted_15 ⟨_, rfl, hq⟩
abbrev rmX8_trackOfDrum : Room := { frames := 1, cells := 0, slots := 0, locals := 21 }
theorem nmhX8_trackOfDrum : NoMH yX8_trackOfDrum 2 := by decide +kernel
def wX8_trackOfDrum (x1 : Int32) (x2 : Int32) (σ : CS) (Q : Option Nat → CS → Prop) : Prop :=
    wX8_isDrum x1 σ (fun r9 u10 => (r9 = 0 → (Q none (pRf u10 (-1 : Int32)))) ∧ (¬ r9 = 0 → (wX8_isKind x2 u10 (fun r11 u12 => (¬ r11 = 0 → (vp_in x1 8 ∧ (vp_in x2 5 ∧ (∀ o14 : Option Nat, o14 = sSl u12 x1.toNatClampNeg x2.toNatClampNeg → wX8_wanted o14 u12 (fun r15 u16 => Q r15 u16))))) ∧ (r11 = 0 → (Q none (pRf u12 (-1 : Int32))))))))
set_option maxHeartbeats 4000000 in
set_option maxRecDepth 100000 in
theorem tX8_trackOfDrum (l : Launch) (D : va_G) (d : AC) (cp : CP) (x1 : Int32) (x2 : Int32) (σ : CS) {Q : Option Nat → CS → Prop} (hq : wX8_trackOfDrum x1 x2 σ Q) : MT D d (ΩC D d cp) l yX8_trackOfDrum (WS yX8_trackOfDrum cX8_trackOfDrum 3 (some (.object "MusicBoxes$Track"))) rmX8_trackOfDrum [.ref (aX cp), .int x1, .int x2] σ (qA Q) := by
  refine mt_of (ΩC.mono D d cp) (by decide +kernel) (Nat.le_of_ble_eq_true rfl) (fun p e s m below meth c A ls hx hb hr hml hown hts hlocks hnm hK hA hw hS hl => ?_)
  have hl : lv_has ls 3 [(0, .ref (aX cp)), (1, .int x1), (2, .int x2)] := hl
  have hown : s.vm.findClass RX8 = some m.cls := hown
  unfold wX8_trackOfDrum at hq
  refine lv_iload_n hx hb dX8_trackOfDrum_0 rfl (lv_at hl 1 rfl) ?_
  refine mt_callS (index := 26) hx hb hml hown hts hK (ΩC.mono D d cp) hA hw hS hl.1 (tX8_isDrum l D d cp x1 σ hq) q_106 q_32 q_104 q_105 nmhX8_isDrum ⟨⟨Nat.le_of_ble_eq_true rfl, Nat.le_of_ble_eq_true rfl⟩, ⟨Nat.le_of_ble_eq_true rfl, Nat.le_of_ble_eq_true rfl⟩⟩ rfl (Nat.le_of_ble_eq_true rfl) dX8_trackOfDrum_1 (fun _ u10 H locs hq hw hS => ?_)
  obtain ⟨r9, rfl, hzr9, hq⟩ := hq
  refine W.eq (g2 := F0 m 4 ls [.int r9]) rfl ?_
  refine lv_if_eq (tgt := 14) hx hb dX8_trackOfDrum_4 (by decide) (fun hc => ?_) (fun hc => ?_)
  · replace hq := hq.1 hc
    refine lv_aload_n hx hb dX8_trackOfDrum_14 rfl (lv_at hl 0 rfl) ?_
    refine lv_iconst (v := -1) hx hb dX8_trackOfDrum_15 (by decide) ?_
    refine c_putx hx hb hts hown hK hw hS (hts _ q_92) (fun _ h9 => h9) dX8_trackOfDrum_16 (fun H locs hw hS => ?_)
    refine lv_null hx hb dX8_trackOfDrum_19 ?_
    exact mt_reta (o := none) hx hb hr hlocks hw hS (Nat.le_of_ble_eq_true rfl) (Nat.le_of_ble_eq_true rfl) dX8_trackOfDrum_20 ⟨_, rfl, hq⟩
  · replace hq := hq.2 hc
    refine lv_iload_n hx hb dX8_trackOfDrum_7 rfl (lv_at hl 2 rfl) ?_
    refine mt_callS (index := 30) hx hb hml hown hts hK (ΩC.mono D d cp) hA hw hS hl.1 (tX8_isKind l D d cp x2 u10 hq) q_109 q_32 q_107 q_108 nmhX8_isKind ⟨⟨Nat.le_of_ble_eq_true rfl, Nat.le_of_ble_eq_true rfl⟩, ⟨Nat.le_of_ble_eq_true rfl, Nat.le_of_ble_eq_true rfl⟩⟩ rfl (Nat.le_of_ble_eq_true rfl) dX8_trackOfDrum_8 (fun _ u12 H locs hq hw hS => ?_)
    obtain ⟨r11, rfl, hzr11, hq⟩ := hq
    refine W.eq (g2 := F0 m 11 ls [.int r11]) rfl ?_
    refine lv_if_ne (tgt := 21) hx hb dX8_trackOfDrum_11 (by decide) (fun hc => ?_) (fun hc => ?_)
    · replace hq := hq.1 hc
      refine lv_aload_n hx hb dX8_trackOfDrum_21 rfl (lv_at hl 0 rfl) ?_
      refine lv_aload_n hx hb dX8_trackOfDrum_22 rfl (lv_at hl 0 rfl) ?_
      refine c_getx hx hb hts hown hK hw 0 (by decide) (hts _ q_90) (fun _ h9 => h9) rfl dX8_trackOfDrum_23 ?_
      refine lv_iload_n hx hb dX8_trackOfDrum_26 rfl (lv_at hl 1 rfl) ?_
      have hd13 := vp_lt hq.1
      refine c_ldda hx hb hK hw hq.1 dX8_trackOfDrum_27 ?_
      replace hq := hq.2
      refine c_getd hx hb hts hown hK hw hd13 0 (by decide) (hts _ q_61) (fun _ h9 => h9) rfl dX8_trackOfDrum_28 ?_
      refine lv_iload_n hx hb dX8_trackOfDrum_31 rfl (lv_at hl 2 rfl) ?_
      refine c_lddt hx hb hK hw hd13 hq.1 dX8_trackOfDrum_32 ?_
      replace hq := hq.2
      refine lv_topq (fun o14 eo14 => ?_)
      replace hq := hq o14 eo14
      refine mt_callV (index := 113) hx hb hml hown hts hK (ΩC.mono D d cp) hA hw hS hl.1 (tX8_wanted l D d cp o14 u12 hq) (c_recvX hK hw) q_202 q_32 q_199 q_201 q_3 nmhX8_wanted ⟨⟨Nat.le_of_ble_eq_true rfl, Nat.le_of_ble_eq_true rfl⟩, ⟨Nat.le_of_ble_eq_true rfl, Nat.le_of_ble_eq_true rfl⟩⟩ rfl (Nat.le_of_ble_eq_true rfl) dX8_trackOfDrum_33 (fun _ u16 H locs hq hw hS => ?_)
      obtain ⟨r15, rfl, hq⟩ := hq
      refine W.eq (g2 := F0 m 36 ls [va_rf r15]) rfl ?_
      exact mt_reta (o := r15) hx hb hr hlocks hw hS (Nat.le_of_ble_eq_true rfl) (Nat.le_of_ble_eq_true rfl) dX8_trackOfDrum_36 ⟨_, rfl, hq⟩
    · replace hq := hq.2 hc
      refine lv_aload_n hx hb dX8_trackOfDrum_14 rfl (lv_at hl 0 rfl) ?_
      refine lv_iconst (v := -1) hx hb dX8_trackOfDrum_15 (by decide) ?_
      refine c_putx hx hb hts hown hK hw hS (hts _ q_92) (fun _ h9 => h9) dX8_trackOfDrum_16 (fun H locs hw hS => ?_)
      refine lv_null hx hb dX8_trackOfDrum_19 ?_
      exact mt_reta (o := none) hx hb hr hlocks hw hS (Nat.le_of_ble_eq_true rfl) (Nat.le_of_ble_eq_true rfl) dX8_trackOfDrum_20 ⟨_, rfl, hq⟩
abbrev rmX8_trackOfTooth : Room := { frames := 3, cells := 0, slots := 0, locals := 64 }
theorem nmhX8_trackOfTooth : NoMH yX8_trackOfTooth 2 := by decide +kernel
def wX8_trackOfTooth (x1 : Int32) (x2 : Int32) (σ : CS) (Q : Option Nat → CS → Prop) : Prop :=
    wX8_combWithTooth x1 x2 σ (fun r8 u9 => (r8 = none → (Q none (pRf u9 (-1 : Int32)))) ∧ (∀ a10 : Nat, r8 = some a10 → (∃ (k11 : Int32) (n11 te11 : Nat) (tt11 : Nat → Option Nat), sCm u9 a10 = some (k11, n11, te11, tt11) ∧ (vp_in x2 n11 ∧ (∀ o12 : Option Nat, o12 = tt11 x2.toNatClampNeg → wX8_wanted o12 u9 (fun r13 u14 => Q r13 u14))))))
set_option maxHeartbeats 4000000 in
set_option maxRecDepth 100000 in
theorem tX8_trackOfTooth (l : Launch) (D : va_G) (d : AC) (cp : CP) (x1 : Int32) (x2 : Int32) (σ : CS) {Q : Option Nat → CS → Prop} (hq : wX8_trackOfTooth x1 x2 σ Q) : MT D d (ΩC D d cp) l yX8_trackOfTooth (WS yX8_trackOfTooth cX8_trackOfTooth 4 (some (.object "MusicBoxes$Track"))) rmX8_trackOfTooth [.ref (aX cp), .int x1, .int x2] σ (qA Q) := by
  refine mt_of (ΩC.mono D d cp) (by decide +kernel) (Nat.le_of_ble_eq_true rfl) (fun p e s m below meth c A ls hx hb hr hml hown hts hlocks hnm hK hA hw hS hl => ?_)
  have hl : lv_has ls 4 [(0, .ref (aX cp)), (1, .int x1), (2, .int x2)] := hl
  have hown : s.vm.findClass RX8 = some m.cls := hown
  unfold wX8_trackOfTooth at hq
  refine lv_aload_n hx hb dX8_trackOfTooth_0 rfl (lv_at hl 0 rfl) ?_
  refine lv_iload_n hx hb dX8_trackOfTooth_1 rfl (lv_at hl 1 rfl) ?_
  refine lv_iload_n hx hb dX8_trackOfTooth_2 rfl (lv_at hl 2 rfl) ?_
  refine mt_callV (index := 103) hx hb hml hown hts hK (ΩC.mono D d cp) hA hw hS hl.1 (tX8_combWithTooth l D d cp x1 x2 σ hq) (c_recvX hK hw) q_425 q_32 q_422 q_424 q_15 nmhX8_combWithTooth ⟨⟨Nat.le_of_ble_eq_true rfl, Nat.le_of_ble_eq_true rfl⟩, ⟨Nat.le_of_ble_eq_true rfl, Nat.le_of_ble_eq_true rfl⟩⟩ rfl (Nat.le_of_ble_eq_true rfl) dX8_trackOfTooth_3 (fun _ u9 H locs hq hw hS => ?_)
  obtain ⟨r8, rfl, hq⟩ := hq
  refine W.eq (g2 := F0 m 6 ls [va_rf r8]) rfl ?_
  refine lv_astoreq_n (lv' := [(3, va_rf r8), (0, .ref (aX cp)), (1, .int x1), (2, .int x2)]) hx hb dX8_trackOfTooth_6 rfl hl (by decide) rfl (fun ls hl => ?_)
  refine lv_aloadq_n hx hb dX8_trackOfTooth_7 rfl (lv_at hl 0 rfl) ?_
  refine lv_ifnonnullq (tgt := 18) hx hb dX8_trackOfTooth_8 (by decide) (fun a10 hc => ?_) (fun hc => ?_)
  · replace hq := hq.2 a10 hc
    subst hc
    have hl : lv_has ls 4 [(3, .ref a10), (0, .ref (aX cp)), (1, .int x1), (2, .int x2)] := hl
    refine lv_aload_n hx hb dX8_trackOfTooth_18 rfl (lv_at hl 1 rfl) ?_
    refine lv_aload_n hx hb dX8_trackOfTooth_19 rfl (lv_at hl 0 rfl) ?_
    obtain ⟨k11, n11, te11, tt11, hm11, hq⟩ := hq
    refine c_getc hx hb hts hown hK hw hm11 1 (by decide) (hts _ q_388) (fun _ h9 => h9) rfl dX8_trackOfTooth_20 ?_
    refine lv_iload_n hx hb dX8_trackOfTooth_23 rfl (lv_at hl 3 rfl) ?_
    refine c_ldte hx hb hK hw hm11 hq.1 dX8_trackOfTooth_24 ?_
    replace hq := hq.2
    refine lv_topq (fun o12 eo12 => ?_)
    replace hq := hq o12 eo12
    refine mt_callV (index := 113) hx hb hml hown hts hK (ΩC.mono D d cp) hA hw hS hl.1 (tX8_wanted l D d cp o12 u9 hq) (c_recvX hK hw) q_202 q_32 q_199 q_201 q_3 nmhX8_wanted ⟨⟨Nat.le_of_ble_eq_true rfl, Nat.le_of_ble_eq_true rfl⟩, ⟨Nat.le_of_ble_eq_true rfl, Nat.le_of_ble_eq_true rfl⟩⟩ rfl (Nat.le_of_ble_eq_true rfl) dX8_trackOfTooth_25 (fun _ u14 H locs hq hw hS => ?_)
    obtain ⟨r13, rfl, hq⟩ := hq
    refine W.eq (g2 := F0 m 28 ls [va_rf r13]) rfl ?_
    exact mt_reta (o := r13) hx hb hr hlocks hw hS (Nat.le_of_ble_eq_true rfl) (Nat.le_of_ble_eq_true rfl) dX8_trackOfTooth_28 ⟨_, rfl, hq⟩
  · replace hq := hq.1 hc
    subst hc
    have hl : lv_has ls 4 [(3, .null), (0, .ref (aX cp)), (1, .int x1), (2, .int x2)] := hl
    refine lv_aload_n hx hb dX8_trackOfTooth_11 rfl (lv_at hl 1 rfl) ?_
    refine lv_iconst (v := -1) hx hb dX8_trackOfTooth_12 (by decide) ?_
    refine c_putx hx hb hts hown hK hw hS (hts _ q_92) (fun _ h9 => h9) dX8_trackOfTooth_13 (fun H locs hw hS => ?_)
    refine lv_null hx hb dX8_trackOfTooth_16 ?_
    exact mt_reta (o := none) hx hb hr hlocks hw hS (Nat.le_of_ble_eq_true rfl) (Nat.le_of_ble_eq_true rfl) dX8_trackOfTooth_17 ⟨_, rfl, hq⟩
abbrev rmX8_valueIn : Room := { frames := 3, cells := 0, slots := 0, locals := 64 }
theorem nmhX8_valueIn : NoMH yX8_valueIn 2 := by decide +kernel
def wX8_valueIn (x1 : Option Nat) (x2 : Int32) (σ : CS) (Q : Int32 → CS → Prop) : Prop :=
    (x1 = none → Q (0 : Int32) σ) ∧ (∀ a8 : Nat, x1 = some a8 → (wT_hasPlace a8 x2 σ (fun r9 u10 => (¬ r9 = 0 → wT_valueAt a8 x2 u10 (fun r11 u12 => Q r11 u12)) ∧ (r9 = 0 → (wX8_refuse (-3 : Int32) u10 (fun r13 u14 => Q (0 : Int32) u14))))))
set_option maxHeartbeats 4000000 in
set_option maxRecDepth 100000 in
theorem tX8_valueIn (l : Launch) (D : va_G) (d : AC) (cp : CP) (x1 : Option Nat) (x2 : Int32) (σ : CS) {Q : Int32 → CS → Prop} (hq : wX8_valueIn x1 x2 σ Q) : MT D d (ΩC D d cp) l yX8_valueIn (WS yX8_valueIn cX8_valueIn 3 (some (.int))) rmX8_valueIn [.ref (aX cp), va_rf x1, .int x2] σ (qI Q) := by
  refine mt_of (ΩC.mono D d cp) (by decide +kernel) (by cases x1 <;> exact Nat.le_of_ble_eq_true rfl) (fun p e s m below meth c A ls hx hb hr hml hown hts hlocks hnm hK hA hw hS hl => ?_)
  have hl : lv_has ls 3 [(0, .ref (aX cp)), (1, va_rf x1), (2, .int x2)] := by cases x1 <;> exact hl
  have hown : s.vm.findClass RX8 = some m.cls := hown
  unfold wX8_valueIn at hq
  refine lv_aloadq_n hx hb dX8_valueIn_0 rfl (lv_at hl 1 rfl) ?_
  refine lv_ifnonnullq (tgt := 6) hx hb dX8_valueIn_1 (by decide) (fun a8 hc => ?_) (fun hc => ?_)
  · replace hq := hq.2 a8 hc
    subst hc
    have hl : lv_has ls 3 [(0, .ref (aX cp)), (1, .ref a8), (2, .int x2)] := hl
    refine lv_aload_n hx hb dX8_valueIn_6 rfl (lv_at hl 1 rfl) ?_
    refine lv_iload_n hx hb dX8_valueIn_7 rfl (lv_at hl 2 rfl) ?_
    refine mt_ThasPlace (index := 117) hx hb hml hown hts hK hA hw hS hl.1 (a := a8) hq q_219 (Nat.le_of_ble_eq_true rfl) (Nat.le_of_ble_eq_true rfl) (Nat.le_of_ble_eq_true rfl) (Nat.le_of_ble_eq_true rfl) rfl (Nat.le_of_ble_eq_true rfl) dX8_valueIn_8 (fun _ u10 H locs hq hw hS => ?_)
    obtain ⟨r9, rfl, hzr9, hq⟩ := hq
    refine W.eq (g2 := F0 m 11 ls [.int r9]) rfl ?_
    refine lv_if_ne (tgt := 23) hx hb dX8_valueIn_11 (by decide) (fun hc => ?_) (fun hc => ?_)
    · replace hq := hq.1 hc
      refine lv_aload_n hx hb dX8_valueIn_23 rfl (lv_at hl 1 rfl) ?_
      refine lv_iload_n hx hb dX8_valueIn_24 rfl (lv_at hl 2 rfl) ?_
      refine mt_TvalueAt (index := 120) hx hb hml hown hts hK hA hw hS hl.1 (a := a8) hq q_228 (Nat.le_of_ble_eq_true rfl) (Nat.le_of_ble_eq_true rfl) (Nat.le_of_ble_eq_true rfl) (Nat.le_of_ble_eq_true rfl) rfl (Nat.le_of_ble_eq_true rfl) dX8_valueIn_25 (fun _ u12 H locs hq hw hS => ?_)
      obtain ⟨r11, rfl, hq⟩ := hq
      refine W.eq (g2 := F0 m 28 ls [.int r11]) rfl ?_
      exact mt_reti hx hb hr hlocks hw hS (Nat.le_of_ble_eq_true rfl) (Nat.le_of_ble_eq_true rfl) dX8_valueIn_28 ⟨_, rfl, hq⟩
    · replace hq := hq.2 hc
      refine lv_aload_n hx hb dX8_valueIn_14 rfl (lv_at hl 0 rfl) ?_
      refine lv_bipush (v := -3) hx hb dX8_valueIn_15 (by decide) ?_
      refine mt_callV (index := 33) hx hb hml hown hts hK (ΩC.mono D d cp) hA hw hS hl.1 (tX8_refuse l D d cp (-3 : Int32) u10 hq) (c_recvX hK hw) q_113 q_32 q_110 q_112 q_0 nmhX8_refuse ⟨⟨Nat.le_of_ble_eq_true rfl, Nat.le_of_ble_eq_true rfl⟩, ⟨Nat.le_of_ble_eq_true rfl, Nat.le_of_ble_eq_true rfl⟩⟩ rfl (Nat.le_of_ble_eq_true rfl) dX8_valueIn_17 (fun _ u14 H locs hq hw hS => ?_)
      obtain ⟨r13, rfl, hq⟩ := hq
      refine W.eq (g2 := F0 m 20 ls [.int r13]) rfl ?_
      refine lv_pop hx hb dX8_valueIn_20 rfl ?_
      refine lv_iconst (v := 0) hx hb dX8_valueIn_21 (by decide) ?_
      exact mt_reti hx hb hr hlocks hw hS (Nat.le_of_ble_eq_true rfl) (Nat.le_of_ble_eq_true rfl) dX8_valueIn_22 ⟨_, rfl, hq⟩
  · replace hq := hq.1 hc
    subst hc
    have hl : lv_has ls 3 [(0, .ref (aX cp)), (1, .null), (2, .int x2)] := hl
    refine lv_iconst (v := 0) hx hb dX8_valueIn_4 (by decide) ?_
    exact mt_reti hx hb hr hlocks hw hS (Nat.le_of_ble_eq_true rfl) (Nat.le_of_ble_eq_true rfl) dX8_valueIn_5 ⟨_, rfl, hq⟩
abbrev rmX8_putInto : Room := { frames := 1, cells := 0, slots := 0, locals := 22 }
theorem nmhX8_putInto : NoMH yX8_putInto 3 := by decide +kernel
def wX8_putInto (x1 : Option Nat) (x2 : Int32) (x3 : Int32) (σ : CS) (Q : Int32 → CS → Prop) : Prop :=
    (x1 = none → Q (sRf σ) σ) ∧ (∀ a10 : Nat, x1 = some a10 → (wT_hasPlace a10 x2 σ (fun r11 u12 => (¬ r11 = 0 → (wT_put a10 x2 x3 u12 (fun r13 u14 => (r13 = 0 → wX8_refuse (-5 : Int32) u14 (fun r15 u16 => Q r15 u16)) ∧ (¬ r13 = 0 → Q (0 : Int32) u14)))) ∧ (r11 = 0 → wX8_refuse (-3 : Int32) u12 (fun r17 u18 => Q r17 u18)))))
set_option maxHeartbeats 4000000 in
set_option maxRecDepth 100000 in
theorem tX8_putInto (l : Launch) (D : va_G) (d : AC) (cp : CP) (x1 : Option Nat) (x2 : Int32) (x3 : Int32) (σ : CS) {Q : Int32 → CS → Prop} (hq : wX8_putInto x1 x2 x3 σ Q) : MT D d (ΩC D d cp) l yX8_putInto (WS yX8_putInto cX8_putInto 4 (some (.int))) rmX8_putInto [.ref (aX cp), va_rf x1, .int x2, .int x3] σ (qI Q) := by
  refine mt_of (ΩC.mono D d cp) (by decide +kernel) (by cases x1 <;> exact Nat.le_of_ble_eq_true rfl) (fun p e s m below meth c A ls hx hb hr hml hown hts hlocks hnm hK hA hw hS hl => ?_)
  have hl : lv_has ls 4 [(0, .ref (aX cp)), (1, va_rf x1), (2, .int x2), (3, .int x3)] := by cases x1 <;> exact hl
  have hown : s.vm.findClass RX8 = some m.cls := hown
  unfold wX8_putInto at hq
  refine lv_aloadq_n hx hb dX8_putInto_0 rfl (lv_at hl 1 rfl) ?_
  refine lv_ifnonnullq (tgt := 9) hx hb dX8_putInto_1 (by decide) (fun a10 hc => ?_) (fun hc => ?_)
  · replace hq := hq.2 a10 hc
    subst hc
    have hl : lv_has ls 4 [(0, .ref (aX cp)), (1, .ref a10), (2, .int x2), (3, .int x3)] := hl
    refine lv_aload_n hx hb dX8_putInto_9 rfl (lv_at hl 1 rfl) ?_
    refine lv_iload_n hx hb dX8_putInto_10 rfl (lv_at hl 2 rfl) ?_
    refine mt_ThasPlace (index := 117) hx hb hml hown hts hK hA hw hS hl.1 (a := a10) hq q_219 (Nat.le_of_ble_eq_true rfl) (Nat.le_of_ble_eq_true rfl) (Nat.le_of_ble_eq_true rfl) (Nat.le_of_ble_eq_true rfl) rfl (Nat.le_of_ble_eq_true rfl) dX8_putInto_11 (fun _ u12 H locs hq hw hS => ?_)
    obtain ⟨r11, rfl, hzr11, hq⟩ := hq
    refine W.eq (g2 := F0 m 14 ls [.int r11]) rfl ?_
    refine lv_if_ne (tgt := 24) hx hb dX8_putInto_14 (by decide) (fun hc => ?_) (fun hc => ?_)
    · replace hq := hq.1 hc
      refine lv_aload_n hx hb dX8_putInto_24 rfl (lv_at hl 1 rfl) ?_
      refine lv_iload_n hx hb dX8_putInto_25 rfl (lv_at hl 2 rfl) ?_
      refine lv_iload_n hx hb dX8_putInto_26 rfl (lv_at hl 3 rfl) ?_
      refine mt_Tput (index := 123) hx hb hml hown hts hK hA hw hS hl.1 (a := a10) hq q_262 (Nat.le_of_ble_eq_true rfl) (Nat.le_of_ble_eq_true rfl) (Nat.le_of_ble_eq_true rfl) (Nat.le_of_ble_eq_true rfl) rfl (Nat.le_of_ble_eq_true rfl) dX8_putInto_27 (fun _ u14 H locs hq hw hS => ?_)
      obtain ⟨r13, rfl, hzr13, hq⟩ := hq
      refine W.eq (g2 := F0 m 30 ls [.int r13]) rfl ?_
      refine lv_if_eq (tgt := 37) hx hb dX8_putInto_30 (by decide) (fun hc => ?_) (fun hc => ?_)
      · replace hq := hq.1 hc
        refine lv_aload_n hx hb dX8_putInto_37 rfl (lv_at hl 0 rfl) ?_
        refine lv_bipush (v := -5) hx hb dX8_putInto_38 (by decide) ?_
        refine mt_callV (index := 33) hx hb hml hown hts hK (ΩC.mono D d cp) hA hw hS hl.1 (tX8_refuse l D d cp (-5 : Int32) u14 hq) (c_recvX hK hw) q_113 q_32 q_110 q_112 q_0 nmhX8_refuse ⟨⟨Nat.le_of_ble_eq_true rfl, Nat.le_of_ble_eq_true rfl⟩, ⟨Nat.le_of_ble_eq_true rfl, Nat.le_of_ble_eq_true rfl⟩⟩ rfl (Nat.le_of_ble_eq_true rfl) dX8_putInto_40 (fun _ u16 H locs hq hw hS => ?_)
        obtain ⟨r15, rfl, hq⟩ := hq
        refine W.eq (g2 := F0 m 43 ls [.int r15]) rfl ?_
        exact mt_reti hx hb hr hlocks hw hS (Nat.le_of_ble_eq_true rfl) (Nat.le_of_ble_eq_true rfl) dX8_putInto_43 ⟨_, rfl, hq⟩
      · replace hq := hq.2 hc
        refine lv_iconst (v := 0) hx hb dX8_putInto_33 (by decide) ?_
        refine lv_goto (tgt := 43) hx hb dX8_putInto_34 (by decide) ?_
        exact mt_reti hx hb hr hlocks hw hS (Nat.le_of_ble_eq_true rfl) (Nat.le_of_ble_eq_true rfl) dX8_putInto_43 ⟨_, rfl, hq⟩
    · replace hq := hq.2 hc
      refine lv_aload_n hx hb dX8_putInto_17 rfl (lv_at hl 0 rfl) ?_
      refine lv_bipush (v := -3) hx hb dX8_putInto_18 (by decide) ?_
      refine mt_callV (index := 33) hx hb hml hown hts hK (ΩC.mono D d cp) hA hw hS hl.1 (tX8_refuse l D d cp (-3 : Int32) u12 hq) (c_recvX hK hw) q_113 q_32 q_110 q_112 q_0 nmhX8_refuse ⟨⟨Nat.le_of_ble_eq_true rfl, Nat.le_of_ble_eq_true rfl⟩, ⟨Nat.le_of_ble_eq_true rfl, Nat.le_of_ble_eq_true rfl⟩⟩ rfl (Nat.le_of_ble_eq_true rfl) dX8_putInto_20 (fun _ u18 H locs hq hw hS => ?_)
      obtain ⟨r17, rfl, hq⟩ := hq
      refine W.eq (g2 := F0 m 23 ls [.int r17]) rfl ?_
      exact mt_reti hx hb hr hlocks hw hS (Nat.le_of_ble_eq_true rfl) (Nat.le_of_ble_eq_true rfl) dX8_putInto_23 ⟨_, rfl, hq⟩
  · replace hq := hq.1 hc
    subst hc
    have hl : lv_has ls 4 [(0, .ref (aX cp)), (1, .null), (2, .int x2), (3, .int x3)] := hl
    refine lv_aload_n hx hb dX8_putInto_4 rfl (lv_at hl 0 rfl) ?_
    refine c_getx hx hb hts hown hK hw 2 (by decide) (hts _ q_92) (fun _ h9 => h9) rfl dX8_putInto_5 ?_
    exact mt_reti hx hb hr hlocks hw hS (Nat.le_of_ble_eq_true rfl) (Nat.le_of_ble_eq_true rfl) dX8_putInto_8 ⟨_, rfl, hq⟩
abbrev rmX8_alterIn : Room := { frames := 1, cells := 0, slots := 0, locals := 23 }
theorem nmhX8_alterIn : NoMH yX8_alterIn 3 := by decide +kernel
def wX8_alterIn (x1 : Option Nat) (x2 : Int32) (x3 : Int32) (σ : CS) (Q : Int32 → CS → Prop) : Prop :=
    (x1 = none → Q (sRf σ) σ) ∧ (∀ a10 : Nat, x1 = some a10 → (wT_hasPlace a10 x2 σ (fun r11 u12 => (¬ r11 = 0 → (wT_alter a10 x2 x3 u12 (fun r13 u14 => (r13 = 0 → wX8_refuse (-5 : Int32) u14 (fun r15 u16 => Q r15 u16)) ∧ (¬ r13 = 0 → Q (0 : Int32) u14)))) ∧ (r11 = 0 → wX8_refuse (-3 : Int32) u12 (fun r17 u18 => Q r17 u18)))))
set_option maxHeartbeats 4000000 in
set_option maxRecDepth 100000 in
theorem tX8_alterIn (l : Launch) (D : va_G) (d : AC) (cp : CP) (x1 : Option Nat) (x2 : Int32) (x3 : Int32) (σ : CS) {Q : Int32 → CS → Prop} (hq : wX8_alterIn x1 x2 x3 σ Q) : MT D d (ΩC D d cp) l yX8_alterIn (WS yX8_alterIn cX8_alterIn 4 (some (.int))) rmX8_alterIn [.ref (aX cp), va_rf x1, .int x2, .int x3] σ (qI Q) := by
  refine mt_of (ΩC.mono D d cp) (by decide +kernel) (by cases x1 <;> exact Nat.le_of_ble_eq_true rfl) (fun p e s m below meth c A ls hx hb hr hml hown hts hlocks hnm hK hA hw hS hl => ?_)
  have hl : lv_has ls 4 [(0, .ref (aX cp)), (1, va_rf x1), (2, .int x2), (3, .int x3)] := by cases x1 <;> exact hl
  have hown : s.vm.findClass RX8 = some m.cls := hown
  unfold wX8_alterIn at hq
  refine lv_aloadq_n hx hb dX8_alterIn_0 rfl (lv_at hl 1 rfl) ?_
  refine lv_ifnonnullq (tgt := 9) hx hb dX8_alterIn_1 (by decide) (fun a10 hc => ?_) (fun hc => ?_)
  · replace hq := hq.2 a10 hc
    subst hc
    have hl : lv_has ls 4 [(0, .ref (aX cp)), (1, .ref a10), (2, .int x2), (3, .int x3)] := hl
    refine lv_aload_n hx hb dX8_alterIn_9 rfl (lv_at hl 1 rfl) ?_
    refine lv_iload_n hx hb dX8_alterIn_10 rfl (lv_at hl 2 rfl) ?_
    refine mt_ThasPlace (index := 117) hx hb hml hown hts hK hA hw hS hl.1 (a := a10) hq q_219 (Nat.le_of_ble_eq_true rfl) (Nat.le_of_ble_eq_true rfl) (Nat.le_of_ble_eq_true rfl) (Nat.le_of_ble_eq_true rfl) rfl (Nat.le_of_ble_eq_true rfl) dX8_alterIn_11 (fun _ u12 H locs hq hw hS => ?_)
    obtain ⟨r11, rfl, hzr11, hq⟩ := hq
    refine W.eq (g2 := F0 m 14 ls [.int r11]) rfl ?_
    refine lv_if_ne (tgt := 24) hx hb dX8_alterIn_14 (by decide) (fun hc => ?_) (fun hc => ?_)
    · replace hq := hq.1 hc
      refine lv_aload_n hx hb dX8_alterIn_24 rfl (lv_at hl 1 rfl) ?_
      refine lv_iload_n hx hb dX8_alterIn_25 rfl (lv_at hl 2 rfl) ?_
      refine lv_iload_n hx hb dX8_alterIn_26 rfl (lv_at hl 3 rfl) ?_
      refine mt_Talter (index := 126) hx hb hml hown hts hK hA hw hS hl.1 (a := a10) hq q_291 (Nat.le_of_ble_eq_true rfl) (Nat.le_of_ble_eq_true rfl) (Nat.le_of_ble_eq_true rfl) (Nat.le_of_ble_eq_true rfl) rfl (Nat.le_of_ble_eq_true rfl) dX8_alterIn_27 (fun _ u14 H locs hq hw hS => ?_)
      obtain ⟨r13, rfl, hzr13, hq⟩ := hq
      refine W.eq (g2 := F0 m 30 ls [.int r13]) rfl ?_
      refine lv_if_eq (tgt := 37) hx hb dX8_alterIn_30 (by decide) (fun hc => ?_) (fun hc => ?_)
      · replace hq := hq.1 hc
        refine lv_aload_n hx hb dX8_alterIn_37 rfl (lv_at hl 0 rfl) ?_
        refine lv_bipush (v := -5) hx hb dX8_alterIn_38 (by decide) ?_
        refine mt_callV (index := 33) hx hb hml hown hts hK (ΩC.mono D d cp) hA hw hS hl.1 (tX8_refuse l D d cp (-5 : Int32) u14 hq) (c_recvX hK hw) q_113 q_32 q_110 q_112 q_0 nmhX8_refuse ⟨⟨Nat.le_of_ble_eq_true rfl, Nat.le_of_ble_eq_true rfl⟩, ⟨Nat.le_of_ble_eq_true rfl, Nat.le_of_ble_eq_true rfl⟩⟩ rfl (Nat.le_of_ble_eq_true rfl) dX8_alterIn_40 (fun _ u16 H locs hq hw hS => ?_)
        obtain ⟨r15, rfl, hq⟩ := hq
        refine W.eq (g2 := F0 m 43 ls [.int r15]) rfl ?_
        exact mt_reti hx hb hr hlocks hw hS (Nat.le_of_ble_eq_true rfl) (Nat.le_of_ble_eq_true rfl) dX8_alterIn_43 ⟨_, rfl, hq⟩
      · replace hq := hq.2 hc
        refine lv_iconst (v := 0) hx hb dX8_alterIn_33 (by decide) ?_
        refine lv_goto (tgt := 43) hx hb dX8_alterIn_34 (by decide) ?_
        exact mt_reti hx hb hr hlocks hw hS (Nat.le_of_ble_eq_true rfl) (Nat.le_of_ble_eq_true rfl) dX8_alterIn_43 ⟨_, rfl, hq⟩
    · replace hq := hq.2 hc
      refine lv_aload_n hx hb dX8_alterIn_17 rfl (lv_at hl 0 rfl) ?_
      refine lv_bipush (v := -3) hx hb dX8_alterIn_18 (by decide) ?_
      refine mt_callV (index := 33) hx hb hml hown hts hK (ΩC.mono D d cp) hA hw hS hl.1 (tX8_refuse l D d cp (-3 : Int32) u12 hq) (c_recvX hK hw) q_113 q_32 q_110 q_112 q_0 nmhX8_refuse ⟨⟨Nat.le_of_ble_eq_true rfl, Nat.le_of_ble_eq_true rfl⟩, ⟨Nat.le_of_ble_eq_true rfl, Nat.le_of_ble_eq_true rfl⟩⟩ rfl (Nat.le_of_ble_eq_true rfl) dX8_alterIn_20 (fun _ u18 H locs hq hw hS => ?_)
      obtain ⟨r17, rfl, hq⟩ := hq
      refine W.eq (g2 := F0 m 23 ls [.int r17]) rfl ?_
      exact mt_reti hx hb hr hlocks hw hS (Nat.le_of_ble_eq_true rfl) (Nat.le_of_ble_eq_true rfl) dX8_alterIn_23 ⟨_, rfl, hq⟩
  · replace hq := hq.1 hc
    subst hc
    have hl : lv_has ls 4 [(0, .ref (aX cp)), (1, .null), (2, .int x2), (3, .int x3)] := hl
    refine lv_aload_n hx hb dX8_alterIn_4 rfl (lv_at hl 0 rfl) ?_
    refine c_getx hx hb hts hown hK hw 2 (by decide) (hts _ q_92) (fun _ h9 => h9) rfl dX8_alterIn_5 ?_
    exact mt_reti hx hb hr hlocks hw hS (Nat.le_of_ble_eq_true rfl) (Nat.le_of_ble_eq_true rfl) dX8_alterIn_8 ⟨_, rfl, hq⟩
abbrev rmX8_strip : Room := { frames := 2, cells := 0, slots := 0, locals := 43 }
theorem nmhX8_strip : NoMH yX8_strip 2 := by decide +kernel
def wX8_strip (x1 : Int32) (x2 : Int32) (σ : CS) (Q : Int32 → CS → Prop) : Prop :=
    wX8_trackOfDrum x1 x2 σ (fun r6 u7 => (r6 = none → Q (sRf u7) u7) ∧ (∀ a8 : Nat, r6 = some a8 → (vp_in x1 8 ∧ (vp_in x2 5 ∧ (∃ (kd10 n10 c10 : Nat) (f10 : Nat → Int32), sTk (pSl u7 x1.toNatClampNeg x2.toNatClampNeg none) a8 = some (kd10, n10, c10, f10) ∧ Q (nI n10) (pSl u7 x1.toNatClampNeg x2.toNatClampNeg none))))))
set_option maxHeartbeats 4000000 in
set_option maxRecDepth 100000 in
theorem tX8_strip (l : Launch) (D : va_G) (d : AC) (cp : CP) (x1 : Int32) (x2 : Int32) (σ : CS) {Q : Int32 → CS → Prop} (hq : wX8_strip x1 x2 σ Q) : MT D d (ΩC D d cp) l yX8_strip (WS yX8_strip cX8_strip 4 (some (.int))) rmX8_strip [.ref (aX cp), .int x1, .int x2] σ (qI Q) := by
  refine mt_of (ΩC.mono D d cp) (by decide +kernel) (Nat.le_of_ble_eq_true rfl) (fun p e s m below meth c A ls hx hb hr hml hown hts hlocks hnm hK hA hw hS hl => ?_)
  have hl : lv_has ls 4 [(0, .ref (aX cp)), (1, .int x1), (2, .int x2)] := hl
  have hown : s.vm.findClass RX8 = some m.cls := hown
  unfold wX8_strip at hq
  refine lv_aload_n hx hb dX8_strip_0 rfl (lv_at hl 0 rfl) ?_
  refine lv_iload_n hx hb dX8_strip_1 rfl (lv_at hl 1 rfl) ?_
  refine lv_iload_n hx hb dX8_strip_2 rfl (lv_at hl 2 rfl) ?_
  refine mt_callV (index := 52) hx hb hml hown hts hK (ΩC.mono D d cp) hA hw hS hl.1 (tX8_trackOfDrum l D d cp x1 x2 σ hq) (c_recvX hK hw) q_198 q_32 q_195 q_197 q_2 nmhX8_trackOfDrum ⟨⟨Nat.le_of_ble_eq_true rfl, Nat.le_of_ble_eq_true rfl⟩, ⟨Nat.le_of_ble_eq_true rfl, Nat.le_of_ble_eq_true rfl⟩⟩ rfl (Nat.le_of_ble_eq_true rfl) dX8_strip_3 (fun _ u7 H locs hq hw hS => ?_)
  obtain ⟨r6, rfl, hq⟩ := hq
  refine W.eq (g2 := F0 m 6 ls [va_rf r6]) rfl ?_
  refine lv_astoreq_n (lv' := [(3, va_rf r6), (0, .ref (aX cp)), (1, .int x1), (2, .int x2)]) hx hb dX8_strip_6 rfl hl (by decide) rfl (fun ls hl => ?_)
  refine lv_aloadq_n hx hb dX8_strip_7 rfl (lv_at hl 0 rfl) ?_
  refine lv_ifnonnullq (tgt := 16) hx hb dX8_strip_8 (by decide) (fun a8 hc => ?_) (fun hc => ?_)
  · replace hq := hq.2 a8 hc
    subst hc
    have hl : lv_has ls 4 [(3, .ref a8), (0, .ref (aX cp)), (1, .int x1), (2, .int x2)] := hl
    refine lv_aload_n hx hb dX8_strip_16 rfl (lv_at hl 1 rfl) ?_
    refine c_getx hx hb hts hown hK hw 0 (by decide) (hts _ q_90) (fun _ h9 => h9) rfl dX8_strip_17 ?_
    refine lv_iload_n hx hb dX8_strip_20 rfl (lv_at hl 2 rfl) ?_
    have hd9 := vp_lt hq.1
    refine c_ldda hx hb hK hw hq.1 dX8_strip_21 ?_
    replace hq := hq.2
    refine c_getd hx hb hts hown hK hw hd9 0 (by decide) (hts _ q_61) (fun _ h9 => h9) rfl dX8_strip_22 ?_
    refine lv_iload_n hx hb dX8_strip_25 rfl (lv_at hl 3 rfl) ?_
    refine lv_null hx hb dX8_strip_26 ?_
    refine c_stdtN hx hb hK hw hS hd9 hq.1 dX8_strip_27 (fun H locs hw hS => ?_)
    replace hq := hq.2
    refine lv_aload_n hx hb dX8_strip_28 rfl (lv_at hl 0 rfl) ?_
    obtain ⟨kd10, n10, c10, f10, hm10, hq⟩ := hq
    refine c_gete hx hb hts hown hK hw hm10 (hts _ q_131) dX8_strip_29 ?_
    exact mt_reti hx hb hr hlocks hw hS (Nat.le_of_ble_eq_true rfl) (Nat.le_of_ble_eq_true rfl) dX8_strip_32 ⟨_, rfl, hq⟩
  · replace hq := hq.1 hc
    subst hc
    have hl : lv_has ls 4 [(3, .null), (0, .ref (aX cp)), (1, .int x1), (2, .int x2)] := hl
    refine lv_aload_n hx hb dX8_strip_11 rfl (lv_at hl 1 rfl) ?_
    refine c_getx hx hb hts hown hK hw 2 (by decide) (hts _ q_92) (fun _ h9 => h9) rfl dX8_strip_12 ?_
    exact mt_reti hx hb hr hlocks hw hS (Nat.le_of_ble_eq_true rfl) (Nat.le_of_ble_eq_true rfl) dX8_strip_15 ⟨_, rfl, hq⟩
abbrev rmX8_share : Room := { frames := 2, cells := 0, slots := 0, locals := 43 }
theorem nmhX8_share : NoMH yX8_share 3 := by decide +kernel
def wX8_share (x1 : Int32) (x2 : Int32) (x3 : Int32) (σ : CS) (Q : Int32 → CS → Prop) : Prop :=
    wX8_isDrum x2 σ (fun r11 u12 => (¬ r11 = 0 → (wX8_trackOfDrum x1 x3 u12 (fun r13 u14 => (r13 = none → Q (sRf u14) u14) ∧ (∀ a15 : Nat, r13 = some a15 → (vp_in x2 8 ∧ (∃ t17 : TK, sTk u14 a15 = some t17 ∧ vp_in x3 5 ∧ (∃ (kd18 n18 c18 : Nat) (f18 : Nat → Int32), sTk (pSl u14 x2.toNatClampNeg x3.toNatClampNeg (some a15)) a15 = some (kd18, n18, c18, f18) ∧ (Q (nI n18) (pSl u14 x2.toNatClampNeg x3.toNatClampNeg (some a15)))))))))) ∧ (r11 = 0 → wX8_refuse (-1 : Int32) u12 (fun r19 u20 => Q r19 u20)))
set_option maxHeartbeats 4000000 in
set_option maxRecDepth 100000 in
theorem tX8_share (l : Launch) (D : va_G) (d : AC) (cp : CP) (x1 : Int32) (x2 : Int32) (x3 : Int32) (σ : CS) {Q : Int32 → CS → Prop} (hq : wX8_share x1 x2 x3 σ Q) : MT D d (ΩC D d cp) l yX8_share (WS yX8_share cX8_share 5 (some (.int))) rmX8_share [.ref (aX cp), .int x1, .int x2, .int x3] σ (qI Q) := by
  refine mt_of (ΩC.mono D d cp) (by decide +kernel) (Nat.le_of_ble_eq_true rfl) (fun p e s m below meth c A ls hx hb hr hml hown hts hlocks hnm hK hA hw hS hl => ?_)
  have hl : lv_has ls 5 [(0, .ref (aX cp)), (1, .int x1), (2, .int x2), (3, .int x3)] := hl
  have hown : s.vm.findClass RX8 = some m.cls := hown
  unfold wX8_share at hq
  refine lv_iload_n hx hb dX8_share_0 rfl (lv_at hl 2 rfl) ?_
  refine mt_callS (index := 26) hx hb hml hown hts hK (ΩC.mono D d cp) hA hw hS hl.1 (tX8_isDrum l D d cp x2 σ hq) q_106 q_32 q_104 q_105 nmhX8_isDrum ⟨⟨Nat.le_of_ble_eq_true rfl, Nat.le_of_ble_eq_true rfl⟩, ⟨Nat.le_of_ble_eq_true rfl, Nat.le_of_ble_eq_true rfl⟩⟩ rfl (Nat.le_of_ble_eq_true rfl) dX8_share_1 (fun _ u12 H locs hq hw hS => ?_)
  obtain ⟨r11, rfl, hzr11, hq⟩ := hq
  refine W.eq (g2 := F0 m 4 ls [.int r11]) rfl ?_
  refine lv_if_ne (tgt := 13) hx hb dX8_share_4 (by decide) (fun hc => ?_) (fun hc => ?_)
  · replace hq := hq.1 hc
    refine lv_aload_n hx hb dX8_share_13 rfl (lv_at hl 0 rfl) ?_
    refine lv_iload_n hx hb dX8_share_14 rfl (lv_at hl 1 rfl) ?_
    refine lv_iload_n hx hb dX8_share_15 rfl (lv_at hl 3 rfl) ?_
    refine mt_callV (index := 52) hx hb hml hown hts hK (ΩC.mono D d cp) hA hw hS hl.1 (tX8_trackOfDrum l D d cp x1 x3 u12 hq) (c_recvX hK hw) q_198 q_32 q_195 q_197 q_2 nmhX8_trackOfDrum ⟨⟨Nat.le_of_ble_eq_true rfl, Nat.le_of_ble_eq_true rfl⟩, ⟨Nat.le_of_ble_eq_true rfl, Nat.le_of_ble_eq_true rfl⟩⟩ rfl (Nat.le_of_ble_eq_true rfl) dX8_share_16 (fun _ u14 H locs hq hw hS => ?_)
    obtain ⟨r13, rfl, hq⟩ := hq
    refine W.eq (g2 := F0 m 19 ls [va_rf r13]) rfl ?_
    refine lv_astoreq (lv' := [(4, va_rf r13), (0, .ref (aX cp)), (1, .int x1), (2, .int x2), (3, .int x3)]) hx hb dX8_share_19 hl (by decide) rfl (fun ls hl => ?_)
    refine lv_aloadq hx hb dX8_share_21 (lv_at hl 0 rfl) ?_
    refine lv_ifnonnullq (tgt := 31) hx hb dX8_share_23 (by decide) (fun a15 hc => ?_) (fun hc => ?_)
    · replace hq := hq.2 a15 hc
      subst hc
      have hl : lv_has ls 5 [(4, .ref a15), (0, .ref (aX cp)), (1, .int x1), (2, .int x2), (3, .int x3)] := hl
      refine lv_aload_n hx hb dX8_share_31 rfl (lv_at hl 1 rfl) ?_
      refine c_getx hx hb hts hown hK hw 0 (by decide) (hts _ q_90) (fun _ h9 => h9) rfl dX8_share_32 ?_
      refine lv_iload_n hx hb dX8_share_35 rfl (lv_at hl 3 rfl) ?_
      have hd16 := vp_lt hq.1
      refine c_ldda hx hb hK hw hq.1 dX8_share_36 ?_
      replace hq := hq.2
      refine c_getd hx hb hts hown hK hw hd16 0 (by decide) (hts _ q_61) (fun _ h9 => h9) rfl dX8_share_37 ?_
      refine lv_iload_n hx hb dX8_share_40 rfl (lv_at hl 4 rfl) ?_
      refine lv_aload hx hb dX8_share_41 (lv_at hl 0 rfl) ?_
      obtain ⟨t17, ha17, hq⟩ := hq
      refine c_stdtT hx hb hK hw hS hd16 ha17 hq.1 dX8_share_43 (fun H locs hw hS => ?_)
      replace hq := hq.2
      refine lv_aload hx hb dX8_share_44 (lv_at hl 0 rfl) ?_
      obtain ⟨kd18, n18, c18, f18, hm18, hq⟩ := hq
      refine c_gete hx hb hts hown hK hw hm18 (hts _ q_131) dX8_share_46 ?_
      exact mt_reti hx hb hr hlocks hw hS (Nat.le_of_ble_eq_true rfl) (Nat.le_of_ble_eq_true rfl) dX8_share_49 ⟨_, rfl, hq⟩
    · replace hq := hq.1 hc
      subst hc
      have hl : lv_has ls 5 [(4, .null), (0, .ref (aX cp)), (1, .int x1), (2, .int x2), (3, .int x3)] := hl
      refine lv_aload_n hx hb dX8_share_26 rfl (lv_at hl 1 rfl) ?_
      refine c_getx hx hb hts hown hK hw 2 (by decide) (hts _ q_92) (fun _ h9 => h9) rfl dX8_share_27 ?_
      exact mt_reti hx hb hr hlocks hw hS (Nat.le_of_ble_eq_true rfl) (Nat.le_of_ble_eq_true rfl) dX8_share_30 ⟨_, rfl, hq⟩
  · replace hq := hq.2 hc
    refine lv_aload_n hx hb dX8_share_7 rfl (lv_at hl 0 rfl) ?_
    refine lv_iconst (v := -1) hx hb dX8_share_8 (by decide) ?_
    refine mt_callV (index := 33) hx hb hml hown hts hK (ΩC.mono D d cp) hA hw hS hl.1 (tX8_refuse l D d cp (-1 : Int32) u12 hq) (c_recvX hK hw) q_113 q_32 q_110 q_112 q_0 nmhX8_refuse ⟨⟨Nat.le_of_ble_eq_true rfl, Nat.le_of_ble_eq_true rfl⟩, ⟨Nat.le_of_ble_eq_true rfl, Nat.le_of_ble_eq_true rfl⟩⟩ rfl (Nat.le_of_ble_eq_true rfl) dX8_share_9 (fun _ u20 H locs hq hw hS => ?_)
    obtain ⟨r19, rfl, hq⟩ := hq
    refine W.eq (g2 := F0 m 12 ls [.int r19]) rfl ?_
    exact mt_reti hx hb hr hlocks hw hS (Nat.le_of_ble_eq_true rfl) (Nat.le_of_ble_eq_true rfl) dX8_share_12 ⟨_, rfl, hq⟩
abbrev rmX8_places : Room := { frames := 2, cells := 0, slots := 0, locals := 43 }
theorem nmhX8_places : NoMH yX8_places 2 := by decide +kernel
def wX8_places (x1 : Int32) (x2 : Int32) (σ : CS) (Q : Int32 → CS → Prop) : Prop :=
    wX8_trackOfDrum x1 x2 σ (fun r5 u6 => (r5 = none → Q (sRf u6) u6) ∧ (∀ a7 : Nat, r5 = some a7 → (∃ (kd8 n8 c8 : Nat) (f8 : Nat → Int32), sTk u6 a7 = some (kd8, n8, c8, f8) ∧ Q (nI n8) u6)))
set_option maxHeartbeats 4000000 in
set_option maxRecDepth 100000 in
theorem tX8_places (l : Launch) (D : va_G) (d : AC) (cp : CP) (x1 : Int32) (x2 : Int32) (σ : CS) {Q : Int32 → CS → Prop} (hq : wX8_places x1 x2 σ Q) : MT D d (ΩC D d cp) l yX8_places (WS yX8_places cX8_places 4 (some (.int))) rmX8_places [.ref (aX cp), .int x1, .int x2] σ (qI Q) := by
  refine mt_of (ΩC.mono D d cp) (by decide +kernel) (Nat.le_of_ble_eq_true rfl) (fun p e s m below meth c A ls hx hb hr hml hown hts hlocks hnm hK hA hw hS hl => ?_)
  have hl : lv_has ls 4 [(0, .ref (aX cp)), (1, .int x1), (2, .int x2)] := hl
  have hown : s.vm.findClass RX8 = some m.cls := hown
  unfold wX8_places at hq
  refine lv_aload_n hx hb dX8_places_0 rfl (lv_at hl 0 rfl) ?_
  refine lv_iload_n hx hb dX8_places_1 rfl (lv_at hl 1 rfl) ?_
  refine lv_iload_n hx hb dX8_places_2 rfl (lv_at hl 2 rfl) ?_
  refine mt_callV (index := 52) hx hb hml hown hts hK (ΩC.mono D d cp) hA hw hS hl.1 (tX8_trackOfDrum l D d cp x1 x2 σ hq) (c_recvX hK hw) q_198 q_32 q_195 q_197 q_2 nmhX8_trackOfDrum ⟨⟨Nat.le_of_ble_eq_true rfl, Nat.le_of_ble_eq_true rfl⟩, ⟨Nat.le_of_ble_eq_true rfl, Nat.le_of_ble_eq_true rfl⟩⟩ rfl (Nat.le_of_ble_eq_true rfl) dX8_places_3 (fun _ u6 H locs hq hw hS => ?_)
  obtain ⟨r5, rfl, hq⟩ := hq
  refine W.eq (g2 := F0 m 6 ls [va_rf r5]) rfl ?_
  refine lv_astoreq_n (lv' := [(3, va_rf r5), (0, .ref (aX cp)), (1, .int x1), (2, .int x2)]) hx hb dX8_places_6 rfl hl (by decide) rfl (fun ls hl => ?_)
  refine lv_aloadq_n hx hb dX8_places_7 rfl (lv_at hl 0 rfl) ?_
  refine lv_ifnonnullq (tgt := 18) hx hb dX8_places_8 (by decide) (fun a7 hc => ?_) (fun hc => ?_)
  · replace hq := hq.2 a7 hc
    subst hc
    have hl : lv_has ls 4 [(3, .ref a7), (0, .ref (aX cp)), (1, .int x1), (2, .int x2)] := hl
    refine lv_aload_n hx hb dX8_places_18 rfl (lv_at hl 0 rfl) ?_
    obtain ⟨kd8, n8, c8, f8, hm8, hq⟩ := hq
    refine c_gete hx hb hts hown hK hw hm8 (hts _ q_131) dX8_places_19 ?_
    exact mt_reti hx hb hr hlocks hw hS (Nat.le_of_ble_eq_true rfl) (Nat.le_of_ble_eq_true rfl) dX8_places_22 ⟨_, rfl, hq⟩
  · replace hq := hq.1 hc
    subst hc
    have hl : lv_has ls 4 [(3, .null), (0, .ref (aX cp)), (1, .int x1), (2, .int x2)] := hl
    refine lv_aload_n hx hb dX8_places_11 rfl (lv_at hl 1 rfl) ?_
    refine c_getx hx hb hts hown hK hw 2 (by decide) (hts _ q_92) (fun _ h9 => h9) rfl dX8_places_12 ?_
    refine lv_goto (tgt := 22) hx hb dX8_places_15 (by decide) ?_
    exact mt_reti hx hb hr hlocks hw hS (Nat.le_of_ble_eq_true rfl) (Nat.le_of_ble_eq_true rfl) dX8_places_22 ⟨_, rfl, hq⟩
abbrev rmX8_read : Room := { frames := 4, cells := 0, slots := 0, locals := 86 }
theorem nmhX8_read : NoMH yX8_read 3 := by decide +kernel
def wX8_read (x1 : Int32) (x2 : Int32) (x3 : Int32) (σ : CS) (Q : Int32 → CS → Prop) : Prop :=
    wX8_trackOfDrum x1 x2 σ (fun r5 u6 => wX8_valueIn r5 x3 u6 (fun r7 u8 => Q r7 u8))
set_option maxHeartbeats 4000000 in
set_option maxRecDepth 100000 in
theorem tX8_read (l : Launch) (D : va_G) (d : AC) (cp : CP) (x1 : Int32) (x2 : Int32) (x3 : Int32) (σ : CS) {Q : Int32 → CS → Prop} (hq : wX8_read x1 x2 x3 σ Q) : MT D d (ΩC D d cp) l yX8_read (WS yX8_read cX8_read 4 (some (.int))) rmX8_read [.ref (aX cp), .int x1, .int x2, .int x3] σ (qI Q) := by
  refine mt_of (ΩC.mono D d cp) (by decide +kernel) (Nat.le_of_ble_eq_true rfl) (fun p e s m below meth c A ls hx hb hr hml hown hts hlocks hnm hK hA hw hS hl => ?_)
  have hl : lv_has ls 4 [(0, .ref (aX cp)), (1, .int x1), (2, .int x2), (3, .int x3)] := hl
  have hown : s.vm.findClass RX8 = some m.cls := hown
  unfold wX8_read at hq
  refine lv_aload_n hx hb dX8_read_0 rfl (lv_at hl 0 rfl) ?_
  refine lv_aload_n hx hb dX8_read_1 rfl (lv_at hl 0 rfl) ?_
  refine lv_iload_n hx hb dX8_read_2 rfl (lv_at hl 1 rfl) ?_
  refine lv_iload_n hx hb dX8_read_3 rfl (lv_at hl 2 rfl) ?_
  refine mt_callV (index := 52) hx hb hml hown hts hK (ΩC.mono D d cp) hA hw hS hl.1 (tX8_trackOfDrum l D d cp x1 x2 σ hq) (c_recvX hK hw) q_198 q_32 q_195 q_197 q_2 nmhX8_trackOfDrum ⟨⟨Nat.le_of_ble_eq_true rfl, Nat.le_of_ble_eq_true rfl⟩, ⟨Nat.le_of_ble_eq_true rfl, Nat.le_of_ble_eq_true rfl⟩⟩ rfl (Nat.le_of_ble_eq_true rfl) dX8_read_4 (fun _ u6 H locs hq hw hS => ?_)
  obtain ⟨r5, rfl, hq⟩ := hq
  refine W.eq (g2 := F0 m 7 ls [va_rf r5, .ref (aX cp)]) rfl ?_
  refine lv_iload_n hx hb dX8_read_7 rfl (lv_at hl 3 rfl) ?_
  refine mt_callV (index := 60) hx hb hml hown hts hK (ΩC.mono D d cp) hA hw hS hl.1 (tX8_valueIn l D d cp r5 x3 u6 hq) (c_recvX hK hw) q_218 q_32 q_215 q_217 q_4 nmhX8_valueIn ⟨⟨Nat.le_of_ble_eq_true rfl, Nat.le_of_ble_eq_true rfl⟩, ⟨Nat.le_of_ble_eq_true rfl, Nat.le_of_ble_eq_true rfl⟩⟩ rfl (Nat.le_of_ble_eq_true rfl) dX8_read_8 (fun _ u8 H locs hq hw hS => ?_)
  obtain ⟨r7, rfl, hq⟩ := hq
  refine W.eq (g2 := F0 m 11 ls [.int r7]) rfl ?_
  exact mt_reti hx hb hr hlocks hw hS (Nat.le_of_ble_eq_true rfl) (Nat.le_of_ble_eq_true rfl) dX8_read_11 ⟨_, rfl, hq⟩
abbrev rmX8_write : Room := { frames := 2, cells := 0, slots := 0, locals := 45 }
theorem nmhX8_write : NoMH yX8_write 4 := by decide +kernel
def wX8_write (x1 : Int32) (x2 : Int32) (x3 : Int32) (x4 : Int32) (σ : CS) (Q : Int32 → CS → Prop) : Prop :=
    wX8_trackOfDrum x1 x2 σ (fun r5 u6 => wX8_putInto r5 x3 x4 u6 (fun r7 u8 => Q r7 u8))
set_option maxHeartbeats 4000000 in
set_option maxRecDepth 100000 in
theorem tX8_write (l : Launch) (D : va_G) (d : AC) (cp : CP) (x1 : Int32) (x2 : Int32) (x3 : Int32) (x4 : Int32) (σ : CS) {Q : Int32 → CS → Prop} (hq : wX8_write x1 x2 x3 x4 σ Q) : MT D d (ΩC D d cp) l yX8_write (WS yX8_write cX8_write 5 (some (.int))) rmX8_write [.ref (aX cp), .int x1, .int x2, .int x3, .int x4] σ (qI Q) := by
  refine mt_of (ΩC.mono D d cp) (by decide +kernel) (Nat.le_of_ble_eq_true rfl) (fun p e s m below meth c A ls hx hb hr hml hown hts hlocks hnm hK hA hw hS hl => ?_)
  have hl : lv_has ls 5 [(0, .ref (aX cp)), (1, .int x1), (2, .int x2), (3, .int x3), (4, .int x4)] := hl
  have hown : s.vm.findClass RX8 = some m.cls := hown
  unfold wX8_write at hq
  refine lv_aload_n hx hb dX8_write_0 rfl (lv_at hl 0 rfl) ?_
  refine lv_aload_n hx hb dX8_write_1 rfl (lv_at hl 0 rfl) ?_
  refine lv_iload_n hx hb dX8_write_2 rfl (lv_at hl 1 rfl) ?_
  refine lv_iload_n hx hb dX8_write_3 rfl (lv_at hl 2 rfl) ?_
  refine mt_callV (index := 52) hx hb hml hown hts hK (ΩC.mono D d cp) hA hw hS hl.1 (tX8_trackOfDrum l D d cp x1 x2 σ hq) (c_recvX hK hw) q_198 q_32 q_195 q_197 q_2 nmhX8_trackOfDrum ⟨⟨Nat.le_of_ble_eq_true rfl, Nat.le_of_ble_eq_true rfl⟩, ⟨Nat.le_of_ble_eq_true rfl, Nat.le_of_ble_eq_true rfl⟩⟩ rfl (Nat.le_of_ble_eq_true rfl) dX8_write_4 (fun _ u6 H locs hq hw hS => ?_)
  obtain ⟨r5, rfl, hq⟩ := hq
  refine W.eq (g2 := F0 m 7 ls [va_rf r5, .ref (aX cp)]) rfl ?_
  refine lv_iload_n hx hb dX8_write_7 rfl (lv_at hl 3 rfl) ?_
  refine lv_iload hx hb dX8_write_8 (lv_at hl 4 rfl) ?_
  refine mt_callV (index := 64) hx hb hml hown hts hK (ΩC.mono D d cp) hA hw hS hl.1 (tX8_putInto l D d cp r5 x3 x4 u6 hq) (c_recvX hK hw) q_261 q_32 q_258 q_260 q_5 nmhX8_putInto ⟨⟨Nat.le_of_ble_eq_true rfl, Nat.le_of_ble_eq_true rfl⟩, ⟨Nat.le_of_ble_eq_true rfl, Nat.le_of_ble_eq_true rfl⟩⟩ rfl (Nat.le_of_ble_eq_true rfl) dX8_write_10 (fun _ u8 H locs hq hw hS => ?_)
  obtain ⟨r7, rfl, hq⟩ := hq
  refine W.eq (g2 := F0 m 13 ls [.int r7]) rfl ?_
  exact mt_reti hx hb hr hlocks hw hS (Nat.le_of_ble_eq_true rfl) (Nat.le_of_ble_eq_true rfl) dX8_write_13 ⟨_, rfl, hq⟩
abbrev rmX8_turn : Room := { frames := 2, cells := 0, slots := 0, locals := 46 }
theorem nmhX8_turn : NoMH yX8_turn 4 := by decide +kernel
def wX8_turn (x1 : Int32) (x2 : Int32) (x3 : Int32) (x4 : Int32) (σ : CS) (Q : Int32 → CS → Prop) : Prop :=
    wX8_trackOfDrum x1 x2 σ (fun r5 u6 => wX8_alterIn r5 x3 x4 u6 (fun r7 u8 => Q r7 u8))
set_option maxHeartbeats 4000000 in
set_option maxRecDepth 100000 in
theorem tX8_turn (l : Launch) (D : va_G) (d : AC) (cp : CP) (x1 : Int32) (x2 : Int32) (x3 : Int32) (x4 : Int32) (σ : CS) {Q : Int32 → CS → Prop} (hq : wX8_turn x1 x2 x3 x4 σ Q) : MT D d (ΩC D d cp) l yX8_turn (WS yX8_turn cX8_turn 5 (some (.int))) rmX8_turn [.ref (aX cp), .int x1, .int x2, .int x3, .int x4] σ (qI Q) := by
  refine mt_of (ΩC.mono D d cp) (by decide +kernel) (Nat.le_of_ble_eq_true rfl) (fun p e s m below meth c A ls hx hb hr hml hown hts hlocks hnm hK hA hw hS hl => ?_)
  have hl : lv_has ls 5 [(0, .ref (aX cp)), (1, .int x1), (2, .int x2), (3, .int x3), (4, .int x4)] := hl
  have hown : s.vm.findClass RX8 = some m.cls := hown
  unfold wX8_turn at hq
  refine lv_aload_n hx hb dX8_turn_0 rfl (lv_at hl 0 rfl) ?_
  refine lv_aload_n hx hb dX8_turn_1 rfl (lv_at hl 0 rfl) ?_
  refine lv_iload_n hx hb dX8_turn_2 rfl (lv_at hl 1 rfl) ?_
  refine lv_iload_n hx hb dX8_turn_3 rfl (lv_at hl 2 rfl) ?_
  refine mt_callV (index := 52) hx hb hml hown hts hK (ΩC.mono D d cp) hA hw hS hl.1 (tX8_trackOfDrum l D d cp x1 x2 σ hq) (c_recvX hK hw) q_198 q_32 q_195 q_197 q_2 nmhX8_trackOfDrum ⟨⟨Nat.le_of_ble_eq_true rfl, Nat.le_of_ble_eq_true rfl⟩, ⟨Nat.le_of_ble_eq_true rfl, Nat.le_of_ble_eq_true rfl⟩⟩ rfl (Nat.le_of_ble_eq_true rfl) dX8_turn_4 (fun _ u6 H locs hq hw hS => ?_)
  obtain ⟨r5, rfl, hq⟩ := hq
  refine W.eq (g2 := F0 m 7 ls [va_rf r5, .ref (aX cp)]) rfl ?_
  refine lv_iload_n hx hb dX8_turn_7 rfl (lv_at hl 3 rfl) ?_
  refine lv_iload hx hb dX8_turn_8 (lv_at hl 4 rfl) ?_
  refine mt_callV (index := 68) hx hb hml hown hts hK (ΩC.mono D d cp) hA hw hS hl.1 (tX8_alterIn l D d cp r5 x3 x4 u6 hq) (c_recvX hK hw) q_290 q_32 q_287 q_289 q_6 nmhX8_alterIn ⟨⟨Nat.le_of_ble_eq_true rfl, Nat.le_of_ble_eq_true rfl⟩, ⟨Nat.le_of_ble_eq_true rfl, Nat.le_of_ble_eq_true rfl⟩⟩ rfl (Nat.le_of_ble_eq_true rfl) dX8_turn_10 (fun _ u8 H locs hq hw hS => ?_)
  obtain ⟨r7, rfl, hq⟩ := hq
  refine W.eq (g2 := F0 m 13 ls [.int r7]) rfl ?_
  exact mt_reti hx hb hr hlocks hw hS (Nat.le_of_ble_eq_true rfl) (Nat.le_of_ble_eq_true rfl) dX8_turn_13 ⟨_, rfl, hq⟩
abbrev rmX8_head : Room := { frames := 1, cells := 0, slots := 0, locals := 21 }
theorem nmhX8_head : NoMH yX8_head 2 := by decide +kernel
def wX8_head (x1 : Int32) (x2 : Int32) (σ : CS) (Q : Int32 → CS → Prop) : Prop :=
    wX8_isDrum x1 σ (fun r14 u15 => (¬ r14 = 0 → (wX8_isUpTo x2 (300 : Int32) u15 (fun r16 u17 => (¬ r16 = 0 → (vp_in x1 8 ∧ (∀ y19 : Int32, y19 = (sDf u17 x1.toNatClampNeg).1 → (vp_in x1 8 ∧ wX8_grant y19 (pHd u17 x1.toNatClampNeg x2) (fun r21 u22 => Q r21 u22))))) ∧ (r16 = 0 → wX8_refuse (-4 : Int32) u17 (fun r23 u24 => Q r23 u24))))) ∧ (r14 = 0 → wX8_refuse (-1 : Int32) u15 (fun r25 u26 => Q r25 u26)))
set_option maxHeartbeats 4000000 in
set_option maxRecDepth 100000 in
theorem tX8_head (l : Launch) (D : va_G) (d : AC) (cp : CP) (x1 : Int32) (x2 : Int32) (σ : CS) {Q : Int32 → CS → Prop} (hq : wX8_head x1 x2 σ Q) : MT D d (ΩC D d cp) l yX8_head (WS yX8_head cX8_head 4 (some (.int))) rmX8_head [.ref (aX cp), .int x1, .int x2] σ (qI Q) := by
  refine mt_of (ΩC.mono D d cp) (by decide +kernel) (Nat.le_of_ble_eq_true rfl) (fun p e s m below meth c A ls hx hb hr hml hown hts hlocks hnm hK hA hw hS hl => ?_)
  have hl : lv_has ls 4 [(0, .ref (aX cp)), (1, .int x1), (2, .int x2)] := hl
  have hown : s.vm.findClass RX8 = some m.cls := hown
  unfold wX8_head at hq
  refine lv_iload_n hx hb dX8_head_0 rfl (lv_at hl 1 rfl) ?_
  refine mt_callS (index := 26) hx hb hml hown hts hK (ΩC.mono D d cp) hA hw hS hl.1 (tX8_isDrum l D d cp x1 σ hq) q_106 q_32 q_104 q_105 nmhX8_isDrum ⟨⟨Nat.le_of_ble_eq_true rfl, Nat.le_of_ble_eq_true rfl⟩, ⟨Nat.le_of_ble_eq_true rfl, Nat.le_of_ble_eq_true rfl⟩⟩ rfl (Nat.le_of_ble_eq_true rfl) dX8_head_1 (fun _ u15 H locs hq hw hS => ?_)
  obtain ⟨r14, rfl, hzr14, hq⟩ := hq
  refine W.eq (g2 := F0 m 4 ls [.int r14]) rfl ?_
  refine lv_if_ne (tgt := 13) hx hb dX8_head_4 (by decide) (fun hc => ?_) (fun hc => ?_)
  · replace hq := hq.1 hc
    refine lv_iload_n hx hb dX8_head_13 rfl (lv_at hl 2 rfl) ?_
    refine lv_sipush (v := 300) hx hb dX8_head_14 (by decide) ?_
    refine mt_callS (index := 37) hx hb hml hown hts hK (ΩC.mono D d cp) hA hw hS hl.1 (tX8_isUpTo l D d cp x2 (300 : Int32) u15 hq) q_116 q_32 q_114 q_115 nmhX8_isUpTo ⟨⟨Nat.le_of_ble_eq_true rfl, Nat.le_of_ble_eq_true rfl⟩, ⟨Nat.le_of_ble_eq_true rfl, Nat.le_of_ble_eq_true rfl⟩⟩ rfl (Nat.le_of_ble_eq_true rfl) dX8_head_17 (fun _ u17 H locs hq hw hS => ?_)
    obtain ⟨r16, rfl, hzr16, hq⟩ := hq
    refine W.eq (g2 := F0 m 20 ls [.int r16]) rfl ?_
    refine lv_if_ne (tgt := 30) hx hb dX8_head_20 (by decide) (fun hc => ?_) (fun hc => ?_)
    · replace hq := hq.1 hc
      refine lv_aload_n hx hb dX8_head_30 rfl (lv_at hl 0 rfl) ?_
      refine c_getx hx hb hts hown hK hw 0 (by decide) (hts _ q_90) (fun _ h9 => h9) rfl dX8_head_31 ?_
      refine lv_iload_n hx hb dX8_head_34 rfl (lv_at hl 1 rfl) ?_
      have hd18 := vp_lt hq.1
      refine c_ldda hx hb hK hw hq.1 dX8_head_35 ?_
      replace hq := hq.2
      refine c_getd hx hb hts hown hK hw hd18 1 (by decide) (hts _ q_63) (fun _ h9 => h9) rfl dX8_head_36 ?_
      refine lv_topi (fun y19 ey19 => ?_)
      replace hq := hq y19 ey19
      refine lv_istore_n (lv' := [(3, .int y19), (0, .ref (aX cp)), (1, .int x1), (2, .int x2)]) hx hb dX8_head_39 rfl hl (by decide) rfl (fun ls hl => ?_)
      refine lv_aload_n hx hb dX8_head_40 rfl (lv_at hl 1 rfl) ?_
      refine c_getx hx hb hts hown hK hw 0 (by decide) (hts _ q_90) (fun _ h9 => h9) rfl dX8_head_41 ?_
      refine lv_iload_n hx hb dX8_head_44 rfl (lv_at hl 2 rfl) ?_
      have hd20 := vp_lt hq.1
      refine c_ldda hx hb hK hw hq.1 dX8_head_45 ?_
      replace hq := hq.2
      refine lv_iload_n hx hb dX8_head_46 rfl (lv_at hl 3 rfl) ?_
      refine c_putd hx hb hts hown hK hw hS hd20 1 (by decide) (hts _ q_63) (fun _ h9 => h9) rfl (ty := .int) (v := .int x2) (dHd (sDf u17 x1.toNatClampNeg) x2) rfl (by decide +kernel) rfl rfl dX8_head_47 (fun H locs hw hS => ?_)
      refine lv_aload_n hx hb dX8_head_50 rfl (lv_at hl 1 rfl) ?_
      refine lv_iload_n hx hb dX8_head_51 rfl (lv_at hl 0 rfl) ?_
      refine mt_callV (index := 49) hx hb hml hown hts hK (ΩC.mono D d cp) hA hw hS hl.1 (tX8_grant l D d cp y19 (pHd u17 x1.toNatClampNeg x2) hq) (c_recvX hK hw) q_190 q_32 q_187 q_189 q_1 nmhX8_grant ⟨⟨Nat.le_of_ble_eq_true rfl, Nat.le_of_ble_eq_true rfl⟩, ⟨Nat.le_of_ble_eq_true rfl, Nat.le_of_ble_eq_true rfl⟩⟩ rfl (Nat.le_of_ble_eq_true rfl) dX8_head_52 (fun _ u22 H locs hq hw hS => ?_)
      obtain ⟨r21, rfl, hq⟩ := hq
      refine W.eq (g2 := F0 m 55 ls [.int r21]) rfl ?_
      exact mt_reti hx hb hr hlocks hw hS (Nat.le_of_ble_eq_true rfl) (Nat.le_of_ble_eq_true rfl) dX8_head_55 ⟨_, rfl, hq⟩
    · replace hq := hq.2 hc
      refine lv_aload_n hx hb dX8_head_23 rfl (lv_at hl 0 rfl) ?_
      refine lv_bipush (v := -4) hx hb dX8_head_24 (by decide) ?_
      refine mt_callV (index := 33) hx hb hml hown hts hK (ΩC.mono D d cp) hA hw hS hl.1 (tX8_refuse l D d cp (-4 : Int32) u17 hq) (c_recvX hK hw) q_113 q_32 q_110 q_112 q_0 nmhX8_refuse ⟨⟨Nat.le_of_ble_eq_true rfl, Nat.le_of_ble_eq_true rfl⟩, ⟨Nat.le_of_ble_eq_true rfl, Nat.le_of_ble_eq_true rfl⟩⟩ rfl (Nat.le_of_ble_eq_true rfl) dX8_head_26 (fun _ u24 H locs hq hw hS => ?_)
      obtain ⟨r23, rfl, hq⟩ := hq
      refine W.eq (g2 := F0 m 29 ls [.int r23]) rfl ?_
      exact mt_reti hx hb hr hlocks hw hS (Nat.le_of_ble_eq_true rfl) (Nat.le_of_ble_eq_true rfl) dX8_head_29 ⟨_, rfl, hq⟩
  · replace hq := hq.2 hc
    refine lv_aload_n hx hb dX8_head_7 rfl (lv_at hl 0 rfl) ?_
    refine lv_iconst (v := -1) hx hb dX8_head_8 (by decide) ?_
    refine mt_callV (index := 33) hx hb hml hown hts hK (ΩC.mono D d cp) hA hw hS hl.1 (tX8_refuse l D d cp (-1 : Int32) u15 hq) (c_recvX hK hw) q_113 q_32 q_110 q_112 q_0 nmhX8_refuse ⟨⟨Nat.le_of_ble_eq_true rfl, Nat.le_of_ble_eq_true rfl⟩, ⟨Nat.le_of_ble_eq_true rfl, Nat.le_of_ble_eq_true rfl⟩⟩ rfl (Nat.le_of_ble_eq_true rfl) dX8_head_9 (fun _ u26 H locs hq hw hS => ?_)
    obtain ⟨r25, rfl, hq⟩ := hq
    refine W.eq (g2 := F0 m 12 ls [.int r25]) rfl ?_
    exact mt_reti hx hb hr hlocks hw hS (Nat.le_of_ble_eq_true rfl) (Nat.le_of_ble_eq_true rfl) dX8_head_12 ⟨_, rfl, hq⟩
abbrev rmX8_play : Room := { frames := 6, cells := 0, slots := 0, locals := 137 }
theorem nmhX8_play : NoMH yX8_play 2 := by decide +kernel
def wX8_play (x1 : Int32) (x2 : Int32) (σ : CS) (Q : Int32 → CS → Prop) : Prop :=
    wX8_isDrum x1 σ (fun r14 u15 => (¬ r14 = 0 → (wX8_isUpTo x2 (20 : Int32) u15 (fun r16 u17 => (¬ r16 = 0 → (vp_in x1 8 ∧ (wX2_playOn x1.toNatClampNeg x2 u17 (fun r19 u20 => wX8_grant r19 u20 (fun r21 u22 => Q r21 u22))))) ∧ (r16 = 0 → wX8_refuse (-4 : Int32) u17 (fun r23 u24 => Q r23 u24))))) ∧ (r14 = 0 → wX8_refuse (-1 : Int32) u15 (fun r25 u26 => Q r25 u26)))
set_option maxHeartbeats 4000000 in
set_option maxRecDepth 100000 in
theorem tX8_play (l : Launch) (D : va_G) (d : AC) (cp : CP) (x1 : Int32) (x2 : Int32) (σ : CS) {Q : Int32 → CS → Prop} (hq : wX8_play x1 x2 σ Q) : MT D d (ΩC D d cp) l yX8_play (WS yX8_play cX8_play 3 (some (.int))) rmX8_play [.ref (aX cp), .int x1, .int x2] σ (qI Q) := by
  refine mt_of (ΩC.mono D d cp) (by decide +kernel) (Nat.le_of_ble_eq_true rfl) (fun p e s m below meth c A ls hx hb hr hml hown hts hlocks hnm hK hA hw hS hl => ?_)
  have hl : lv_has ls 3 [(0, .ref (aX cp)), (1, .int x1), (2, .int x2)] := hl
  have hown : s.vm.findClass RX8 = some m.cls := hown
  unfold wX8_play at hq
  refine lv_iload_n hx hb dX8_play_0 rfl (lv_at hl 1 rfl) ?_
  refine mt_callS (index := 26) hx hb hml hown hts hK (ΩC.mono D d cp) hA hw hS hl.1 (tX8_isDrum l D d cp x1 σ hq) q_106 q_32 q_104 q_105 nmhX8_isDrum ⟨⟨Nat.le_of_ble_eq_true rfl, Nat.le_of_ble_eq_true rfl⟩, ⟨Nat.le_of_ble_eq_true rfl, Nat.le_of_ble_eq_true rfl⟩⟩ rfl (Nat.le_of_ble_eq_true rfl) dX8_play_1 (fun _ u15 H locs hq hw hS => ?_)
  obtain ⟨r14, rfl, hzr14, hq⟩ := hq
  refine W.eq (g2 := F0 m 4 ls [.int r14]) rfl ?_
  refine lv_if_ne (tgt := 13) hx hb dX8_play_4 (by decide) (fun hc => ?_) (fun hc => ?_)
  · replace hq := hq.1 hc
    refine lv_iload_n hx hb dX8_play_13 rfl (lv_at hl 2 rfl) ?_
    refine lv_bipush (v := 20) hx hb dX8_play_14 (by decide) ?_
    refine mt_callS (index := 37) hx hb hml hown hts hK (ΩC.mono D d cp) hA hw hS hl.1 (tX8_isUpTo l D d cp x2 (20 : Int32) u15 hq) q_116 q_32 q_114 q_115 nmhX8_isUpTo ⟨⟨Nat.le_of_ble_eq_true rfl, Nat.le_of_ble_eq_true rfl⟩, ⟨Nat.le_of_ble_eq_true rfl, Nat.le_of_ble_eq_true rfl⟩⟩ rfl (Nat.le_of_ble_eq_true rfl) dX8_play_16 (fun _ u17 H locs hq hw hS => ?_)
    obtain ⟨r16, rfl, hzr16, hq⟩ := hq
    refine W.eq (g2 := F0 m 19 ls [.int r16]) rfl ?_
    refine lv_if_ne (tgt := 29) hx hb dX8_play_19 (by decide) (fun hc => ?_) (fun hc => ?_)
    · replace hq := hq.1 hc
      refine lv_aload_n hx hb dX8_play_29 rfl (lv_at hl 0 rfl) ?_
      refine lv_aload_n hx hb dX8_play_30 rfl (lv_at hl 0 rfl) ?_
      refine c_getx hx hb hts hown hK hw 0 (by decide) (hts _ q_90) (fun _ h9 => h9) rfl dX8_play_31 ?_
      refine lv_iload_n hx hb dX8_play_34 rfl (lv_at hl 1 rfl) ?_
      have hd18 := vp_lt hq.1
      refine c_ldda hx hb hK hw hq.1 dX8_play_35 ?_
      replace hq := hq.2
      refine lv_iload_n hx hb dX8_play_36 rfl (lv_at hl 2 rfl) ?_
      refine mt_callV (index := 74) hx hb hml hown hts hK (ΩC.mono D d cp) hA hw hS hl.1 (tX2_playOn l D d cp x1.toNatClampNeg x2 u17 hd18 hq) (c_recvD hK hw hd18) q_323 q_33 q_320 q_321 q_322 nmhX2_playOn ⟨⟨Nat.le_of_ble_eq_true rfl, Nat.le_of_ble_eq_true rfl⟩, ⟨Nat.le_of_ble_eq_true rfl, Nat.le_of_ble_eq_true rfl⟩⟩ rfl (Nat.le_of_ble_eq_true rfl) dX8_play_37 (fun _ u20 H locs hq hw hS => ?_)
      obtain ⟨r19, rfl, hq⟩ := hq
      refine W.eq (g2 := F0 m 40 ls [.int r19, .ref (aX cp)]) rfl ?_
      refine mt_callV (index := 49) hx hb hml hown hts hK (ΩC.mono D d cp) hA hw hS hl.1 (tX8_grant l D d cp r19 u20 hq) (c_recvX hK hw) q_190 q_32 q_187 q_189 q_1 nmhX8_grant ⟨⟨Nat.le_of_ble_eq_true rfl, Nat.le_of_ble_eq_true rfl⟩, ⟨Nat.le_of_ble_eq_true rfl, Nat.le_of_ble_eq_true rfl⟩⟩ rfl (Nat.le_of_ble_eq_true rfl) dX8_play_40 (fun _ u22 H locs hq hw hS => ?_)
      obtain ⟨r21, rfl, hq⟩ := hq
      refine W.eq (g2 := F0 m 43 ls [.int r21]) rfl ?_
      exact mt_reti hx hb hr hlocks hw hS (Nat.le_of_ble_eq_true rfl) (Nat.le_of_ble_eq_true rfl) dX8_play_43 ⟨_, rfl, hq⟩
    · replace hq := hq.2 hc
      refine lv_aload_n hx hb dX8_play_22 rfl (lv_at hl 0 rfl) ?_
      refine lv_bipush (v := -4) hx hb dX8_play_23 (by decide) ?_
      refine mt_callV (index := 33) hx hb hml hown hts hK (ΩC.mono D d cp) hA hw hS hl.1 (tX8_refuse l D d cp (-4 : Int32) u17 hq) (c_recvX hK hw) q_113 q_32 q_110 q_112 q_0 nmhX8_refuse ⟨⟨Nat.le_of_ble_eq_true rfl, Nat.le_of_ble_eq_true rfl⟩, ⟨Nat.le_of_ble_eq_true rfl, Nat.le_of_ble_eq_true rfl⟩⟩ rfl (Nat.le_of_ble_eq_true rfl) dX8_play_25 (fun _ u24 H locs hq hw hS => ?_)
      obtain ⟨r23, rfl, hq⟩ := hq
      refine W.eq (g2 := F0 m 28 ls [.int r23]) rfl ?_
      exact mt_reti hx hb hr hlocks hw hS (Nat.le_of_ble_eq_true rfl) (Nat.le_of_ble_eq_true rfl) dX8_play_28 ⟨_, rfl, hq⟩
  · replace hq := hq.2 hc
    refine lv_aload_n hx hb dX8_play_7 rfl (lv_at hl 0 rfl) ?_
    refine lv_iconst (v := -1) hx hb dX8_play_8 (by decide) ?_
    refine mt_callV (index := 33) hx hb hml hown hts hK (ΩC.mono D d cp) hA hw hS hl.1 (tX8_refuse l D d cp (-1 : Int32) u15 hq) (c_recvX hK hw) q_113 q_32 q_110 q_112 q_0 nmhX8_refuse ⟨⟨Nat.le_of_ble_eq_true rfl, Nat.le_of_ble_eq_true rfl⟩, ⟨Nat.le_of_ble_eq_true rfl, Nat.le_of_ble_eq_true rfl⟩⟩ rfl (Nat.le_of_ble_eq_true rfl) dX8_play_9 (fun _ u26 H locs hq hw hS => ?_)
    obtain ⟨r25, rfl, hq⟩ := hq
    refine W.eq (g2 := F0 m 12 ls [.int r25]) rfl ?_
    exact mt_reti hx hb hr hlocks hw hS (Nat.le_of_ble_eq_true rfl) (Nat.le_of_ble_eq_true rfl) dX8_play_12 ⟨_, rfl, hq⟩
abbrev rmX8_heard : Room := { frames := 3, cells := 0, slots := 0, locals := 64 }
theorem nmhX8_heard : NoMH yX8_heard 2 := by decide +kernel
def wX8_heard (x1 : Int32) (x2 : Int32) (σ : CS) (Q : Int64 → CS → Prop) : Prop :=
    wX8_isDrum x1 σ (fun r12 u13 => (r12 = 0 → (wX8_refuse (-1 : Int32) u13 (fun r14 u15 => Q (0 : Int64) u15))) ∧ (¬ r12 = 0 → (wX8_isUpTo x2 (6 : Int32) u13 (fun r16 u17 => (¬ r16 = 0 → (vp_in x1 8 ∧ (wX2_tally x1.toNatClampNeg x2 (pRf u17 (0 : Int32)) (fun r19 u20 => Q r19 u20)))) ∧ (r16 = 0 → (wX8_refuse (-1 : Int32) u17 (fun r21 u22 => Q (0 : Int64) u22)))))))
set_option maxHeartbeats 4000000 in
set_option maxRecDepth 100000 in
theorem tX8_heard (l : Launch) (D : va_G) (d : AC) (cp : CP) (x1 : Int32) (x2 : Int32) (σ : CS) {Q : Int64 → CS → Prop} (hq : wX8_heard x1 x2 σ Q) : MT D d (ΩC D d cp) l yX8_heard (WS yX8_heard cX8_heard 3 (some (.long))) rmX8_heard [.ref (aX cp), .int x1, .int x2] σ (qL Q) := by
  refine mt_of (ΩC.mono D d cp) (by decide +kernel) (Nat.le_of_ble_eq_true rfl) (fun p e s m below meth c A ls hx hb hr hml hown hts hlocks hnm hK hA hw hS hl => ?_)
  have hl : lv_has ls 3 [(0, .ref (aX cp)), (1, .int x1), (2, .int x2)] := hl
  have hown : s.vm.findClass RX8 = some m.cls := hown
  unfold wX8_heard at hq
  refine lv_iload_n hx hb dX8_heard_0 rfl (lv_at hl 1 rfl) ?_
  refine mt_callS (index := 26) hx hb hml hown hts hK (ΩC.mono D d cp) hA hw hS hl.1 (tX8_isDrum l D d cp x1 σ hq) q_106 q_32 q_104 q_105 nmhX8_isDrum ⟨⟨Nat.le_of_ble_eq_true rfl, Nat.le_of_ble_eq_true rfl⟩, ⟨Nat.le_of_ble_eq_true rfl, Nat.le_of_ble_eq_true rfl⟩⟩ rfl (Nat.le_of_ble_eq_true rfl) dX8_heard_1 (fun _ u13 H locs hq hw hS => ?_)
  obtain ⟨r12, rfl, hzr12, hq⟩ := hq
  refine W.eq (g2 := F0 m 4 ls [.int r12]) rfl ?_
  refine lv_if_eq (tgt := 16) hx hb dX8_heard_4 (by decide) (fun hc => ?_) (fun hc => ?_)
  · replace hq := hq.1 hc
    refine lv_aload_n hx hb dX8_heard_16 rfl (lv_at hl 0 rfl) ?_
    refine lv_iconst (v := -1) hx hb dX8_heard_17 (by decide) ?_
    refine mt_callV (index := 33) hx hb hml hown hts hK (ΩC.mono D d cp) hA hw hS hl.1 (tX8_refuse l D d cp (-1 : Int32) u13 hq) (c_recvX hK hw) q_113 q_32 q_110 q_112 q_0 nmhX8_refuse ⟨⟨Nat.le_of_ble_eq_true rfl, Nat.le_of_ble_eq_true rfl⟩, ⟨Nat.le_of_ble_eq_true rfl, Nat.le_of_ble_eq_true rfl⟩⟩ rfl (Nat.le_of_ble_eq_true rfl) dX8_heard_18 (fun _ u15 H locs hq hw hS => ?_)
    obtain ⟨r14, rfl, hq⟩ := hq
    refine W.eq (g2 := F0 m 21 ls [.int r14]) rfl ?_
    refine lv_pop hx hb dX8_heard_21 rfl ?_
    refine lv_lconst (v := 0) hx hb dX8_heard_22 (by decide) ?_
    exact mt_retl hx hb hr hlocks hw hS (Nat.le_of_ble_eq_true rfl) (Nat.le_of_ble_eq_true rfl) dX8_heard_23 ⟨_, rfl, hq⟩
  · replace hq := hq.2 hc
    refine lv_iload_n hx hb dX8_heard_7 rfl (lv_at hl 2 rfl) ?_
    refine lv_bipush (v := 6) hx hb dX8_heard_8 (by decide) ?_
    refine mt_callS (index := 37) hx hb hml hown hts hK (ΩC.mono D d cp) hA hw hS hl.1 (tX8_isUpTo l D d cp x2 (6 : Int32) u13 hq) q_116 q_32 q_114 q_115 nmhX8_isUpTo ⟨⟨Nat.le_of_ble_eq_true rfl, Nat.le_of_ble_eq_true rfl⟩, ⟨Nat.le_of_ble_eq_true rfl, Nat.le_of_ble_eq_true rfl⟩⟩ rfl (Nat.le_of_ble_eq_true rfl) dX8_heard_10 (fun _ u17 H locs hq hw hS => ?_)
    obtain ⟨r16, rfl, hzr16, hq⟩ := hq
    refine W.eq (g2 := F0 m 13 ls [.int r16]) rfl ?_
    refine lv_if_ne (tgt := 24) hx hb dX8_heard_13 (by decide) (fun hc => ?_) (fun hc => ?_)
    · replace hq := hq.1 hc
      refine lv_aload_n hx hb dX8_heard_24 rfl (lv_at hl 0 rfl) ?_
      refine lv_iconst (v := 0) hx hb dX8_heard_25 (by decide) ?_
      refine c_putx hx hb hts hown hK hw hS (hts _ q_92) (fun _ h9 => h9) dX8_heard_26 (fun H locs hw hS => ?_)
      refine lv_aload_n hx hb dX8_heard_29 rfl (lv_at hl 0 rfl) ?_
      refine c_getx hx hb hts hown hK hw 0 (by decide) (hts _ q_90) (fun _ h9 => h9) rfl dX8_heard_30 ?_
      refine lv_iload_n hx hb dX8_heard_33 rfl (lv_at hl 1 rfl) ?_
      have hd18 := vp_lt hq.1
      refine c_ldda hx hb hK hw hq.1 dX8_heard_34 ?_
      replace hq := hq.2
      refine lv_iload_n hx hb dX8_heard_35 rfl (lv_at hl 2 rfl) ?_
      refine mt_callV (index := 77) hx hb hml hown hts hK (ΩC.mono D d cp) hA hw hS hl.1 (tX2_tally l D d cp x1.toNatClampNeg x2 (pRf u17 (0 : Int32)) hd18 hq) (c_recvD hK hw hd18) q_362 q_33 q_359 q_360 q_361 nmhX2_tally ⟨⟨Nat.le_of_ble_eq_true rfl, Nat.le_of_ble_eq_true rfl⟩, ⟨Nat.le_of_ble_eq_true rfl, Nat.le_of_ble_eq_true rfl⟩⟩ rfl (Nat.le_of_ble_eq_true rfl) dX8_heard_36 (fun _ u20 H locs hq hw hS => ?_)
      obtain ⟨r19, rfl, hq⟩ := hq
      refine W.eq (g2 := F0 m 39 ls [.long r19]) rfl ?_
      exact mt_retl hx hb hr hlocks hw hS (Nat.le_of_ble_eq_true rfl) (Nat.le_of_ble_eq_true rfl) dX8_heard_39 ⟨_, rfl, hq⟩
    · replace hq := hq.2 hc
      refine lv_aload_n hx hb dX8_heard_16 rfl (lv_at hl 0 rfl) ?_
      refine lv_iconst (v := -1) hx hb dX8_heard_17 (by decide) ?_
      refine mt_callV (index := 33) hx hb hml hown hts hK (ΩC.mono D d cp) hA hw hS hl.1 (tX8_refuse l D d cp (-1 : Int32) u17 hq) (c_recvX hK hw) q_113 q_32 q_110 q_112 q_0 nmhX8_refuse ⟨⟨Nat.le_of_ble_eq_true rfl, Nat.le_of_ble_eq_true rfl⟩, ⟨Nat.le_of_ble_eq_true rfl, Nat.le_of_ble_eq_true rfl⟩⟩ rfl (Nat.le_of_ble_eq_true rfl) dX8_heard_18 (fun _ u22 H locs hq hw hS => ?_)
      obtain ⟨r21, rfl, hq⟩ := hq
      refine W.eq (g2 := F0 m 21 ls [.int r21]) rfl ?_
      refine lv_pop hx hb dX8_heard_21 rfl ?_
      refine lv_lconst (v := 0) hx hb dX8_heard_22 (by decide) ?_
      exact mt_retl hx hb hr hlocks hw hS (Nat.le_of_ble_eq_true rfl) (Nat.le_of_ble_eq_true rfl) dX8_heard_23 ⟨_, rfl, hq⟩
abbrev rmX8_quiet : Room := { frames := 1, cells := 0, slots := 0, locals := 21 }
theorem nmhX8_quiet : NoMH yX8_quiet 1 := by decide +kernel
def wX8_quiet (x1 : Int32) (σ : CS) (Q : Int32 → CS → Prop) : Prop :=
    wX8_isDrum x1 σ (fun r12 u13 => (¬ r12 = 0 → (vp_in x1 8 ∧ (∀ y15 : Int32, y15 = (sDf u13 x1.toNatClampNeg).2.1 → (vp_in x1 8 ∧ (wX2_forget x1.toNatClampNeg u13 (fun u18 => wX8_grant y15 u18 (fun r19 u20 => Q r19 u20))))))) ∧ (r12 = 0 → wX8_refuse (-1 : Int32) u13 (fun r21 u22 => Q r21 u22)))
set_option maxHeartbeats 4000000 in
set_option maxRecDepth 100000 in
theorem tX8_quiet (l : Launch) (D : va_G) (d : AC) (cp : CP) (x1 : Int32) (σ : CS) {Q : Int32 → CS → Prop} (hq : wX8_quiet x1 σ Q) : MT D d (ΩC D d cp) l yX8_quiet (WS yX8_quiet cX8_quiet 3 (some (.int))) rmX8_quiet [.ref (aX cp), .int x1] σ (qI Q) := by
  refine mt_of (ΩC.mono D d cp) (by decide +kernel) (Nat.le_of_ble_eq_true rfl) (fun p e s m below meth c A ls hx hb hr hml hown hts hlocks hnm hK hA hw hS hl => ?_)
  have hl : lv_has ls 3 [(0, .ref (aX cp)), (1, .int x1)] := hl
  have hown : s.vm.findClass RX8 = some m.cls := hown
  unfold wX8_quiet at hq
  refine lv_iload_n hx hb dX8_quiet_0 rfl (lv_at hl 1 rfl) ?_
  refine mt_callS (index := 26) hx hb hml hown hts hK (ΩC.mono D d cp) hA hw hS hl.1 (tX8_isDrum l D d cp x1 σ hq) q_106 q_32 q_104 q_105 nmhX8_isDrum ⟨⟨Nat.le_of_ble_eq_true rfl, Nat.le_of_ble_eq_true rfl⟩, ⟨Nat.le_of_ble_eq_true rfl, Nat.le_of_ble_eq_true rfl⟩⟩ rfl (Nat.le_of_ble_eq_true rfl) dX8_quiet_1 (fun _ u13 H locs hq hw hS => ?_)
  obtain ⟨r12, rfl, hzr12, hq⟩ := hq
  refine W.eq (g2 := F0 m 4 ls [.int r12]) rfl ?_
  refine lv_if_ne (tgt := 13) hx hb dX8_quiet_4 (by decide) (fun hc => ?_) (fun hc => ?_)
  · replace hq := hq.1 hc
    refine lv_aload_n hx hb dX8_quiet_13 rfl (lv_at hl 0 rfl) ?_
    refine c_getx hx hb hts hown hK hw 0 (by decide) (hts _ q_90) (fun _ h9 => h9) rfl dX8_quiet_14 ?_
    refine lv_iload_n hx hb dX8_quiet_17 rfl (lv_at hl 1 rfl) ?_
    have hd14 := vp_lt hq.1
    refine c_ldda hx hb hK hw hq.1 dX8_quiet_18 ?_
    replace hq := hq.2
    refine c_getd hx hb hts hown hK hw hd14 2 (by decide) (hts _ q_65) (fun _ h9 => h9) rfl dX8_quiet_19 ?_
    refine lv_topi (fun y15 ey15 => ?_)
    replace hq := hq y15 ey15
    refine lv_istore_n (lv' := [(2, .int y15), (0, .ref (aX cp)), (1, .int x1)]) hx hb dX8_quiet_22 rfl hl (by decide) rfl (fun ls hl => ?_)
    refine lv_aload_n hx hb dX8_quiet_23 rfl (lv_at hl 1 rfl) ?_
    refine c_getx hx hb hts hown hK hw 0 (by decide) (hts _ q_90) (fun _ h9 => h9) rfl dX8_quiet_24 ?_
    refine lv_iload_n hx hb dX8_quiet_27 rfl (lv_at hl 2 rfl) ?_
    have hd16 := vp_lt hq.1
    refine c_ldda hx hb hK hw hq.1 dX8_quiet_28 ?_
    replace hq := hq.2
    refine mt_callV (index := 84) hx hb hml hown hts hK (ΩC.mono D d cp) hA hw hS hl.1 (tX2_forget l D d cp x1.toNatClampNeg u13 hd16 hq) (c_recvD hK hw hd16) q_371 q_33 q_368 q_369 q_370 nmhX2_forget ⟨⟨Nat.le_of_ble_eq_true rfl, Nat.le_of_ble_eq_true rfl⟩, ⟨Nat.le_of_ble_eq_true rfl, Nat.le_of_ble_eq_true rfl⟩⟩ rfl (Nat.le_of_ble_eq_true rfl) dX8_quiet_29 (fun _ u18 H locs hq hw hS => ?_)
    obtain ⟨rfl, hq⟩ := hq
    refine W.eq (g2 := F0 m 32 ls []) rfl ?_
    refine lv_aload_n hx hb dX8_quiet_32 rfl (lv_at hl 1 rfl) ?_
    refine lv_iload_n hx hb dX8_quiet_33 rfl (lv_at hl 0 rfl) ?_
    refine mt_callV (index := 49) hx hb hml hown hts hK (ΩC.mono D d cp) hA hw hS hl.1 (tX8_grant l D d cp y15 u18 hq) (c_recvX hK hw) q_190 q_32 q_187 q_189 q_1 nmhX8_grant ⟨⟨Nat.le_of_ble_eq_true rfl, Nat.le_of_ble_eq_true rfl⟩, ⟨Nat.le_of_ble_eq_true rfl, Nat.le_of_ble_eq_true rfl⟩⟩ rfl (Nat.le_of_ble_eq_true rfl) dX8_quiet_34 (fun _ u20 H locs hq hw hS => ?_)
    obtain ⟨r19, rfl, hq⟩ := hq
    refine W.eq (g2 := F0 m 37 ls [.int r19]) rfl ?_
    exact mt_reti hx hb hr hlocks hw hS (Nat.le_of_ble_eq_true rfl) (Nat.le_of_ble_eq_true rfl) dX8_quiet_37 ⟨_, rfl, hq⟩
  · replace hq := hq.2 hc
    refine lv_aload_n hx hb dX8_quiet_7 rfl (lv_at hl 0 rfl) ?_
    refine lv_iconst (v := -1) hx hb dX8_quiet_8 (by decide) ?_
    refine mt_callV (index := 33) hx hb hml hown hts hK (ΩC.mono D d cp) hA hw hS hl.1 (tX8_refuse l D d cp (-1 : Int32) u13 hq) (c_recvX hK hw) q_113 q_32 q_110 q_112 q_0 nmhX8_refuse ⟨⟨Nat.le_of_ble_eq_true rfl, Nat.le_of_ble_eq_true rfl⟩, ⟨Nat.le_of_ble_eq_true rfl, Nat.le_of_ble_eq_true rfl⟩⟩ rfl (Nat.le_of_ble_eq_true rfl) dX8_quiet_9 (fun _ u22 H locs hq hw hS => ?_)
    obtain ⟨r21, rfl, hq⟩ := hq
    refine W.eq (g2 := F0 m 12 ls [.int r21]) rfl ?_
    exact mt_reti hx hb hr hlocks hw hS (Nat.le_of_ble_eq_true rfl) (Nat.le_of_ble_eq_true rfl) dX8_quiet_12 ⟨_, rfl, hq⟩
abbrev rmX8_drop : Room := { frames := 2, cells := 0, slots := 0, locals := 41 }
theorem nmhX8_drop : NoMH yX8_drop 1 := by decide +kernel
def wX8_drop (x1 : Int32) (σ : CS) (Q : Int32 → CS → Prop) : Prop :=
    wX8_combOf x1 σ (fun r9 u10 => (r9 = none → wX8_refuse (-1 : Int32) u10 (fun r15 u16 => Q r15 u16)) ∧ (∀ a11 : Nat, r9 = some a11 → (vp_in x1 4 ∧ (∃ (k12 : Int32) (n12 te12 : Nat) (tt12 : Nat → Option Nat), sCm (pCb u10 x1.toNatClampNeg none) a11 = some (k12, n12, te12, tt12) ∧ wX8_grant (nI n12) (pCb u10 x1.toNatClampNeg none) (fun r13 u14 => Q r13 u14)))))
set_option maxHeartbeats 4000000 in
set_option maxRecDepth 100000 in
theorem tX8_drop (l : Launch) (D : va_G) (d : AC) (cp : CP) (x1 : Int32) (σ : CS) {Q : Int32 → CS → Prop} (hq : wX8_drop x1 σ Q) : MT D d (ΩC D d cp) l yX8_drop (WS yX8_drop cX8_drop 3 (some (.int))) rmX8_drop [.ref (aX cp), .int x1] σ (qI Q) := by
  refine mt_of (ΩC.mono D d cp) (by decide +kernel) (Nat.le_of_ble_eq_true rfl) (fun p e s m below meth c A ls hx hb hr hml hown hts hlocks hnm hK hA hw hS hl => ?_)
  have hl : lv_has ls 3 [(0, .ref (aX cp)), (1, .int x1)] := hl
  have hown : s.vm.findClass RX8 = some m.cls := hown
  unfold wX8_drop at hq
  refine lv_aload_n hx hb dX8_drop_0 rfl (lv_at hl 0 rfl) ?_
  refine lv_iload_n hx hb dX8_drop_1 rfl (lv_at hl 1 rfl) ?_
  refine mt_callV (index := 96) hx hb hml hown hts hK (ΩC.mono D d cp) hA hw hS hl.1 (tX8_combOf l D d cp x1 σ hq) (c_recvX hK hw) q_401 q_32 q_398 q_400 q_12 nmhX8_combOf ⟨⟨Nat.le_of_ble_eq_true rfl, Nat.le_of_ble_eq_true rfl⟩, ⟨Nat.le_of_ble_eq_true rfl, Nat.le_of_ble_eq_true rfl⟩⟩ rfl (Nat.le_of_ble_eq_true rfl) dX8_drop_2 (fun _ u10 H locs hq hw hS => ?_)
  obtain ⟨r9, rfl, hq⟩ := hq
  refine W.eq (g2 := F0 m 5 ls [va_rf r9]) rfl ?_
  refine lv_astoreq_n (lv' := [(2, va_rf r9), (0, .ref (aX cp)), (1, .int x1)]) hx hb dX8_drop_5 rfl hl (by decide) rfl (fun ls hl => ?_)
  refine lv_aloadq_n hx hb dX8_drop_6 rfl (lv_at hl 0 rfl) ?_
  refine lv_ifnonnullq (tgt := 16) hx hb dX8_drop_7 (by decide) (fun a11 hc => ?_) (fun hc => ?_)
  · replace hq := hq.2 a11 hc
    subst hc
    have hl : lv_has ls 3 [(2, .ref a11), (0, .ref (aX cp)), (1, .int x1)] := hl
    refine lv_aload_n hx hb dX8_drop_16 rfl (lv_at hl 1 rfl) ?_
    refine c_getx hx hb hts hown hK hw 1 (by decide) (hts _ q_91) (fun _ h9 => h9) rfl dX8_drop_17 ?_
    refine lv_iload_n hx hb dX8_drop_20 rfl (lv_at hl 2 rfl) ?_
    refine lv_null hx hb dX8_drop_21 ?_
    refine c_stcaN hx hb hK hw hS hq.1 dX8_drop_22 (fun H locs hw hS => ?_)
    replace hq := hq.2
    refine lv_aload_n hx hb dX8_drop_23 rfl (lv_at hl 1 rfl) ?_
    refine lv_aload_n hx hb dX8_drop_24 rfl (lv_at hl 0 rfl) ?_
    obtain ⟨k12, n12, te12, tt12, hm12, hq⟩ := hq
    refine c_getc hx hb hts hown hK hw hm12 1 (by decide) (hts _ q_388) (fun _ h9 => h9) rfl dX8_drop_25 ?_
    refine c_lente hx hb hK hw hm12 dX8_drop_28 ?_
    refine mt_callV (index := 49) hx hb hml hown hts hK (ΩC.mono D d cp) hA hw hS hl.1 (tX8_grant l D d cp (nI n12) (pCb u10 x1.toNatClampNeg none) hq) (c_recvX hK hw) q_190 q_32 q_187 q_189 q_1 nmhX8_grant ⟨⟨Nat.le_of_ble_eq_true rfl, Nat.le_of_ble_eq_true rfl⟩, ⟨Nat.le_of_ble_eq_true rfl, Nat.le_of_ble_eq_true rfl⟩⟩ rfl (Nat.le_of_ble_eq_true rfl) dX8_drop_29 (fun _ u14 H locs hq hw hS => ?_)
    obtain ⟨r13, rfl, hq⟩ := hq
    refine W.eq (g2 := F0 m 32 ls [.int r13]) rfl ?_
    exact mt_reti hx hb hr hlocks hw hS (Nat.le_of_ble_eq_true rfl) (Nat.le_of_ble_eq_true rfl) dX8_drop_32 ⟨_, rfl, hq⟩
  · replace hq := hq.1 hc
    subst hc
    have hl : lv_has ls 3 [(2, .null), (0, .ref (aX cp)), (1, .int x1)] := hl
    refine lv_aload_n hx hb dX8_drop_10 rfl (lv_at hl 1 rfl) ?_
    refine lv_iconst (v := -1) hx hb dX8_drop_11 (by decide) ?_
    refine mt_callV (index := 33) hx hb hml hown hts hK (ΩC.mono D d cp) hA hw hS hl.1 (tX8_refuse l D d cp (-1 : Int32) u10 hq) (c_recvX hK hw) q_113 q_32 q_110 q_112 q_0 nmhX8_refuse ⟨⟨Nat.le_of_ble_eq_true rfl, Nat.le_of_ble_eq_true rfl⟩, ⟨Nat.le_of_ble_eq_true rfl, Nat.le_of_ble_eq_true rfl⟩⟩ rfl (Nat.le_of_ble_eq_true rfl) dX8_drop_12 (fun _ u16 H locs hq hw hS => ?_)
    obtain ⟨r15, rfl, hq⟩ := hq
    refine W.eq (g2 := F0 m 15 ls [.int r15]) rfl ?_
    exact mt_reti hx hb hr hlocks hw hS (Nat.le_of_ble_eq_true rfl) (Nat.le_of_ble_eq_true rfl) dX8_drop_15 ⟨_, rfl, hq⟩
abbrev rmX8_about : Room := { frames := 2, cells := 0, slots := 0, locals := 44 }
theorem nmhX8_about : NoMH yX8_about 2 := by decide +kernel
def wX8_about (x1 : Int32) (x2 : Int32) (σ : CS) (Q : Int32 → CS → Prop) : Prop :=
    wX8_combOf x1 σ (fun r14 u15 => (r14 = none → wX8_refuse (-1 : Int32) u15 (fun r17 u18 => Q r17 u18)) ∧ (∀ a16 : Nat, r14 = some a16 → (wX8_isUpTo x2 (3 : Int32) u15 (fun r19 u20 => (¬ r19 = 0 → (∃ mm : CM, sCm u20 a16 = some mm ∧ wX1_tell a16 x2 u20 (fun r21 u22 => wX8_grant r21 u22 (fun r23 u24 => Q r23 u24)))) ∧ (r19 = 0 → wX8_refuse (-1 : Int32) u20 (fun r25 u26 => Q r25 u26))))))
set_option maxHeartbeats 4000000 in
set_option maxRecDepth 100000 in
theorem tX8_about (l : Launch) (D : va_G) (d : AC) (cp : CP) (x1 : Int32) (x2 : Int32) (σ : CS) {Q : Int32 → CS → Prop} (hq : wX8_about x1 x2 σ Q) : MT D d (ΩC D d cp) l yX8_about (WS yX8_about cX8_about 4 (some (.int))) rmX8_about [.ref (aX cp), .int x1, .int x2] σ (qI Q) := by
  refine mt_of (ΩC.mono D d cp) (by decide +kernel) (Nat.le_of_ble_eq_true rfl) (fun p e s m below meth c A ls hx hb hr hml hown hts hlocks hnm hK hA hw hS hl => ?_)
  have hl : lv_has ls 4 [(0, .ref (aX cp)), (1, .int x1), (2, .int x2)] := hl
  have hown : s.vm.findClass RX8 = some m.cls := hown
  unfold wX8_about at hq
  refine lv_aload_n hx hb dX8_about_0 rfl (lv_at hl 0 rfl) ?_
  refine lv_iload_n hx hb dX8_about_1 rfl (lv_at hl 1 rfl) ?_
  refine mt_callV (index := 96) hx hb hml hown hts hK (ΩC.mono D d cp) hA hw hS hl.1 (tX8_combOf l D d cp x1 σ hq) (c_recvX hK hw) q_401 q_32 q_398 q_400 q_12 nmhX8_combOf ⟨⟨Nat.le_of_ble_eq_true rfl, Nat.le_of_ble_eq_true rfl⟩, ⟨Nat.le_of_ble_eq_true rfl, Nat.le_of_ble_eq_true rfl⟩⟩ rfl (Nat.le_of_ble_eq_true rfl) dX8_about_2 (fun _ u15 H locs hq hw hS => ?_)
  obtain ⟨r14, rfl, hq⟩ := hq
  refine W.eq (g2 := F0 m 5 ls [va_rf r14]) rfl ?_
  refine lv_astoreq_n (lv' := [(3, va_rf r14), (0, .ref (aX cp)), (1, .int x1), (2, .int x2)]) hx hb dX8_about_5 rfl hl (by decide) rfl (fun ls hl => ?_)
  refine lv_aloadq_n hx hb dX8_about_6 rfl (lv_at hl 0 rfl) ?_
  refine lv_ifnullq (tgt := 18) hx hb dX8_about_7 (by decide) (fun hc => ?_) (fun a16 hc => ?_)
  · replace hq := hq.1 hc
    subst hc
    have hl : lv_has ls 4 [(3, .null), (0, .ref (aX cp)), (1, .int x1), (2, .int x2)] := hl
    refine lv_aload_n hx hb dX8_about_18 rfl (lv_at hl 1 rfl) ?_
    refine lv_iconst (v := -1) hx hb dX8_about_19 (by decide) ?_
    refine mt_callV (index := 33) hx hb hml hown hts hK (ΩC.mono D d cp) hA hw hS hl.1 (tX8_refuse l D d cp (-1 : Int32) u15 hq) (c_recvX hK hw) q_113 q_32 q_110 q_112 q_0 nmhX8_refuse ⟨⟨Nat.le_of_ble_eq_true rfl, Nat.le_of_ble_eq_true rfl⟩, ⟨Nat.le_of_ble_eq_true rfl, Nat.le_of_ble_eq_true rfl⟩⟩ rfl (Nat.le_of_ble_eq_true rfl) dX8_about_20 (fun _ u18 H locs hq hw hS => ?_)
    obtain ⟨r17, rfl, hq⟩ := hq
    refine W.eq (g2 := F0 m 23 ls [.int r17]) rfl ?_
    exact mt_reti hx hb hr hlocks hw hS (Nat.le_of_ble_eq_true rfl) (Nat.le_of_ble_eq_true rfl) dX8_about_23 ⟨_, rfl, hq⟩
  · replace hq := hq.2 a16 hc
    subst hc
    have hl : lv_has ls 4 [(3, .ref a16), (0, .ref (aX cp)), (1, .int x1), (2, .int x2)] := hl
    refine lv_iload_n hx hb dX8_about_10 rfl (lv_at hl 3 rfl) ?_
    refine lv_iconst (v := 3) hx hb dX8_about_11 (by decide) ?_
    refine mt_callS (index := 37) hx hb hml hown hts hK (ΩC.mono D d cp) hA hw hS hl.1 (tX8_isUpTo l D d cp x2 (3 : Int32) u15 hq) q_116 q_32 q_114 q_115 nmhX8_isUpTo ⟨⟨Nat.le_of_ble_eq_true rfl, Nat.le_of_ble_eq_true rfl⟩, ⟨Nat.le_of_ble_eq_true rfl, Nat.le_of_ble_eq_true rfl⟩⟩ rfl (Nat.le_of_ble_eq_true rfl) dX8_about_12 (fun _ u20 H locs hq hw hS => ?_)
    obtain ⟨r19, rfl, hzr19, hq⟩ := hq
    refine W.eq (g2 := F0 m 15 ls [.int r19]) rfl ?_
    refine lv_if_ne (tgt := 24) hx hb dX8_about_15 (by decide) (fun hc => ?_) (fun hc => ?_)
    · replace hq := hq.1 hc
      refine lv_aload_n hx hb dX8_about_24 rfl (lv_at hl 1 rfl) ?_
      refine lv_aload_n hx hb dX8_about_25 rfl (lv_at hl 0 rfl) ?_
      refine lv_iload_n hx hb dX8_about_26 rfl (lv_at hl 3 rfl) ?_
      obtain ⟨mm, hm, hq⟩ := hq
      refine mt_callV (index := 100) hx hb hml hown hts hK (ΩC.mono D d cp) hA hw hS hl.1 (tX1_tell l D d cp a16 x2 u20 hq) (c_recvB hK hw hm) q_409 q_42 q_406 q_407 q_408 nmhX1_tell ⟨⟨Nat.le_of_ble_eq_true rfl, Nat.le_of_ble_eq_true rfl⟩, ⟨Nat.le_of_ble_eq_true rfl, Nat.le_of_ble_eq_true rfl⟩⟩ rfl (Nat.le_of_ble_eq_true rfl) dX8_about_27 (fun _ u22 H locs hq hw hS => ?_)
      obtain ⟨r21, rfl, hq⟩ := hq
      refine W.eq (g2 := F0 m 30 ls [.int r21, .ref (aX cp)]) rfl ?_
      refine mt_callV (index := 49) hx hb hml hown hts hK (ΩC.mono D d cp) hA hw hS hl.1 (tX8_grant l D d cp r21 u22 hq) (c_recvX hK hw) q_190 q_32 q_187 q_189 q_1 nmhX8_grant ⟨⟨Nat.le_of_ble_eq_true rfl, Nat.le_of_ble_eq_true rfl⟩, ⟨Nat.le_of_ble_eq_true rfl, Nat.le_of_ble_eq_true rfl⟩⟩ rfl (Nat.le_of_ble_eq_true rfl) dX8_about_30 (fun _ u24 H locs hq hw hS => ?_)
      obtain ⟨r23, rfl, hq⟩ := hq
      refine W.eq (g2 := F0 m 33 ls [.int r23]) rfl ?_
      exact mt_reti hx hb hr hlocks hw hS (Nat.le_of_ble_eq_true rfl) (Nat.le_of_ble_eq_true rfl) dX8_about_33 ⟨_, rfl, hq⟩
    · replace hq := hq.2 hc
      refine lv_aload_n hx hb dX8_about_18 rfl (lv_at hl 1 rfl) ?_
      refine lv_iconst (v := -1) hx hb dX8_about_19 (by decide) ?_
      refine mt_callV (index := 33) hx hb hml hown hts hK (ΩC.mono D d cp) hA hw hS hl.1 (tX8_refuse l D d cp (-1 : Int32) u20 hq) (c_recvX hK hw) q_113 q_32 q_110 q_112 q_0 nmhX8_refuse ⟨⟨Nat.le_of_ble_eq_true rfl, Nat.le_of_ble_eq_true rfl⟩, ⟨Nat.le_of_ble_eq_true rfl, Nat.le_of_ble_eq_true rfl⟩⟩ rfl (Nat.le_of_ble_eq_true rfl) dX8_about_20 (fun _ u26 H locs hq hw hS => ?_)
      obtain ⟨r25, rfl, hq⟩ := hq
      refine W.eq (g2 := F0 m 23 ls [.int r25]) rfl ?_
      exact mt_reti hx hb hr hlocks hw hS (Nat.le_of_ble_eq_true rfl) (Nat.le_of_ble_eq_true rfl) dX8_about_23 ⟨_, rfl, hq⟩
abbrev rmX8_loosen : Room := { frames := 3, cells := 0, slots := 0, locals := 64 }
theorem nmhX8_loosen : NoMH yX8_loosen 2 := by decide +kernel
def wX8_loosen (x1 : Int32) (x2 : Int32) (σ : CS) (Q : Int32 → CS → Prop) : Prop :=
    wX8_combWithTooth x1 x2 σ (fun r15 u16 => (r15 = none → wX8_refuse (-1 : Int32) u16 (fun r27 u28 => Q r27 u28)) ∧ (∀ a17 : Nat, r15 = some a17 → (∃ (k18 : Int32) (n18 te18 : Nat) (tt18 : Nat → Option Nat), sCm u16 a17 = some (k18, n18, te18, tt18) ∧ (vp_in x2 n18 ∧ (∀ o19 : Option Nat, o19 = tt18 x2.toNatClampNeg → ((o19 = none → wX8_refuse (-2 : Int32) u16 (fun r25 u26 => Q r25 u26)) ∧ (∀ a20 : Nat, o19 = some a20 → (∃ (k21 : Int32) (n21 te21 : Nat) (tt21 : Nat → Option Nat), sCm u16 a17 = some (k21, n21, te21, tt21) ∧ (vp_in x2 n21 ∧ (∃ (kd22 n22 c22 : Nat) (f22 : Nat → Int32), sTk (pCm u16 a17 (k21, n21, te21, va_up tt21 x2.toNatClampNeg none)) a20 = some (kd22, n22, c22, f22) ∧ (wX8_grant (nI n22) (pCm u16 a17 (k21, n21, te21, va_up tt21 x2.toNatClampNeg none)) (fun r23 u24 => Q r23 u24))))))))))))
set_option maxHeartbeats 4000000 in
set_option maxRecDepth 100000 in
theorem tX8_loosen (l : Launch) (D : va_G) (d : AC) (cp : CP) (x1 : Int32) (x2 : Int32) (σ : CS) {Q : Int32 → CS → Prop} (hq : wX8_loosen x1 x2 σ Q) : MT D d (ΩC D d cp) l yX8_loosen (WS yX8_loosen cX8_loosen 5 (some (.int))) rmX8_loosen [.ref (aX cp), .int x1, .int x2] σ (qI Q) := by
  refine mt_of (ΩC.mono D d cp) (by decide +kernel) (Nat.le_of_ble_eq_true rfl) (fun p e s m below meth c A ls hx hb hr hml hown hts hlocks hnm hK hA hw hS hl => ?_)
  have hl : lv_has ls 5 [(0, .ref (aX cp)), (1, .int x1), (2, .int x2)] := hl
  have hown : s.vm.findClass RX8 = some m.cls := hown
  unfold wX8_loosen at hq
  refine lv_aload_n hx hb dX8_loosen_0 rfl (lv_at hl 0 rfl) ?_
  refine lv_iload_n hx hb dX8_loosen_1 rfl (lv_at hl 1 rfl) ?_
  refine lv_iload_n hx hb dX8_loosen_2 rfl (lv_at hl 2 rfl) ?_
  refine mt_callV (index := 103) hx hb hml hown hts hK (ΩC.mono D d cp) hA hw hS hl.1 (tX8_combWithTooth l D d cp x1 x2 σ hq) (c_recvX hK hw) q_425 q_32 q_422 q_424 q_15 nmhX8_combWithTooth ⟨⟨Nat.le_of_ble_eq_true rfl, Nat.le_of_ble_eq_true rfl⟩, ⟨Nat.le_of_ble_eq_true rfl, Nat.le_of_ble_eq_true rfl⟩⟩ rfl (Nat.le_of_ble_eq_true rfl) dX8_loosen_3 (fun _ u16 H locs hq hw hS => ?_)
  obtain ⟨r15, rfl, hq⟩ := hq
  refine W.eq (g2 := F0 m 6 ls [va_rf r15]) rfl ?_
  refine lv_astoreq_n (lv' := [(3, va_rf r15), (0, .ref (aX cp)), (1, .int x1), (2, .int x2)]) hx hb dX8_loosen_6 rfl hl (by decide) rfl (fun ls hl => ?_)
  refine lv_aloadq_n hx hb dX8_loosen_7 rfl (lv_at hl 0 rfl) ?_
  refine lv_ifnonnullq (tgt := 17) hx hb dX8_loosen_8 (by decide) (fun a17 hc => ?_) (fun hc => ?_)
  · replace hq := hq.2 a17 hc
    subst hc
    have hl : lv_has ls 5 [(3, .ref a17), (0, .ref (aX cp)), (1, .int x1), (2, .int x2)] := hl
    refine lv_aload_n hx hb dX8_loosen_17 rfl (lv_at hl 0 rfl) ?_
    obtain ⟨k18, n18, te18, tt18, hm18, hq⟩ := hq
    refine c_getc hx hb hts hown hK hw hm18 1 (by decide) (hts _ q_388) (fun _ h9 => h9) rfl dX8_loosen_18 ?_
    refine lv_iload_n hx hb dX8_loosen_21 rfl (lv_at hl 3 rfl) ?_
    refine c_ldte hx hb hK hw hm18 hq.1 dX8_loosen_22 ?_
    replace hq := hq.2
    refine lv_topq (fun o19 eo19 => ?_)
    replace hq := hq o19 eo19
    refine lv_astoreq (lv' := [(4, va_rf o19), (3, .ref a17), (0, .ref (aX cp)), (1, .int x1), (2, .int x2)]) hx hb dX8_loosen_23 hl (by decide) rfl (fun ls hl => ?_)
    refine lv_aloadq hx hb dX8_loosen_25 (lv_at hl 0 rfl) ?_
    refine lv_ifnonnullq (tgt := 37) hx hb dX8_loosen_27 (by decide) (fun a20 hc => ?_) (fun hc => ?_)
    · replace hq := hq.2 a20 hc
      subst hc
      have hl : lv_has ls 5 [(4, .ref a20), (3, .ref a17), (0, .ref (aX cp)), (1, .int x1), (2, .int x2)] := hl
      refine lv_aload_n hx hb dX8_loosen_37 rfl (lv_at hl 1 rfl) ?_
      obtain ⟨k21, n21, te21, tt21, hm21, hq⟩ := hq
      refine c_getc hx hb hts hown hK hw hm21 1 (by decide) (hts _ q_388) (fun _ h9 => h9) rfl dX8_loosen_38 ?_
      refine lv_iload_n hx hb dX8_loosen_41 rfl (lv_at hl 4 rfl) ?_
      refine lv_null hx hb dX8_loosen_42 ?_
      refine c_stteN hx hb hK hw hS hm21 hq.1 dX8_loosen_43 (fun H locs hw hS => ?_)
      replace hq := hq.2
      refine lv_aload_n hx hb dX8_loosen_44 rfl (lv_at hl 2 rfl) ?_
      refine lv_aload hx hb dX8_loosen_45 (lv_at hl 0 rfl) ?_
      obtain ⟨kd22, n22, c22, f22, hm22, hq⟩ := hq
      refine c_gete hx hb hts hown hK hw hm22 (hts _ q_131) dX8_loosen_47 ?_
      refine mt_callV (index := 49) hx hb hml hown hts hK (ΩC.mono D d cp) hA hw hS hl.1 (tX8_grant l D d cp (nI n22) (pCm u16 a17 (k21, n21, te21, va_up tt21 x2.toNatClampNeg none)) hq) (c_recvX hK hw) q_190 q_32 q_187 q_189 q_1 nmhX8_grant ⟨⟨Nat.le_of_ble_eq_true rfl, Nat.le_of_ble_eq_true rfl⟩, ⟨Nat.le_of_ble_eq_true rfl, Nat.le_of_ble_eq_true rfl⟩⟩ rfl (Nat.le_of_ble_eq_true rfl) dX8_loosen_50 (fun _ u24 H locs hq hw hS => ?_)
      obtain ⟨r23, rfl, hq⟩ := hq
      refine W.eq (g2 := F0 m 53 ls [.int r23]) rfl ?_
      exact mt_reti hx hb hr hlocks hw hS (Nat.le_of_ble_eq_true rfl) (Nat.le_of_ble_eq_true rfl) dX8_loosen_53 ⟨_, rfl, hq⟩
    · replace hq := hq.1 hc
      subst hc
      have hl : lv_has ls 5 [(4, .null), (3, .ref a17), (0, .ref (aX cp)), (1, .int x1), (2, .int x2)] := hl
      refine lv_aload_n hx hb dX8_loosen_30 rfl (lv_at hl 2 rfl) ?_
      refine lv_bipush (v := -2) hx hb dX8_loosen_31 (by decide) ?_
      refine mt_callV (index := 33) hx hb hml hown hts hK (ΩC.mono D d cp) hA hw hS hl.1 (tX8_refuse l D d cp (-2 : Int32) u16 hq) (c_recvX hK hw) q_113 q_32 q_110 q_112 q_0 nmhX8_refuse ⟨⟨Nat.le_of_ble_eq_true rfl, Nat.le_of_ble_eq_true rfl⟩, ⟨Nat.le_of_ble_eq_true rfl, Nat.le_of_ble_eq_true rfl⟩⟩ rfl (Nat.le_of_ble_eq_true rfl) dX8_loosen_33 (fun _ u26 H locs hq hw hS => ?_)
      obtain ⟨r25, rfl, hq⟩ := hq
      refine W.eq (g2 := F0 m 36 ls [.int r25]) rfl ?_
      exact mt_reti hx hb hr hlocks hw hS (Nat.le_of_ble_eq_true rfl) (Nat.le_of_ble_eq_true rfl) dX8_loosen_36 ⟨_, rfl, hq⟩
  · replace hq := hq.1 hc
    subst hc
    have hl : lv_has ls 5 [(3, .null), (0, .ref (aX cp)), (1, .int x1), (2, .int x2)] := hl
    refine lv_aload_n hx hb dX8_loosen_11 rfl (lv_at hl 1 rfl) ?_
    refine lv_iconst (v := -1) hx hb dX8_loosen_12 (by decide) ?_
    refine mt_callV (index := 33) hx hb hml hown hts hK (ΩC.mono D d cp) hA hw hS hl.1 (tX8_refuse l D d cp (-1 : Int32) u16 hq) (c_recvX hK hw) q_113 q_32 q_110 q_112 q_0 nmhX8_refuse ⟨⟨Nat.le_of_ble_eq_true rfl, Nat.le_of_ble_eq_true rfl⟩, ⟨Nat.le_of_ble_eq_true rfl, Nat.le_of_ble_eq_true rfl⟩⟩ rfl (Nat.le_of_ble_eq_true rfl) dX8_loosen_13 (fun _ u28 H locs hq hw hS => ?_)
    obtain ⟨r27, rfl, hq⟩ := hq
    refine W.eq (g2 := F0 m 16 ls [.int r27]) rfl ?_
    exact mt_reti hx hb hr hlocks hw hS (Nat.le_of_ble_eq_true rfl) (Nat.le_of_ble_eq_true rfl) dX8_loosen_16 ⟨_, rfl, hq⟩
abbrev rmX8_hang : Room := { frames := 3, cells := 0, slots := 0, locals := 64 }
theorem nmhX8_hang : NoMH yX8_hang 3 := by decide +kernel
def wX8_hang (x1 : Int32) (x2 : Int32) (x3 : Int32) (σ : CS) (Q : Int32 → CS → Prop) : Prop :=
    wX8_combWithTooth x1 x2 σ (fun r13 u14 => (r13 = none → wX8_refuse (-1 : Int32) u14 (fun r23 u24 => Q r23 u24)) ∧ (∀ a15 : Nat, r13 = some a15 → (∃ (k16 : Int32) (n16 te16 : Nat) (tt16 : Nat → Option Nat), sCm u14 a15 = some (k16, n16, te16, tt16) ∧ (wX8_trackOfDrum x3 k16 u14 (fun r17 u18 => (r17 = none → Q (sRf u18) u18) ∧ (∀ a19 : Nat, r17 = some a19 → (∃ (k20 : Int32) (n20 te20 : Nat) (tt20 : Nat → Option Nat), sCm u18 a15 = some (k20, n20, te20, tt20) ∧ (∃ t21 : TK, sTk u18 a19 = some t21 ∧ vp_in x2 n20 ∧ (∃ (kd22 n22 c22 : Nat) (f22 : Nat → Int32), sTk (pCm u18 a15 (k20, n20, te20, va_up tt20 x2.toNatClampNeg (some a19))) a19 = some (kd22, n22, c22, f22) ∧ (Q (nI n22) (pCm u18 a15 (k20, n20, te20, va_up tt20 x2.toNatClampNeg (some a19)))))))))))))
set_option maxHeartbeats 4000000 in
set_option maxRecDepth 100000 in
theorem tX8_hang (l : Launch) (D : va_G) (d : AC) (cp : CP) (x1 : Int32) (x2 : Int32) (x3 : Int32) (σ : CS) {Q : Int32 → CS → Prop} (hq : wX8_hang x1 x2 x3 σ Q) : MT D d (ΩC D d cp) l yX8_hang (WS yX8_hang cX8_hang 6 (some (.int))) rmX8_hang [.ref (aX cp), .int x1, .int x2, .int x3] σ (qI Q) := by
  refine mt_of (ΩC.mono D d cp) (by decide +kernel) (Nat.le_of_ble_eq_true rfl) (fun p e s m below meth c A ls hx hb hr hml hown hts hlocks hnm hK hA hw hS hl => ?_)
  have hl : lv_has ls 6 [(0, .ref (aX cp)), (1, .int x1), (2, .int x2), (3, .int x3)] := hl
  have hown : s.vm.findClass RX8 = some m.cls := hown
  unfold wX8_hang at hq
  refine lv_aload_n hx hb dX8_hang_0 rfl (lv_at hl 0 rfl) ?_
  refine lv_iload_n hx hb dX8_hang_1 rfl (lv_at hl 1 rfl) ?_
  refine lv_iload_n hx hb dX8_hang_2 rfl (lv_at hl 2 rfl) ?_
  refine mt_callV (index := 103) hx hb hml hown hts hK (ΩC.mono D d cp) hA hw hS hl.1 (tX8_combWithTooth l D d cp x1 x2 σ hq) (c_recvX hK hw) q_425 q_32 q_422 q_424 q_15 nmhX8_combWithTooth ⟨⟨Nat.le_of_ble_eq_true rfl, Nat.le_of_ble_eq_true rfl⟩, ⟨Nat.le_of_ble_eq_true rfl, Nat.le_of_ble_eq_true rfl⟩⟩ rfl (Nat.le_of_ble_eq_true rfl) dX8_hang_3 (fun _ u14 H locs hq hw hS => ?_)
  obtain ⟨r13, rfl, hq⟩ := hq
  refine W.eq (g2 := F0 m 6 ls [va_rf r13]) rfl ?_
  refine lv_astoreq (lv' := [(4, va_rf r13), (0, .ref (aX cp)), (1, .int x1), (2, .int x2), (3, .int x3)]) hx hb dX8_hang_6 hl (by decide) rfl (fun ls hl => ?_)
  refine lv_aloadq hx hb dX8_hang_8 (lv_at hl 0 rfl) ?_
  refine lv_ifnonnullq (tgt := 19) hx hb dX8_hang_10 (by decide) (fun a15 hc => ?_) (fun hc => ?_)
  · replace hq := hq.2 a15 hc
    subst hc
    have hl : lv_has ls 6 [(4, .ref a15), (0, .ref (aX cp)), (1, .int x1), (2, .int x2), (3, .int x3)] := hl
    refine lv_aload_n hx hb dX8_hang_19 rfl (lv_at hl 1 rfl) ?_
    refine lv_iload_n hx hb dX8_hang_20 rfl (lv_at hl 4 rfl) ?_
    refine lv_aload hx hb dX8_hang_21 (lv_at hl 0 rfl) ?_
    obtain ⟨k16, n16, te16, tt16, hm16, hq⟩ := hq
    refine c_getc hx hb hts hown hK hw hm16 0 (by decide) (hts _ q_386) (fun _ h9 => h9) rfl dX8_hang_23 ?_
    refine mt_callV (index := 52) hx hb hml hown hts hK (ΩC.mono D d cp) hA hw hS hl.1 (tX8_trackOfDrum l D d cp x3 k16 u14 hq) (c_recvX hK hw) q_198 q_32 q_195 q_197 q_2 nmhX8_trackOfDrum ⟨⟨Nat.le_of_ble_eq_true rfl, Nat.le_of_ble_eq_true rfl⟩, ⟨Nat.le_of_ble_eq_true rfl, Nat.le_of_ble_eq_true rfl⟩⟩ rfl (Nat.le_of_ble_eq_true rfl) dX8_hang_26 (fun _ u18 H locs hq hw hS => ?_)
    obtain ⟨r17, rfl, hq⟩ := hq
    refine W.eq (g2 := F0 m 29 ls [va_rf r17]) rfl ?_
    refine lv_astoreq (lv' := [(5, va_rf r17), (4, .ref a15), (0, .ref (aX cp)), (1, .int x1), (2, .int x2), (3, .int x3)]) hx hb dX8_hang_29 hl (by decide) rfl (fun ls hl => ?_)
    refine lv_aloadq hx hb dX8_hang_31 (lv_at hl 0 rfl) ?_
    refine lv_ifnonnullq (tgt := 41) hx hb dX8_hang_33 (by decide) (fun a19 hc => ?_) (fun hc => ?_)
    · replace hq := hq.2 a19 hc
      subst hc
      have hl : lv_has ls 6 [(5, .ref a19), (4, .ref a15), (0, .ref (aX cp)), (1, .int x1), (2, .int x2), (3, .int x3)] := hl
      refine lv_aload hx hb dX8_hang_41 (lv_at hl 1 rfl) ?_
      obtain ⟨k20, n20, te20, tt20, hm20, hq⟩ := hq
      refine c_getc hx hb hts hown hK hw hm20 1 (by decide) (hts _ q_388) (fun _ h9 => h9) rfl dX8_hang_43 ?_
      refine lv_iload_n hx hb dX8_hang_46 rfl (lv_at hl 4 rfl) ?_
      refine lv_aload hx hb dX8_hang_47 (lv_at hl 0 rfl) ?_
      obtain ⟨t21, ha21, hq⟩ := hq
      refine c_stteT hx hb hK hw hS hm20 ha21 hq.1 dX8_hang_49 (fun H locs hw hS => ?_)
      replace hq := hq.2
      refine lv_aload hx hb dX8_hang_50 (lv_at hl 0 rfl) ?_
      obtain ⟨kd22, n22, c22, f22, hm22, hq⟩ := hq
      refine c_gete hx hb hts hown hK hw hm22 (hts _ q_131) dX8_hang_52 ?_
      exact mt_reti hx hb hr hlocks hw hS (Nat.le_of_ble_eq_true rfl) (Nat.le_of_ble_eq_true rfl) dX8_hang_55 ⟨_, rfl, hq⟩
    · replace hq := hq.1 hc
      subst hc
      have hl : lv_has ls 6 [(5, .null), (4, .ref a15), (0, .ref (aX cp)), (1, .int x1), (2, .int x2), (3, .int x3)] := hl
      refine lv_aload_n hx hb dX8_hang_36 rfl (lv_at hl 2 rfl) ?_
      refine c_getx hx hb hts hown hK hw 2 (by decide) (hts _ q_92) (fun _ h9 => h9) rfl dX8_hang_37 ?_
      exact mt_reti hx hb hr hlocks hw hS (Nat.le_of_ble_eq_true rfl) (Nat.le_of_ble_eq_true rfl) dX8_hang_40 ⟨_, rfl, hq⟩
  · replace hq := hq.1 hc
    subst hc
    have hl : lv_has ls 6 [(4, .null), (0, .ref (aX cp)), (1, .int x1), (2, .int x2), (3, .int x3)] := hl
    refine lv_aload_n hx hb dX8_hang_13 rfl (lv_at hl 1 rfl) ?_
    refine lv_iconst (v := -1) hx hb dX8_hang_14 (by decide) ?_
    refine mt_callV (index := 33) hx hb hml hown hts hK (ΩC.mono D d cp) hA hw hS hl.1 (tX8_refuse l D d cp (-1 : Int32) u14 hq) (c_recvX hK hw) q_113 q_32 q_110 q_112 q_0 nmhX8_refuse ⟨⟨Nat.le_of_ble_eq_true rfl, Nat.le_of_ble_eq_true rfl⟩, ⟨Nat.le_of_ble_eq_true rfl, Nat.le_of_ble_eq_true rfl⟩⟩ rfl (Nat.le_of_ble_eq_true rfl) dX8_hang_15 (fun _ u24 H locs hq hw hS => ?_)
    obtain ⟨r23, rfl, hq⟩ := hq
    refine W.eq (g2 := F0 m 18 ls [.int r23]) rfl ?_
    exact mt_reti hx hb hr hlocks hw hS (Nat.le_of_ble_eq_true rfl) (Nat.le_of_ble_eq_true rfl) dX8_hang_18 ⟨_, rfl, hq⟩
abbrev rmX8_fit : Room := { frames := 3, cells := 0, slots := 0, locals := 64 }
theorem nmhX8_fit : NoMH yX8_fit 3 := by decide +kernel
def wX8_fit (x1 : Int32) (x2 : Int32) (x3 : Int32) (σ : CS) (Q : Int32 → CS → Prop) : Prop :=
    wX8_combWithTooth x1 x2 σ (fun r21 u22 => (r21 = none → wX8_refuse (-1 : Int32) u22 (fun r24 u25 => Q r24 u25)) ∧ (∀ a23 : Nat, r21 = some a23 → (wX8_isDrum x3 u22 (fun r26 u27 => (¬ r26 = 0 → (∃ (k28 : Int32) (n28 te28 : Nat) (tt28 : Nat → Option Nat), sCm u27 a23 = some (k28, n28, te28, tt28) ∧ (vp_in x2 n28 ∧ (∀ o29 : Option Nat, o29 = tt28 x2.toNatClampNeg → ((o29 = none → wX8_refuse (-2 : Int32) u27 (fun r37 u38 => Q r37 u38)) ∧ (∀ a30 : Nat, o29 = some a30 → (vp_in x3 8 ∧ (∃ (k32 : Int32) (n32 te32 : Nat) (tt32 : Nat → Option Nat), sCm u27 a23 = some (k32, n32, te32, tt32) ∧ (∃ t33 : TK, sTk u27 a30 = some t33 ∧ vp_in k32 5 ∧ (∃ (kd34 n34 c34 : Nat) (f34 : Nat → Int32), sTk (pSl u27 x3.toNatClampNeg k32.toNatClampNeg (some a30)) a30 = some (kd34, n34, c34, f34) ∧ (wX8_grant (nI n34) (pSl u27 x3.toNatClampNeg k32.toNatClampNeg (some a30)) (fun r35 u36 => Q r35 u36)))))))))))) ∧ (r26 = 0 → wX8_refuse (-1 : Int32) u27 (fun r39 u40 => Q r39 u40))))))
set_option maxHeartbeats 4000000 in
set_option maxRecDepth 100000 in
theorem tX8_fit (l : Launch) (D : va_G) (d : AC) (cp : CP) (x1 : Int32) (x2 : Int32) (x3 : Int32) (σ : CS) {Q : Int32 → CS → Prop} (hq : wX8_fit x1 x2 x3 σ Q) : MT D d (ΩC D d cp) l yX8_fit (WS yX8_fit cX8_fit 6 (some (.int))) rmX8_fit [.ref (aX cp), .int x1, .int x2, .int x3] σ (qI Q) := by
  refine mt_of (ΩC.mono D d cp) (by decide +kernel) (Nat.le_of_ble_eq_true rfl) (fun p e s m below meth c A ls hx hb hr hml hown hts hlocks hnm hK hA hw hS hl => ?_)
  have hl : lv_has ls 6 [(0, .ref (aX cp)), (1, .int x1), (2, .int x2), (3, .int x3)] := hl
  have hown : s.vm.findClass RX8 = some m.cls := hown
  unfold wX8_fit at hq
  refine lv_aload_n hx hb dX8_fit_0 rfl (lv_at hl 0 rfl) ?_
  refine lv_iload_n hx hb dX8_fit_1 rfl (lv_at hl 1 rfl) ?_
  refine lv_iload_n hx hb dX8_fit_2 rfl (lv_at hl 2 rfl) ?_
  refine mt_callV (index := 103) hx hb hml hown hts hK (ΩC.mono D d cp) hA hw hS hl.1 (tX8_combWithTooth l D d cp x1 x2 σ hq) (c_recvX hK hw) q_425 q_32 q_422 q_424 q_15 nmhX8_combWithTooth ⟨⟨Nat.le_of_ble_eq_true rfl, Nat.le_of_ble_eq_true rfl⟩, ⟨Nat.le_of_ble_eq_true rfl, Nat.le_of_ble_eq_true rfl⟩⟩ rfl (Nat.le_of_ble_eq_true rfl) dX8_fit_3 (fun _ u22 H locs hq hw hS => ?_)
  obtain ⟨r21, rfl, hq⟩ := hq
  refine W.eq (g2 := F0 m 6 ls [va_rf r21]) rfl ?_
  refine lv_astoreq (lv' := [(4, va_rf r21), (0, .ref (aX cp)), (1, .int x1), (2, .int x2), (3, .int x3)]) hx hb dX8_fit_6 hl (by decide) rfl (fun ls hl => ?_)
  refine lv_aloadq hx hb dX8_fit_8 (lv_at hl 0 rfl) ?_
  refine lv_ifnullq (tgt := 20) hx hb dX8_fit_10 (by decide) (fun hc => ?_) (fun a23 hc => ?_)
  · replace hq := hq.1 hc
    subst hc
    have hl : lv_has ls 6 [(4, .null), (0, .ref (aX cp)), (1, .int x1), (2, .int x2), (3, .int x3)] := hl
    refine lv_aload_n hx hb dX8_fit_20 rfl (lv_at hl 1 rfl) ?_
    refine lv_iconst (v := -1) hx hb dX8_fit_21 (by decide) ?_
    refine mt_callV (index := 33) hx hb hml hown hts hK (ΩC.mono D d cp) hA hw hS hl.1 (tX8_refuse l D d cp (-1 : Int32) u22 hq) (c_recvX hK hw) q_113 q_32 q_110 q_112 q_0 nmhX8_refuse ⟨⟨Nat.le_of_ble_eq_true rfl, Nat.le_of_ble_eq_true rfl⟩, ⟨Nat.le_of_ble_eq_true rfl, Nat.le_of_ble_eq_true rfl⟩⟩ rfl (Nat.le_of_ble_eq_true rfl) dX8_fit_22 (fun _ u25 H locs hq hw hS => ?_)
    obtain ⟨r24, rfl, hq⟩ := hq
    refine W.eq (g2 := F0 m 25 ls [.int r24]) rfl ?_
    exact mt_reti hx hb hr hlocks hw hS (Nat.le_of_ble_eq_true rfl) (Nat.le_of_ble_eq_true rfl) dX8_fit_25 ⟨_, rfl, hq⟩
  · replace hq := hq.2 a23 hc
    subst hc
    have hl : lv_has ls 6 [(4, .ref a23), (0, .ref (aX cp)), (1, .int x1), (2, .int x2), (3, .int x3)] := hl
    refine lv_iload_n hx hb dX8_fit_13 rfl (lv_at hl 4 rfl) ?_
    refine mt_callS (index := 26) hx hb hml hown hts hK (ΩC.mono D d cp) hA hw hS hl.1 (tX8_isDrum l D d cp x3 u22 hq) q_106 q_32 q_104 q_105 nmhX8_isDrum ⟨⟨Nat.le_of_ble_eq_true rfl, Nat.le_of_ble_eq_true rfl⟩, ⟨Nat.le_of_ble_eq_true rfl, Nat.le_of_ble_eq_true rfl⟩⟩ rfl (Nat.le_of_ble_eq_true rfl) dX8_fit_14 (fun _ u27 H locs hq hw hS => ?_)
    obtain ⟨r26, rfl, hzr26, hq⟩ := hq
    refine W.eq (g2 := F0 m 17 ls [.int r26]) rfl ?_
    refine lv_if_ne (tgt := 26) hx hb dX8_fit_17 (by decide) (fun hc => ?_) (fun hc => ?_)
    · replace hq := hq.1 hc
      refine lv_aload hx hb dX8_fit_26 (lv_at hl 0 rfl) ?_
      obtain ⟨k28, n28, te28, tt28, hm28, hq⟩ := hq
      refine c_getc hx hb hts hown hK hw hm28 1 (by decide) (hts _ q_388) (fun _ h9 => h9) rfl dX8_fit_28 ?_
      refine lv_iload_n hx hb dX8_fit_31 rfl (lv_at hl 3 rfl) ?_
      refine c_ldte hx hb hK hw hm28 hq.1 dX8_fit_32 ?_
      replace hq := hq.2
      refine lv_topq (fun o29 eo29 => ?_)
      replace hq := hq o29 eo29
      refine lv_astoreq (lv' := [(5, va_rf o29), (4, .ref a23), (0, .ref (aX cp)), (1, .int x1), (2, .int x2), (3, .int x3)]) hx hb dX8_fit_33 hl (by decide) rfl (fun ls hl => ?_)
      refine lv_aloadq hx hb dX8_fit_35 (lv_at hl 0 rfl) ?_
      refine lv_ifnonnullq (tgt := 47) hx hb dX8_fit_37 (by decide) (fun a30 hc => ?_) (fun hc => ?_)
      · replace hq := hq.2 a30 hc
        subst hc
        have hl : lv_has ls 6 [(5, .ref a30), (4, .ref a23), (0, .ref (aX cp)), (1, .int x1), (2, .int x2), (3, .int x3)] := hl
        refine lv_aload_n hx hb dX8_fit_47 rfl (lv_at hl 2 rfl) ?_
        refine c_getx hx hb hts hown hK hw 0 (by decide) (hts _ q_90) (fun _ h9 => h9) rfl dX8_fit_48 ?_
        refine lv_iload_n hx hb dX8_fit_51 rfl (lv_at hl 5 rfl) ?_
        have hd31 := vp_lt hq.1
        refine c_ldda hx hb hK hw hq.1 dX8_fit_52 ?_
        replace hq := hq.2
        refine c_getd hx hb hts hown hK hw hd31 0 (by decide) (hts _ q_61) (fun _ h9 => h9) rfl dX8_fit_53 ?_
        refine lv_aload hx hb dX8_fit_56 (lv_at hl 1 rfl) ?_
        obtain ⟨k32, n32, te32, tt32, hm32, hq⟩ := hq
        refine c_getc hx hb hts hown hK hw hm32 0 (by decide) (hts _ q_386) (fun _ h9 => h9) rfl dX8_fit_58 ?_
        refine lv_aload hx hb dX8_fit_61 (lv_at hl 0 rfl) ?_
        obtain ⟨t33, ha33, hq⟩ := hq
        refine c_stdtT hx hb hK hw hS hd31 ha33 hq.1 dX8_fit_63 (fun H locs hw hS => ?_)
        replace hq := hq.2
        refine lv_aload_n hx hb dX8_fit_64 rfl (lv_at hl 2 rfl) ?_
        refine lv_aload hx hb dX8_fit_65 (lv_at hl 0 rfl) ?_
        obtain ⟨kd34, n34, c34, f34, hm34, hq⟩ := hq
        refine c_gete hx hb hts hown hK hw hm34 (hts _ q_131) dX8_fit_67 ?_
        refine mt_callV (index := 49) hx hb hml hown hts hK (ΩC.mono D d cp) hA hw hS hl.1 (tX8_grant l D d cp (nI n34) (pSl u27 x3.toNatClampNeg k32.toNatClampNeg (some a30)) hq) (c_recvX hK hw) q_190 q_32 q_187 q_189 q_1 nmhX8_grant ⟨⟨Nat.le_of_ble_eq_true rfl, Nat.le_of_ble_eq_true rfl⟩, ⟨Nat.le_of_ble_eq_true rfl, Nat.le_of_ble_eq_true rfl⟩⟩ rfl (Nat.le_of_ble_eq_true rfl) dX8_fit_70 (fun _ u36 H locs hq hw hS => ?_)
        obtain ⟨r35, rfl, hq⟩ := hq
        refine W.eq (g2 := F0 m 73 ls [.int r35]) rfl ?_
        exact mt_reti hx hb hr hlocks hw hS (Nat.le_of_ble_eq_true rfl) (Nat.le_of_ble_eq_true rfl) dX8_fit_73 ⟨_, rfl, hq⟩
      · replace hq := hq.1 hc
        subst hc
        have hl : lv_has ls 6 [(5, .null), (4, .ref a23), (0, .ref (aX cp)), (1, .int x1), (2, .int x2), (3, .int x3)] := hl
        refine lv_aload_n hx hb dX8_fit_40 rfl (lv_at hl 2 rfl) ?_
        refine lv_bipush (v := -2) hx hb dX8_fit_41 (by decide) ?_
        refine mt_callV (index := 33) hx hb hml hown hts hK (ΩC.mono D d cp) hA hw hS hl.1 (tX8_refuse l D d cp (-2 : Int32) u27 hq) (c_recvX hK hw) q_113 q_32 q_110 q_112 q_0 nmhX8_refuse ⟨⟨Nat.le_of_ble_eq_true rfl, Nat.le_of_ble_eq_true rfl⟩, ⟨Nat.le_of_ble_eq_true rfl, Nat.le_of_ble_eq_true rfl⟩⟩ rfl (Nat.le_of_ble_eq_true rfl) dX8_fit_43 (fun _ u38 H locs hq hw hS => ?_)
        obtain ⟨r37, rfl, hq⟩ := hq
        refine W.eq (g2 := F0 m 46 ls [.int r37]) rfl ?_
        exact mt_reti hx hb hr hlocks hw hS (Nat.le_of_ble_eq_true rfl) (Nat.le_of_ble_eq_true rfl) dX8_fit_46 ⟨_, rfl, hq⟩
    · replace hq := hq.2 hc
      refine lv_aload_n hx hb dX8_fit_20 rfl (lv_at hl 1 rfl) ?_
      refine lv_iconst (v := -1) hx hb dX8_fit_21 (by decide) ?_
      refine mt_callV (index := 33) hx hb hml hown hts hK (ΩC.mono D d cp) hA hw hS hl.1 (tX8_refuse l D d cp (-1 : Int32) u27 hq) (c_recvX hK hw) q_113 q_32 q_110 q_112 q_0 nmhX8_refuse ⟨⟨Nat.le_of_ble_eq_true rfl, Nat.le_of_ble_eq_true rfl⟩, ⟨Nat.le_of_ble_eq_true rfl, Nat.le_of_ble_eq_true rfl⟩⟩ rfl (Nat.le_of_ble_eq_true rfl) dX8_fit_22 (fun _ u40 H locs hq hw hS => ?_)
      obtain ⟨r39, rfl, hq⟩ := hq
      refine W.eq (g2 := F0 m 25 ls [.int r39]) rfl ?_
      exact mt_reti hx hb hr hlocks hw hS (Nat.le_of_ble_eq_true rfl) (Nat.le_of_ble_eq_true rfl) dX8_fit_25 ⟨_, rfl, hq⟩
abbrev rmX8_cell : Room := { frames := 4, cells := 0, slots := 0, locals := 87 }
theorem nmhX8_cell : NoMH yX8_cell 3 := by decide +kernel
def wX8_cell (x1 : Int32) (x2 : Int32) (x3 : Int32) (σ : CS) (Q : Int32 → CS → Prop) : Prop :=
    wX8_trackOfTooth x1 x2 σ (fun r5 u6 => wX8_valueIn r5 x3 u6 (fun r7 u8 => Q r7 u8))
set_option maxHeartbeats 4000000 in
set_option maxRecDepth 100000 in
theorem tX8_cell (l : Launch) (D : va_G) (d : AC) (cp : CP) (x1 : Int32) (x2 : Int32) (x3 : Int32) (σ : CS) {Q : Int32 → CS → Prop} (hq : wX8_cell x1 x2 x3 σ Q) : MT D d (ΩC D d cp) l yX8_cell (WS yX8_cell cX8_cell 4 (some (.int))) rmX8_cell [.ref (aX cp), .int x1, .int x2, .int x3] σ (qI Q) := by
  refine mt_of (ΩC.mono D d cp) (by decide +kernel) (Nat.le_of_ble_eq_true rfl) (fun p e s m below meth c A ls hx hb hr hml hown hts hlocks hnm hK hA hw hS hl => ?_)
  have hl : lv_has ls 4 [(0, .ref (aX cp)), (1, .int x1), (2, .int x2), (3, .int x3)] := hl
  have hown : s.vm.findClass RX8 = some m.cls := hown
  unfold wX8_cell at hq
  refine lv_aload_n hx hb dX8_cell_0 rfl (lv_at hl 0 rfl) ?_
  refine lv_aload_n hx hb dX8_cell_1 rfl (lv_at hl 0 rfl) ?_
  refine lv_iload_n hx hb dX8_cell_2 rfl (lv_at hl 1 rfl) ?_
  refine lv_iload_n hx hb dX8_cell_3 rfl (lv_at hl 2 rfl) ?_
  refine mt_callV (index := 110) hx hb hml hown hts hK (ΩC.mono D d cp) hA hw hS hl.1 (tX8_trackOfTooth l D d cp x1 x2 σ hq) (c_recvX hK hw) q_441 q_32 q_438 q_440 q_16 nmhX8_trackOfTooth ⟨⟨Nat.le_of_ble_eq_true rfl, Nat.le_of_ble_eq_true rfl⟩, ⟨Nat.le_of_ble_eq_true rfl, Nat.le_of_ble_eq_true rfl⟩⟩ rfl (Nat.le_of_ble_eq_true rfl) dX8_cell_4 (fun _ u6 H locs hq hw hS => ?_)
  obtain ⟨r5, rfl, hq⟩ := hq
  refine W.eq (g2 := F0 m 7 ls [va_rf r5, .ref (aX cp)]) rfl ?_
  refine lv_iload_n hx hb dX8_cell_7 rfl (lv_at hl 3 rfl) ?_
  refine mt_callV (index := 60) hx hb hml hown hts hK (ΩC.mono D d cp) hA hw hS hl.1 (tX8_valueIn l D d cp r5 x3 u6 hq) (c_recvX hK hw) q_218 q_32 q_215 q_217 q_4 nmhX8_valueIn ⟨⟨Nat.le_of_ble_eq_true rfl, Nat.le_of_ble_eq_true rfl⟩, ⟨Nat.le_of_ble_eq_true rfl, Nat.le_of_ble_eq_true rfl⟩⟩ rfl (Nat.le_of_ble_eq_true rfl) dX8_cell_8 (fun _ u8 H locs hq hw hS => ?_)
  obtain ⟨r7, rfl, hq⟩ := hq
  refine W.eq (g2 := F0 m 11 ls [.int r7]) rfl ?_
  exact mt_reti hx hb hr hlocks hw hS (Nat.le_of_ble_eq_true rfl) (Nat.le_of_ble_eq_true rfl) dX8_cell_11 ⟨_, rfl, hq⟩
abbrev rmX8_set : Room := { frames := 4, cells := 0, slots := 0, locals := 87 }
theorem nmhX8_set : NoMH yX8_set 4 := by decide +kernel
def wX8_set (x1 : Int32) (x2 : Int32) (x3 : Int32) (x4 : Int32) (σ : CS) (Q : Int32 → CS → Prop) : Prop :=
    wX8_trackOfTooth x1 x2 σ (fun r5 u6 => wX8_putInto r5 x3 x4 u6 (fun r7 u8 => Q r7 u8))
set_option maxHeartbeats 4000000 in
set_option maxRecDepth 100000 in
theorem tX8_set (l : Launch) (D : va_G) (d : AC) (cp : CP) (x1 : Int32) (x2 : Int32) (x3 : Int32) (x4 : Int32) (σ : CS) {Q : Int32 → CS → Prop} (hq : wX8_set x1 x2 x3 x4 σ Q) : MT D d (ΩC D d cp) l yX8_set (WS yX8_set cX8_set 5 (some (.int))) rmX8_set [.ref (aX cp), .int x1, .int x2, .int x3, .int x4] σ (qI Q) := by
  refine mt_of (ΩC.mono D d cp) (by decide +kernel) (Nat.le_of_ble_eq_true rfl) (fun p e s m below meth c A ls hx hb hr hml hown hts hlocks hnm hK hA hw hS hl => ?_)
  have hl : lv_has ls 5 [(0, .ref (aX cp)), (1, .int x1), (2, .int x2), (3, .int x3), (4, .int x4)] := hl
  have hown : s.vm.findClass RX8 = some m.cls := hown
  unfold wX8_set at hq
  refine lv_aload_n hx hb dX8_set_0 rfl (lv_at hl 0 rfl) ?_
  refine lv_aload_n hx hb dX8_set_1 rfl (lv_at hl 0 rfl) ?_
  refine lv_iload_n hx hb dX8_set_2 rfl (lv_at hl 1 rfl) ?_
  refine lv_iload_n hx hb dX8_set_3 rfl (lv_at hl 2 rfl) ?_
  refine mt_callV (index := 110) hx hb hml hown hts hK (ΩC.mono D d cp) hA hw hS hl.1 (tX8_trackOfTooth l D d cp x1 x2 σ hq) (c_recvX hK hw) q_441 q_32 q_438 q_440 q_16 nmhX8_trackOfTooth ⟨⟨Nat.le_of_ble_eq_true rfl, Nat.le_of_ble_eq_true rfl⟩, ⟨Nat.le_of_ble_eq_true rfl, Nat.le_of_ble_eq_true rfl⟩⟩ rfl (Nat.le_of_ble_eq_true rfl) dX8_set_4 (fun _ u6 H locs hq hw hS => ?_)
  obtain ⟨r5, rfl, hq⟩ := hq
  refine W.eq (g2 := F0 m 7 ls [va_rf r5, .ref (aX cp)]) rfl ?_
  refine lv_iload_n hx hb dX8_set_7 rfl (lv_at hl 3 rfl) ?_
  refine lv_iload hx hb dX8_set_8 (lv_at hl 4 rfl) ?_
  refine mt_callV (index := 64) hx hb hml hown hts hK (ΩC.mono D d cp) hA hw hS hl.1 (tX8_putInto l D d cp r5 x3 x4 u6 hq) (c_recvX hK hw) q_261 q_32 q_258 q_260 q_5 nmhX8_putInto ⟨⟨Nat.le_of_ble_eq_true rfl, Nat.le_of_ble_eq_true rfl⟩, ⟨Nat.le_of_ble_eq_true rfl, Nat.le_of_ble_eq_true rfl⟩⟩ rfl (Nat.le_of_ble_eq_true rfl) dX8_set_10 (fun _ u8 H locs hq hw hS => ?_)
  obtain ⟨r7, rfl, hq⟩ := hq
  refine W.eq (g2 := F0 m 13 ls [.int r7]) rfl ?_
  exact mt_reti hx hb hr hlocks hw hS (Nat.le_of_ble_eq_true rfl) (Nat.le_of_ble_eq_true rfl) dX8_set_13 ⟨_, rfl, hq⟩
abbrev rmX8_twist : Room := { frames := 4, cells := 0, slots := 0, locals := 87 }
theorem nmhX8_twist : NoMH yX8_twist 4 := by decide +kernel
def wX8_twist (x1 : Int32) (x2 : Int32) (x3 : Int32) (x4 : Int32) (σ : CS) (Q : Int32 → CS → Prop) : Prop :=
    wX8_trackOfTooth x1 x2 σ (fun r5 u6 => wX8_alterIn r5 x3 x4 u6 (fun r7 u8 => Q r7 u8))
set_option maxHeartbeats 4000000 in
set_option maxRecDepth 100000 in
theorem tX8_twist (l : Launch) (D : va_G) (d : AC) (cp : CP) (x1 : Int32) (x2 : Int32) (x3 : Int32) (x4 : Int32) (σ : CS) {Q : Int32 → CS → Prop} (hq : wX8_twist x1 x2 x3 x4 σ Q) : MT D d (ΩC D d cp) l yX8_twist (WS yX8_twist cX8_twist 5 (some (.int))) rmX8_twist [.ref (aX cp), .int x1, .int x2, .int x3, .int x4] σ (qI Q) := by
  refine mt_of (ΩC.mono D d cp) (by decide +kernel) (Nat.le_of_ble_eq_true rfl) (fun p e s m below meth c A ls hx hb hr hml hown hts hlocks hnm hK hA hw hS hl => ?_)
  have hl : lv_has ls 5 [(0, .ref (aX cp)), (1, .int x1), (2, .int x2), (3, .int x3), (4, .int x4)] := hl
  have hown : s.vm.findClass RX8 = some m.cls := hown
  unfold wX8_twist at hq
  refine lv_aload_n hx hb dX8_twist_0 rfl (lv_at hl 0 rfl) ?_
  refine lv_aload_n hx hb dX8_twist_1 rfl (lv_at hl 0 rfl) ?_
  refine lv_iload_n hx hb dX8_twist_2 rfl (lv_at hl 1 rfl) ?_
  refine lv_iload_n hx hb dX8_twist_3 rfl (lv_at hl 2 rfl) ?_
  refine mt_callV (index := 110) hx hb hml hown hts hK (ΩC.mono D d cp) hA hw hS hl.1 (tX8_trackOfTooth l D d cp x1 x2 σ hq) (c_recvX hK hw) q_441 q_32 q_438 q_440 q_16 nmhX8_trackOfTooth ⟨⟨Nat.le_of_ble_eq_true rfl, Nat.le_of_ble_eq_true rfl⟩, ⟨Nat.le_of_ble_eq_true rfl, Nat.le_of_ble_eq_true rfl⟩⟩ rfl (Nat.le_of_ble_eq_true rfl) dX8_twist_4 (fun _ u6 H locs hq hw hS => ?_)
  obtain ⟨r5, rfl, hq⟩ := hq
  refine W.eq (g2 := F0 m 7 ls [va_rf r5, .ref (aX cp)]) rfl ?_
  refine lv_iload_n hx hb dX8_twist_7 rfl (lv_at hl 3 rfl) ?_
  refine lv_iload hx hb dX8_twist_8 (lv_at hl 4 rfl) ?_
  refine mt_callV (index := 68) hx hb hml hown hts hK (ΩC.mono D d cp) hA hw hS hl.1 (tX8_alterIn l D d cp r5 x3 x4 u6 hq) (c_recvX hK hw) q_290 q_32 q_287 q_289 q_6 nmhX8_alterIn ⟨⟨Nat.le_of_ble_eq_true rfl, Nat.le_of_ble_eq_true rfl⟩, ⟨Nat.le_of_ble_eq_true rfl, Nat.le_of_ble_eq_true rfl⟩⟩ rfl (Nat.le_of_ble_eq_true rfl) dX8_twist_10 (fun _ u8 H locs hq hw hS => ?_)
  obtain ⟨r7, rfl, hq⟩ := hq
  refine W.eq (g2 := F0 m 13 ls [.int r7]) rfl ?_
  exact mt_reti hx hb hr hlocks hw hS (Nat.le_of_ble_eq_true rfl) (Nat.le_of_ble_eq_true rfl) dX8_twist_13 ⟨_, rfl, hq⟩
abbrev rmX8_state : Room := { frames := 0, cells := 0, slots := 0, locals := 0 }
theorem nmhX8_state : NoMH yX8_state 0 := by decide +kernel
def wX8_state (σ : CS) (Q : Int32 → CS → Prop) : Prop :=
    Q (sRf σ) σ
set_option maxHeartbeats 4000000 in
set_option maxRecDepth 100000 in
theorem tX8_state (l : Launch) (D : va_G) (d : AC) (cp : CP) (σ : CS) {Q : Int32 → CS → Prop} (hq : wX8_state  σ Q) : MT D d (ΩC D d cp) l yX8_state (WS yX8_state cX8_state 1 (some (.int))) rmX8_state [.ref (aX cp)] σ (qI Q) := by
  refine mt_of (ΩC.mono D d cp) (by decide +kernel) (Nat.le_of_ble_eq_true rfl) (fun p e s m below meth c A ls hx hb hr hml hown hts hlocks hnm hK hA hw hS hl => ?_)
  have hl : lv_has ls 1 [(0, .ref (aX cp))] := hl
  have hown : s.vm.findClass RX8 = some m.cls := hown
  unfold wX8_state at hq
  refine lv_aload_n hx hb dX8_state_0 rfl (lv_at hl 0 rfl) ?_
  refine c_getx hx hb hts hown hK hw 2 (by decide) (hts _ q_92) (fun _ h9 => h9) rfl dX8_state_1 ?_
  exact mt_reti hx hb hr hlocks hw hS (Nat.le_of_ble_eq_true rfl) (Nat.le_of_ble_eq_true rfl) dX8_state_4 ⟨_, rfl, hq⟩
abbrev rmX8_cut : Room := { frames := 4, cells := 2, slots := 302, locals := 83 }
theorem nmhX8_cut : NoMH yX8_cut 3 := by decide +kernel
def wX8_cut (x1 : Int32) (x2 : Int32) (x3 : Int32) (σ : CS) (Q : Int32 → CS → Prop) : Prop :=
    wX8_isDrum x1 σ (fun r19 u20 => (r19 = 0 → wX8_refuse (-1 : Int32) u20 (fun r21 u22 => Q r21 u22)) ∧ (¬ r19 = 0 → (wX8_isKind x2 u20 (fun r23 u24 => (¬ r23 = 0 → (wX8_isUpTo x3 (300 : Int32) u24 (fun r25 u26 => (¬ r25 = 0 → (vp_in x1 8 ∧ (wX8_newTrack x2 x3 300 u26 (fun r28 u29 => ∃ (a30 : Nat) (t30 : TK), r28 = some a30 ∧ sTk u29 a30 = some t30 ∧ vp_in x2 5 ∧ (wX8_grant x3 (pSl u29 x1.toNatClampNeg x2.toNatClampNeg (some a30)) (fun r31 u32 => Q r31 u32)))))) ∧ (r25 = 0 → wX8_refuse (-4 : Int32) u26 (fun r33 u34 => Q r33 u34))))) ∧ (r23 = 0 → wX8_refuse (-1 : Int32) u24 (fun r35 u36 => Q r35 u36))))))
set_option maxHeartbeats 4000000 in
set_option maxRecDepth 100000 in
theorem tX8_cut (l : Launch) (D : va_G) (d : AC) (cp : CP) (x1 : Int32) (x2 : Int32) (x3 : Int32) (σ : CS) {Q : Int32 → CS → Prop} (hq : wX8_cut x1 x2 x3 σ Q) : MT D d (ΩC D d cp) l yX8_cut (WS yX8_cut cX8_cut 4 (some (.int))) rmX8_cut [.ref (aX cp), .int x1, .int x2, .int x3] σ (qI Q) := by
  refine mt_of (ΩC.mono D d cp) (by decide +kernel) (Nat.le_of_ble_eq_true rfl) (fun p e s m below meth c A ls hx hb hr hml hown hts hlocks hnm hK hA hw hS hl => ?_)
  have hl : lv_has ls 4 [(0, .ref (aX cp)), (1, .int x1), (2, .int x2), (3, .int x3)] := hl
  have hown : s.vm.findClass RX8 = some m.cls := hown
  unfold wX8_cut at hq
  refine lv_iload_n hx hb dX8_cut_0 rfl (lv_at hl 1 rfl) ?_
  refine mt_callS (index := 26) hx hb hml hown hts hK (ΩC.mono D d cp) hA hw hS hl.1 (tX8_isDrum l D d cp x1 σ hq) q_106 q_32 q_104 q_105 nmhX8_isDrum ⟨⟨Nat.le_of_ble_eq_true rfl, Nat.le_of_ble_eq_true rfl⟩, ⟨Nat.le_of_ble_eq_true rfl, Nat.le_of_ble_eq_true rfl⟩⟩ rfl (Nat.le_of_ble_eq_true rfl) dX8_cut_1 (fun _ u20 H locs hq hw hS => ?_)
  obtain ⟨r19, rfl, hzr19, hq⟩ := hq
  refine W.eq (g2 := F0 m 4 ls [.int r19]) rfl ?_
  refine lv_if_eq (tgt := 14) hx hb dX8_cut_4 (by decide) (fun hc => ?_) (fun hc => ?_)
  · replace hq := hq.1 hc
    refine lv_aload_n hx hb dX8_cut_14 rfl (lv_at hl 0 rfl) ?_
    refine lv_iconst (v := -1) hx hb dX8_cut_15 (by decide) ?_
    refine mt_callV (index := 33) hx hb hml hown hts hK (ΩC.mono D d cp) hA hw hS hl.1 (tX8_refuse l D d cp (-1 : Int32) u20 hq) (c_recvX hK hw) q_113 q_32 q_110 q_112 q_0 nmhX8_refuse ⟨⟨Nat.le_of_ble_eq_true rfl, Nat.le_of_ble_eq_true rfl⟩, ⟨Nat.le_of_ble_eq_true rfl, Nat.le_of_ble_eq_true rfl⟩⟩ rfl (Nat.le_of_ble_eq_true rfl) dX8_cut_16 (fun _ u22 H locs hq hw hS => ?_)
    obtain ⟨r21, rfl, hq⟩ := hq
    refine W.eq (g2 := F0 m 19 ls [.int r21]) rfl ?_
    exact mt_reti hx hb hr hlocks hw hS (Nat.le_of_ble_eq_true rfl) (Nat.le_of_ble_eq_true rfl) dX8_cut_19 ⟨_, rfl, hq⟩
  · replace hq := hq.2 hc
    refine lv_iload_n hx hb dX8_cut_7 rfl (lv_at hl 2 rfl) ?_
    refine mt_callS (index := 30) hx hb hml hown hts hK (ΩC.mono D d cp) hA hw hS hl.1 (tX8_isKind l D d cp x2 u20 hq) q_109 q_32 q_107 q_108 nmhX8_isKind ⟨⟨Nat.le_of_ble_eq_true rfl, Nat.le_of_ble_eq_true rfl⟩, ⟨Nat.le_of_ble_eq_true rfl, Nat.le_of_ble_eq_true rfl⟩⟩ rfl (Nat.le_of_ble_eq_true rfl) dX8_cut_8 (fun _ u24 H locs hq hw hS => ?_)
    obtain ⟨r23, rfl, hzr23, hq⟩ := hq
    refine W.eq (g2 := F0 m 11 ls [.int r23]) rfl ?_
    refine lv_if_ne (tgt := 20) hx hb dX8_cut_11 (by decide) (fun hc => ?_) (fun hc => ?_)
    · replace hq := hq.1 hc
      refine lv_iload_n hx hb dX8_cut_20 rfl (lv_at hl 3 rfl) ?_
      refine lv_sipush (v := 300) hx hb dX8_cut_21 (by decide) ?_
      refine mt_callS (index := 37) hx hb hml hown hts hK (ΩC.mono D d cp) hA hw hS hl.1 (tX8_isUpTo l D d cp x3 (300 : Int32) u24 hq) q_116 q_32 q_114 q_115 nmhX8_isUpTo ⟨⟨Nat.le_of_ble_eq_true rfl, Nat.le_of_ble_eq_true rfl⟩, ⟨Nat.le_of_ble_eq_true rfl, Nat.le_of_ble_eq_true rfl⟩⟩ rfl (Nat.le_of_ble_eq_true rfl) dX8_cut_24 (fun _ u26 H locs hq hw hS => ?_)
      obtain ⟨r25, rfl, hzr25, hq⟩ := hq
      refine W.eq (g2 := F0 m 27 ls [.int r25]) rfl ?_
      refine lv_if_ne (tgt := 37) hx hb dX8_cut_27 (by decide) (fun hc => ?_) (fun hc => ?_)
      · replace hq := hq.1 hc
        refine lv_aload_n hx hb dX8_cut_37 rfl (lv_at hl 0 rfl) ?_
        refine c_getx hx hb hts hown hK hw 0 (by decide) (hts _ q_90) (fun _ h9 => h9) rfl dX8_cut_38 ?_
        refine lv_iload_n hx hb dX8_cut_41 rfl (lv_at hl 1 rfl) ?_
        have hd27 := vp_lt hq.1
        refine c_ldda hx hb hK hw hq.1 dX8_cut_42 ?_
        replace hq := hq.2
        refine c_getd hx hb hts hown hK hw hd27 0 (by decide) (hts _ q_61) (fun _ h9 => h9) rfl dX8_cut_43 ?_
        refine lv_iload_n hx hb dX8_cut_46 rfl (lv_at hl 2 rfl) ?_
        refine lv_iload_n hx hb dX8_cut_47 rfl (lv_at hl 2 rfl) ?_
        refine lv_iload_n hx hb dX8_cut_48 rfl (lv_at hl 3 rfl) ?_
        refine mt_callS (index := 45) hx hb hml hown hts hK (ΩC.mono D d cp) hA hw hS hl.1 (tX8_newTrack l D d cp x2 x3 300 u26 hq) q_119 q_32 q_117 q_118 nmhX8_newTrack ⟨⟨Nat.le_of_ble_eq_true rfl, Nat.le_of_ble_eq_true rfl⟩, ⟨Nat.le_of_ble_eq_true rfl, Nat.le_of_ble_eq_true rfl⟩⟩ rfl (Nat.le_of_ble_eq_true rfl) dX8_cut_49 (fun _ u29 H locs hq hw hS => ?_)
        obtain ⟨r28, rfl, hq⟩ := hq
        refine W.eq (g2 := F0 m 52 ls [va_rf r28, .int x2, .ref (aDt cp x1.toNatClampNeg)]) rfl ?_
        obtain ⟨a30, t30, hv30, ha30, hq⟩ := hq
        subst hv30
        refine c_stdtT hx hb hK hw hS hd27 ha30 hq.1 dX8_cut_52 (fun H locs hw hS => ?_)
        replace hq := hq.2
        refine lv_aload_n hx hb dX8_cut_53 rfl (lv_at hl 0 rfl) ?_
        refine lv_iload_n hx hb dX8_cut_54 rfl (lv_at hl 3 rfl) ?_
        refine mt_callV (index := 49) hx hb hml hown hts hK (ΩC.mono D d cp) hA hw hS hl.1 (tX8_grant l D d cp x3 (pSl u29 x1.toNatClampNeg x2.toNatClampNeg (some a30)) hq) (c_recvX hK hw) q_190 q_32 q_187 q_189 q_1 nmhX8_grant ⟨⟨Nat.le_of_ble_eq_true rfl, Nat.le_of_ble_eq_true rfl⟩, ⟨Nat.le_of_ble_eq_true rfl, Nat.le_of_ble_eq_true rfl⟩⟩ rfl (Nat.le_of_ble_eq_true rfl) dX8_cut_55 (fun _ u32 H locs hq hw hS => ?_)
        obtain ⟨r31, rfl, hq⟩ := hq
        refine W.eq (g2 := F0 m 58 ls [.int r31]) rfl ?_
        exact mt_reti hx hb hr hlocks hw hS (Nat.le_of_ble_eq_true rfl) (Nat.le_of_ble_eq_true rfl) dX8_cut_58 ⟨_, rfl, hq⟩
      · replace hq := hq.2 hc
        refine lv_aload_n hx hb dX8_cut_30 rfl (lv_at hl 0 rfl) ?_
        refine lv_bipush (v := -4) hx hb dX8_cut_31 (by decide) ?_
        refine mt_callV (index := 33) hx hb hml hown hts hK (ΩC.mono D d cp) hA hw hS hl.1 (tX8_refuse l D d cp (-4 : Int32) u26 hq) (c_recvX hK hw) q_113 q_32 q_110 q_112 q_0 nmhX8_refuse ⟨⟨Nat.le_of_ble_eq_true rfl, Nat.le_of_ble_eq_true rfl⟩, ⟨Nat.le_of_ble_eq_true rfl, Nat.le_of_ble_eq_true rfl⟩⟩ rfl (Nat.le_of_ble_eq_true rfl) dX8_cut_33 (fun _ u34 H locs hq hw hS => ?_)
        obtain ⟨r33, rfl, hq⟩ := hq
        refine W.eq (g2 := F0 m 36 ls [.int r33]) rfl ?_
        exact mt_reti hx hb hr hlocks hw hS (Nat.le_of_ble_eq_true rfl) (Nat.le_of_ble_eq_true rfl) dX8_cut_36 ⟨_, rfl, hq⟩
    · replace hq := hq.2 hc
      refine lv_aload_n hx hb dX8_cut_14 rfl (lv_at hl 0 rfl) ?_
      refine lv_iconst (v := -1) hx hb dX8_cut_15 (by decide) ?_
      refine mt_callV (index := 33) hx hb hml hown hts hK (ΩC.mono D d cp) hA hw hS hl.1 (tX8_refuse l D d cp (-1 : Int32) u24 hq) (c_recvX hK hw) q_113 q_32 q_110 q_112 q_0 nmhX8_refuse ⟨⟨Nat.le_of_ble_eq_true rfl, Nat.le_of_ble_eq_true rfl⟩, ⟨Nat.le_of_ble_eq_true rfl, Nat.le_of_ble_eq_true rfl⟩⟩ rfl (Nat.le_of_ble_eq_true rfl) dX8_cut_16 (fun _ u36 H locs hq hw hS => ?_)
      obtain ⟨r35, rfl, hq⟩ := hq
      refine W.eq (g2 := F0 m 19 ls [.int r35]) rfl ?_
      exact mt_reti hx hb hr hlocks hw hS (Nat.le_of_ble_eq_true rfl) (Nat.le_of_ble_eq_true rfl) dX8_cut_19 ⟨_, rfl, hq⟩
abbrev rmX8_comb : Room := { frames := 4, cells := 84, slots := 1764, locals := 83 }
theorem nmhX8_comb : NoMH yX8_comb 4 := by decide +kernel
def wX8_comb_b60 (x1 : Int32) (x2 : Int32) (x3 : Int32) (x4 : Int32) (Q : Int32 → CS → Prop) : Nat → Nat → Int32 → CS → Prop
  | 0, _, _, _ => False
  | n + 1, v5, v6, σ =>
    (x3 ≤ v6 → (∃ m49 : CM, sCm σ v5 = some m49 ∧ vp_in x1 4 ∧ (wX8_grant x3 (pCb σ x1.toNatClampNeg (some v5)) (fun r50 u51 => Q r50 u51)))) ∧ (¬ x3 ≤ v6 → (∃ (k52 : Int32) (n52 te52 : Nat) (tt52 : Nat → Option Nat), sCm σ v5 = some (k52, n52, te52, tt52) ∧ (wX8_newTrack x2 x4 40 σ (fun r53 u54 => ∃ (a55 : Nat) (t55 : TK), r53 = some a55 ∧ sTk u54 a55 = some t55 ∧ ∃ (k56 : Int32) (n56 : Nat) (tt56 : Nat → Option Nat), sCm u54 v5 = some (k56, n56, te52, tt56) ∧ vp_in v6 n56 ∧ (∀ y57 : Int32, y57 = v6 + 1 → (wX8_comb_b60 x1 x2 x3 x4 Q n v5 y57 (pCm u54 v5 (k56, n56, te52, va_up tt56 v6.toNatClampNeg (some a55)))))))))
theorem wX8_comb_b60_s (x1 : Int32) (x2 : Int32) (x3 : Int32) (x4 : Int32) (Q : Int32 → CS → Prop) (n : Nat) (v5 : Nat) (v6 : Int32) (σ : CS) : wX8_comb_b60 x1 x2 x3 x4 Q (n + 1) v5 v6 σ = (
    (x3 ≤ v6 → (∃ m49 : CM, sCm σ v5 = some m49 ∧ vp_in x1 4 ∧ (wX8_grant x3 (pCb σ x1.toNatClampNeg (some v5)) (fun r50 u51 => Q r50 u51)))) ∧ (¬ x3 ≤ v6 → (∃ (k52 : Int32) (n52 te52 : Nat) (tt52 : Nat → Option Nat), sCm σ v5 = some (k52, n52, te52, tt52) ∧ (wX8_newTrack x2 x4 40 σ (fun r53 u54 => ∃ (a55 : Nat) (t55 : TK), r53 = some a55 ∧ sTk u54 a55 = some t55 ∧ ∃ (k56 : Int32) (n56 : Nat) (tt56 : Nat → Option Nat), sCm u54 v5 = some (k56, n56, te52, tt56) ∧ vp_in v6 n56 ∧ (∀ y57 : Int32, y57 = v6 + 1 → (wX8_comb_b60 x1 x2 x3 x4 Q n v5 y57 (pCm u54 v5 (k56, n56, te52, va_up tt56 v6.toNatClampNeg (some a55)))))))))) := rfl
def wX8_comb (x1 : Int32) (x2 : Int32) (x3 : Int32) (x4 : Int32) (σ : CS) (Q : Int32 → CS → Prop) : Prop :=
    wX8_isComb x1 σ (fun r36 u37 => (r36 = 0 → wX8_refuse (-1 : Int32) u37 (fun r38 u39 => Q r38 u39)) ∧ (¬ r36 = 0 → (wX8_isKind x2 u37 (fun r40 u41 => (¬ r40 = 0 → (wX8_isUpTo x3 (40 : Int32) u41 (fun r42 u43 => (r42 = 0 → wX8_refuse (-4 : Int32) u43 (fun r44 u45 => Q r44 u45)) ∧ (¬ r42 = 0 → (wX8_isUpTo x4 (40 : Int32) u43 (fun r46 u47 => (¬ r46 = 0 → (¬ x3 < 0 ∧ x3.toNatClampNeg ≤ 40 ∧ (∀ b48 te48 : Nat, sCm u47 b48 = none → (∃ k60 : Nat, k60 ≤ 41 ∧ wX8_comb_b60 x1 x2 x3 x4 Q k60 b48 (0 : Int32) (pCm u47 b48 (x2, x3.toNatClampNeg, te48, fun _ => none)))))) ∧ (r46 = 0 → wX8_refuse (-4 : Int32) u47 (fun r58 u59 => Q r58 u59)))))))) ∧ (r40 = 0 → wX8_refuse (-1 : Int32) u41 (fun r60 u61 => Q r60 u61))))))
set_option maxHeartbeats 4000000 in
set_option maxRecDepth 100000 in
theorem tX8_comb (l : Launch) (D : va_G) (d : AC) (cp : CP) (x1 : Int32) (x2 : Int32) (x3 : Int32) (x4 : Int32) (σ : CS) {Q : Int32 → CS → Prop} (hq : wX8_comb x1 x2 x3 x4 σ Q) : MT D d (ΩC D d cp) l yX8_comb (WS yX8_comb cX8_comb 7 (some (.int))) rmX8_comb [.ref (aX cp), .int x1, .int x2, .int x3, .int x4] σ (qI Q) := by
  refine mt_of (ΩC.mono D d cp) (by decide +kernel) (Nat.le_of_ble_eq_true rfl) (fun p e s m below meth c A ls hx hb hr hml hown hts hlocks hnm hK hA hw hS hl => ?_)
  have hl : lv_has ls 7 [(0, .ref (aX cp)), (1, .int x1), (2, .int x2), (3, .int x3), (4, .int x4)] := hl
  have hown : s.vm.findClass RX8 = some m.cls := hown
  have b60 : ∀ (n : Nat) (v5 : Nat) (v6 : Int32) (σ : CS) (H : Heap) (locs : List Loc) (ls : Array Slot) (cl sl : Nat), cl + 2 * n ≤ 84 → sl + 42 * n ≤ 1764 →  wX8_comb_b60 x1 x2 x3 x4 Q n v5 v6 σ → (ΩC D d cp) A σ H → va_S A s.heap H locs → lv_has ls 7 [(0, .ref (aX cp)), (1, .int x1), (2, .int x2), (3, .int x3), (4, .int x4), (5, .ref v5), (6, .int v6)] → W p l e rmX8_comb s m [.ref (aX cp), .int x1, .int x2, .int x3, .int x4].toArray below meth c H locs cl sl (MQ below (Qo (qI Q) (fun u' t => (ΩC D d cp) A u' t.heap) A) [.ref (aX cp), .int x1, .int x2, .int x3, .int x4].toArray s rmX8_comb.cells rmX8_comb.slots A) (F0 m 60 ls []) := by
    intro n
    induction n with
    | zero =>
      intro v5 v6 σ H locs ls cl sl hcl hsl hq
      exact absurd hq id
    | succ n ih =>
      intro v5 v6 σ H locs ls cl sl hcl hsl hq hw hS hl
      rw [wX8_comb_b60_s] at hq
      refine lv_iload hx hb dX8_comb_60 (lv_at hl 6 rfl) ?_
      refine lv_iload_n hx hb dX8_comb_62 rfl (lv_at hl 3 rfl) ?_
      refine lv_icmp_ge (tgt := 86) hx hb dX8_comb_63 (by decide) (fun hc => ?_) (fun hc => ?_)
      · replace hq := hq.1 hc
        refine lv_aload_n hx hb dX8_comb_86 rfl (lv_at hl 0 rfl) ?_
        refine c_getx hx hb hts hown hK hw 1 (by decide) (hts _ q_91) (fun _ h9 => h9) rfl dX8_comb_87 ?_
        refine lv_iload_n hx hb dX8_comb_90 rfl (lv_at hl 1 rfl) ?_
        refine lv_aload hx hb dX8_comb_91 (lv_at hl 5 rfl) ?_
        obtain ⟨m49, hm49, hq⟩ := hq
        refine c_stcaB hx hb hK hw hS hm49 hq.1 dX8_comb_93 (fun H locs hw hS => ?_)
        replace hq := hq.2
        refine lv_aload_n hx hb dX8_comb_94 rfl (lv_at hl 0 rfl) ?_
        refine lv_iload_n hx hb dX8_comb_95 rfl (lv_at hl 3 rfl) ?_
        refine mt_callV (index := 49) hx hb hml hown hts hK (ΩC.mono D d cp) hA hw hS hl.1 (tX8_grant l D d cp x3 (pCb σ x1.toNatClampNeg (some v5)) hq) (c_recvX hK hw) q_190 q_32 q_187 q_189 q_1 nmhX8_grant ⟨⟨Nat.le_of_ble_eq_true rfl, Nat.le_of_ble_eq_true rfl⟩, ⟨by show cl + 0 ≤ 84; omega, by show sl + 0 ≤ 1764; omega⟩⟩ rfl (Nat.le_of_ble_eq_true rfl) dX8_comb_96 (fun _ u51 H locs hq hw hS => ?_)
        obtain ⟨r50, rfl, hq⟩ := hq
        refine W.eq (g2 := F0 m 99 ls [.int r50]) rfl ?_
        exact mt_reti hx hb hr hlocks hw hS (by show cl + 0 ≤ 84; omega) (by show sl + 0 ≤ 1764; omega) dX8_comb_99 ⟨_, rfl, hq⟩
      · replace hq := hq.2 hc
        refine lv_aload hx hb dX8_comb_66 (lv_at hl 5 rfl) ?_
        obtain ⟨k52, n52, te52, tt52, hm52, hq⟩ := hq
        refine c_getc hx hb hts hown hK hw hm52 1 (by decide) (hts _ q_388) (fun _ h9 => h9) rfl dX8_comb_68 ?_
        refine lv_iload hx hb dX8_comb_71 (lv_at hl 6 rfl) ?_
        refine lv_iload_n hx hb dX8_comb_73 rfl (lv_at hl 2 rfl) ?_
        refine lv_iload hx hb dX8_comb_74 (lv_at hl 4 rfl) ?_
        refine mt_callS (index := 45) hx hb hml hown hts hK (ΩC.mono D d cp) hA hw hS hl.1 (tX8_newTrack l D d cp x2 x4 40 σ hq) q_119 q_32 q_117 q_118 nmhX8_newTrack ⟨⟨Nat.le_of_ble_eq_true rfl, Nat.le_of_ble_eq_true rfl⟩, ⟨by show cl + 2 ≤ 84; omega, by show sl + 42 ≤ 1764; omega⟩⟩ rfl (Nat.le_of_ble_eq_true rfl) dX8_comb_76 (fun _ u54 H locs hq hw hS => ?_)
        obtain ⟨r53, rfl, hq⟩ := hq
        refine W.eq (g2 := F0 m 79 ls [va_rf r53, .int v6, .ref te52]) rfl ?_
        obtain ⟨a55, t55, hv55, ha55, hq⟩ := hq
        subst hv55
        obtain ⟨k56, n56, tt56, hm56, hq⟩ := hq
        refine c_stteT hx hb hK hw hS hm56 ha55 hq.1 dX8_comb_79 (fun H locs hw hS => ?_)
        replace hq := hq.2
        obtain ⟨y57, ey57⟩ : ∃ z : Int32, z = v6 + 1 := ⟨_, rfl⟩
        replace hq := hq y57 ey57
        refine lv_iinc (v := y57) (lv' := [(6, .int y57), (0, .ref (aX cp)), (1, .int x1), (2, .int x2), (3, .int x3), (4, .int x4), (5, .ref v5)]) hx hb dX8_comb_80 hl (k := 6) rfl (by rw [ey57]; rfl) (by decide) rfl (fun ls hl => ?_)
        refine lv_goto (tgt := 60) hx hb dX8_comb_83 (by decide) ?_
        exact ih v5 y57 (pCm u54 v5 (k56, n56, te52, va_up tt56 v6.toNatClampNeg (some a55))) _ _ _ (cl + 2) (sl + 42) (by omega) (by omega) hq hw hS (lv_sub hl [1, 2, 3, 4, 5, 6, 0] rfl)
  unfold wX8_comb at hq
  refine lv_iload_n hx hb dX8_comb_0 rfl (lv_at hl 1 rfl) ?_
  refine mt_callS (index := 87) hx hb hml hown hts hK (ΩC.mono D d cp) hA hw hS hl.1 (tX8_isComb l D d cp x1 σ hq) q_378 q_32 q_376 q_377 nmhX8_isComb ⟨⟨Nat.le_of_ble_eq_true rfl, Nat.le_of_ble_eq_true rfl⟩, ⟨Nat.le_of_ble_eq_true rfl, Nat.le_of_ble_eq_true rfl⟩⟩ rfl (Nat.le_of_ble_eq_true rfl) dX8_comb_1 (fun _ u37 H locs hq hw hS => ?_)
  obtain ⟨r36, rfl, hzr36, hq⟩ := hq
  refine W.eq (g2 := F0 m 4 ls [.int r36]) rfl ?_
  refine lv_if_eq (tgt := 14) hx hb dX8_comb_4 (by decide) (fun hc => ?_) (fun hc => ?_)
  · replace hq := hq.1 hc
    refine lv_aload_n hx hb dX8_comb_14 rfl (lv_at hl 0 rfl) ?_
    refine lv_iconst (v := -1) hx hb dX8_comb_15 (by decide) ?_
    refine mt_callV (index := 33) hx hb hml hown hts hK (ΩC.mono D d cp) hA hw hS hl.1 (tX8_refuse l D d cp (-1 : Int32) u37 hq) (c_recvX hK hw) q_113 q_32 q_110 q_112 q_0 nmhX8_refuse ⟨⟨Nat.le_of_ble_eq_true rfl, Nat.le_of_ble_eq_true rfl⟩, ⟨Nat.le_of_ble_eq_true rfl, Nat.le_of_ble_eq_true rfl⟩⟩ rfl (Nat.le_of_ble_eq_true rfl) dX8_comb_16 (fun _ u39 H locs hq hw hS => ?_)
    obtain ⟨r38, rfl, hq⟩ := hq
    refine W.eq (g2 := F0 m 19 ls [.int r38]) rfl ?_
    exact mt_reti hx hb hr hlocks hw hS (Nat.le_of_ble_eq_true rfl) (Nat.le_of_ble_eq_true rfl) dX8_comb_19 ⟨_, rfl, hq⟩
  · replace hq := hq.2 hc
    refine lv_iload_n hx hb dX8_comb_7 rfl (lv_at hl 2 rfl) ?_
    refine mt_callS (index := 30) hx hb hml hown hts hK (ΩC.mono D d cp) hA hw hS hl.1 (tX8_isKind l D d cp x2 u37 hq) q_109 q_32 q_107 q_108 nmhX8_isKind ⟨⟨Nat.le_of_ble_eq_true rfl, Nat.le_of_ble_eq_true rfl⟩, ⟨Nat.le_of_ble_eq_true rfl, Nat.le_of_ble_eq_true rfl⟩⟩ rfl (Nat.le_of_ble_eq_true rfl) dX8_comb_8 (fun _ u41 H locs hq hw hS => ?_)
    obtain ⟨r40, rfl, hzr40, hq⟩ := hq
    refine W.eq (g2 := F0 m 11 ls [.int r40]) rfl ?_
    refine lv_if_ne (tgt := 20) hx hb dX8_comb_11 (by decide) (fun hc => ?_) (fun hc => ?_)
    · replace hq := hq.1 hc
      refine lv_iload_n hx hb dX8_comb_20 rfl (lv_at hl 3 rfl) ?_
      refine lv_bipush (v := 40) hx hb dX8_comb_21 (by decide) ?_
      refine mt_callS (index := 37) hx hb hml hown hts hK (ΩC.mono D d cp) hA hw hS hl.1 (tX8_isUpTo l D d cp x3 (40 : Int32) u41 hq) q_116 q_32 q_114 q_115 nmhX8_isUpTo ⟨⟨Nat.le_of_ble_eq_true rfl, Nat.le_of_ble_eq_true rfl⟩, ⟨Nat.le_of_ble_eq_true rfl, Nat.le_of_ble_eq_true rfl⟩⟩ rfl (Nat.le_of_ble_eq_true rfl) dX8_comb_23 (fun _ u43 H locs hq hw hS => ?_)
      obtain ⟨r42, rfl, hzr42, hq⟩ := hq
      refine W.eq (g2 := F0 m 26 ls [.int r42]) rfl ?_
      refine lv_if_eq (tgt := 39) hx hb dX8_comb_26 (by decide) (fun hc => ?_) (fun hc => ?_)
      · replace hq := hq.1 hc
        refine lv_aload_n hx hb dX8_comb_39 rfl (lv_at hl 0 rfl) ?_
        refine lv_bipush (v := -4) hx hb dX8_comb_40 (by decide) ?_
        refine mt_callV (index := 33) hx hb hml hown hts hK (ΩC.mono D d cp) hA hw hS hl.1 (tX8_refuse l D d cp (-4 : Int32) u43 hq) (c_recvX hK hw) q_113 q_32 q_110 q_112 q_0 nmhX8_refuse ⟨⟨Nat.le_of_ble_eq_true rfl, Nat.le_of_ble_eq_true rfl⟩, ⟨Nat.le_of_ble_eq_true rfl, Nat.le_of_ble_eq_true rfl⟩⟩ rfl (Nat.le_of_ble_eq_true rfl) dX8_comb_42 (fun _ u45 H locs hq hw hS => ?_)
        obtain ⟨r44, rfl, hq⟩ := hq
        refine W.eq (g2 := F0 m 45 ls [.int r44]) rfl ?_
        exact mt_reti hx hb hr hlocks hw hS (Nat.le_of_ble_eq_true rfl) (Nat.le_of_ble_eq_true rfl) dX8_comb_45 ⟨_, rfl, hq⟩
      · replace hq := hq.2 hc
        refine lv_iload hx hb dX8_comb_29 (lv_at hl 4 rfl) ?_
        refine lv_bipush (v := 40) hx hb dX8_comb_31 (by decide) ?_
        refine mt_callS (index := 37) hx hb hml hown hts hK (ΩC.mono D d cp) hA hw hS hl.1 (tX8_isUpTo l D d cp x4 (40 : Int32) u43 hq) q_116 q_32 q_114 q_115 nmhX8_isUpTo ⟨⟨Nat.le_of_ble_eq_true rfl, Nat.le_of_ble_eq_true rfl⟩, ⟨Nat.le_of_ble_eq_true rfl, Nat.le_of_ble_eq_true rfl⟩⟩ rfl (Nat.le_of_ble_eq_true rfl) dX8_comb_33 (fun _ u47 H locs hq hw hS => ?_)
        obtain ⟨r46, rfl, hzr46, hq⟩ := hq
        refine W.eq (g2 := F0 m 36 ls [.int r46]) rfl ?_
        refine lv_if_ne (tgt := 46) hx hb dX8_comb_36 (by decide) (fun hc => ?_) (fun hc => ?_)
        · replace hq := hq.1 hc
          refine c_newComb (l := l) hx hb hml hown hts hK hA hw hS hl.1 (lv_at hl 2 rfl) (lv_at hl 3 rfl) hq.1 hq.2.1 (Nat.le_of_ble_eq_true rfl) (Nat.le_of_ble_eq_true rfl) (Nat.le_of_ble_eq_true rfl) (Nat.le_of_ble_eq_true rfl) (fun b48 te48 H locs hn48 hw hS => ?_)
          replace hq := hq.2.2 b48 te48 hn48
          refine lv_astore (lv' := [(5, .ref b48), (0, .ref (aX cp)), (1, .int x1), (2, .int x2), (3, .int x3), (4, .int x4)]) hx hb dX8_comb_55 hl (by decide) rfl (fun ls hl => ?_)
          refine lv_iconst (v := 0) hx hb dX8_comb_57 (by decide) ?_
          refine lv_istore (lv' := [(6, .int (0 : Int32)), (5, .ref b48), (0, .ref (aX cp)), (1, .int x1), (2, .int x2), (3, .int x3), (4, .int x4)]) hx hb dX8_comb_58 hl (by decide) rfl (fun ls hl => ?_)
          obtain ⟨k60, hk60, hq⟩ := hq
          exact b60 k60 b48 (0 : Int32) (pCm u47 b48 (x2, x3.toNatClampNeg, te48, fun _ => none)) _ _ _ (2) (42) (by omega) (by omega) hq hw hS (lv_sub hl [2, 3, 4, 5, 6, 1, 0] rfl)
        · replace hq := hq.2 hc
          refine lv_aload_n hx hb dX8_comb_39 rfl (lv_at hl 0 rfl) ?_
          refine lv_bipush (v := -4) hx hb dX8_comb_40 (by decide) ?_
          refine mt_callV (index := 33) hx hb hml hown hts hK (ΩC.mono D d cp) hA hw hS hl.1 (tX8_refuse l D d cp (-4 : Int32) u47 hq) (c_recvX hK hw) q_113 q_32 q_110 q_112 q_0 nmhX8_refuse ⟨⟨Nat.le_of_ble_eq_true rfl, Nat.le_of_ble_eq_true rfl⟩, ⟨Nat.le_of_ble_eq_true rfl, Nat.le_of_ble_eq_true rfl⟩⟩ rfl (Nat.le_of_ble_eq_true rfl) dX8_comb_42 (fun _ u59 H locs hq hw hS => ?_)
          obtain ⟨r58, rfl, hq⟩ := hq
          refine W.eq (g2 := F0 m 45 ls [.int r58]) rfl ?_
          exact mt_reti hx hb hr hlocks hw hS (Nat.le_of_ble_eq_true rfl) (Nat.le_of_ble_eq_true rfl) dX8_comb_45 ⟨_, rfl, hq⟩
    · replace hq := hq.2 hc
      refine lv_aload_n hx hb dX8_comb_14 rfl (lv_at hl 0 rfl) ?_
      refine lv_iconst (v := -1) hx hb dX8_comb_15 (by decide) ?_
      refine mt_callV (index := 33) hx hb hml hown hts hK (ΩC.mono D d cp) hA hw hS hl.1 (tX8_refuse l D d cp (-1 : Int32) u41 hq) (c_recvX hK hw) q_113 q_32 q_110 q_112 q_0 nmhX8_refuse ⟨⟨Nat.le_of_ble_eq_true rfl, Nat.le_of_ble_eq_true rfl⟩, ⟨Nat.le_of_ble_eq_true rfl, Nat.le_of_ble_eq_true rfl⟩⟩ rfl (Nat.le_of_ble_eq_true rfl) dX8_comb_16 (fun _ u61 H locs hq hw hS => ?_)
      obtain ⟨r60, rfl, hq⟩ := hq
      refine W.eq (g2 := F0 m 19 ls [.int r60]) rfl ?_
      exact mt_reti hx hb hr hlocks hw hS (Nat.le_of_ble_eq_true rfl) (Nat.le_of_ble_eq_true rfl) dX8_comb_19 ⟨_, rfl, hq⟩
