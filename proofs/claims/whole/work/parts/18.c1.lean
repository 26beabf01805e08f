theorem vp_lt {i : Int32} {n : Nat} (h : vp_in i n) : i.toNatClampNeg < n := Nat.not_le.mp fun q => h (Or.inr q)
section CASEQ
variable {p : Program} {l : Launch} {e : Env} {R : Room} {s : State} {m : MethodId} {args : Array Value} {below : List Frame} {meth : Method} {c : Code} {H : Heap} {locs : List Loc} {cells slots : Nat} {Q : State → Prop} {pc : Nat} {ls : Array Slot} {rest : List Value}
theorem lv_caseq {o : Option Nat} (kn : o = none → W p l e R s m args below meth c H locs cells slots Q (F0 m pc ls (va_rf o :: rest))) (ks : ∀ a : Nat, o = some a → W p l e R s m args below meth c H locs cells slots Q (F0 m pc ls (va_rf o :: rest))) : W p l e R s m args below meth c H locs cells slots Q (F0 m pc ls (va_rf o :: rest)) := by
  cases ho : o with
  | none => rw [ho] at kn; exact kn rfl
  | some a => rw [ho] at ks; exact ks a rfl
end CASEQ
abbrev rmX7_hasPlace : Room := { frames := 0, cells := 0, slots := 0, locals := 0 }
theorem nmhX7_hasPlace : NoMH yX7_hasPlace 1 := by decide +kernel
def wX7_hasPlace (a : Nat) (x1 : Int32) (σ : CS) (Q : Int32 → CS → Prop) : Prop :=
    (x1 < 0 → Q (0 : Int32) σ) ∧ (¬ x1 < 0 → (∃ (kd2 n2 c2 : Nat) (f2 : Nat → Int32), sTk σ a = some (kd2, n2, c2, f2) ∧ (((nI n2) ≤ x1 → Q (0 : Int32) σ) ∧ (¬ (nI n2) ≤ x1 → Q (1 : Int32) σ))))
set_option maxHeartbeats 4000000 in
set_option maxRecDepth 100000 in
theorem tX7_hasPlace (l : Launch) (D : va_G) (d : AC) (cp : CP) (a : Nat) (x1 : Int32) (σ : CS) {Q : Int32 → CS → Prop} (hq : wX7_hasPlace a x1 σ Q) : MT D d (ΩC D d cp) l yX7_hasPlace (WS yX7_hasPlace cX7_hasPlace 2 (some (.boolean))) rmX7_hasPlace [.ref a, .int x1] σ (qZ Q) := by
  refine mt_of (ΩC.mono D d cp) (by decide +kernel) (Nat.le_of_ble_eq_true rfl) (fun p e s m below meth c A ls hx hb hr hml hown hts hlocks hnm hK hA hw hS hl => ?_)
  have hl : lv_has ls 2 [(0, .ref a), (1, .int x1)] := hl
  have hown : s.vm.findClass RX7 = some m.cls := hown
  unfold wX7_hasPlace at hq
  refine lv_iload_n hx hb dX7_hasPlace_0 rfl (lv_at hl 1 rfl) ?_
  refine lv_if_lt (tgt := 16) hx hb dX7_hasPlace_1 (by decide) (fun hc => ?_) (fun hc => ?_)
  · replace hq := hq.1 hc
    refine lv_iconst (v := 0) hx hb dX7_hasPlace_16 (by decide) ?_
    exact mt_retz hx hb hr hlocks hw hS (Nat.le_of_ble_eq_true rfl) (Nat.le_of_ble_eq_true rfl) dX7_hasPlace_17 rfl ⟨_, rfl, Or.inl rfl, hq⟩
  · replace hq := hq.2 hc
    refine lv_iload_n hx hb dX7_hasPlace_4 rfl (lv_at hl 1 rfl) ?_
    refine lv_aload_n hx hb dX7_hasPlace_5 rfl (lv_at hl 0 rfl) ?_
    obtain ⟨kd2, n2, c2, f2, hm2, hq⟩ := hq
    refine c_gete hx hb hts hown hK hw hm2 (hts _ q_130) dX7_hasPlace_6 ?_
    refine lv_icmp_ge (tgt := 16) hx hb dX7_hasPlace_9 (by decide) (fun hc => ?_) (fun hc => ?_)
    · replace hq := hq.1 hc
      refine lv_iconst (v := 0) hx hb dX7_hasPlace_16 (by decide) ?_
      exact mt_retz hx hb hr hlocks hw hS (Nat.le_of_ble_eq_true rfl) (Nat.le_of_ble_eq_true rfl) dX7_hasPlace_17 rfl ⟨_, rfl, Or.inl rfl, hq⟩
    · replace hq := hq.2 hc
      refine lv_iconst (v := 1) hx hb dX7_hasPlace_12 (by decide) ?_
      refine lv_goto (tgt := 17) hx hb dX7_hasPlace_13 (by decide) ?_
      exact mt_retz hx hb hr hlocks hw hS (Nat.le_of_ble_eq_true rfl) (Nat.le_of_ble_eq_true rfl) dX7_hasPlace_17 rfl ⟨_, rfl, Or.inr rfl, hq⟩
abbrev rmX5_valueAt : Room := { frames := 0, cells := 0, slots := 0, locals := 0 }
theorem nmhX5_valueAt : NoMH yX5_valueAt 1 := by decide +kernel
def wX5_valueAt (a : Nat) (x1 : Int32) (σ : CS) (Q : Int32 → CS → Prop) : Prop :=
    ∃ (n2 c2 : Nat) (f2 : Nat → Int32), sTk σ a = some (0, n2, c2, f2) ∧ (vp_in x1 n2 ∧ (((f2 x1.toNatClampNeg) = 0 → Q (0 : Int32) σ) ∧ (¬ (f2 x1.toNatClampNeg) = 0 → Q (1 : Int32) σ)))
set_option maxHeartbeats 4000000 in
set_option maxRecDepth 100000 in
theorem tX5_valueAt (l : Launch) (D : va_G) (d : AC) (cp : CP) (a : Nat) (x1 : Int32) (σ : CS) {Q : Int32 → CS → Prop} (hq : wX5_valueAt a x1 σ Q) : MT D d (ΩC D d cp) l yX5_valueAt (WS yX5_valueAt cX5_valueAt 2 (some (.int))) rmX5_valueAt [.ref a, .int x1] σ (qI Q) := by
  refine mt_of (ΩC.mono D d cp) (by decide +kernel) (Nat.le_of_ble_eq_true rfl) (fun p e s m below meth c A ls hx hb hr hml hown hts hlocks hnm hK hA hw hS hl => ?_)
  have hl : lv_has ls 2 [(0, .ref a), (1, .int x1)] := hl
  have hown : s.vm.findClass RX5 = some m.cls := hown
  unfold wX5_valueAt at hq
  refine lv_aload_n hx hb dX5_valueAt_0 rfl (lv_at hl 0 rfl) ?_
  obtain ⟨n2, c2, f2, hm2, hq⟩ := hq
  refine c_cells0 hx hb hts hown hK hw hm2 (hts _ q_129) (fun _ h9 => h9) dX5_valueAt_1 ?_
  refine lv_iload_n hx hb dX5_valueAt_4 rfl (lv_at hl 1 rfl) ?_
  refine c_ld0 hx hb hK hw hm2 hq.1 dX5_valueAt_5 ?_
  replace hq := hq.2
  refine lv_if_eq (tgt := 13) hx hb dX5_valueAt_6 (by decide) (fun hc => ?_) (fun hc => ?_)
  · replace hq := hq.1 hc
    refine lv_iconst (v := 0) hx hb dX5_valueAt_13 (by decide) ?_
    exact mt_reti hx hb hr hlocks hw hS (Nat.le_of_ble_eq_true rfl) (Nat.le_of_ble_eq_true rfl) dX5_valueAt_14 ⟨_, rfl, hq⟩
  · replace hq := hq.2 hc
    refine lv_iconst (v := 1) hx hb dX5_valueAt_9 (by decide) ?_
    refine lv_goto (tgt := 14) hx hb dX5_valueAt_10 (by decide) ?_
    exact mt_reti hx hb hr hlocks hw hS (Nat.le_of_ble_eq_true rfl) (Nat.le_of_ble_eq_true rfl) dX5_valueAt_14 ⟨_, rfl, hq⟩
abbrev rmX6_valueAt : Room := { frames := 0, cells := 0, slots := 0, locals := 0 }
theorem nmhX6_valueAt : NoMH yX6_valueAt 1 := by decide +kernel
def wX6_valueAt (a : Nat) (x1 : Int32) (σ : CS) (Q : Int32 → CS → Prop) : Prop :=
    ∃ (n2 c2 : Nat) (f2 : Nat → Int32), sTk σ a = some (1, n2, c2, f2) ∧ (vp_in x1 n2 ∧ Q (f2 x1.toNatClampNeg) σ)
set_option maxHeartbeats 4000000 in
set_option maxRecDepth 100000 in
theorem tX6_valueAt (l : Launch) (D : va_G) (d : AC) (cp : CP) (a : Nat) (x1 : Int32) (σ : CS) {Q : Int32 → CS → Prop} (hq : wX6_valueAt a x1 σ Q) : MT D d (ΩC D d cp) l yX6_valueAt (WS yX6_valueAt cX6_valueAt 2 (some (.int))) rmX6_valueAt [.ref a, .int x1] σ (qI Q) := by
  refine mt_of (ΩC.mono D d cp) (by decide +kernel) (Nat.le_of_ble_eq_true rfl) (fun p e s m below meth c A ls hx hb hr hml hown hts hlocks hnm hK hA hw hS hl => ?_)
  have hl : lv_has ls 2 [(0, .ref a), (1, .int x1)] := hl
  have hown : s.vm.findClass RX6 = some m.cls := hown
  unfold wX6_valueAt at hq
  refine lv_aload_n hx hb dX6_valueAt_0 rfl (lv_at hl 0 rfl) ?_
  obtain ⟨n2, c2, f2, hm2, hq⟩ := hq
  refine c_cells1 hx hb hts hown hK hw hm2 (hts _ q_145) (fun _ h9 => h9) dX6_valueAt_1 ?_
  refine lv_iload_n hx hb dX6_valueAt_4 rfl (lv_at hl 1 rfl) ?_
  refine c_ld1 hx hb hK hw hm2 hq.1 dX6_valueAt_5 ?_
  replace hq := hq.2
  exact mt_reti hx hb hr hlocks hw hS (Nat.le_of_ble_eq_true rfl) (Nat.le_of_ble_eq_true rfl) dX6_valueAt_6 ⟨_, rfl, hq⟩
abbrev rmX3_valueAt : Room := { frames := 0, cells := 0, slots := 0, locals := 0 }
theorem nmhX3_valueAt : NoMH yX3_valueAt 1 := by decide +kernel
def wX3_valueAt (a : Nat) (x1 : Int32) (σ : CS) (Q : Int32 → CS → Prop) : Prop :=
    ∃ (n2 c2 : Nat) (f2 : Nat → Int32), sTk σ a = some (2, n2, c2, f2) ∧ (vp_in x1 n2 ∧ Q (f2 x1.toNatClampNeg) σ)
set_option maxHeartbeats 4000000 in
set_option maxRecDepth 100000 in
theorem tX3_valueAt (l : Launch) (D : va_G) (d : AC) (cp : CP) (a : Nat) (x1 : Int32) (σ : CS) {Q : Int32 → CS → Prop} (hq : wX3_valueAt a x1 σ Q) : MT D d (ΩC D d cp) l yX3_valueAt (WS yX3_valueAt cX3_valueAt 2 (some (.int))) rmX3_valueAt [.ref a, .int x1] σ (qI Q) := by
  refine mt_of (ΩC.mono D d cp) (by decide +kernel) (Nat.le_of_ble_eq_true rfl) (fun p e s m below meth c A ls hx hb hr hml hown hts hlocks hnm hK hA hw hS hl => ?_)
  have hl : lv_has ls 2 [(0, .ref a), (1, .int x1)] := hl
  have hown : s.vm.findClass RX3 = some m.cls := hown
  unfold wX3_valueAt at hq
  refine lv_aload_n hx hb dX3_valueAt_0 rfl (lv_at hl 0 rfl) ?_
  obtain ⟨n2, c2, f2, hm2, hq⟩ := hq
  refine c_cells2 hx hb hts hown hK hw hm2 (hts _ q_157) (fun _ h9 => h9) dX3_valueAt_1 ?_
  refine lv_iload_n hx hb dX3_valueAt_4 rfl (lv_at hl 1 rfl) ?_
  refine c_ld2 hx hb hK hw hm2 hq.1 dX3_valueAt_5 ?_
  replace hq := hq.2
  exact mt_reti hx hb hr hlocks hw hS (Nat.le_of_ble_eq_true rfl) (Nat.le_of_ble_eq_true rfl) dX3_valueAt_6 ⟨_, rfl, hq⟩
abbrev rmX4_isNegative : Room := { frames := 0, cells := 0, slots := 0, locals := 0 }
theorem nmhX4_isNegative : NoMH yX4_isNegative 1 := by decide +kernel
def wX4_isNegative (x0 : UInt32) (σ : CS) (Q : Int32 → CS → Prop) : Prop :=
    (¬ (Op.cmpValue (FP.fcmp x0 FP.fconst0) CmpOp.l) = 0 → ((0 ≤ (Op.cmpValue (FP.fcmp x0 FP.fconst0) CmpOp.g) → Q (0 : Int32) σ) ∧ (¬ 0 ≤ (Op.cmpValue (FP.fcmp x0 FP.fconst0) CmpOp.g) → Q (1 : Int32) σ))) ∧ ((Op.cmpValue (FP.fcmp x0 FP.fconst0) CmpOp.l) = 0 → (vf_n32 (FP.fdiv FP.fconst1 x0) ∧ ((0 ≤ (Op.cmpValue (FP.fcmp (FP.fdiv FP.fconst1 x0) FP.fconst0) CmpOp.g) → Q (0 : Int32) σ) ∧ (¬ 0 ≤ (Op.cmpValue (FP.fcmp (FP.fdiv FP.fconst1 x0) FP.fconst0) CmpOp.g) → Q (1 : Int32) σ))))
set_option maxHeartbeats 4000000 in
set_option maxRecDepth 100000 in
theorem tX4_isNegative (l : Launch) (D : va_G) (d : AC) (cp : CP) (x0 : UInt32) (σ : CS) {Q : Int32 → CS → Prop} (hq : wX4_isNegative x0 σ Q) : MT D d (ΩC D d cp) l yX4_isNegative (WS yX4_isNegative cX4_isNegative 1 (some (.boolean))) rmX4_isNegative [.float x0] σ (qZ Q) := by
  refine mt_of (ΩC.mono D d cp) (by decide +kernel) (Nat.le_of_ble_eq_true rfl) (fun p e s m below meth c A ls hx hb hr hml hown hts hlocks hnm hK hA hw hS hl => ?_)
  have hl : lv_has ls 1 [(0, .float x0)] := hl
  have hown : s.vm.findClass RX4 = some m.cls := hown
  unfold wX4_isNegative at hq
  refine lv_fload_n hx hb dX4_isNegative_0 rfl (lv_at hl 0 rfl) ?_
  refine lv_fconst0 hx hb dX4_isNegative_1 ?_
  refine lv_fcmp hx hb dX4_isNegative_2 ?_
  refine lv_if_ne (tgt := 22) hx hb dX4_isNegative_3 (by decide) (fun hc => ?_) (fun hc => ?_)
  · replace hq := hq.1 hc
    refine lv_fload_n hx hb dX4_isNegative_22 rfl (lv_at hl 0 rfl) ?_
    refine lv_fconst0 hx hb dX4_isNegative_23 ?_
    refine lv_fcmp hx hb dX4_isNegative_24 ?_
    refine lv_if_ge (tgt := 32) hx hb dX4_isNegative_25 (by decide) (fun hc => ?_) (fun hc => ?_)
    · replace hq := hq.1 hc
      refine lv_iconst (v := 0) hx hb dX4_isNegative_32 (by decide) ?_
      exact mt_retz hx hb hr hlocks hw hS (Nat.le_of_ble_eq_true rfl) (Nat.le_of_ble_eq_true rfl) dX4_isNegative_33 rfl ⟨_, rfl, Or.inl rfl, hq⟩
    · replace hq := hq.2 hc
      refine lv_iconst (v := 1) hx hb dX4_isNegative_28 (by decide) ?_
      refine lv_goto (tgt := 33) hx hb dX4_isNegative_29 (by decide) ?_
      exact mt_retz hx hb hr hlocks hw hS (Nat.le_of_ble_eq_true rfl) (Nat.le_of_ble_eq_true rfl) dX4_isNegative_33 rfl ⟨_, rfl, Or.inr rfl, hq⟩
  · replace hq := hq.2 hc
    refine lv_fconst1 hx hb dX4_isNegative_6 ?_
    refine lv_fload_n hx hb dX4_isNegative_7 rfl (lv_at hl 0 rfl) ?_
    refine lv_fdiv hx hb dX4_isNegative_8 hq.1 ?_
    replace hq := hq.2
    refine lv_fconst0 hx hb dX4_isNegative_9 ?_
    refine lv_fcmp hx hb dX4_isNegative_10 ?_
    refine lv_if_ge (tgt := 18) hx hb dX4_isNegative_11 (by decide) (fun hc => ?_) (fun hc => ?_)
    · replace hq := hq.1 hc
      refine lv_iconst (v := 0) hx hb dX4_isNegative_18 (by decide) ?_
      refine lv_goto (tgt := 33) hx hb dX4_isNegative_19 (by decide) ?_
      exact mt_retz hx hb hr hlocks hw hS (Nat.le_of_ble_eq_true rfl) (Nat.le_of_ble_eq_true rfl) dX4_isNegative_33 rfl ⟨_, rfl, Or.inl rfl, hq⟩
    · replace hq := hq.2 hc
      refine lv_iconst (v := 1) hx hb dX4_isNegative_14 (by decide) ?_
      refine lv_goto (tgt := 33) hx hb dX4_isNegative_15 (by decide) ?_
      exact mt_retz hx hb hr hlocks hw hS (Nat.le_of_ble_eq_true rfl) (Nat.le_of_ble_eq_true rfl) dX4_isNegative_33 rfl ⟨_, rfl, Or.inr rfl, hq⟩
abbrev rmX4_bitsOf : Room := { frames := 1, cells := 0, slots := 0, locals := 20 }
theorem nmhX4_bitsOf : NoMH yX4_bitsOf 1 := by decide +kernel
def wX4_bitsOf_b60 (x0 : UInt32) (Q : Int32 → CS → Prop) (v1 : Int32) (v2 : UInt32) (v3 : Int32) (σ : CS) : Prop :=
    Q (v1 ||| ((v3 <<< ((23 : Int32) &&& 31)) + (FP.f2i v2))) σ
def wX4_bitsOf_b39 (x0 : UInt32) (Q : Int32 → CS → Prop) : Nat → Int32 → UInt32 → Int32 → CS → Prop
  | 0, _, _, _, _ => False
  | n + 1, v1, v2, v3, σ =>
    (v3 ≤ 0 → wX4_bitsOf_b60 x0 Q v1 v2 v3 σ) ∧ (¬ v3 ≤ 0 → ((0 ≤ (Op.cmpValue (FP.fcmp v2 (1258291200 : UInt32)) CmpOp.g) → wX4_bitsOf_b60 x0 Q v1 v2 v3 σ) ∧ (¬ 0 ≤ (Op.cmpValue (FP.fcmp v2 (1258291200 : UInt32)) CmpOp.g) → (vf_n32 (FP.fmul v2 FP.fconst2) ∧ (∀ y13 : UInt32, y13 = (FP.fmul v2 FP.fconst2) → (∀ y14 : Int32, y14 = v3 + (-1) → (wX4_bitsOf_b39 x0 Q n v1 y13 y14 σ)))))))
theorem wX4_bitsOf_b39_s (x0 : UInt32) (Q : Int32 → CS → Prop) (n : Nat) (v1 : Int32) (v2 : UInt32) (v3 : Int32) (σ : CS) : wX4_bitsOf_b39 x0 Q (n + 1) v1 v2 v3 σ = (
    (v3 ≤ 0 → wX4_bitsOf_b60 x0 Q v1 v2 v3 σ) ∧ (¬ v3 ≤ 0 → ((0 ≤ (Op.cmpValue (FP.fcmp v2 (1258291200 : UInt32)) CmpOp.g) → wX4_bitsOf_b60 x0 Q v1 v2 v3 σ) ∧ (¬ 0 ≤ (Op.cmpValue (FP.fcmp v2 (1258291200 : UInt32)) CmpOp.g) → (vf_n32 (FP.fmul v2 FP.fconst2) ∧ (∀ y13 : UInt32, y13 = (FP.fmul v2 FP.fconst2) → (∀ y14 : Int32, y14 = v3 + (-1) → (wX4_bitsOf_b39 x0 Q n v1 y13 y14 σ)))))))) := rfl
def wX4_bitsOf_b13 (x0 : UInt32) (Q : Int32 → CS → Prop) (t0 : Int32) (σ : CS) : Prop :=
    (¬ (Op.cmpValue (FP.fcmp x0 FP.fconst0) CmpOp.l) = 0 → ((0 ≤ (Op.cmpValue (FP.fcmp x0 FP.fconst0) CmpOp.g) → (∃ k39 : Nat, wX4_bitsOf_b39 x0 Q k39 t0 x0 (149 : Int32) σ)) ∧ (¬ 0 ≤ (Op.cmpValue (FP.fcmp x0 FP.fconst0) CmpOp.g) → (∀ y15 : UInt32, y15 = (FP.fneg x0) → (∃ k39 : Nat, wX4_bitsOf_b39 x0 Q k39 t0 y15 (149 : Int32) σ))))) ∧ ((Op.cmpValue (FP.fcmp x0 FP.fconst0) CmpOp.l) = 0 → Q t0 σ)
def wX4_bitsOf (x0 : UInt32) (σ : CS) (Q : Int32 → CS → Prop) : Prop :=
    wX4_isNegative x0 σ (fun r11 u12 => (r11 = 0 → wX4_bitsOf_b13 x0 Q (0 : Int32) u12) ∧ (¬ r11 = 0 → wX4_bitsOf_b13 x0 Q (-2147483648 : Int32) u12))
set_option maxHeartbeats 4000000 in
set_option maxRecDepth 100000 in
theorem tX4_bitsOf (l : Launch) (D : va_G) (d : AC) (cp : CP) (x0 : UInt32) (σ : CS) {Q : Int32 → CS → Prop} (hq : wX4_bitsOf x0 σ Q) : MT D d (ΩC D d cp) l yX4_bitsOf (WS yX4_bitsOf cX4_bitsOf 4 (some (.int))) rmX4_bitsOf [.float x0] σ (qI Q) := by
  refine mt_of (ΩC.mono D d cp) (by decide +kernel) (Nat.le_of_ble_eq_true rfl) (fun p e s m below meth c A ls hx hb hr hml hown hts hlocks hnm hK hA hw hS hl => ?_)
  have hl : lv_has ls 4 [(0, .float x0)] := hl
  have hown : s.vm.findClass RX4 = some m.cls := hown
  have b60 : ∀ (v1 : Int32) (v2 : UInt32) (v3 : Int32) (σ : CS) (H : Heap) (locs : List Loc) (ls : Array Slot), wX4_bitsOf_b60 x0 Q v1 v2 v3 σ → (ΩC D d cp) A σ H → va_S A s.heap H locs → lv_has ls 4 [(0, .float x0), (1, .int v1), (2, .float v2), (3, .int v3)] → W p l e rmX4_bitsOf s m [.float x0].toArray below meth c H locs 0 0 (MQ below (Qo (qI Q) (fun u' t => (ΩC D d cp) A u' t.heap) A) [.float x0].toArray s rmX4_bitsOf.cells rmX4_bitsOf.slots A) (F0 m 60 ls []) := by
    intro v1 v2 v3 σ H locs ls hq hw hS hl
    unfold wX4_bitsOf_b60 at hq
    refine lv_iload_n hx hb dX4_bitsOf_60 rfl (lv_at hl 1 rfl) ?_
    refine lv_iload_n hx hb dX4_bitsOf_61 rfl (lv_at hl 3 rfl) ?_
    refine lv_bipush (v := 23) hx hb dX4_bitsOf_62 (by decide) ?_
    refine lv_ishl hx hb dX4_bitsOf_64 ?_
    refine lv_fload_n hx hb dX4_bitsOf_65 rfl (lv_at hl 2 rfl) ?_
    refine lv_f2i hx hb dX4_bitsOf_66 ?_
    refine lv_iadd hx hb dX4_bitsOf_67 ?_
    refine lv_ior hx hb dX4_bitsOf_68 ?_
    exact mt_reti hx hb hr hlocks hw hS (Nat.le_of_ble_eq_true rfl) (Nat.le_of_ble_eq_true rfl) dX4_bitsOf_69 ⟨_, rfl, hq⟩
  have b39 : ∀ (n : Nat) (v1 : Int32) (v2 : UInt32) (v3 : Int32) (σ : CS) (H : Heap) (locs : List Loc) (ls : Array Slot), wX4_bitsOf_b39 x0 Q n v1 v2 v3 σ → (ΩC D d cp) A σ H → va_S A s.heap H locs → lv_has ls 4 [(0, .float x0), (1, .int v1), (2, .float v2), (3, .int v3)] → W p l e rmX4_bitsOf s m [.float x0].toArray below meth c H locs 0 0 (MQ below (Qo (qI Q) (fun u' t => (ΩC D d cp) A u' t.heap) A) [.float x0].toArray s rmX4_bitsOf.cells rmX4_bitsOf.slots A) (F0 m 39 ls []) := by
    intro n
    induction n with
    | zero =>
      intro v1 v2 v3 σ H locs ls hq
      exact absurd hq id
    | succ n ih =>
      intro v1 v2 v3 σ H locs ls hq hw hS hl
      rw [wX4_bitsOf_b39_s] at hq
      refine lv_iload_n hx hb dX4_bitsOf_39 rfl (lv_at hl 3 rfl) ?_
      refine lv_if_le (tgt := 60) hx hb dX4_bitsOf_40 (by decide) (fun hc => ?_) (fun hc => ?_)
      · replace hq := hq.1 hc
        exact b60 v1 v2 v3 σ _ _ _ hq hw hS (lv_sub hl [0, 1, 2, 3] rfl)
      · replace hq := hq.2 hc
        refine lv_fload_n hx hb dX4_bitsOf_43 rfl (lv_at hl 2 rfl) ?_
        refine lv_ldcf (v := 1258291200) hx hb hown (hts _ q_247) dX4_bitsOf_44 ?_
        refine lv_fcmp hx hb dX4_bitsOf_46 ?_
        refine lv_if_ge (tgt := 60) hx hb dX4_bitsOf_47 (by decide) (fun hc => ?_) (fun hc => ?_)
        · replace hq := hq.1 hc
          exact b60 v1 v2 v3 σ _ _ _ hq hw hS (lv_sub hl [0, 1, 2, 3] rfl)
        · replace hq := hq.2 hc
          refine lv_fload_n hx hb dX4_bitsOf_50 rfl (lv_at hl 2 rfl) ?_
          refine lv_fconst2 hx hb dX4_bitsOf_51 ?_
          refine lv_fmul hx hb dX4_bitsOf_52 hq.1 ?_
          replace hq := hq.2
          refine lv_topf (fun y13 ey13 => ?_)
          replace hq := hq y13 ey13
          refine lv_fstore_n (lv' := [(2, .float y13), (0, .float x0), (1, .int v1), (3, .int v3)]) hx hb dX4_bitsOf_53 rfl hl (by decide) rfl (fun ls hl => ?_)
          obtain ⟨y14, ey14⟩ : ∃ z : Int32, z = v3 + (-1) := ⟨_, rfl⟩
          replace hq := hq y14 ey14
          refine lv_iinc (v := y14) (lv' := [(3, .int y14), (2, .float y13), (0, .float x0), (1, .int v1)]) hx hb dX4_bitsOf_54 hl (k := 3) rfl (by rw [ey14]; rfl) (by decide) rfl (fun ls hl => ?_)
          refine lv_goto (tgt := 39) hx hb dX4_bitsOf_57 (by decide) ?_
          exact ih v1 y13 y14 σ _ _ _ hq hw hS (lv_sub hl [2, 3, 1, 0] rfl)
  have b13 : ∀ (t0 : Int32) (σ : CS) (H : Heap) (locs : List Loc) (ls : Array Slot), wX4_bitsOf_b13 x0 Q t0 σ → (ΩC D d cp) A σ H → va_S A s.heap H locs → lv_has ls 4 [(0, .float x0)] → W p l e rmX4_bitsOf s m [.float x0].toArray below meth c H locs 0 0 (MQ below (Qo (qI Q) (fun u' t => (ΩC D d cp) A u' t.heap) A) [.float x0].toArray s rmX4_bitsOf.cells rmX4_bitsOf.slots A) (F0 m 13 ls [.int t0]) := by
    intro t0 σ H locs ls hq hw hS hl
    unfold wX4_bitsOf_b13 at hq
    refine lv_istore_n (lv' := [(1, .int t0), (0, .float x0)]) hx hb dX4_bitsOf_13 rfl hl (by decide) rfl (fun ls hl => ?_)
    refine lv_fload_n hx hb dX4_bitsOf_14 rfl (lv_at hl 1 rfl) ?_
    refine lv_fconst0 hx hb dX4_bitsOf_15 ?_
    refine lv_fcmp hx hb dX4_bitsOf_16 ?_
    refine lv_if_ne (tgt := 22) hx hb dX4_bitsOf_17 (by decide) (fun hc => ?_) (fun hc => ?_)
    · replace hq := hq.1 hc
      refine lv_fload_n hx hb dX4_bitsOf_22 rfl (lv_at hl 1 rfl) ?_
      refine lv_fconst0 hx hb dX4_bitsOf_23 ?_
      refine lv_fcmp hx hb dX4_bitsOf_24 ?_
      refine lv_if_ge (tgt := 33) hx hb dX4_bitsOf_25 (by decide) (fun hc => ?_) (fun hc => ?_)
      · replace hq := hq.1 hc
        refine lv_fload_n hx hb dX4_bitsOf_33 rfl (lv_at hl 1 rfl) ?_
        refine lv_fstore_n (lv' := [(2, .float x0), (1, .int t0), (0, .float x0)]) hx hb dX4_bitsOf_34 rfl hl (by decide) rfl (fun ls hl => ?_)
        refine lv_sipush (v := 149) hx hb dX4_bitsOf_35 (by decide) ?_
        refine lv_istore_n (lv' := [(3, .int (149 : Int32)), (2, .float x0), (1, .int t0), (0, .float x0)]) hx hb dX4_bitsOf_38 rfl hl (by decide) rfl (fun ls hl => ?_)
        obtain ⟨k39, hq⟩ := hq
        exact b39 k39 t0 x0 (149 : Int32) σ _ _ _ hq hw hS (lv_sub hl [3, 2, 1, 0] rfl)
      · replace hq := hq.2 hc
        refine lv_fload_n hx hb dX4_bitsOf_28 rfl (lv_at hl 1 rfl) ?_
        refine lv_fneg hx hb dX4_bitsOf_29 ?_
        refine lv_goto (tgt := 34) hx hb dX4_bitsOf_30 (by decide) ?_
        refine lv_topf (fun y15 ey15 => ?_)
        replace hq := hq y15 ey15
        refine lv_fstore_n (lv' := [(2, .float y15), (1, .int t0), (0, .float x0)]) hx hb dX4_bitsOf_34 rfl hl (by decide) rfl (fun ls hl => ?_)
        refine lv_sipush (v := 149) hx hb dX4_bitsOf_35 (by decide) ?_
        refine lv_istore_n (lv' := [(3, .int (149 : Int32)), (2, .float y15), (1, .int t0), (0, .float x0)]) hx hb dX4_bitsOf_38 rfl hl (by decide) rfl (fun ls hl => ?_)
        obtain ⟨k39, hq⟩ := hq
        exact b39 k39 t0 y15 (149 : Int32) σ _ _ _ hq hw hS (lv_sub hl [3, 2, 1, 0] rfl)
    · replace hq := hq.2 hc
      refine lv_iload_n hx hb dX4_bitsOf_20 rfl (lv_at hl 0 rfl) ?_
      exact mt_reti hx hb hr hlocks hw hS (Nat.le_of_ble_eq_true rfl) (Nat.le_of_ble_eq_true rfl) dX4_bitsOf_21 ⟨_, rfl, hq⟩
  unfold wX4_bitsOf at hq
  refine lv_fload_n hx hb dX4_bitsOf_0 rfl (lv_at hl 0 rfl) ?_
  refine mt_callS (index := 25) hx hb hml hown hts hK (ΩC.mono D d cp) hA hw hS hl.1 (tX4_isNegative l D d cp x0 σ hq) q_245 q_39 q_243 q_244 nmhX4_isNegative ⟨⟨Nat.le_of_ble_eq_true rfl, Nat.le_of_ble_eq_true rfl⟩, ⟨Nat.le_of_ble_eq_true rfl, Nat.le_of_ble_eq_true rfl⟩⟩ rfl (Nat.le_of_ble_eq_true rfl) dX4_bitsOf_1 (fun _ u12 H locs hq hw hS => ?_)
  obtain ⟨r11, rfl, hzr11, hq⟩ := hq
  refine W.eq (g2 := F0 m 4 ls [.int r11]) rfl ?_
  refine lv_if_eq (tgt := 12) hx hb dX4_bitsOf_4 (by decide) (fun hc => ?_) (fun hc => ?_)
  · replace hq := hq.1 hc
    refine lv_iconst (v := 0) hx hb dX4_bitsOf_12 (by decide) ?_
    exact b13 (0 : Int32) u12 _ _ _ hq hw hS (lv_sub hl [0] rfl)
  · replace hq := hq.2 hc
    refine lv_ldc (v := -2147483648) hx hb hown (hts _ q_246) dX4_bitsOf_7 ?_
    refine lv_goto (tgt := 13) hx hb dX4_bitsOf_9 (by decide) ?_
    exact b13 (-2147483648 : Int32) u12 _ _ _ hq hw hS (lv_sub hl [0] rfl)
abbrev rmX4_valueAt : Room := { frames := 2, cells := 0, slots := 0, locals := 43 }
theorem nmhX4_valueAt : NoMH yX4_valueAt 1 := by decide +kernel
def wX4_valueAt (a : Nat) (x1 : Int32) (σ : CS) (Q : Int32 → CS → Prop) : Prop :=
    ∃ (n4 c4 : Nat) (f4 : Nat → Int32), sTk σ a = some (3, n4, c4, f4) ∧ (vp_in x1 n4 ∧ (wX4_bitsOf ((f4 x1.toNatClampNeg).toUInt32) σ (fun r5 u6 => Q r5 u6)))
set_option maxHeartbeats 4000000 in
set_option maxRecDepth 100000 in
theorem tX4_valueAt (l : Launch) (D : va_G) (d : AC) (cp : CP) (a : Nat) (x1 : Int32) (σ : CS) {Q : Int32 → CS → Prop} (hq : wX4_valueAt a x1 σ Q) : MT D d (ΩC D d cp) l yX4_valueAt (WS yX4_valueAt cX4_valueAt 2 (some (.int))) rmX4_valueAt [.ref a, .int x1] σ (qI Q) := by
  refine mt_of (ΩC.mono D d cp) (by decide +kernel) (Nat.le_of_ble_eq_true rfl) (fun p e s m below meth c A ls hx hb hr hml hown hts hlocks hnm hK hA hw hS hl => ?_)
  have hl : lv_has ls 2 [(0, .ref a), (1, .int x1)] := hl
  have hown : s.vm.findClass RX4 = some m.cls := hown
  unfold wX4_valueAt at hq
  refine lv_aload_n hx hb dX4_valueAt_0 rfl (lv_at hl 0 rfl) ?_
  obtain ⟨n4, c4, f4, hm4, hq⟩ := hq
  refine c_cells3 hx hb hts hown hK hw hm4 (hts _ q_169) (fun _ h9 => h9) dX4_valueAt_1 ?_
  refine lv_iload_n hx hb dX4_valueAt_4 rfl (lv_at hl 1 rfl) ?_
  refine c_ld3 hx hb hK hw hm4 hq.1 dX4_valueAt_5 ?_
  replace hq := hq.2
  refine mt_callS (index := 15) hx hb hml hown hts hK (ΩC.mono D d cp) hA hw hS hl.1 (tX4_bitsOf l D d cp ((f4 x1.toNatClampNeg).toUInt32) σ hq) q_242 q_39 q_240 q_241 nmhX4_bitsOf ⟨⟨Nat.le_of_ble_eq_true rfl, Nat.le_of_ble_eq_true rfl⟩, ⟨Nat.le_of_ble_eq_true rfl, Nat.le_of_ble_eq_true rfl⟩⟩ rfl (Nat.le_of_ble_eq_true rfl) dX4_valueAt_6 (fun _ u6 H locs hq hw hS => ?_)
  obtain ⟨r5, rfl, hq⟩ := hq
  refine W.eq (g2 := F0 m 9 ls [.int r5]) rfl ?_
  exact mt_reti hx hb hr hlocks hw hS (Nat.le_of_ble_eq_true rfl) (Nat.le_of_ble_eq_true rfl) dX4_valueAt_9 ⟨_, rfl, hq⟩
abbrev rmX4_levelAt : Room := { frames := 0, cells := 0, slots := 0, locals := 0 }
theorem nmhX4_levelAt : NoMH yX4_levelAt 1 := by decide +kernel
def wX4_levelAt (a : Nat) (x1 : Int32) (σ : CS) (Q : UInt32 → CS → Prop) : Prop :=
    ∃ (n2 c2 : Nat) (f2 : Nat → Int32), sTk σ a = some (3, n2, c2, f2) ∧ (vp_in x1 n2 ∧ (Q ((f2 x1.toNatClampNeg).toUInt32) σ))
set_option maxHeartbeats 4000000 in
set_option maxRecDepth 100000 in
theorem tX4_levelAt (l : Launch) (D : va_G) (d : AC) (cp : CP) (a : Nat) (x1 : Int32) (σ : CS) {Q : UInt32 → CS → Prop} (hq : wX4_levelAt a x1 σ Q) : MT D d (ΩC D d cp) l yX4_levelAt (WS yX4_levelAt cX4_levelAt 2 (some (.float))) rmX4_levelAt [.ref a, .int x1] σ (qF Q) := by
  refine mt_of (ΩC.mono D d cp) (by decide +kernel) (Nat.le_of_ble_eq_true rfl) (fun p e s m below meth c A ls hx hb hr hml hown hts hlocks hnm hK hA hw hS hl => ?_)
  have hl : lv_has ls 2 [(0, .ref a), (1, .int x1)] := hl
  have hown : s.vm.findClass RX4 = some m.cls := hown
  unfold wX4_levelAt at hq
  refine lv_aload_n hx hb dX4_levelAt_0 rfl (lv_at hl 0 rfl) ?_
  obtain ⟨n2, c2, f2, hm2, hq⟩ := hq
  refine c_cells3 hx hb hts hown hK hw hm2 (hts _ q_169) (fun _ h9 => h9) dX4_levelAt_1 ?_
  refine lv_iload_n hx hb dX4_levelAt_4 rfl (lv_at hl 1 rfl) ?_
  refine c_ld3 hx hb hK hw hm2 hq.1 dX4_levelAt_5 ?_
  replace hq := hq.2
  exact mt_retf hx hb hr hlocks hw hS (Nat.le_of_ble_eq_true rfl) (Nat.le_of_ble_eq_true rfl) dX4_levelAt_6 ⟨_, rfl, hq⟩
abbrev rmX0_valueAt : Room := { frames := 0, cells := 0, slots := 0, locals := 0 }
theorem nmhX0_valueAt : NoMH yX0_valueAt 1 := by decide +kernel
def wX0_valueAt (a : Nat) (x1 : Int32) (σ : CS) (Q : Int32 → CS → Prop) : Prop :=
    ∃ (n2 c2 : Nat) (f2 : Nat → Int32), sTk σ a = some (4, n2, c2, f2) ∧ (vp_in x1 n2 ∧ Q (f2 x1.toNatClampNeg) σ)
set_option maxHeartbeats 4000000 in
set_option maxRecDepth 100000 in
theorem tX0_valueAt (l : Launch) (D : va_G) (d : AC) (cp : CP) (a : Nat) (x1 : Int32) (σ : CS) {Q : Int32 → CS → Prop} (hq : wX0_valueAt a x1 σ Q) : MT D d (ΩC D d cp) l yX0_valueAt (WS yX0_valueAt cX0_valueAt 2 (some (.int))) rmX0_valueAt [.ref a, .int x1] σ (qI Q) := by
  refine mt_of (ΩC.mono D d cp) (by decide +kernel) (Nat.le_of_ble_eq_true rfl) (fun p e s m below meth c A ls hx hb hr hml hown hts hlocks hnm hK hA hw hS hl => ?_)
  have hl : lv_has ls 2 [(0, .ref a), (1, .int x1)] := hl
  have hown : s.vm.findClass RX0 = some m.cls := hown
  unfold wX0_valueAt at hq
  refine lv_aload_n hx hb dX0_valueAt_0 rfl (lv_at hl 0 rfl) ?_
  obtain ⟨n2, c2, f2, hm2, hq⟩ := hq
  refine c_cells4 hx hb hts hown hK hw hm2 (hts _ q_181) (fun _ h9 => h9) dX0_valueAt_1 ?_
  refine lv_iload_n hx hb dX0_valueAt_4 rfl (lv_at hl 1 rfl) ?_
  refine c_ld4 hx hb hK hw hm2 hq.1 dX0_valueAt_5 ?_
  replace hq := hq.2
  exact mt_reti hx hb hr hlocks hw hS (Nat.le_of_ble_eq_true rfl) (Nat.le_of_ble_eq_true rfl) dX0_valueAt_6 ⟨_, rfl, hq⟩
abbrev rmX5_put : Room := { frames := 0, cells := 0, slots := 0, locals := 0 }
theorem nmhX5_put : NoMH yX5_put 2 := by decide +kernel
def wX5_put (a : Nat) (x1 : Int32) (x2 : Int32) (σ : CS) (Q : Int32 → CS → Prop) : Prop :=
    ∃ (n2 c2 : Nat) (f2 : Nat → Int32), sTk σ a = some (0, n2, c2, f2) ∧ ((x2 = 0 → (vp_in x1 n2 ∧ (Q (1 : Int32) (pTk σ a (0, n2, c2, upd f2 x1.toNatClampNeg (vp_nar .boolean (0 : Int32))))))) ∧ (¬ x2 = 0 → (vp_in x1 n2 ∧ (Q (1 : Int32) (pTk σ a (0, n2, c2, upd f2 x1.toNatClampNeg (vp_nar .boolean (1 : Int32))))))))
set_option maxHeartbeats 4000000 in
set_option maxRecDepth 100000 in
theorem tX5_put (l : Launch) (D : va_G) (d : AC) (cp : CP) (a : Nat) (x1 : Int32) (x2 : Int32) (σ : CS) {Q : Int32 → CS → Prop} (hq : wX5_put a x1 x2 σ Q) : MT D d (ΩC D d cp) l yX5_put (WS yX5_put cX5_put 3 (some (.boolean))) rmX5_put [.ref a, .int x1, .int x2] σ (qZ Q) := by
  refine mt_of (ΩC.mono D d cp) (by decide +kernel) (Nat.le_of_ble_eq_true rfl) (fun p e s m below meth c A ls hx hb hr hml hown hts hlocks hnm hK hA hw hS hl => ?_)
  have hl : lv_has ls 3 [(0, .ref a), (1, .int x1), (2, .int x2)] := hl
  have hown : s.vm.findClass RX5 = some m.cls := hown
  unfold wX5_put at hq
  refine lv_aload_n hx hb dX5_put_0 rfl (lv_at hl 0 rfl) ?_
  obtain ⟨n2, c2, f2, hm2, hq⟩ := hq
  refine c_cells0 hx hb hts hown hK hw hm2 (hts _ q_129) (fun _ h9 => h9) dX5_put_1 ?_
  refine lv_iload_n hx hb dX5_put_4 rfl (lv_at hl 1 rfl) ?_
  refine lv_iload_n hx hb dX5_put_5 rfl (lv_at hl 2 rfl) ?_
  refine lv_if_eq (tgt := 13) hx hb dX5_put_6 (by decide) (fun hc => ?_) (fun hc => ?_)
  · replace hq := hq.1 hc
    refine lv_iconst (v := 0) hx hb dX5_put_13 (by decide) ?_
    refine c_st0 hx hb hK hw hS hm2 hq.1 dX5_put_14 (fun H locs hw hS => ?_)
    replace hq := hq.2
    refine lv_iconst (v := 1) hx hb dX5_put_15 (by decide) ?_
    exact mt_retz hx hb hr hlocks hw hS (Nat.le_of_ble_eq_true rfl) (Nat.le_of_ble_eq_true rfl) dX5_put_16 rfl ⟨_, rfl, Or.inr rfl, hq⟩
  · replace hq := hq.2 hc
    refine lv_iconst (v := 1) hx hb dX5_put_9 (by decide) ?_
    refine lv_goto (tgt := 14) hx hb dX5_put_10 (by decide) ?_
    refine c_st0 hx hb hK hw hS hm2 hq.1 dX5_put_14 (fun H locs hw hS => ?_)
    replace hq := hq.2
    refine lv_iconst (v := 1) hx hb dX5_put_15 (by decide) ?_
    exact mt_retz hx hb hr hlocks hw hS (Nat.le_of_ble_eq_true rfl) (Nat.le_of_ble_eq_true rfl) dX5_put_16 rfl ⟨_, rfl, Or.inr rfl, hq⟩
abbrev rmX6_put : Room := { frames := 0, cells := 0, slots := 0, locals := 0 }
theorem nmhX6_put : NoMH yX6_put 2 := by decide +kernel
def wX6_put (a : Nat) (x1 : Int32) (x2 : Int32) (σ : CS) (Q : Int32 → CS → Prop) : Prop :=
    ∃ (n2 c2 : Nat) (f2 : Nat → Int32), sTk σ a = some (1, n2, c2, f2) ∧ (vp_in x1 n2 ∧ (Q (1 : Int32) (pTk σ a (1, n2, c2, upd f2 x1.toNatClampNeg (vp_nar .char ((x2.toUInt32 % 65536).toInt32))))))
set_option maxHeartbeats 4000000 in
set_option maxRecDepth 100000 in
theorem tX6_put (l : Launch) (D : va_G) (d : AC) (cp : CP) (a : Nat) (x1 : Int32) (x2 : Int32) (σ : CS) {Q : Int32 → CS → Prop} (hq : wX6_put a x1 x2 σ Q) : MT D d (ΩC D d cp) l yX6_put (WS yX6_put cX6_put 3 (some (.boolean))) rmX6_put [.ref a, .int x1, .int x2] σ (qZ Q) := by
  refine mt_of (ΩC.mono D d cp) (by decide +kernel) (Nat.le_of_ble_eq_true rfl) (fun p e s m below meth c A ls hx hb hr hml hown hts hlocks hnm hK hA hw hS hl => ?_)
  have hl : lv_has ls 3 [(0, .ref a), (1, .int x1), (2, .int x2)] := hl
  have hown : s.vm.findClass RX6 = some m.cls := hown
  unfold wX6_put at hq
  refine lv_aload_n hx hb dX6_put_0 rfl (lv_at hl 0 rfl) ?_
  obtain ⟨n2, c2, f2, hm2, hq⟩ := hq
  refine c_cells1 hx hb hts hown hK hw hm2 (hts _ q_145) (fun _ h9 => h9) dX6_put_1 ?_
  refine lv_iload_n hx hb dX6_put_4 rfl (lv_at hl 1 rfl) ?_
  refine lv_iload_n hx hb dX6_put_5 rfl (lv_at hl 2 rfl) ?_
  refine lv_i2c hx hb dX6_put_6 rfl ?_
  refine c_st1 hx hb hK hw hS hm2 hq.1 dX6_put_7 (fun H locs hw hS => ?_)
  replace hq := hq.2
  refine lv_iconst (v := 1) hx hb dX6_put_8 (by decide) ?_
  exact mt_retz hx hb hr hlocks hw hS (Nat.le_of_ble_eq_true rfl) (Nat.le_of_ble_eq_true rfl) dX6_put_9 rfl ⟨_, rfl, Or.inr rfl, hq⟩
abbrev rmX3_put : Room := { frames := 0, cells := 0, slots := 0, locals := 0 }
theorem nmhX3_put : NoMH yX3_put 2 := by decide +kernel
def wX3_put (a : Nat) (x1 : Int32) (x2 : Int32) (σ : CS) (Q : Int32 → CS → Prop) : Prop :=
    ∃ (n2 c2 : Nat) (f2 : Nat → Int32), sTk σ a = some (2, n2, c2, f2) ∧ (vp_in x1 n2 ∧ (Q (1 : Int32) (pTk σ a (2, n2, c2, upd f2 x1.toNatClampNeg (vp_nar .short x2.toInt16.toInt32)))))
set_option maxHeartbeats 4000000 in
set_option maxRecDepth 100000 in
theorem tX3_put (l : Launch) (D : va_G) (d : AC) (cp : CP) (a : Nat) (x1 : Int32) (x2 : Int32) (σ : CS) {Q : Int32 → CS → Prop} (hq : wX3_put a x1 x2 σ Q) : MT D d (ΩC D d cp) l yX3_put (WS yX3_put cX3_put 3 (some (.boolean))) rmX3_put [.ref a, .int x1, .int x2] σ (qZ Q) := by
  refine mt_of (ΩC.mono D d cp) (by decide +kernel) (Nat.le_of_ble_eq_true rfl) (fun p e s m below meth c A ls hx hb hr hml hown hts hlocks hnm hK hA hw hS hl => ?_)
  have hl : lv_has ls 3 [(0, .ref a), (1, .int x1), (2, .int x2)] := hl
  have hown : s.vm.findClass RX3 = some m.cls := hown
  unfold wX3_put at hq
  refine lv_aload_n hx hb dX3_put_0 rfl (lv_at hl 0 rfl) ?_
  obtain ⟨n2, c2, f2, hm2, hq⟩ := hq
  refine c_cells2 hx hb hts hown hK hw hm2 (hts _ q_157) (fun _ h9 => h9) dX3_put_1 ?_
  refine lv_iload_n hx hb dX3_put_4 rfl (lv_at hl 1 rfl) ?_
  refine lv_iload_n hx hb dX3_put_5 rfl (lv_at hl 2 rfl) ?_
  refine lv_i2s hx hb dX3_put_6 rfl ?_
  refine c_st2 hx hb hK hw hS hm2 hq.1 dX3_put_7 (fun H locs hw hS => ?_)
  replace hq := hq.2
  refine lv_iconst (v := 1) hx hb dX3_put_8 (by decide) ?_
  exact mt_retz hx hb hr hlocks hw hS (Nat.le_of_ble_eq_true rfl) (Nat.le_of_ble_eq_true rfl) dX3_put_9 rfl ⟨_, rfl, Or.inr rfl, hq⟩
abbrev rmX4_put : Room := { frames := 0, cells := 0, slots := 0, locals := 0 }
theorem nmhX4_put : NoMH yX4_put 2 := by decide +kernel
def wX4_put (a : Nat) (x1 : Int32) (x2 : Int32) (σ : CS) (Q : Int32 → CS → Prop) : Prop :=
    (x2 < (-8000000 : Int32) → Q (0 : Int32) σ) ∧ (¬ x2 < (-8000000 : Int32) → ((x2 ≤ (8000000 : Int32) → (∃ (n2 c2 : Nat) (f2 : Nat → Int32), sTk σ a = some (3, n2, c2, f2) ∧ (vf_n32 (FP.fdiv (FP.i2f x2) (1090519040 : UInt32)) ∧ (vp_in x1 n2 ∧ (Q (1 : Int32) (pTk σ a (3, n2, c2, upd f2 x1.toNatClampNeg (FP.fdiv (FP.i2f x2) (1090519040 : UInt32)).toInt32))))))) ∧ (¬ x2 ≤ (8000000 : Int32) → Q (0 : Int32) σ)))
set_option maxHeartbeats 4000000 in
set_option maxRecDepth 100000 in
theorem tX4_put (l : Launch) (D : va_G) (d : AC) (cp : CP) (a : Nat) (x1 : Int32) (x2 : Int32) (σ : CS) {Q : Int32 → CS → Prop} (hq : wX4_put a x1 x2 σ Q) : MT D d (ΩC D d cp) l yX4_put (WS yX4_put cX4_put 3 (some (.boolean))) rmX4_put [.ref a, .int x1, .int x2] σ (qZ Q) := by
  refine mt_of (ΩC.mono D d cp) (by decide +kernel) (Nat.le_of_ble_eq_true rfl) (fun p e s m below meth c A ls hx hb hr hml hown hts hlocks hnm hK hA hw hS hl => ?_)
  have hl : lv_has ls 3 [(0, .ref a), (1, .int x1), (2, .int x2)] := hl
  have hown : s.vm.findClass RX4 = some m.cls := hown
  unfold wX4_put at hq
  refine lv_iload_n hx hb dX4_put_0 rfl (lv_at hl 2 rfl) ?_
  refine lv_ldc (v := -8000000) hx hb hown (hts _ q_274) dX4_put_1 ?_
  refine lv_icmp_lt (tgt := 12) hx hb dX4_put_3 (by decide) (fun hc => ?_) (fun hc => ?_)
  · replace hq := hq.1 hc
    refine lv_iconst (v := 0) hx hb dX4_put_12 (by decide) ?_
    exact mt_retz hx hb hr hlocks hw hS (Nat.le_of_ble_eq_true rfl) (Nat.le_of_ble_eq_true rfl) dX4_put_13 rfl ⟨_, rfl, Or.inl rfl, hq⟩
  · replace hq := hq.2 hc
    refine lv_iload_n hx hb dX4_put_6 rfl (lv_at hl 2 rfl) ?_
    refine lv_ldc (v := 8000000) hx hb hown (hts _ q_275) dX4_put_7 ?_
    refine lv_icmp_le (tgt := 14) hx hb dX4_put_9 (by decide) (fun hc => ?_) (fun hc => ?_)
    · replace hq := hq.1 hc
      refine lv_aload_n hx hb dX4_put_14 rfl (lv_at hl 0 rfl) ?_
      obtain ⟨n2, c2, f2, hm2, hq⟩ := hq
      refine c_cells3 hx hb hts hown hK hw hm2 (hts _ q_169) (fun _ h9 => h9) dX4_put_15 ?_
      refine lv_iload_n hx hb dX4_put_18 rfl (lv_at hl 1 rfl) ?_
      refine lv_iload_n hx hb dX4_put_19 rfl (lv_at hl 2 rfl) ?_
      refine lv_i2f hx hb dX4_put_20 ?_
      refine lv_ldcf (v := 1090519040) hx hb hown (hts _ q_276) dX4_put_21 ?_
      refine lv_fdiv hx hb dX4_put_23 hq.1 ?_
      replace hq := hq.2
      refine c_st3 hx hb hK hw hS hm2 hq.1 dX4_put_24 (fun H locs hw hS => ?_)
      replace hq := hq.2
      refine lv_iconst (v := 1) hx hb dX4_put_25 (by decide) ?_
      exact mt_retz hx hb hr hlocks hw hS (Nat.le_of_ble_eq_true rfl) (Nat.le_of_ble_eq_true rfl) dX4_put_26 rfl ⟨_, rfl, Or.inr rfl, hq⟩
    · replace hq := hq.2 hc
      refine lv_iconst (v := 0) hx hb dX4_put_12 (by decide) ?_
      exact mt_retz hx hb hr hlocks hw hS (Nat.le_of_ble_eq_true rfl) (Nat.le_of_ble_eq_true rfl) dX4_put_13 rfl ⟨_, rfl, Or.inl rfl, hq⟩
abbrev rmX0_put : Room := { frames := 0, cells := 0, slots := 0, locals := 0 }
theorem nmhX0_put : NoMH yX0_put 2 := by decide +kernel
def wX0_put (a : Nat) (x1 : Int32) (x2 : Int32) (σ : CS) (Q : Int32 → CS → Prop) : Prop :=
    ∃ (n2 c2 : Nat) (f2 : Nat → Int32), sTk σ a = some (4, n2, c2, f2) ∧ (vp_in x1 n2 ∧ (Q (1 : Int32) (pTk σ a (4, n2, c2, upd f2 x1.toNatClampNeg (vp_nar .byte x2.toInt8.toInt32)))))
set_option maxHeartbeats 4000000 in
set_option maxRecDepth 100000 in
theorem tX0_put (l : Launch) (D : va_G) (d : AC) (cp : CP) (a : Nat) (x1 : Int32) (x2 : Int32) (σ : CS) {Q : Int32 → CS → Prop} (hq : wX0_put a x1 x2 σ Q) : MT D d (ΩC D d cp) l yX0_put (WS yX0_put cX0_put 3 (some (.boolean))) rmX0_put [.ref a, .int x1, .int x2] σ (qZ Q) := by
  refine mt_of (ΩC.mono D d cp) (by decide +kernel) (Nat.le_of_ble_eq_true rfl) (fun p e s m below meth c A ls hx hb hr hml hown hts hlocks hnm hK hA hw hS hl => ?_)
  have hl : lv_has ls 3 [(0, .ref a), (1, .int x1), (2, .int x2)] := hl
  have hown : s.vm.findClass RX0 = some m.cls := hown
  unfold wX0_put at hq
  refine lv_aload_n hx hb dX0_put_0 rfl (lv_at hl 0 rfl) ?_
  obtain ⟨n2, c2, f2, hm2, hq⟩ := hq
  refine c_cells4 hx hb hts hown hK hw hm2 (hts _ q_181) (fun _ h9 => h9) dX0_put_1 ?_
  refine lv_iload_n hx hb dX0_put_4 rfl (lv_at hl 1 rfl) ?_
  refine lv_iload_n hx hb dX0_put_5 rfl (lv_at hl 2 rfl) ?_
  refine lv_i2b hx hb dX0_put_6 rfl ?_
  refine c_st4 hx hb hK hw hS hm2 hq.1 dX0_put_7 (fun H locs hw hS => ?_)
  replace hq := hq.2
  refine lv_iconst (v := 1) hx hb dX0_put_8 (by decide) ?_
  exact mt_retz hx hb hr hlocks hw hS (Nat.le_of_ble_eq_true rfl) (Nat.le_of_ble_eq_true rfl) dX0_put_9 rfl ⟨_, rfl, Or.inr rfl, hq⟩
abbrev rmX5_alter : Room := { frames := 0, cells := 0, slots := 0, locals := 0 }
theorem nmhX5_alter : NoMH yX5_alter 2 := by decide +kernel
def wX5_alter (a : Nat) (x1 : Int32) (x2 : Int32) (σ : CS) (Q : Int32 → CS → Prop) : Prop :=
    ((x2 &&& (1 : Int32)) = 0 → Q (1 : Int32) σ) ∧ (¬ (x2 &&& (1 : Int32)) = 0 → (∃ (n3 c3 : Nat) (f3 : Nat → Int32), sTk σ a = some (0, n3, c3, f3) ∧ (∃ (n4 c4 : Nat) (f4 : Nat → Int32), sTk σ a = some (0, n4, c4, f4) ∧ (vp_in x1 n4 ∧ ((¬ (f4 x1.toNatClampNeg) = 0 → (vp_in x1 n3 ∧ (Q (1 : Int32) (pTk σ a (0, n3, c3, upd f3 x1.toNatClampNeg (vp_nar .boolean (0 : Int32))))))) ∧ ((f4 x1.toNatClampNeg) = 0 → (vp_in x1 n3 ∧ (Q (1 : Int32) (pTk σ a (0, n3, c3, upd f3 x1.toNatClampNeg (vp_nar .boolean (1 : Int32))))))))))))
set_option maxHeartbeats 4000000 in
set_option maxRecDepth 100000 in
theorem tX5_alter (l : Launch) (D : va_G) (d : AC) (cp : CP) (a : Nat) (x1 : Int32) (x2 : Int32) (σ : CS) {Q : Int32 → CS → Prop} (hq : wX5_alter a x1 x2 σ Q) : MT D d (ΩC D d cp) l yX5_alter (WS yX5_alter cX5_alter 3 (some (.boolean))) rmX5_alter [.ref a, .int x1, .int x2] σ (qZ Q) := by
  refine mt_of (ΩC.mono D d cp) (by decide +kernel) (Nat.le_of_ble_eq_true rfl) (fun p e s m below meth c A ls hx hb hr hml hown hts hlocks hnm hK hA hw hS hl => ?_)
  have hl : lv_has ls 3 [(0, .ref a), (1, .int x1), (2, .int x2)] := hl
  have hown : s.vm.findClass RX5 = some m.cls := hown
  unfold wX5_alter at hq
  refine lv_iload_n hx hb dX5_alter_0 rfl (lv_at hl 2 rfl) ?_
  refine lv_iconst (v := 1) hx hb dX5_alter_1 (by decide) ?_
  refine lv_iand hx hb dX5_alter_2 ?_
  refine lv_if_eq (tgt := 26) hx hb dX5_alter_3 (by decide) (fun hc => ?_) (fun hc => ?_)
  · replace hq := hq.1 hc
    refine lv_iconst (v := 1) hx hb dX5_alter_26 (by decide) ?_
    exact mt_retz hx hb hr hlocks hw hS (Nat.le_of_ble_eq_true rfl) (Nat.le_of_ble_eq_true rfl) dX5_alter_27 rfl ⟨_, rfl, Or.inr rfl, hq⟩
  · replace hq := hq.2 hc
    refine lv_aload_n hx hb dX5_alter_6 rfl (lv_at hl 0 rfl) ?_
    obtain ⟨n3, c3, f3, hm3, hq⟩ := hq
    refine c_cells0 hx hb hts hown hK hw hm3 (hts _ q_129) (fun _ h9 => h9) dX5_alter_7 ?_
    refine lv_iload_n hx hb dX5_alter_10 rfl (lv_at hl 1 rfl) ?_
    refine lv_aload_n hx hb dX5_alter_11 rfl (lv_at hl 0 rfl) ?_
    obtain ⟨n4, c4, f4, hm4, hq⟩ := hq
    refine c_cells0 hx hb hts hown hK hw hm4 (hts _ q_129) (fun _ h9 => h9) dX5_alter_12 ?_
    refine lv_iload_n hx hb dX5_alter_15 rfl (lv_at hl 1 rfl) ?_
    refine c_ld0 hx hb hK hw hm4 hq.1 dX5_alter_16 ?_
    replace hq := hq.2
    refine lv_if_ne (tgt := 24) hx hb dX5_alter_17 (by decide) (fun hc => ?_) (fun hc => ?_)
    · replace hq := hq.1 hc
      refine lv_iconst (v := 0) hx hb dX5_alter_24 (by decide) ?_
      refine c_st0 hx hb hK hw hS hm3 hq.1 dX5_alter_25 (fun H locs hw hS => ?_)
      replace hq := hq.2
      refine lv_iconst (v := 1) hx hb dX5_alter_26 (by decide) ?_
      exact mt_retz hx hb hr hlocks hw hS (Nat.le_of_ble_eq_true rfl) (Nat.le_of_ble_eq_true rfl) dX5_alter_27 rfl ⟨_, rfl, Or.inr rfl, hq⟩
    · replace hq := hq.2 hc
      refine lv_iconst (v := 1) hx hb dX5_alter_20 (by decide) ?_
      refine lv_goto (tgt := 25) hx hb dX5_alter_21 (by decide) ?_
      refine c_st0 hx hb hK hw hS hm3 hq.1 dX5_alter_25 (fun H locs hw hS => ?_)
      replace hq := hq.2
      refine lv_iconst (v := 1) hx hb dX5_alter_26 (by decide) ?_
      exact mt_retz hx hb hr hlocks hw hS (Nat.le_of_ble_eq_true rfl) (Nat.le_of_ble_eq_true rfl) dX5_alter_27 rfl ⟨_, rfl, Or.inr rfl, hq⟩
abbrev rmX6_alter : Room := { frames := 0, cells := 0, slots := 0, locals := 0 }
theorem nmhX6_alter : NoMH yX6_alter 2 := by decide +kernel
def wX6_alter (a : Nat) (x1 : Int32) (x2 : Int32) (σ : CS) (Q : Int32 → CS → Prop) : Prop :=
    ∃ (n3 c3 : Nat) (f3 : Nat → Int32), sTk σ a = some (1, n3, c3, f3) ∧ (∃ (n4 c4 : Nat) (f4 : Nat → Int32), sTk σ a = some (1, n4, c4, f4) ∧ (vp_in x1 n4 ∧ (vp_in x1 n3 ∧ (Q (1 : Int32) (pTk σ a (1, n3, c3, upd f3 x1.toNatClampNeg (vp_nar .char ((((f4 x1.toNatClampNeg) + x2).toUInt32 % 65536).toInt32))))))))
set_option maxHeartbeats 4000000 in
set_option maxRecDepth 100000 in
theorem tX6_alter (l : Launch) (D : va_G) (d : AC) (cp : CP) (a : Nat) (x1 : Int32) (x2 : Int32) (σ : CS) {Q : Int32 → CS → Prop} (hq : wX6_alter a x1 x2 σ Q) : MT D d (ΩC D d cp) l yX6_alter (WS yX6_alter cX6_alter 3 (some (.boolean))) rmX6_alter [.ref a, .int x1, .int x2] σ (qZ Q) := by
  refine mt_of (ΩC.mono D d cp) (by decide +kernel) (Nat.le_of_ble_eq_true rfl) (fun p e s m below meth c A ls hx hb hr hml hown hts hlocks hnm hK hA hw hS hl => ?_)
  have hl : lv_has ls 3 [(0, .ref a), (1, .int x1), (2, .int x2)] := hl
  have hown : s.vm.findClass RX6 = some m.cls := hown
  unfold wX6_alter at hq
  refine lv_aload_n hx hb dX6_alter_0 rfl (lv_at hl 0 rfl) ?_
  obtain ⟨n3, c3, f3, hm3, hq⟩ := hq
  refine c_cells1 hx hb hts hown hK hw hm3 (hts _ q_145) (fun _ h9 => h9) dX6_alter_1 ?_
  refine lv_iload_n hx hb dX6_alter_4 rfl (lv_at hl 1 rfl) ?_
  refine lv_aload_n hx hb dX6_alter_5 rfl (lv_at hl 0 rfl) ?_
  obtain ⟨n4, c4, f4, hm4, hq⟩ := hq
  refine c_cells1 hx hb hts hown hK hw hm4 (hts _ q_145) (fun _ h9 => h9) dX6_alter_6 ?_
  refine lv_iload_n hx hb dX6_alter_9 rfl (lv_at hl 1 rfl) ?_
  refine c_ld1 hx hb hK hw hm4 hq.1 dX6_alter_10 ?_
  replace hq := hq.2
  refine lv_iload_n hx hb dX6_alter_11 rfl (lv_at hl 2 rfl) ?_
  refine lv_iadd hx hb dX6_alter_12 ?_
  refine lv_i2c hx hb dX6_alter_13 rfl ?_
  refine c_st1 hx hb hK hw hS hm3 hq.1 dX6_alter_14 (fun H locs hw hS => ?_)
  replace hq := hq.2
  refine lv_iconst (v := 1) hx hb dX6_alter_15 (by decide) ?_
  exact mt_retz hx hb hr hlocks hw hS (Nat.le_of_ble_eq_true rfl) (Nat.le_of_ble_eq_true rfl) dX6_alter_16 rfl ⟨_, rfl, Or.inr rfl, hq⟩
abbrev rmX3_alter : Room := { frames := 0, cells := 0, slots := 0, locals := 0 }
theorem nmhX3_alter : NoMH yX3_alter 2 := by decide +kernel
def wX3_alter (a : Nat) (x1 : Int32) (x2 : Int32) (σ : CS) (Q : Int32 → CS → Prop) : Prop :=
    ∃ (n3 c3 : Nat) (f3 : Nat → Int32), sTk σ a = some (2, n3, c3, f3) ∧ (∃ (n4 c4 : Nat) (f4 : Nat → Int32), sTk σ a = some (2, n4, c4, f4) ∧ (vp_in x1 n4 ∧ (vp_in x1 n3 ∧ (Q (1 : Int32) (pTk σ a (2, n3, c3, upd f3 x1.toNatClampNeg (vp_nar .short (((f4 x1.toNatClampNeg) * x2).toInt16.toInt32))))))))
set_option maxHeartbeats 4000000 in
set_option maxRecDepth 100000 in
theorem tX3_alter (l : Launch) (D : va_G) (d : AC) (cp : CP) (a : Nat) (x1 : Int32) (x2 : Int32) (σ : CS) {Q : Int32 → CS → Prop} (hq : wX3_alter a x1 x2 σ Q) : MT D d (ΩC D d cp) l yX3_alter (WS yX3_alter cX3_alter 3 (some (.boolean))) rmX3_alter [.ref a, .int x1, .int x2] σ (qZ Q) := by
  refine mt_of (ΩC.mono D d cp) (by decide +kernel) (Nat.le_of_ble_eq_true rfl) (fun p e s m below meth c A ls hx hb hr hml hown hts hlocks hnm hK hA hw hS hl => ?_)
  have hl : lv_has ls 3 [(0, .ref a), (1, .int x1), (2, .int x2)] := hl
  have hown : s.vm.findClass RX3 = some m.cls := hown
  unfold wX3_alter at hq
  refine lv_aload_n hx hb dX3_alter_0 rfl (lv_at hl 0 rfl) ?_
  obtain ⟨n3, c3, f3, hm3, hq⟩ := hq
  refine c_cells2 hx hb hts hown hK hw hm3 (hts _ q_157) (fun _ h9 => h9) dX3_alter_1 ?_
  refine lv_iload_n hx hb dX3_alter_4 rfl (lv_at hl 1 rfl) ?_
  refine lv_aload_n hx hb dX3_alter_5 rfl (lv_at hl 0 rfl) ?_
  obtain ⟨n4, c4, f4, hm4, hq⟩ := hq
  refine c_cells2 hx hb hts hown hK hw hm4 (hts _ q_157) (fun _ h9 => h9) dX3_alter_6 ?_
  refine lv_iload_n hx hb dX3_alter_9 rfl (lv_at hl 1 rfl) ?_
  refine c_ld2 hx hb hK hw hm4 hq.1 dX3_alter_10 ?_
  replace hq := hq.2
  refine lv_iload_n hx hb dX3_alter_11 rfl (lv_at hl 2 rfl) ?_
  refine lv_imul hx hb dX3_alter_12 ?_
  refine lv_i2s hx hb dX3_alter_13 rfl ?_
  refine c_st2 hx hb hK hw hS hm3 hq.1 dX3_alter_14 (fun H locs hw hS => ?_)
  replace hq := hq.2
  refine lv_iconst (v := 1) hx hb dX3_alter_15 (by decide) ?_
  exact mt_retz hx hb hr hlocks hw hS (Nat.le_of_ble_eq_true rfl) (Nat.le_of_ble_eq_true rfl) dX3_alter_16 rfl ⟨_, rfl, Or.inr rfl, hq⟩
abbrev rmX4_alter : Room := { frames := 0, cells := 0, slots := 0, locals := 0 }
theorem nmhX4_alter : NoMH yX4_alter 2 := by decide +kernel
def wX4_alter (a : Nat) (x1 : Int32) (x2 : Int32) (σ : CS) (Q : Int32 → CS → Prop) : Prop :=
    (x2 < (-4000 : Int32) → Q (0 : Int32) σ) ∧ (¬ x2 < (-4000 : Int32) → ((x2 ≤ (4000 : Int32) → (∃ (n4 c4 : Nat) (f4 : Nat → Int32), sTk σ a = some (3, n4, c4, f4) ∧ (vp_in x1 n4 ∧ (vf_n32 (FP.fdiv (FP.i2f x2) (1082130432 : UInt32)) ∧ (vf_n32 (FP.fmul ((f4 x1.toNatClampNeg).toUInt32) (FP.fdiv (FP.i2f x2) (1082130432 : UInt32))) ∧ (∀ y5 : UInt32, y5 = (FP.fmul ((f4 x1.toNatClampNeg).toUInt32) (FP.fdiv (FP.i2f x2) (1082130432 : UInt32))) → (((Op.cmpValue (FP.fcmp y5 (3379831808 : UInt32)) CmpOp.g) < 0 → Q (0 : Int32) σ) ∧ (¬ (Op.cmpValue (FP.fcmp y5 (3379831808 : UInt32)) CmpOp.g) < 0 → (((Op.cmpValue (FP.fcmp y5 (1232348160 : UInt32)) CmpOp.l) ≤ 0 → (∃ (n6 c6 : Nat) (f6 : Nat → Int32), sTk σ a = some (3, n6, c6, f6) ∧ (vp_in x1 n6 ∧ (Q (1 : Int32) (pTk σ a (3, n6, c6, upd f6 x1.toNatClampNeg y5.toInt32)))))) ∧ (¬ (Op.cmpValue (FP.fcmp y5 (1232348160 : UInt32)) CmpOp.l) ≤ 0 → Q (0 : Int32) σ)))))))))) ∧ (¬ x2 ≤ (4000 : Int32) → Q (0 : Int32) σ)))
set_option maxHeartbeats 4000000 in
set_option maxRecDepth 100000 in
theorem tX4_alter (l : Launch) (D : va_G) (d : AC) (cp : CP) (a : Nat) (x1 : Int32) (x2 : Int32) (σ : CS) {Q : Int32 → CS → Prop} (hq : wX4_alter a x1 x2 σ Q) : MT D d (ΩC D d cp) l yX4_alter (WS yX4_alter cX4_alter 4 (some (.boolean))) rmX4_alter [.ref a, .int x1, .int x2] σ (qZ Q) := by
  refine mt_of (ΩC.mono D d cp) (by decide +kernel) (Nat.le_of_ble_eq_true rfl) (fun p e s m below meth c A ls hx hb hr hml hown hts hlocks hnm hK hA hw hS hl => ?_)
  have hl : lv_has ls 4 [(0, .ref a), (1, .int x1), (2, .int x2)] := hl
  have hown : s.vm.findClass RX4 = some m.cls := hown
  unfold wX4_alter at hq
  refine lv_iload_n hx hb dX4_alter_0 rfl (lv_at hl 2 rfl) ?_
  refine lv_sipush (v := -4000) hx hb dX4_alter_1 (by decide) ?_
  refine lv_icmp_lt (tgt := 14) hx hb dX4_alter_4 (by decide) (fun hc => ?_) (fun hc => ?_)
  · replace hq := hq.1 hc
    refine lv_iconst (v := 0) hx hb dX4_alter_14 (by decide) ?_
    exact mt_retz hx hb hr hlocks hw hS (Nat.le_of_ble_eq_true rfl) (Nat.le_of_ble_eq_true rfl) dX4_alter_15 rfl ⟨_, rfl, Or.inl rfl, hq⟩
  · replace hq := hq.2 hc
    refine lv_iload_n hx hb dX4_alter_7 rfl (lv_at hl 2 rfl) ?_
    refine lv_sipush (v := 4000) hx hb dX4_alter_8 (by decide) ?_
    refine lv_icmp_le (tgt := 16) hx hb dX4_alter_11 (by decide) (fun hc => ?_) (fun hc => ?_)
    · replace hq := hq.1 hc
      refine lv_aload_n hx hb dX4_alter_16 rfl (lv_at hl 0 rfl) ?_
      obtain ⟨n4, c4, f4, hm4, hq⟩ := hq
      refine c_cells3 hx hb hts hown hK hw hm4 (hts _ q_169) (fun _ h9 => h9) dX4_alter_17 ?_
      refine lv_iload_n hx hb dX4_alter_20 rfl (lv_at hl 1 rfl) ?_
      refine c_ld3 hx hb hK hw hm4 hq.1 dX4_alter_21 ?_
      replace hq := hq.2
      refine lv_iload_n hx hb dX4_alter_22 rfl (lv_at hl 2 rfl) ?_
      refine lv_i2f hx hb dX4_alter_23 ?_
      refine lv_ldcf (v := 1082130432) hx hb hown (hts _ q_303) dX4_alter_24 ?_
      refine lv_fdiv hx hb dX4_alter_26 hq.1 ?_
      replace hq := hq.2
      refine lv_fmul hx hb dX4_alter_27 hq.1 ?_
      replace hq := hq.2
      refine lv_topf (fun y5 ey5 => ?_)
      replace hq := hq y5 ey5
      refine lv_fstore_n (lv' := [(3, .float y5), (0, .ref a), (1, .int x1), (2, .int x2)]) hx hb dX4_alter_28 rfl hl (by decide) rfl (fun ls hl => ?_)
      refine lv_fload_n hx hb dX4_alter_29 rfl (lv_at hl 0 rfl) ?_
      refine lv_ldcf (v := 3379831808) hx hb hown (hts _ q_304) dX4_alter_30 ?_
      refine lv_fcmp hx hb dX4_alter_32 ?_
      refine lv_if_lt (tgt := 43) hx hb dX4_alter_33 (by decide) (fun hc => ?_) (fun hc => ?_)
      · replace hq := hq.1 hc
        refine lv_iconst (v := 0) hx hb dX4_alter_43 (by decide) ?_
        exact mt_retz hx hb hr hlocks hw hS (Nat.le_of_ble_eq_true rfl) (Nat.le_of_ble_eq_true rfl) dX4_alter_44 rfl ⟨_, rfl, Or.inl rfl, hq⟩
      · replace hq := hq.2 hc
        refine lv_fload_n hx hb dX4_alter_36 rfl (lv_at hl 0 rfl) ?_
        refine lv_ldcf (v := 1232348160) hx hb hown (hts _ q_305) dX4_alter_37 ?_
        refine lv_fcmp hx hb dX4_alter_39 ?_
        refine lv_if_le (tgt := 45) hx hb dX4_alter_40 (by decide) (fun hc => ?_) (fun hc => ?_)
        · replace hq := hq.1 hc
          refine lv_aload_n hx hb dX4_alter_45 rfl (lv_at hl 1 rfl) ?_
          obtain ⟨n6, c6, f6, hm6, hq⟩ := hq
          refine c_cells3 hx hb hts hown hK hw hm6 (hts _ q_169) (fun _ h9 => h9) dX4_alter_46 ?_
          refine lv_iload_n hx hb dX4_alter_49 rfl (lv_at hl 2 rfl) ?_
          refine lv_fload_n hx hb dX4_alter_50 rfl (lv_at hl 0 rfl) ?_
          refine c_st3 hx hb hK hw hS hm6 hq.1 dX4_alter_51 (fun H locs hw hS => ?_)
          replace hq := hq.2
          refine lv_iconst (v := 1) hx hb dX4_alter_52 (by decide) ?_
          exact mt_retz hx hb hr hlocks hw hS (Nat.le_of_ble_eq_true rfl) (Nat.le_of_ble_eq_true rfl) dX4_alter_53 rfl ⟨_, rfl, Or.inr rfl, hq⟩
        · replace hq := hq.2 hc
          refine lv_iconst (v := 0) hx hb dX4_alter_43 (by decide) ?_
          exact mt_retz hx hb hr hlocks hw hS (Nat.le_of_ble_eq_true rfl) (Nat.le_of_ble_eq_true rfl) dX4_alter_44 rfl ⟨_, rfl, Or.inl rfl, hq⟩
    · replace hq := hq.2 hc
      refine lv_iconst (v := 0) hx hb dX4_alter_14 (by decide) ?_
      exact mt_retz hx hb hr hlocks hw hS (Nat.le_of_ble_eq_true rfl) (Nat.le_of_ble_eq_true rfl) dX4_alter_15 rfl ⟨_, rfl, Or.inl rfl, hq⟩
abbrev rmX0_alter : Room := { frames := 0, cells := 0, slots := 0, locals := 0 }
theorem nmhX0_alter : NoMH yX0_alter 2 := by decide +kernel
def wX0_alter (a : Nat) (x1 : Int32) (x2 : Int32) (σ : CS) (Q : Int32 → CS → Prop) : Prop :=
    ∃ (n3 c3 : Nat) (f3 : Nat → Int32), sTk σ a = some (4, n3, c3, f3) ∧ (∃ (n4 c4 : Nat) (f4 : Nat → Int32), sTk σ a = some (4, n4, c4, f4) ∧ (vp_in x1 n4 ∧ (vp_in x1 n3 ∧ (Q (1 : Int32) (pTk σ a (4, n3, c3, upd f3 x1.toNatClampNeg (vp_nar .byte (((f4 x1.toNatClampNeg) - x2).toInt8.toInt32))))))))
set_option maxHeartbeats 4000000 in
set_option maxRecDepth 100000 in
theorem tX0_alter (l : Launch) (D : va_G) (d : AC) (cp : CP) (a : Nat) (x1 : Int32) (x2 : Int32) (σ : CS) {Q : Int32 → CS → Prop} (hq : wX0_alter a x1 x2 σ Q) : MT D d (ΩC D d cp) l yX0_alter (WS yX0_alter cX0_alter 3 (some (.boolean))) rmX0_alter [.ref a, .int x1, .int x2] σ (qZ Q) := by
  refine mt_of (ΩC.mono D d cp) (by decide +kernel) (Nat.le_of_ble_eq_true rfl) (fun p e s m below meth c A ls hx hb hr hml hown hts hlocks hnm hK hA hw hS hl => ?_)
  have hl : lv_has ls 3 [(0, .ref a), (1, .int x1), (2, .int x2)] := hl
  have hown : s.vm.findClass RX0 = some m.cls := hown
  unfold wX0_alter at hq
  refine lv_aload_n hx hb dX0_alter_0 rfl (lv_at hl 0 rfl) ?_
  obtain ⟨n3, c3, f3, hm3, hq⟩ := hq
  refine c_cells4 hx hb hts hown hK hw hm3 (hts _ q_181) (fun _ h9 => h9) dX0_alter_1 ?_
  refine lv_iload_n hx hb dX0_alter_4 rfl (lv_at hl 1 rfl) ?_
  refine lv_aload_n hx hb dX0_alter_5 rfl (lv_at hl 0 rfl) ?_
  obtain ⟨n4, c4, f4, hm4, hq⟩ := hq
  refine c_cells4 hx hb hts hown hK hw hm4 (hts _ q_181) (fun _ h9 => h9) dX0_alter_6 ?_
  refine lv_iload_n hx hb dX0_alter_9 rfl (lv_at hl 1 rfl) ?_
  refine c_ld4 hx hb hK hw hm4 hq.1 dX0_alter_10 ?_
  replace hq := hq.2
  refine lv_iload_n hx hb dX0_alter_11 rfl (lv_at hl 2 rfl) ?_
  refine lv_isub hx hb dX0_alter_12 ?_
  refine lv_i2b hx hb dX0_alter_13 rfl ?_
  refine c_st4 hx hb hK hw hS hm3 hq.1 dX0_alter_14 (fun H locs hw hS => ?_)
  replace hq := hq.2
  refine lv_iconst (v := 1) hx hb dX0_alter_15 (by decide) ?_
  exact mt_retz hx hb hr hlocks hw hS (Nat.le_of_ble_eq_true rfl) (Nat.le_of_ble_eq_true rfl) dX0_alter_16 rfl ⟨_, rfl, Or.inr rfl, hq⟩
