theorem sw3 (x : Int32) : (x.toInt < 0 ∨ 2 < x.toInt) ∨ x.toInt = 0 ∨ x.toInt = 1 ∨ x.toInt = 2 := by omega
/-! one field of a drum anew -/
abbrev dHd (v : DF) (x : Int32) : DF := (x, v.2)
abbrev dNo (v : DF) (x : Int32) : DF := (v.1, x, v.2.2)
abbrev dPp (v : DF) (x : Int32) : DF := (v.1, v.2.1, x, v.2.2.2)
abbrev dGp (v : DF) (x : Int32) : DF := (v.1, v.2.1, v.2.2.1, x, v.2.2.2.2)
abbrev dWt (v : DF) (x : Int64) : DF := (v.1, v.2.1, v.2.2.1, v.2.2.2.1, x, v.2.2.2.2.2)
abbrev dHp (v : DF) (x : Int32) : DF := (v.1, v.2.1, v.2.2.1, v.2.2.2.1, v.2.2.2.2.1, x, v.2.2.2.2.2.2)
abbrev dGl (v : DF) (x : UInt32) : DF := (v.1, v.2.1, v.2.2.1, v.2.2.2.1, v.2.2.2.2.1, v.2.2.2.2.2.1, x)
abbrev pHd (σ : CS) (i : Nat) (x : Int32) : CS := pDf σ i (dHd (sDf σ i) x)
abbrev pNo (σ : CS) (i : Nat) (x : Int32) : CS := pDf σ i (dNo (sDf σ i) x)
abbrev pPp (σ : CS) (i : Nat) (x : Int32) : CS := pDf σ i (dPp (sDf σ i) x)
abbrev pGp (σ : CS) (i : Nat) (x : Int32) : CS := pDf σ i (dGp (sDf σ i) x)
abbrev pWt (σ : CS) (i : Nat) (x : Int64) : CS := pDf σ i (dWt (sDf σ i) x)
abbrev pHp (σ : CS) (i : Nat) (x : Int32) : CS := pDf σ i (dHp (sDf σ i) x)
abbrev pGl (σ : CS) (i : Nat) (x : UInt32) : CS := pDf σ i (dGl (sDf σ i) x)
abbrev rmX1_countLacking : Room := { frames := 0, cells := 0, slots := 0, locals := 0 }
theorem nmhX1_countLacking : NoMH yX1_countLacking 0 := by decide +kernel
def wX1_countLacking_b4 (b : Nat) (Q : Int32 → CS → Prop) : Nat → Int32 → Int32 → CS → Prop
  | 0, _, _, _ => False
  | n + 1, v1, v2, σ =>
    ∃ (k22 : Int32) (n22 te22 : Nat) (tt22 : Nat → Option Nat), sCm σ b = some (k22, n22, te22, tt22) ∧ (((nI n22) ≤ v2 → Q v1 σ) ∧ (¬ (nI n22) ≤ v2 → (∃ (k23 : Int32) (n23 te23 : Nat) (tt23 : Nat → Option Nat), sCm σ b = some (k23, n23, te23, tt23) ∧ (vp_in v2 n23 ∧ (∀ o24 : Option Nat, o24 = tt23 v2.toNatClampNeg → ((o24 = none → (∀ y27 : Int32, y27 = v1 + 1 → (∀ y28 : Int32, y28 = v2 + 1 → (wX1_countLacking_b4 b Q n y27 y28 σ)))) ∧ (∀ a25 : Nat, o24 = some a25 → (∀ y26 : Int32, y26 = v2 + 1 → (wX1_countLacking_b4 b Q n v1 y26 σ)))))))))
theorem wX1_countLacking_b4_s (b : Nat) (Q : Int32 → CS → Prop) (n : Nat) (v1 : Int32) (v2 : Int32) (σ : CS) : wX1_countLacking_b4 b Q (n + 1) v1 v2 σ = (
    ∃ (k22 : Int32) (n22 te22 : Nat) (tt22 : Nat → Option Nat), sCm σ b = some (k22, n22, te22, tt22) ∧ (((nI n22) ≤ v2 → Q v1 σ) ∧ (¬ (nI n22) ≤ v2 → (∃ (k23 : Int32) (n23 te23 : Nat) (tt23 : Nat → Option Nat), sCm σ b = some (k23, n23, te23, tt23) ∧ (vp_in v2 n23 ∧ (∀ o24 : Option Nat, o24 = tt23 v2.toNatClampNeg → ((o24 = none → (∀ y27 : Int32, y27 = v1 + 1 → (∀ y28 : Int32, y28 = v2 + 1 → (wX1_countLacking_b4 b Q n y27 y28 σ)))) ∧ (∀ a25 : Nat, o24 = some a25 → (∀ y26 : Int32, y26 = v2 + 1 → (wX1_countLacking_b4 b Q n v1 y26 σ)))))))))) := rfl
def wX1_countLacking (b : Nat) (σ : CS) (Q : Int32 → CS → Prop) : Prop :=
    ∃ k4 : Nat, wX1_countLacking_b4 b Q k4 (0 : Int32) (0 : Int32) σ
set_option maxHeartbeats 4000000 in
set_option maxRecDepth 100000 in
theorem tX1_countLacking (l : Launch) (D : va_G) (d : AC) (cp : CP) (b : Nat) (σ : CS) {Q : Int32 → CS → Prop} (hq : wX1_countLacking b σ Q) : MT D d (ΩC D d cp) l yX1_countLacking (WS yX1_countLacking cX1_countLacking 3 (some (.int))) rmX1_countLacking [.ref b] σ (qI Q) := by
  refine mt_of (ΩC.mono D d cp) (by decide +kernel) (Nat.le_of_ble_eq_true rfl) (fun p e s m below meth c A ls hx hb hr hml hown hts hlocks hnm hK hA hw hS hl => ?_)
  have hl : lv_has ls 3 [(0, .ref b)] := hl
  have hown : s.vm.findClass RX1 = some m.cls := hown
  have b4 : ∀ (n : Nat) (v1 : Int32) (v2 : Int32) (σ : CS) (H : Heap) (locs : List Loc) (ls : Array Slot), wX1_countLacking_b4 b Q n v1 v2 σ → (ΩC D d cp) A σ H → va_S A s.heap H locs → lv_has ls 3 [(0, .ref b), (1, .int v1), (2, .int v2)] → W p l e rmX1_countLacking s m [.ref b].toArray below meth c H locs 0 0 (MQ below (Qo (qI Q) (fun u' t => (ΩC D d cp) A u' t.heap) A) [.ref b].toArray s rmX1_countLacking.cells rmX1_countLacking.slots A) (F0 m 4 ls []) := by
    intro n
    induction n with
    | zero =>
      intro v1 v2 σ H locs ls hq
      exact absurd hq id
    | succ n ih =>
      intro v1 v2 σ H locs ls hq hw hS hl
      rw [wX1_countLacking_b4_s] at hq
      refine lv_iload_n hx hb dX1_countLacking_4 rfl (lv_at hl 2 rfl) ?_
      refine lv_aload_n hx hb dX1_countLacking_5 rfl (lv_at hl 0 rfl) ?_
      obtain ⟨k22, n22, te22, tt22, hm22, hq⟩ := hq
      refine c_getc hx hb hts hown hK hw hm22 1 (by decide) (hts _ q_387) (fun _ h9 => h9) rfl dX1_countLacking_6 ?_
      refine c_lente hx hb hK hw hm22 dX1_countLacking_9 ?_
      refine lv_icmp_ge (tgt := 31) hx hb dX1_countLacking_10 (by decide) (fun hc => ?_) (fun hc => ?_)
      · replace hq := hq.1 hc
        refine lv_iload_n hx hb dX1_countLacking_31 rfl (lv_at hl 1 rfl) ?_
        exact mt_reti hx hb hr hlocks hw hS (Nat.le_of_ble_eq_true rfl) (Nat.le_of_ble_eq_true rfl) dX1_countLacking_32 ⟨_, rfl, hq⟩
      · replace hq := hq.2 hc
        refine lv_aload_n hx hb dX1_countLacking_13 rfl (lv_at hl 0 rfl) ?_
        obtain ⟨k23, n23, te23, tt23, hm23, hq⟩ := hq
        refine c_getc hx hb hts hown hK hw hm23 1 (by decide) (hts _ q_387) (fun _ h9 => h9) rfl dX1_countLacking_14 ?_
        refine lv_iload_n hx hb dX1_countLacking_17 rfl (lv_at hl 2 rfl) ?_
        refine c_ldte hx hb hK hw hm23 hq.1 dX1_countLacking_18 ?_
        replace hq := hq.2
        refine lv_topq (fun o24 eo24 => ?_)
        replace hq := hq o24 eo24
        refine lv_ifnonnullq (tgt := 25) hx hb dX1_countLacking_19 (by decide) (fun a25 hc => ?_) (fun hc => ?_)
        · replace hq := hq.2 a25 hc
          subst hc
          have hl : lv_has ls 3 [(0, .ref b), (1, .int v1), (2, .int v2)] := hl
          obtain ⟨y26, ey26⟩ : ∃ z : Int32, z = v2 + 1 := ⟨_, rfl⟩
          replace hq := hq y26 ey26
          refine lv_iinc (v := y26) (lv' := [(2, .int y26), (0, .ref b), (1, .int v1)]) hx hb dX1_countLacking_25 hl (k := 2) rfl (by rw [ey26]; rfl) (by decide) rfl (fun ls hl => ?_)
          refine lv_goto (tgt := 4) hx hb dX1_countLacking_28 (by decide) ?_
          exact ih v1 y26 σ _ _ _ hq hw hS (lv_sub hl [1, 2, 0] rfl)
        · replace hq := hq.1 hc
          subst hc
          have hl : lv_has ls 3 [(0, .ref b), (1, .int v1), (2, .int v2)] := hl
          obtain ⟨y27, ey27⟩ : ∃ z : Int32, z = v1 + 1 := ⟨_, rfl⟩
          replace hq := hq y27 ey27
          refine lv_iinc (v := y27) (lv' := [(1, .int y27), (0, .ref b), (2, .int v2)]) hx hb dX1_countLacking_22 hl (k := 1) rfl (by rw [ey27]; rfl) (by decide) rfl (fun ls hl => ?_)
          obtain ⟨y28, ey28⟩ : ∃ z : Int32, z = v2 + 1 := ⟨_, rfl⟩
          replace hq := hq y28 ey28
          refine lv_iinc (v := y28) (lv' := [(2, .int y28), (1, .int y27), (0, .ref b)]) hx hb dX1_countLacking_25 hl (k := 2) rfl (by rw [ey28]; rfl) (by decide) rfl (fun ls hl => ?_)
          refine lv_goto (tgt := 4) hx hb dX1_countLacking_28 (by decide) ?_
          exact ih y27 y28 σ _ _ _ hq hw hS (lv_sub hl [2, 1, 0] rfl)
  unfold wX1_countLacking at hq
  refine lv_iconst (v := 0) hx hb dX1_countLacking_0 (by decide) ?_
  refine lv_istore_n (lv' := [(1, .int (0 : Int32)), (0, .ref b)]) hx hb dX1_countLacking_1 rfl hl (by decide) rfl (fun ls hl => ?_)
  refine lv_iconst (v := 0) hx hb dX1_countLacking_2 (by decide) ?_
  refine lv_istore_n (lv' := [(2, .int (0 : Int32)), (1, .int (0 : Int32)), (0, .ref b)]) hx hb dX1_countLacking_3 rfl hl (by decide) rfl (fun ls hl => ?_)
  obtain ⟨k4, hq⟩ := hq
  exact b4 k4 (0 : Int32) (0 : Int32) σ _ _ _ hq hw hS (lv_sub hl [2, 1, 0] rfl)
abbrev rmX1_countPlaces : Room := { frames := 0, cells := 0, slots := 0, locals := 0 }
theorem nmhX1_countPlaces : NoMH yX1_countPlaces 0 := by decide +kernel
def wX1_countPlaces_b4 (b : Nat) (Q : Int32 → CS → Prop) : Nat → Int32 → Int32 → CS → Prop
  | 0, _, _, _ => False
  | n + 1, v1, v2, σ =>
    ∃ (k25 : Int32) (n25 te25 : Nat) (tt25 : Nat → Option Nat), sCm σ b = some (k25, n25, te25, tt25) ∧ (((nI n25) ≤ v2 → Q v1 σ) ∧ (¬ (nI n25) ≤ v2 → (∃ (k26 : Int32) (n26 te26 : Nat) (tt26 : Nat → Option Nat), sCm σ b = some (k26, n26, te26, tt26) ∧ (vp_in v2 n26 ∧ (∀ o27 : Option Nat, o27 = tt26 v2.toNatClampNeg → ((o27 = none → (∀ y29 : Int32, y29 = v2 + 1 → (wX1_countPlaces_b4 b Q n v1 y29 σ))) ∧ (∀ a28 : Nat, o27 = some a28 → (∃ (kd30 n30 c30 : Nat) (f30 : Nat → Int32), sTk σ a28 = some (kd30, n30, c30, f30) ∧ (∀ y31 : Int32, y31 = (v1 + (nI n30)) → (∀ y32 : Int32, y32 = v2 + 1 → (wX1_countPlaces_b4 b Q n y31 y32 σ)))))))))))
theorem wX1_countPlaces_b4_s (b : Nat) (Q : Int32 → CS → Prop) (n : Nat) (v1 : Int32) (v2 : Int32) (σ : CS) : wX1_countPlaces_b4 b Q (n + 1) v1 v2 σ = (
    ∃ (k25 : Int32) (n25 te25 : Nat) (tt25 : Nat → Option Nat), sCm σ b = some (k25, n25, te25, tt25) ∧ (((nI n25) ≤ v2 → Q v1 σ) ∧ (¬ (nI n25) ≤ v2 → (∃ (k26 : Int32) (n26 te26 : Nat) (tt26 : Nat → Option Nat), sCm σ b = some (k26, n26, te26, tt26) ∧ (vp_in v2 n26 ∧ (∀ o27 : Option Nat, o27 = tt26 v2.toNatClampNeg → ((o27 = none → (∀ y29 : Int32, y29 = v2 + 1 → (wX1_countPlaces_b4 b Q n v1 y29 σ))) ∧ (∀ a28 : Nat, o27 = some a28 → (∃ (kd30 n30 c30 : Nat) (f30 : Nat → Int32), sTk σ a28 = some (kd30, n30, c30, f30) ∧ (∀ y31 : Int32, y31 = (v1 + (nI n30)) → (∀ y32 : Int32, y32 = v2 + 1 → (wX1_countPlaces_b4 b Q n y31 y32 σ)))))))))))) := rfl
def wX1_countPlaces (b : Nat) (σ : CS) (Q : Int32 → CS → Prop) : Prop :=
    ∃ k4 : Nat, wX1_countPlaces_b4 b Q k4 (0 : Int32) (0 : Int32) σ
set_option maxHeartbeats 4000000 in
set_option maxRecDepth 100000 in
theorem tX1_countPlaces (l : Launch) (D : va_G) (d : AC) (cp : CP) (b : Nat) (σ : CS) {Q : Int32 → CS → Prop} (hq : wX1_countPlaces b σ Q) : MT D d (ΩC D d cp) l yX1_countPlaces (WS yX1_countPlaces cX1_countPlaces 4 (some (.int))) rmX1_countPlaces [.ref b] σ (qI Q) := by
  refine mt_of (ΩC.mono D d cp) (by decide +kernel) (Nat.le_of_ble_eq_true rfl) (fun p e s m below meth c A ls hx hb hr hml hown hts hlocks hnm hK hA hw hS hl => ?_)
  have hl : lv_has ls 4 [(0, .ref b)] := hl
  have hown : s.vm.findClass RX1 = some m.cls := hown
  have b4 : ∀ (n : Nat) (v1 : Int32) (v2 : Int32) (σ : CS) (H : Heap) (locs : List Loc) (ls : Array Slot), wX1_countPlaces_b4 b Q n v1 v2 σ → (ΩC D d cp) A σ H → va_S A s.heap H locs → lv_has ls 4 [(0, .ref b), (1, .int v1), (2, .int v2)] → W p l e rmX1_countPlaces s m [.ref b].toArray below meth c H locs 0 0 (MQ below (Qo (qI Q) (fun u' t => (ΩC D d cp) A u' t.heap) A) [.ref b].toArray s rmX1_countPlaces.cells rmX1_countPlaces.slots A) (F0 m 4 ls []) := by
    intro n
    induction n with
    | zero =>
      intro v1 v2 σ H locs ls hq
      exact absurd hq id
    | succ n ih =>
      intro v1 v2 σ H locs ls hq hw hS hl
      rw [wX1_countPlaces_b4_s] at hq
      refine lv_iload_n hx hb dX1_countPlaces_4 rfl (lv_at hl 2 rfl) ?_
      refine lv_aload_n hx hb dX1_countPlaces_5 rfl (lv_at hl 0 rfl) ?_
      obtain ⟨k25, n25, te25, tt25, hm25, hq⟩ := hq
      refine c_getc hx hb hts hown hK hw hm25 1 (by decide) (hts _ q_387) (fun _ h9 => h9) rfl dX1_countPlaces_6 ?_
      refine c_lente hx hb hK hw hm25 dX1_countPlaces_9 ?_
      refine lv_icmp_ge (tgt := 37) hx hb dX1_countPlaces_10 (by decide) (fun hc => ?_) (fun hc => ?_)
      · replace hq := hq.1 hc
        refine lv_iload_n hx hb dX1_countPlaces_37 rfl (lv_at hl 1 rfl) ?_
        exact mt_reti hx hb hr hlocks hw hS (Nat.le_of_ble_eq_true rfl) (Nat.le_of_ble_eq_true rfl) dX1_countPlaces_38 ⟨_, rfl, hq⟩
      · replace hq := hq.2 hc
        refine lv_aload_n hx hb dX1_countPlaces_13 rfl (lv_at hl 0 rfl) ?_
        obtain ⟨k26, n26, te26, tt26, hm26, hq⟩ := hq
        refine c_getc hx hb hts hown hK hw hm26 1 (by decide) (hts _ q_387) (fun _ h9 => h9) rfl dX1_countPlaces_14 ?_
        refine lv_iload_n hx hb dX1_countPlaces_17 rfl (lv_at hl 2 rfl) ?_
        refine c_ldte hx hb hK hw hm26 hq.1 dX1_countPlaces_18 ?_
        replace hq := hq.2
        refine lv_topq (fun o27 eo27 => ?_)
        replace hq := hq o27 eo27
        refine lv_astoreq_n (lv' := [(3, va_rf o27), (0, .ref b), (1, .int v1), (2, .int v2)]) hx hb dX1_countPlaces_19 rfl hl (by decide) rfl (fun ls hl => ?_)
        refine lv_aloadq_n hx hb dX1_countPlaces_20 rfl (lv_at hl 0 rfl) ?_
        refine lv_ifnullq (tgt := 31) hx hb dX1_countPlaces_21 (by decide) (fun hc => ?_) (fun a28 hc => ?_)
        · replace hq := hq.1 hc
          subst hc
          have hl : lv_has ls 4 [(3, .null), (0, .ref b), (1, .int v1), (2, .int v2)] := hl
          obtain ⟨y29, ey29⟩ : ∃ z : Int32, z = v2 + 1 := ⟨_, rfl⟩
          replace hq := hq y29 ey29
          refine lv_iinc (v := y29) (lv' := [(2, .int y29), (3, .null), (0, .ref b), (1, .int v1)]) hx hb dX1_countPlaces_31 hl (k := 3) rfl (by rw [ey29]; rfl) (by decide) rfl (fun ls hl => ?_)
          refine lv_goto (tgt := 4) hx hb dX1_countPlaces_34 (by decide) ?_
          exact ih v1 y29 σ _ _ _ hq hw hS (lv_sub hl [2, 3, 0] rfl)
        · replace hq := hq.2 a28 hc
          subst hc
          have hl : lv_has ls 4 [(3, .ref a28), (0, .ref b), (1, .int v1), (2, .int v2)] := hl
          refine lv_iload_n hx hb dX1_countPlaces_24 rfl (lv_at hl 2 rfl) ?_
          refine lv_aload_n hx hb dX1_countPlaces_25 rfl (lv_at hl 0 rfl) ?_
          obtain ⟨kd30, n30, c30, f30, hm30, hq⟩ := hq
          refine c_gete hx hb hts hown hK hw hm30 (hts _ q_132) dX1_countPlaces_26 ?_
          refine lv_iadd hx hb dX1_countPlaces_29 ?_
          refine lv_topi (fun y31 ey31 => ?_)
          replace hq := hq y31 ey31
          refine lv_istore_n (lv' := [(1, .int y31), (3, .ref a28), (0, .ref b), (2, .int v2)]) hx hb dX1_countPlaces_30 rfl hl (by decide) rfl (fun ls hl => ?_)
          obtain ⟨y32, ey32⟩ : ∃ z : Int32, z = v2 + 1 := ⟨_, rfl⟩
          replace hq := hq y32 ey32
          refine lv_iinc (v := y32) (lv' := [(2, .int y32), (1, .int y31), (3, .ref a28), (0, .ref b)]) hx hb dX1_countPlaces_31 hl (k := 3) rfl (by rw [ey32]; rfl) (by decide) rfl (fun ls hl => ?_)
          refine lv_goto (tgt := 4) hx hb dX1_countPlaces_34 (by decide) ?_
          exact ih y31 y32 σ _ _ _ hq hw hS (lv_sub hl [3, 1, 0] rfl)
  unfold wX1_countPlaces at hq
  refine lv_iconst (v := 0) hx hb dX1_countPlaces_0 (by decide) ?_
  refine lv_istore_n (lv' := [(1, .int (0 : Int32)), (0, .ref b)]) hx hb dX1_countPlaces_1 rfl hl (by decide) rfl (fun ls hl => ?_)
  refine lv_iconst (v := 0) hx hb dX1_countPlaces_2 (by decide) ?_
  refine lv_istore_n (lv' := [(2, .int (0 : Int32)), (1, .int (0 : Int32)), (0, .ref b)]) hx hb dX1_countPlaces_3 rfl hl (by decide) rfl (fun ls hl => ?_)
  obtain ⟨k4, hq⟩ := hq
  exact b4 k4 (0 : Int32) (0 : Int32) σ _ _ _ hq hw hS (lv_sub hl [2, 1, 0] rfl)
abbrev rmX1_tell : Room := { frames := 1, cells := 0, slots := 0, locals := 23 }
theorem nmhX1_tell : NoMH yX1_tell 1 := by decide +kernel
def wX1_tell (b : Nat) (x1 : Int32) (σ : CS) (Q : Int32 → CS → Prop) : Prop :=
    (x1.toInt < 0 ∨ 2 < x1.toInt → (∃ mm : CM, sCm σ b = some mm ∧ wX1_countPlaces b σ (fun r7 u8 => Q r7 u8))) ∧ (x1.toInt = 0 → (∃ (k9 : Int32) (n9 te9 : Nat) (tt9 : Nat → Option Nat), sCm σ b = some (k9, n9, te9, tt9) ∧ Q k9 σ)) ∧ (x1.toInt = 1 → (∃ (k10 : Int32) (n10 te10 : Nat) (tt10 : Nat → Option Nat), sCm σ b = some (k10, n10, te10, tt10) ∧ Q (nI n10) σ)) ∧ (x1.toInt = 2 → (∃ mm : CM, sCm σ b = some mm ∧ wX1_countLacking b σ (fun r11 u12 => Q r11 u12)))
set_option maxHeartbeats 4000000 in
set_option maxRecDepth 100000 in
theorem tX1_tell (l : Launch) (D : va_G) (d : AC) (cp : CP) (b : Nat) (x1 : Int32) (σ : CS) {Q : Int32 → CS → Prop} (hq : wX1_tell b x1 σ Q) : MT D d (ΩC D d cp) l yX1_tell (WS yX1_tell cX1_tell 2 (some (.int))) rmX1_tell [.ref b, .int x1] σ (qI Q) := by
  refine mt_of (ΩC.mono D d cp) (by decide +kernel) (Nat.le_of_ble_eq_true rfl) (fun p e s m below meth c A ls hx hb hr hml hown hts hlocks hnm hK hA hw hS hl => ?_)
  have hl : lv_has ls 2 [(0, .ref b), (1, .int x1)] := hl
  have hown : s.vm.findClass RX1 = some m.cls := hown
  unfold wX1_tell at hq
  refine lv_iload_n hx hb dX1_tell_0 rfl (lv_at hl 1 rfl) ?_
  rcases sw3 x1 with hc | hc | hc | hc
  · replace hq := hq.1 hc
    refine lv_tableOut (tgt := 44) hx hb dX1_tell_1 (by first | omega | exact hc) (by decide) ?_
    refine lv_aload_n hx hb dX1_tell_44 rfl (lv_at hl 0 rfl) ?_
    obtain ⟨mm, hm, hq⟩ := hq
    refine mt_callV (index := 23) hx hb hml hown hts hK (ΩC.mono D d cp) hA hw hS hl.1 (tX1_countPlaces l D d cp b σ hq) (c_recvB hK hw hm) q_417 q_42 q_414 q_416 q_14 nmhX1_countPlaces ⟨⟨Nat.le_of_ble_eq_true rfl, Nat.le_of_ble_eq_true rfl⟩, ⟨Nat.le_of_ble_eq_true rfl, Nat.le_of_ble_eq_true rfl⟩⟩ rfl (Nat.le_of_ble_eq_true rfl) dX1_tell_45 (fun _ u8 H locs hq hw hS => ?_)
    obtain ⟨r7, rfl, hq⟩ := hq
    refine W.eq (g2 := F0 m 48 ls [.int r7]) rfl ?_
    exact mt_reti hx hb hr hlocks hw hS (Nat.le_of_ble_eq_true rfl) (Nat.le_of_ble_eq_true rfl) dX1_tell_48 ⟨_, rfl, hq⟩
  · replace hq := hq.2.1 hc
    refine lv_tableIn (tgt := 28) hx hb dX1_tell_1 (by rw [hc]; decide) (by rw [hc]; decide) (by rw [hc]; rfl) (by decide) ?_
    refine lv_aload_n hx hb dX1_tell_28 rfl (lv_at hl 0 rfl) ?_
    obtain ⟨k9, n9, te9, tt9, hm9, hq⟩ := hq
    refine c_getc hx hb hts hown hK hw hm9 0 (by decide) (hts _ q_385) (fun _ h9 => h9) rfl dX1_tell_29 ?_
    exact mt_reti hx hb hr hlocks hw hS (Nat.le_of_ble_eq_true rfl) (Nat.le_of_ble_eq_true rfl) dX1_tell_32 ⟨_, rfl, hq⟩
  · replace hq := hq.2.2.1 hc
    refine lv_tableIn (tgt := 33) hx hb dX1_tell_1 (by rw [hc]; decide) (by rw [hc]; decide) (by rw [hc]; rfl) (by decide) ?_
    refine lv_aload_n hx hb dX1_tell_33 rfl (lv_at hl 0 rfl) ?_
    obtain ⟨k10, n10, te10, tt10, hm10, hq⟩ := hq
    refine c_getc hx hb hts hown hK hw hm10 1 (by decide) (hts _ q_387) (fun _ h9 => h9) rfl dX1_tell_34 ?_
    refine c_lente hx hb hK hw hm10 dX1_tell_37 ?_
    exact mt_reti hx hb hr hlocks hw hS (Nat.le_of_ble_eq_true rfl) (Nat.le_of_ble_eq_true rfl) dX1_tell_38 ⟨_, rfl, hq⟩
  · replace hq := hq.2.2.2 hc
    refine lv_tableIn (tgt := 39) hx hb dX1_tell_1 (by rw [hc]; decide) (by rw [hc]; decide) (by rw [hc]; rfl) (by decide) ?_
    refine lv_aload_n hx hb dX1_tell_39 rfl (lv_at hl 0 rfl) ?_
    obtain ⟨mm, hm, hq⟩ := hq
    refine mt_callV (index := 19) hx hb hml hown hts hK (ΩC.mono D d cp) hA hw hS hl.1 (tX1_countLacking l D d cp b σ hq) (c_recvB hK hw hm) q_413 q_42 q_410 q_412 q_13 nmhX1_countLacking ⟨⟨Nat.le_of_ble_eq_true rfl, Nat.le_of_ble_eq_true rfl⟩, ⟨Nat.le_of_ble_eq_true rfl, Nat.le_of_ble_eq_true rfl⟩⟩ rfl (Nat.le_of_ble_eq_true rfl) dX1_tell_40 (fun _ u12 H locs hq hw hS => ?_)
    obtain ⟨r11, rfl, hq⟩ := hq
    refine W.eq (g2 := F0 m 43 ls [.int r11]) rfl ?_
    exact mt_reti hx hb hr hlocks hw hS (Nat.le_of_ble_eq_true rfl) (Nat.le_of_ble_eq_true rfl) dX1_tell_43 ⟨_, rfl, hq⟩
abbrev rmX2_someTrackHas : Room := { frames := 1, cells := 0, slots := 0, locals := 21 }
theorem nmhX2_someTrackHas : NoMH yX2_someTrackHas 1 := by decide +kernel
def wX2_someTrackHas_b2 (i : Nat) (x1 : Int32) (Q : Int32 → CS → Prop) : Nat → Int32 → CS → Prop
  | 0, _, _ => False
  | n + 1, v2, σ =>
    ((5 : Int32) ≤ v2 → Q (0 : Int32) σ) ∧ (¬ (5 : Int32) ≤ v2 → (vp_in v2 5 ∧ (∀ o13 : Option Nat, o13 = sSl σ i v2.toNatClampNeg → ((o13 = none → (∀ y15 : Int32, y15 = v2 + 1 → (wX2_someTrackHas_b2 i x1 Q n y15 σ))) ∧ (∀ a14 : Nat, o13 = some a14 → (wT_hasPlace a14 x1 σ (fun r16 u17 => (r16 = 0 → (∀ y18 : Int32, y18 = v2 + 1 → (wX2_someTrackHas_b2 i x1 Q n y18 u17))) ∧ (¬ r16 = 0 → Q (1 : Int32) u17))))))))
theorem wX2_someTrackHas_b2_s (i : Nat) (x1 : Int32) (Q : Int32 → CS → Prop) (n : Nat) (v2 : Int32) (σ : CS) : wX2_someTrackHas_b2 i x1 Q (n + 1) v2 σ = (
    ((5 : Int32) ≤ v2 → Q (0 : Int32) σ) ∧ (¬ (5 : Int32) ≤ v2 → (vp_in v2 5 ∧ (∀ o13 : Option Nat, o13 = sSl σ i v2.toNatClampNeg → ((o13 = none → (∀ y15 : Int32, y15 = v2 + 1 → (wX2_someTrackHas_b2 i x1 Q n y15 σ))) ∧ (∀ a14 : Nat, o13 = some a14 → (wT_hasPlace a14 x1 σ (fun r16 u17 => (r16 = 0 → (∀ y18 : Int32, y18 = v2 + 1 → (wX2_someTrackHas_b2 i x1 Q n y18 u17))) ∧ (¬ r16 = 0 → Q (1 : Int32) u17))))))))) := rfl
def wX2_someTrackHas (i : Nat) (x1 : Int32) (σ : CS) (Q : Int32 → CS → Prop) : Prop :=
    ∃ k2 : Nat, wX2_someTrackHas_b2 i x1 Q k2 (0 : Int32) σ
set_option maxHeartbeats 4000000 in
set_option maxRecDepth 100000 in
theorem tX2_someTrackHas (l : Launch) (D : va_G) (d : AC) (cp : CP) (i : Nat) (x1 : Int32) (σ : CS) {Q : Int32 → CS → Prop} (hi : i < 8) (hq : wX2_someTrackHas i x1 σ Q) : MT D d (ΩC D d cp) l yX2_someTrackHas (WS yX2_someTrackHas cX2_someTrackHas 4 (some (.boolean))) rmX2_someTrackHas [.ref (aDr cp i), .int x1] σ (qZ Q) := by
  refine mt_of (ΩC.mono D d cp) (by decide +kernel) (Nat.le_of_ble_eq_true rfl) (fun p e s m below meth c A ls hx hb hr hml hown hts hlocks hnm hK hA hw hS hl => ?_)
  have hl : lv_has ls 4 [(0, .ref (aDr cp i)), (1, .int x1)] := hl
  have hown : s.vm.findClass RX2 = some m.cls := hown
  have b2 : ∀ (n : Nat) (v2 : Int32) (σ : CS) (H : Heap) (locs : List Loc) (ls : Array Slot), wX2_someTrackHas_b2 i x1 Q n v2 σ → (ΩC D d cp) A σ H → va_S A s.heap H locs → lv_has ls 4 [(0, .ref (aDr cp i)), (1, .int x1), (2, .int v2)] → W p l e rmX2_someTrackHas s m [.ref (aDr cp i), .int x1].toArray below meth c H locs 0 0 (MQ below (Qo (qZ Q) (fun u' t => (ΩC D d cp) A u' t.heap) A) [.ref (aDr cp i), .int x1].toArray s rmX2_someTrackHas.cells rmX2_someTrackHas.slots A) (F0 m 2 ls []) := by
    intro n
    induction n with
    | zero =>
      intro v2 σ H locs ls hq
      exact absurd hq id
    | succ n ih =>
      intro v2 σ H locs ls hq hw hS hl
      rw [wX2_someTrackHas_b2_s] at hq
      refine lv_iload_n hx hb dX2_someTrackHas_2 rfl (lv_at hl 2 rfl) ?_
      refine lv_iconst (v := 5) hx hb dX2_someTrackHas_3 (by decide) ?_
      refine lv_icmp_ge (tgt := 34) hx hb dX2_someTrackHas_4 (by decide) (fun hc => ?_) (fun hc => ?_)
      · replace hq := hq.1 hc
        refine lv_iconst (v := 0) hx hb dX2_someTrackHas_34 (by decide) ?_
        exact mt_retz hx hb hr hlocks hw hS (Nat.le_of_ble_eq_true rfl) (Nat.le_of_ble_eq_true rfl) dX2_someTrackHas_35 rfl ⟨_, rfl, Or.inl rfl, hq⟩
      · replace hq := hq.2 hc
        refine lv_aload_n hx hb dX2_someTrackHas_7 rfl (lv_at hl 0 rfl) ?_
        refine c_getd hx hb hts hown hK hw hi 0 (by decide) (hts _ q_60) (fun _ h9 => h9) rfl dX2_someTrackHas_8 ?_
        refine lv_iload_n hx hb dX2_someTrackHas_11 rfl (lv_at hl 2 rfl) ?_
        refine c_lddt hx hb hK hw hi hq.1 dX2_someTrackHas_12 ?_
        replace hq := hq.2
        refine lv_topq (fun o13 eo13 => ?_)
        replace hq := hq o13 eo13
        refine lv_astoreq_n (lv' := [(3, va_rf o13), (0, .ref (aDr cp i)), (1, .int x1), (2, .int v2)]) hx hb dX2_someTrackHas_13 rfl hl (by decide) rfl (fun ls hl => ?_)
        refine lv_aloadq_n hx hb dX2_someTrackHas_14 rfl (lv_at hl 0 rfl) ?_
        refine lv_ifnullq (tgt := 28) hx hb dX2_someTrackHas_15 (by decide) (fun hc => ?_) (fun a14 hc => ?_)
        · replace hq := hq.1 hc
          subst hc
          have hl : lv_has ls 4 [(3, .null), (0, .ref (aDr cp i)), (1, .int x1), (2, .int v2)] := hl
          obtain ⟨y15, ey15⟩ : ∃ z : Int32, z = v2 + 1 := ⟨_, rfl⟩
          replace hq := hq y15 ey15
          refine lv_iinc (v := y15) (lv' := [(2, .int y15), (3, .null), (0, .ref (aDr cp i)), (1, .int x1)]) hx hb dX2_someTrackHas_28 hl (k := 3) rfl (by rw [ey15]; rfl) (by decide) rfl (fun ls hl => ?_)
          refine lv_goto (tgt := 2) hx hb dX2_someTrackHas_31 (by decide) ?_
          exact ih y15 σ _ _ _ hq hw hS (lv_sub hl [2, 3, 0] rfl)
        · replace hq := hq.2 a14 hc
          subst hc
          have hl : lv_has ls 4 [(3, .ref a14), (0, .ref (aDr cp i)), (1, .int x1), (2, .int v2)] := hl
          refine lv_aload_n hx hb dX2_someTrackHas_18 rfl (lv_at hl 0 rfl) ?_
          refine lv_iload_n hx hb dX2_someTrackHas_19 rfl (lv_at hl 2 rfl) ?_
          refine mt_ThasPlace (index := 32) hx hb hml hown hts hK hA hw hS hl.1 (a := a14) hq q_328 (Nat.le_of_ble_eq_true rfl) (Nat.le_of_ble_eq_true rfl) (Nat.le_of_ble_eq_true rfl) (Nat.le_of_ble_eq_true rfl) rfl (Nat.le_of_ble_eq_true rfl) dX2_someTrackHas_20 (fun _ u17 H locs hq hw hS => ?_)
          obtain ⟨r16, rfl, hzr16, hq⟩ := hq
          refine W.eq (g2 := F0 m 23 ls [.int r16]) rfl ?_
          refine lv_if_eq (tgt := 28) hx hb dX2_someTrackHas_23 (by decide) (fun hc => ?_) (fun hc => ?_)
          · replace hq := hq.1 hc
            obtain ⟨y18, ey18⟩ : ∃ z : Int32, z = v2 + 1 := ⟨_, rfl⟩
            replace hq := hq y18 ey18
            refine lv_iinc (v := y18) (lv' := [(2, .int y18), (3, .ref a14), (0, .ref (aDr cp i)), (1, .int x1)]) hx hb dX2_someTrackHas_28 hl (k := 3) rfl (by rw [ey18]; rfl) (by decide) rfl (fun ls hl => ?_)
            refine lv_goto (tgt := 2) hx hb dX2_someTrackHas_31 (by decide) ?_
            exact ih y18 u17 _ _ _ hq hw hS (lv_sub hl [2, 3, 0] rfl)
          · replace hq := hq.2 hc
            refine lv_iconst (v := 1) hx hb dX2_someTrackHas_26 (by decide) ?_
            exact mt_retz hx hb hr hlocks hw hS (Nat.le_of_ble_eq_true rfl) (Nat.le_of_ble_eq_true rfl) dX2_someTrackHas_27 rfl ⟨_, rfl, Or.inr rfl, hq⟩
  unfold wX2_someTrackHas at hq
  refine lv_iconst (v := 0) hx hb dX2_someTrackHas_0 (by decide) ?_
  refine lv_istore_n (lv' := [(2, .int (0 : Int32)), (0, .ref (aDr cp i)), (1, .int x1)]) hx hb dX2_someTrackHas_1 rfl hl (by decide) rfl (fun ls hl => ?_)
  obtain ⟨k2, hq⟩ := hq
  exact b2 k2 (0 : Int32) σ _ _ _ hq hw hS (lv_sub hl [1, 2, 0] rfl)
abbrev rmX2_ask : Room := { frames := 3, cells := 0, slots := 0, locals := 64 }
theorem nmhX2_ask : NoMH yX2_ask 3 := by decide +kernel
def wX2_ask_b29 (i : Nat) (x1 : Int32) (x2 : Int32) (x3 : Int32) (Q : Int32 → CS → Prop) (v4 : Option Nat) (σ : CS) : Prop :=
    Q x3 (pGp σ i (((sDf σ i).2.2.2.1) + (1 : Int32)))
def wX2_ask (i : Nat) (x1 : Int32) (x2 : Int32) (x3 : Int32) (σ : CS) (Q : Int32 → CS → Prop) : Prop :=
    vp_in x1 5 ∧ (∀ o7 : Option Nat, o7 = sSl σ i x1.toNatClampNeg → ((o7 = none → wX2_ask_b29 i x1 x2 x3 Q none σ) ∧ (∀ a8 : Nat, o7 = some a8 → (wT_hasPlace a8 x2 σ (fun r9 u10 => (r9 = 0 → wX2_ask_b29 i x1 x2 x3 Q (some a8) u10) ∧ (¬ r9 = 0 → wT_valueAt a8 x2 u10 (fun r11 u12 => Q r11 u12)))))))
set_option maxHeartbeats 4000000 in
set_option maxRecDepth 100000 in
theorem tX2_ask (l : Launch) (D : va_G) (d : AC) (cp : CP) (i : Nat) (x1 : Int32) (x2 : Int32) (x3 : Int32) (σ : CS) {Q : Int32 → CS → Prop} (hi : i < 8) (hq : wX2_ask i x1 x2 x3 σ Q) : MT D d (ΩC D d cp) l yX2_ask (WS yX2_ask cX2_ask 5 (some (.int))) rmX2_ask [.ref (aDr cp i), .int x1, .int x2, .int x3] σ (qI Q) := by
  refine mt_of (ΩC.mono D d cp) (by decide +kernel) (Nat.le_of_ble_eq_true rfl) (fun p e s m below meth c A ls hx hb hr hml hown hts hlocks hnm hK hA hw hS hl => ?_)
  have hl : lv_has ls 5 [(0, .ref (aDr cp i)), (1, .int x1), (2, .int x2), (3, .int x3)] := hl
  have hown : s.vm.findClass RX2 = some m.cls := hown
  have b29 : ∀ (v4 : Option Nat) (σ : CS) (H : Heap) (locs : List Loc) (ls : Array Slot), wX2_ask_b29 i x1 x2 x3 Q v4 σ → (ΩC D d cp) A σ H → va_S A s.heap H locs → lv_has ls 5 [(0, .ref (aDr cp i)), (1, .int x1), (2, .int x2), (3, .int x3), (4, va_rf v4)] → W p l e rmX2_ask s m [.ref (aDr cp i), .int x1, .int x2, .int x3].toArray below meth c H locs 0 0 (MQ below (Qo (qI Q) (fun u' t => (ΩC D d cp) A u' t.heap) A) [.ref (aDr cp i), .int x1, .int x2, .int x3].toArray s rmX2_ask.cells rmX2_ask.slots A) (F0 m 29 ls []) := by
    intro v4 σ H locs ls hq hw hS hl
    unfold wX2_ask_b29 at hq
    refine lv_aload_n hx hb dX2_ask_29 rfl (lv_at hl 0 rfl) ?_
    refine lv_dup hx hb dX2_ask_30 rfl ?_
    refine c_getd hx hb hts hown hK hw hi 4 (by decide) (hts _ q_67) (fun _ h9 => h9) rfl dX2_ask_31 ?_
    refine lv_iconst (v := 1) hx hb dX2_ask_34 (by decide) ?_
    refine lv_iadd hx hb dX2_ask_35 ?_
    refine c_putd hx hb hts hown hK hw hS hi 4 (by decide) (hts _ q_67) (fun _ h9 => h9) rfl (ty := .int) (v := .int (((sDf σ i).2.2.2.1) + (1 : Int32))) (dGp (sDf σ i) (((sDf σ i).2.2.2.1) + (1 : Int32))) rfl (by decide +kernel) rfl rfl dX2_ask_36 (fun H locs hw hS => ?_)
    refine lv_iload_n hx hb dX2_ask_39 rfl (lv_at hl 3 rfl) ?_
    exact mt_reti hx hb hr hlocks hw hS (Nat.le_of_ble_eq_true rfl) (Nat.le_of_ble_eq_true rfl) dX2_ask_40 ⟨_, rfl, hq⟩
  unfold wX2_ask at hq
  refine lv_aload_n hx hb dX2_ask_0 rfl (lv_at hl 0 rfl) ?_
  refine c_getd hx hb hts hown hK hw hi 0 (by decide) (hts _ q_60) (fun _ h9 => h9) rfl dX2_ask_1 ?_
  refine lv_iload_n hx hb dX2_ask_4 rfl (lv_at hl 1 rfl) ?_
  refine c_lddt hx hb hK hw hi hq.1 dX2_ask_5 ?_
  replace hq := hq.2
  refine lv_topq (fun o7 eo7 => ?_)
  replace hq := hq o7 eo7
  refine lv_astoreq (lv' := [(4, va_rf o7), (0, .ref (aDr cp i)), (1, .int x1), (2, .int x2), (3, .int x3)]) hx hb dX2_ask_6 hl (by decide) rfl (fun ls hl => ?_)
  refine lv_aloadq hx hb dX2_ask_8 (lv_at hl 0 rfl) ?_
  refine lv_ifnullq (tgt := 29) hx hb dX2_ask_10 (by decide) (fun hc => ?_) (fun a8 hc => ?_)
  · replace hq := hq.1 hc
    subst hc
    have hl : lv_has ls 5 [(4, .null), (0, .ref (aDr cp i)), (1, .int x1), (2, .int x2), (3, .int x3)] := hl
    exact b29 none σ _ _ _ hq hw hS (lv_sub hl [1, 2, 3, 4, 0] rfl)
  · replace hq := hq.2 a8 hc
    subst hc
    have hl : lv_has ls 5 [(4, .ref a8), (0, .ref (aDr cp i)), (1, .int x1), (2, .int x2), (3, .int x3)] := hl
    refine lv_aload hx hb dX2_ask_13 (lv_at hl 0 rfl) ?_
    refine lv_iload_n hx hb dX2_ask_15 rfl (lv_at hl 3 rfl) ?_
    refine mt_ThasPlace (index := 32) hx hb hml hown hts hK hA hw hS hl.1 (a := a8) hq q_328 (Nat.le_of_ble_eq_true rfl) (Nat.le_of_ble_eq_true rfl) (Nat.le_of_ble_eq_true rfl) (Nat.le_of_ble_eq_true rfl) rfl (Nat.le_of_ble_eq_true rfl) dX2_ask_16 (fun _ u10 H locs hq hw hS => ?_)
    obtain ⟨r9, rfl, hzr9, hq⟩ := hq
    refine W.eq (g2 := F0 m 19 ls [.int r9]) rfl ?_
    refine lv_if_eq (tgt := 29) hx hb dX2_ask_19 (by decide) (fun hc => ?_) (fun hc => ?_)
    · replace hq := hq.1 hc
      exact b29 (some a8) u10 _ _ _ hq hw hS (lv_sub hl [1, 2, 3, 4, 0] rfl)
    · replace hq := hq.2 hc
      refine lv_aload hx hb dX2_ask_22 (lv_at hl 0 rfl) ?_
      refine lv_iload_n hx hb dX2_ask_24 rfl (lv_at hl 3 rfl) ?_
      refine mt_TvalueAt (index := 50) hx hb hml hown hts hK hA hw hS hl.1 (a := a8) hq q_337 (Nat.le_of_ble_eq_true rfl) (Nat.le_of_ble_eq_true rfl) (Nat.le_of_ble_eq_true rfl) (Nat.le_of_ble_eq_true rfl) rfl (Nat.le_of_ble_eq_true rfl) dX2_ask_25 (fun _ u12 H locs hq hw hS => ?_)
      obtain ⟨r11, rfl, hq⟩ := hq
      refine W.eq (g2 := F0 m 28 ls [.int r11]) rfl ?_
      exact mt_reti hx hb hr hlocks hw hS (Nat.le_of_ble_eq_true rfl) (Nat.le_of_ble_eq_true rfl) dX2_ask_28 ⟨_, rfl, hq⟩
abbrev rmX2_askLevel : Room := { frames := 1, cells := 0, slots := 0, locals := 21 }
theorem nmhX2_askLevel : NoMH yX2_askLevel 1 := by decide +kernel
def wX2_askLevel_b33 (i : Nat) (x1 : Int32) (Q : UInt32 → CS → Prop) (v3 : Option Nat) (σ : CS) : Prop :=
    Q FP.fconst1 (pGp σ i (((sDf σ i).2.2.2.1) + (1 : Int32)))
def wX2_askLevel (i : Nat) (x1 : Int32) (σ : CS) (Q : UInt32 → CS → Prop) : Prop :=
    vp_in (3 : Int32) 5 ∧ (∀ o9 : Option Nat, o9 = sSl σ i (3 : Int32).toNatClampNeg → ((o9 = none → wX2_askLevel_b33 i x1 Q none σ) ∧ (∀ a10 : Nat, o9 = some a10 → ∃ (n11 c11 : Nat) (f11 : Nat → Int32), sTk σ a10 = some (3, n11, c11, f11) ∧ (∃ (n12 c12 : Nat) (f12 : Nat → Int32), sTk σ a10 = some (3, n12, c12, f12) ∧ (wT_hasPlaceL a10 x1 σ (fun r13 u14 => (r13 = 0 → wX2_askLevel_b33 i x1 Q (some a10) u14) ∧ (¬ r13 = 0 → (∃ (n3 c3 : Nat) (f3 : Nat → Int32), sTk u14 a10 = some (3, n3, c3, f3) ∧ wX4_levelAt a10 x1 u14 (fun r15 u16 => Q r15 u16)))))))))
set_option maxHeartbeats 4000000 in
set_option maxRecDepth 100000 in
theorem tX2_askLevel (l : Launch) (D : va_G) (d : AC) (cp : CP) (i : Nat) (x1 : Int32) (σ : CS) {Q : UInt32 → CS → Prop} (hi : i < 8) (hq : wX2_askLevel i x1 σ Q) : MT D d (ΩC D d cp) l yX2_askLevel (WS yX2_askLevel cX2_askLevel 4 (some (.float))) rmX2_askLevel [.ref (aDr cp i), .int x1] σ (qF Q) := by
  refine mt_of (ΩC.mono D d cp) (by decide +kernel) (Nat.le_of_ble_eq_true rfl) (fun p e s m below meth c A ls hx hb hr hml hown hts hlocks hnm hK hA hw hS hl => ?_)
  have hl : lv_has ls 4 [(0, .ref (aDr cp i)), (1, .int x1)] := hl
  have hown : s.vm.findClass RX2 = some m.cls := hown
  have b33 : ∀ (v3 : Option Nat) (σ : CS) (H : Heap) (locs : List Loc) (ls : Array Slot), wX2_askLevel_b33 i x1 Q v3 σ → (ΩC D d cp) A σ H → va_S A s.heap H locs → lv_has ls 4 [(0, .ref (aDr cp i)), (1, .int x1), (3, va_rf v3)] → W p l e rmX2_askLevel s m [.ref (aDr cp i), .int x1].toArray below meth c H locs 0 0 (MQ below (Qo (qF Q) (fun u' t => (ΩC D d cp) A u' t.heap) A) [.ref (aDr cp i), .int x1].toArray s rmX2_askLevel.cells rmX2_askLevel.slots A) (F0 m 33 ls []) := by
    intro v3 σ H locs ls hq hw hS hl
    unfold wX2_askLevel_b33 at hq
    refine lv_aload_n hx hb dX2_askLevel_33 rfl (lv_at hl 0 rfl) ?_
    refine lv_dup hx hb dX2_askLevel_34 rfl ?_
    refine c_getd hx hb hts hown hK hw hi 4 (by decide) (hts _ q_67) (fun _ h9 => h9) rfl dX2_askLevel_35 ?_
    refine lv_iconst (v := 1) hx hb dX2_askLevel_38 (by decide) ?_
    refine lv_iadd hx hb dX2_askLevel_39 ?_
    refine c_putd hx hb hts hown hK hw hS hi 4 (by decide) (hts _ q_67) (fun _ h9 => h9) rfl (ty := .int) (v := .int (((sDf σ i).2.2.2.1) + (1 : Int32))) (dGp (sDf σ i) (((sDf σ i).2.2.2.1) + (1 : Int32))) rfl (by decide +kernel) rfl rfl dX2_askLevel_40 (fun H locs hw hS => ?_)
    refine lv_fconst1 hx hb dX2_askLevel_43 ?_
    exact mt_retf hx hb hr hlocks hw hS (Nat.le_of_ble_eq_true rfl) (Nat.le_of_ble_eq_true rfl) dX2_askLevel_44 ⟨_, rfl, hq⟩
  unfold wX2_askLevel at hq
  refine lv_aload_n hx hb dX2_askLevel_0 rfl (lv_at hl 0 rfl) ?_
  refine c_getd hx hb hts hown hK hw hi 0 (by decide) (hts _ q_60) (fun _ h9 => h9) rfl dX2_askLevel_1 ?_
  refine lv_iconst (v := 3) hx hb dX2_askLevel_4 (by decide) ?_
  refine c_lddt hx hb hK hw hi hq.1 dX2_askLevel_5 ?_
  replace hq := hq.2
  refine lv_topq (fun o9 eo9 => ?_)
  replace hq := hq o9 eo9
  refine lv_astoreq_n (lv' := [(3, va_rf o9), (0, .ref (aDr cp i)), (1, .int x1)]) hx hb dX2_askLevel_6 rfl hl (by decide) rfl (fun ls hl => ?_)
  refine lv_aloadq_n hx hb dX2_askLevel_7 rfl (lv_at hl 0 rfl) ?_
  refine lv_caseq (o := o9) (fun hc => ?_) (fun a10 hc => ?_)
  · replace hq := hq.1 hc
    subst hc
    have hl : lv_has ls 4 [(3, .null), (0, .ref (aDr cp i)), (1, .int x1)] := hl
    refine lv_instN hx hb dX2_askLevel_8 ?_
    refine lv_if_eq (tgt := 33) hx hb dX2_askLevel_11 (by decide) (fun _ => ?_) (fun hc => absurd hc (by decide))
    exact b33 none σ _ _ _ hq hw hS (lv_sub hl [1, 2, 0] rfl)
  · replace hq := hq.2 a10 hc
    obtain ⟨n11, c11, f11, hm11, hq⟩ := hq
    subst hc
    have hl : lv_has ls 4 [(3, .ref a10), (0, .ref (aDr cp i)), (1, .int x1)] := hl
    refine va_instS hx hb (nm := RX4) hown (hts _ q_342) (hK.1.1 4 (RX4, TX4, 2) rfl).2 (c_recvT hK hw hm11 (q := (RX4, TX4, 2)) rfl) dX2_askLevel_8 ?_
    refine lv_if_eq (tgt := 33) hx hb dX2_askLevel_11 (by decide) (fun hc => absurd hc (by decide)) (fun _ => ?_)
    refine lv_aload_n hx hb dX2_askLevel_14 rfl (lv_at hl 0 rfl) ?_
    obtain ⟨n12, c12, f12, hm12, hq⟩ := hq
    refine va_castS hx hb (nm := RX4) hown (hts _ q_342) (hK.1.1 4 (RX4, TX4, 2) rfl).2 (c_recvT hK hw hm12 (q := (RX4, TX4, 2)) rfl) dX2_askLevel_15 ?_
    refine lv_astore_n (lv' := [(2, .ref a10), (3, .ref a10), (0, .ref (aDr cp i)), (1, .int x1)]) hx hb dX2_askLevel_18 rfl hl (by decide) rfl (fun ls hl => ?_)
    refine lv_aload_n hx hb dX2_askLevel_19 rfl (lv_at hl 0 rfl) ?_
    refine lv_iload_n hx hb dX2_askLevel_20 rfl (lv_at hl 3 rfl) ?_
    refine mt_ThasPlaceL (index := 59) hx hb hml hown hts hK hA hw hS hl.1 (a := a10) hq q_343 (Nat.le_of_ble_eq_true rfl) (Nat.le_of_ble_eq_true rfl) (Nat.le_of_ble_eq_true rfl) (Nat.le_of_ble_eq_true rfl) rfl (Nat.le_of_ble_eq_true rfl) dX2_askLevel_21 (fun _ u14 H locs hq hw hS => ?_)
    obtain ⟨r13, rfl, hzr13, hq⟩ := hq
    refine W.eq (g2 := F0 m 24 ls [.int r13]) rfl ?_
    refine lv_if_eq (tgt := 33) hx hb dX2_askLevel_24 (by decide) (fun hc => ?_) (fun hc => ?_)
    · replace hq := hq.1 hc
      exact b33 (some a10) u14 _ _ _ hq hw hS (lv_sub hl [2, 3, 1] rfl)
    · replace hq := hq.2 hc
      refine lv_aload_n hx hb dX2_askLevel_27 rfl (lv_at hl 0 rfl) ?_
      refine lv_iload_n hx hb dX2_askLevel_28 rfl (lv_at hl 3 rfl) ?_
      obtain ⟨n3, c3, f3, hm, hq⟩ := hq
      refine mt_callV (index := 60) hx hb hml hown hts hK (ΩC.mono D d cp) hA hw hS hl.1 (tX4_levelAt l D d cp a10 x1 u14 hq) (c_recvT hK hw hm (q := (RX4, TX4, 2)) rfl) q_350 q_39 q_347 q_348 q_349 nmhX4_levelAt ⟨⟨Nat.le_of_ble_eq_true rfl, Nat.le_of_ble_eq_true rfl⟩, ⟨Nat.le_of_ble_eq_true rfl, Nat.le_of_ble_eq_true rfl⟩⟩ rfl (Nat.le_of_ble_eq_true rfl) dX2_askLevel_29 (fun _ u16 H locs hq hw hS => ?_)
      obtain ⟨r15, rfl, hq⟩ := hq
      refine W.eq (g2 := F0 m 32 ls [.float r15]) rfl ?_
      exact mt_retf hx hb hr hlocks hw hS (Nat.le_of_ble_eq_true rfl) (Nat.le_of_ble_eq_true rfl) dX2_askLevel_32 ⟨_, rfl, hq⟩
abbrev rmX2_sound : Room := { frames := 0, cells := 0, slots := 0, locals := 0 }
theorem nmhX2_sound : NoMH yX2_sound 3 := by decide +kernel
def wX2_sound_b41 (i : Nat) (x1 : Int32) (x2 : Int32) (x3 : UInt32) (Q : CS → Prop)  (σ : CS) : Prop :=
    Q (pNo (pWt σ i (((sDf σ i).2.2.2.2.1) + (x1.toInt64 * x2.toInt64))) i (((sDf (pWt σ i (((sDf σ i).2.2.2.2.1) + (x1.toInt64 * x2.toInt64))) i).2.1) + (1 : Int32)))
def wX2_sound_b36 (i : Nat) (x1 : Int32) (x2 : Int32) (x3 : UInt32) (Q : CS → Prop)  (σ : CS) : Prop :=
    wX2_sound_b41 i x1 x2 x3 Q (pGl σ i x3)
def wX2_sound_b20 (i : Nat) (x1 : Int32) (x2 : Int32) (x3 : UInt32) (Q : CS → Prop)  (σ : CS) : Prop :=
    (((sDf σ i).2.1) = 0 → wX2_sound_b36 i x1 x2 x3 Q σ) ∧ (¬ ((sDf σ i).2.1) = 0 → (((Op.cmpValue (FP.fcmp x3 ((sDf σ i).2.2.2.2.2.2)) CmpOp.l) ≤ 0 → wX2_sound_b41 i x1 x2 x3 Q σ) ∧ (¬ (Op.cmpValue (FP.fcmp x3 ((sDf σ i).2.2.2.2.2.2)) CmpOp.l) ≤ 0 → wX2_sound_b36 i x1 x2 x3 Q σ)))
def wX2_sound_b15 (i : Nat) (x1 : Int32) (x2 : Int32) (x3 : UInt32) (Q : CS → Prop)  (σ : CS) : Prop :=
    wX2_sound_b20 i x1 x2 x3 Q (pHp σ i x1)
def wX2_sound (i : Nat) (x1 : Int32) (x2 : Int32) (x3 : UInt32) (σ : CS) (Q : CS → Prop) : Prop :=
    (((sDf σ i).2.1) = 0 → wX2_sound_b15 i x1 x2 x3 Q σ) ∧ (¬ ((sDf σ i).2.1) = 0 → ((x1 ≤ ((sDf σ i).2.2.2.2.2.1) → wX2_sound_b20 i x1 x2 x3 Q σ) ∧ (¬ x1 ≤ ((sDf σ i).2.2.2.2.2.1) → wX2_sound_b15 i x1 x2 x3 Q σ)))
set_option maxHeartbeats 4000000 in
set_option maxRecDepth 100000 in
theorem tX2_sound (l : Launch) (D : va_G) (d : AC) (cp : CP) (i : Nat) (x1 : Int32) (x2 : Int32) (x3 : UInt32) (σ : CS) {Q : CS → Prop} (hi : i < 8) (hq : wX2_sound i x1 x2 x3 σ Q) : MT D d (ΩC D d cp) l yX2_sound (WS yX2_sound cX2_sound 4 none) rmX2_sound [.ref (aDr cp i), .int x1, .int x2, .float x3] σ (qV Q) := by
  refine mt_of (ΩC.mono D d cp) (by decide +kernel) (Nat.le_of_ble_eq_true rfl) (fun p e s m below meth c A ls hx hb hr hml hown hts hlocks hnm hK hA hw hS hl => ?_)
  have hl : lv_has ls 4 [(0, .ref (aDr cp i)), (1, .int x1), (2, .int x2), (3, .float x3)] := hl
  have hown : s.vm.findClass RX2 = some m.cls := hown
  have b41 : ∀  (σ : CS) (H : Heap) (locs : List Loc) (ls : Array Slot), wX2_sound_b41 i x1 x2 x3 Q  σ → (ΩC D d cp) A σ H → va_S A s.heap H locs → lv_has ls 4 [(0, .ref (aDr cp i)), (1, .int x1), (2, .int x2), (3, .float x3)] → W p l e rmX2_sound s m [.ref (aDr cp i), .int x1, .int x2, .float x3].toArray below meth c H locs 0 0 (MQ below (Qo (qV Q) (fun u' t => (ΩC D d cp) A u' t.heap) A) [.ref (aDr cp i), .int x1, .int x2, .float x3].toArray s rmX2_sound.cells rmX2_sound.slots A) (F0 m 41 ls []) := by
    intro  σ H locs ls hq hw hS hl
    unfold wX2_sound_b41 at hq
    refine lv_aload_n hx hb dX2_sound_41 rfl (lv_at hl 0 rfl) ?_
    refine lv_dup hx hb dX2_sound_42 rfl ?_
    refine c_getd hx hb hts hown hK hw hi 5 (by decide) (hts _ q_68) (fun _ h9 => h9) rfl dX2_sound_43 ?_
    refine lv_iload_n hx hb dX2_sound_46 rfl (lv_at hl 1 rfl) ?_
    refine lv_i2l hx hb dX2_sound_47 rfl ?_
    refine lv_iload_n hx hb dX2_sound_48 rfl (lv_at hl 2 rfl) ?_
    refine lv_i2l hx hb dX2_sound_49 rfl ?_
    refine lv_lmul hx hb dX2_sound_50 ?_
    refine lv_ladd hx hb dX2_sound_51 ?_
    refine c_putd hx hb hts hown hK hw hS hi 5 (by decide) (hts _ q_68) (fun _ h9 => h9) rfl (ty := .long) (v := .long (((sDf σ i).2.2.2.2.1) + (x1.toInt64 * x2.toInt64))) (dWt (sDf σ i) (((sDf σ i).2.2.2.2.1) + (x1.toInt64 * x2.toInt64))) rfl (by decide +kernel) rfl rfl dX2_sound_52 (fun H locs hw hS => ?_)
    refine lv_aload_n hx hb dX2_sound_55 rfl (lv_at hl 0 rfl) ?_
    refine lv_dup hx hb dX2_sound_56 rfl ?_
    refine c_getd hx hb hts hown hK hw hi 2 (by decide) (hts _ q_64) (fun _ h9 => h9) rfl dX2_sound_57 ?_
    refine lv_iconst (v := 1) hx hb dX2_sound_60 (by decide) ?_
    refine lv_iadd hx hb dX2_sound_61 ?_
    refine c_putd hx hb hts hown hK hw hS hi 2 (by decide) (hts _ q_64) (fun _ h9 => h9) rfl (ty := .int) (v := .int (((sDf (pWt σ i (((sDf σ i).2.2.2.2.1) + (x1.toInt64 * x2.toInt64))) i).2.1) + (1 : Int32))) (dNo (sDf (pWt σ i (((sDf σ i).2.2.2.2.1) + (x1.toInt64 * x2.toInt64))) i) (((sDf (pWt σ i (((sDf σ i).2.2.2.2.1) + (x1.toInt64 * x2.toInt64))) i).2.1) + (1 : Int32))) rfl (by decide +kernel) rfl rfl dX2_sound_62 (fun H locs hw hS => ?_)
    exact mt_retv hx hb hr hlocks hw hS (Nat.le_of_ble_eq_true rfl) (Nat.le_of_ble_eq_true rfl) dX2_sound_65 ⟨rfl, hq⟩
  have b36 : ∀  (σ : CS) (H : Heap) (locs : List Loc) (ls : Array Slot), wX2_sound_b36 i x1 x2 x3 Q  σ → (ΩC D d cp) A σ H → va_S A s.heap H locs → lv_has ls 4 [(0, .ref (aDr cp i)), (1, .int x1), (2, .int x2), (3, .float x3)] → W p l e rmX2_sound s m [.ref (aDr cp i), .int x1, .int x2, .float x3].toArray below meth c H locs 0 0 (MQ below (Qo (qV Q) (fun u' t => (ΩC D d cp) A u' t.heap) A) [.ref (aDr cp i), .int x1, .int x2, .float x3].toArray s rmX2_sound.cells rmX2_sound.slots A) (F0 m 36 ls []) := by
    intro  σ H locs ls hq hw hS hl
    unfold wX2_sound_b36 at hq
    refine lv_aload_n hx hb dX2_sound_36 rfl (lv_at hl 0 rfl) ?_
    refine lv_fload_n hx hb dX2_sound_37 rfl (lv_at hl 3 rfl) ?_
    refine c_putd hx hb hts hown hK hw hS hi 7 (by decide) (hts _ q_70) (fun _ h9 => h9) rfl (ty := .float) (v := .float x3) (dGl (sDf σ i) x3) rfl (by decide +kernel) rfl rfl dX2_sound_38 (fun H locs hw hS => ?_)
    exact b41 (pGl σ i x3) _ _ _ hq hw hS (lv_sub hl [0, 1, 2, 3] rfl)
  have b20 : ∀  (σ : CS) (H : Heap) (locs : List Loc) (ls : Array Slot), wX2_sound_b20 i x1 x2 x3 Q  σ → (ΩC D d cp) A σ H → va_S A s.heap H locs → lv_has ls 4 [(0, .ref (aDr cp i)), (1, .int x1), (2, .int x2), (3, .float x3)] → W p l e rmX2_sound s m [.ref (aDr cp i), .int x1, .int x2, .float x3].toArray below meth c H locs 0 0 (MQ below (Qo (qV Q) (fun u' t => (ΩC D d cp) A u' t.heap) A) [.ref (aDr cp i), .int x1, .int x2, .float x3].toArray s rmX2_sound.cells rmX2_sound.slots A) (F0 m 20 ls []) := by
    intro  σ H locs ls hq hw hS hl
    unfold wX2_sound_b20 at hq
    refine lv_aload_n hx hb dX2_sound_20 rfl (lv_at hl 0 rfl) ?_
    refine c_getd hx hb hts hown hK hw hi 2 (by decide) (hts _ q_64) (fun _ h9 => h9) rfl dX2_sound_21 ?_
    refine lv_if_eq (tgt := 36) hx hb dX2_sound_24 (by decide) (fun hc => ?_) (fun hc => ?_)
    · replace hq := hq.1 hc
      exact b36 σ _ _ _ hq hw hS (lv_sub hl [0, 1, 2, 3] rfl)
    · replace hq := hq.2 hc
      refine lv_fload_n hx hb dX2_sound_27 rfl (lv_at hl 3 rfl) ?_
      refine lv_aload_n hx hb dX2_sound_28 rfl (lv_at hl 0 rfl) ?_
      refine c_getd hx hb hts hown hK hw hi 7 (by decide) (hts _ q_70) (fun _ h9 => h9) rfl dX2_sound_29 ?_
      refine lv_fcmp hx hb dX2_sound_32 ?_
      refine lv_if_le (tgt := 41) hx hb dX2_sound_33 (by decide) (fun hc => ?_) (fun hc => ?_)
      · replace hq := hq.1 hc
        exact b41 σ _ _ _ hq hw hS (lv_sub hl [0, 1, 2, 3] rfl)
      · replace hq := hq.2 hc
        exact b36 σ _ _ _ hq hw hS (lv_sub hl [0, 1, 2, 3] rfl)
  have b15 : ∀  (σ : CS) (H : Heap) (locs : List Loc) (ls : Array Slot), wX2_sound_b15 i x1 x2 x3 Q  σ → (ΩC D d cp) A σ H → va_S A s.heap H locs → lv_has ls 4 [(0, .ref (aDr cp i)), (1, .int x1), (2, .int x2), (3, .float x3)] → W p l e rmX2_sound s m [.ref (aDr cp i), .int x1, .int x2, .float x3].toArray below meth c H locs 0 0 (MQ below (Qo (qV Q) (fun u' t => (ΩC D d cp) A u' t.heap) A) [.ref (aDr cp i), .int x1, .int x2, .float x3].toArray s rmX2_sound.cells rmX2_sound.slots A) (F0 m 15 ls []) := by
    intro  σ H locs ls hq hw hS hl
    unfold wX2_sound_b15 at hq
    refine lv_aload_n hx hb dX2_sound_15 rfl (lv_at hl 0 rfl) ?_
    refine lv_iload_n hx hb dX2_sound_16 rfl (lv_at hl 1 rfl) ?_
    refine c_putd hx hb hts hown hK hw hS hi 6 (by decide) (hts _ q_69) (fun _ h9 => h9) rfl (ty := .int) (v := .int x1) (dHp (sDf σ i) x1) rfl (by decide +kernel) rfl rfl dX2_sound_17 (fun H locs hw hS => ?_)
    exact b20 (pHp σ i x1) _ _ _ hq hw hS (lv_sub hl [0, 1, 2, 3] rfl)
  unfold wX2_sound at hq
  refine lv_aload_n hx hb dX2_sound_0 rfl (lv_at hl 0 rfl) ?_
  refine c_getd hx hb hts hown hK hw hi 2 (by decide) (hts _ q_64) (fun _ h9 => h9) rfl dX2_sound_1 ?_
  refine lv_if_eq (tgt := 15) hx hb dX2_sound_4 (by decide) (fun hc => ?_) (fun hc => ?_)
  · replace hq := hq.1 hc
    exact b15 σ _ _ _ hq hw hS (lv_sub hl [0, 1, 2, 3] rfl)
  · replace hq := hq.2 hc
    refine lv_iload_n hx hb dX2_sound_7 rfl (lv_at hl 1 rfl) ?_
    refine lv_aload_n hx hb dX2_sound_8 rfl (lv_at hl 0 rfl) ?_
    refine c_getd hx hb hts hown hK hw hi 6 (by decide) (hts _ q_69) (fun _ h9 => h9) rfl dX2_sound_9 ?_
    refine lv_icmp_le (tgt := 20) hx hb dX2_sound_12 (by decide) (fun hc => ?_) (fun hc => ?_)
    · replace hq := hq.1 hc
      exact b20 σ _ _ _ hq hw hS (lv_sub hl [0, 1, 2, 3] rfl)
    · replace hq := hq.2 hc
      exact b15 σ _ _ _ hq hw hS (lv_sub hl [0, 1, 2, 3] rfl)
abbrev rmX2_playPlace : Room := { frames := 4, cells := 0, slots := 0, locals := 88 }
theorem nmhX2_playPlace : NoMH yX2_playPlace 1 := by decide +kernel
def wX2_playPlace (i : Nat) (x1 : Int32) (σ : CS) (Q : CS → Prop) : Prop :=
    wX2_ask i (0 : Int32) x1 (1 : Int32) σ (fun r13 u14 => wX2_ask i (1 : Int32) x1 (60 : Int32) u14 (fun r15 u16 => wX2_ask i (2 : Int32) x1 (1 : Int32) u16 (fun r17 u18 => wX2_askLevel i x1 u18 (fun r19 u20 => wX2_ask i (4 : Int32) x1 (0 : Int32) u20 (fun r21 u22 => (¬ r13 = (1 : Int32) → (Q (pPp u22 i (((sDf u22 i).2.2.1) + (1 : Int32))))) ∧ (r13 = (1 : Int32) → (wX2_sound i (r15 + r21) r17 r19 (pPp u22 i (((sDf u22 i).2.2.1) + (1 : Int32))) (fun u24 => Q u24))))))))
set_option maxHeartbeats 4000000 in
set_option maxRecDepth 100000 in
theorem tX2_playPlace (l : Launch) (D : va_G) (d : AC) (cp : CP) (i : Nat) (x1 : Int32) (σ : CS) {Q : CS → Prop} (hi : i < 8) (hq : wX2_playPlace i x1 σ Q) : MT D d (ΩC D d cp) l yX2_playPlace (WS yX2_playPlace cX2_playPlace 7 none) rmX2_playPlace [.ref (aDr cp i), .int x1] σ (qV Q) := by
  refine mt_of (ΩC.mono D d cp) (by decide +kernel) (Nat.le_of_ble_eq_true rfl) (fun p e s m below meth c A ls hx hb hr hml hown hts hlocks hnm hK hA hw hS hl => ?_)
  have hl : lv_has ls 7 [(0, .ref (aDr cp i)), (1, .int x1)] := hl
  have hown : s.vm.findClass RX2 = some m.cls := hown
  unfold wX2_playPlace at hq
  refine lv_aload_n hx hb dX2_playPlace_0 rfl (lv_at hl 0 rfl) ?_
  refine lv_iconst (v := 0) hx hb dX2_playPlace_1 (by decide) ?_
  refine lv_iload_n hx hb dX2_playPlace_2 rfl (lv_at hl 1 rfl) ?_
  refine lv_iconst (v := 1) hx hb dX2_playPlace_3 (by decide) ?_
  refine mt_callV (index := 35) hx hb hml hown hts hK (ΩC.mono D d cp) hA hw hS hl.1 (tX2_ask l D d cp i (0 : Int32) x1 (1 : Int32) σ hi hq) (c_recvD hK hw hi) q_336 q_33 q_333 q_335 q_9 nmhX2_ask ⟨⟨Nat.le_of_ble_eq_true rfl, Nat.le_of_ble_eq_true rfl⟩, ⟨Nat.le_of_ble_eq_true rfl, Nat.le_of_ble_eq_true rfl⟩⟩ rfl (Nat.le_of_ble_eq_true rfl) dX2_playPlace_4 (fun _ u14 H locs hq hw hS => ?_)
  obtain ⟨r13, rfl, hq⟩ := hq
  refine W.eq (g2 := F0 m 7 ls [.int r13]) rfl ?_
  refine lv_istore_n (lv' := [(2, .int r13), (0, .ref (aDr cp i)), (1, .int x1)]) hx hb dX2_playPlace_7 rfl hl (by decide) rfl (fun ls hl => ?_)
  refine lv_aload_n hx hb dX2_playPlace_8 rfl (lv_at hl 1 rfl) ?_
  refine lv_iconst (v := 1) hx hb dX2_playPlace_9 (by decide) ?_
  refine lv_iload_n hx hb dX2_playPlace_10 rfl (lv_at hl 2 rfl) ?_
  refine lv_bipush (v := 60) hx hb dX2_playPlace_11 (by decide) ?_
  refine mt_callV (index := 35) hx hb hml hown hts hK (ΩC.mono D d cp) hA hw hS hl.1 (tX2_ask l D d cp i (1 : Int32) x1 (60 : Int32) u14 hi hq) (c_recvD hK hw hi) q_336 q_33 q_333 q_335 q_9 nmhX2_ask ⟨⟨Nat.le_of_ble_eq_true rfl, Nat.le_of_ble_eq_true rfl⟩, ⟨Nat.le_of_ble_eq_true rfl, Nat.le_of_ble_eq_true rfl⟩⟩ rfl (Nat.le_of_ble_eq_true rfl) dX2_playPlace_13 (fun _ u16 H locs hq hw hS => ?_)
  obtain ⟨r15, rfl, hq⟩ := hq
  refine W.eq (g2 := F0 m 16 ls [.int r15]) rfl ?_
  refine lv_istore_n (lv' := [(3, .int r15), (2, .int r13), (0, .ref (aDr cp i)), (1, .int x1)]) hx hb dX2_playPlace_16 rfl hl (by decide) rfl (fun ls hl => ?_)
  refine lv_aload_n hx hb dX2_playPlace_17 rfl (lv_at hl 2 rfl) ?_
  refine lv_iconst (v := 2) hx hb dX2_playPlace_18 (by decide) ?_
  refine lv_iload_n hx hb dX2_playPlace_19 rfl (lv_at hl 3 rfl) ?_
  refine lv_iconst (v := 1) hx hb dX2_playPlace_20 (by decide) ?_
  refine mt_callV (index := 35) hx hb hml hown hts hK (ΩC.mono D d cp) hA hw hS hl.1 (tX2_ask l D d cp i (2 : Int32) x1 (1 : Int32) u16 hi hq) (c_recvD hK hw hi) q_336 q_33 q_333 q_335 q_9 nmhX2_ask ⟨⟨Nat.le_of_ble_eq_true rfl, Nat.le_of_ble_eq_true rfl⟩, ⟨Nat.le_of_ble_eq_true rfl, Nat.le_of_ble_eq_true rfl⟩⟩ rfl (Nat.le_of_ble_eq_true rfl) dX2_playPlace_21 (fun _ u18 H locs hq hw hS => ?_)
  obtain ⟨r17, rfl, hq⟩ := hq
  refine W.eq (g2 := F0 m 24 ls [.int r17]) rfl ?_
  refine lv_istore (lv' := [(4, .int r17), (3, .int r15), (2, .int r13), (0, .ref (aDr cp i)), (1, .int x1)]) hx hb dX2_playPlace_24 hl (by decide) rfl (fun ls hl => ?_)
  refine lv_aload_n hx hb dX2_playPlace_26 rfl (lv_at hl 3 rfl) ?_
  refine lv_iload_n hx hb dX2_playPlace_27 rfl (lv_at hl 4 rfl) ?_
  refine mt_callV (index := 39) hx hb hml hown hts hK (ΩC.mono D d cp) hA hw hS hl.1 (tX2_askLevel l D d cp i x1 u18 hi hq) (c_recvD hK hw hi) q_341 q_33 q_338 q_340 q_10 nmhX2_askLevel ⟨⟨Nat.le_of_ble_eq_true rfl, Nat.le_of_ble_eq_true rfl⟩, ⟨Nat.le_of_ble_eq_true rfl, Nat.le_of_ble_eq_true rfl⟩⟩ rfl (Nat.le_of_ble_eq_true rfl) dX2_playPlace_28 (fun _ u20 H locs hq hw hS => ?_)
  obtain ⟨r19, rfl, hq⟩ := hq
  refine W.eq (g2 := F0 m 31 ls [.float r19]) rfl ?_
  refine lv_fstore (lv' := [(5, .float r19), (4, .int r17), (3, .int r15), (2, .int r13), (0, .ref (aDr cp i)), (1, .int x1)]) hx hb dX2_playPlace_31 hl (by decide) rfl (fun ls hl => ?_)
  refine lv_aload_n hx hb dX2_playPlace_33 rfl (lv_at hl 4 rfl) ?_
  refine lv_iconst (v := 4) hx hb dX2_playPlace_34 (by decide) ?_
  refine lv_iload_n hx hb dX2_playPlace_35 rfl (lv_at hl 5 rfl) ?_
  refine lv_iconst (v := 0) hx hb dX2_playPlace_36 (by decide) ?_
  refine mt_callV (index := 35) hx hb hml hown hts hK (ΩC.mono D d cp) hA hw hS hl.1 (tX2_ask l D d cp i (4 : Int32) x1 (0 : Int32) u20 hi hq) (c_recvD hK hw hi) q_336 q_33 q_333 q_335 q_9 nmhX2_ask ⟨⟨Nat.le_of_ble_eq_true rfl, Nat.le_of_ble_eq_true rfl⟩, ⟨Nat.le_of_ble_eq_true rfl, Nat.le_of_ble_eq_true rfl⟩⟩ rfl (Nat.le_of_ble_eq_true rfl) dX2_playPlace_37 (fun _ u22 H locs hq hw hS => ?_)
  obtain ⟨r21, rfl, hq⟩ := hq
  refine W.eq (g2 := F0 m 40 ls [.int r21]) rfl ?_
  refine lv_istore (lv' := [(6, .int r21), (5, .float r19), (4, .int r17), (3, .int r15), (2, .int r13), (0, .ref (aDr cp i)), (1, .int x1)]) hx hb dX2_playPlace_40 hl (by decide) rfl (fun ls hl => ?_)
  refine lv_aload_n hx hb dX2_playPlace_42 rfl (lv_at hl 5 rfl) ?_
  refine lv_dup hx hb dX2_playPlace_43 rfl ?_
  refine c_getd hx hb hts hown hK hw hi 3 (by decide) (hts _ q_66) (fun _ h9 => h9) rfl dX2_playPlace_44 ?_
  refine lv_iconst (v := 1) hx hb dX2_playPlace_47 (by decide) ?_
  refine lv_iadd hx hb dX2_playPlace_48 ?_
  refine c_putd hx hb hts hown hK hw hS hi 3 (by decide) (hts _ q_66) (fun _ h9 => h9) rfl (ty := .int) (v := .int (((sDf u22 i).2.2.1) + (1 : Int32))) (dPp (sDf u22 i) (((sDf u22 i).2.2.1) + (1 : Int32))) rfl (by decide +kernel) rfl rfl dX2_playPlace_49 (fun H locs hw hS => ?_)
  refine lv_iload_n hx hb dX2_playPlace_52 rfl (lv_at hl 4 rfl) ?_
  refine lv_iconst (v := 1) hx hb dX2_playPlace_53 (by decide) ?_
  refine lv_icmp_ne (tgt := 69) hx hb dX2_playPlace_54 (by decide) (fun hc => ?_) (fun hc => ?_)
  · replace hq := hq.1 hc
    exact mt_retv hx hb hr hlocks hw hS (Nat.le_of_ble_eq_true rfl) (Nat.le_of_ble_eq_true rfl) dX2_playPlace_69 ⟨rfl, hq⟩
  · replace hq := hq.2 hc
    refine lv_aload_n hx hb dX2_playPlace_57 rfl (lv_at hl 5 rfl) ?_
    refine lv_iload_n hx hb dX2_playPlace_58 rfl (lv_at hl 3 rfl) ?_
    refine lv_iload hx hb dX2_playPlace_59 (lv_at hl 0 rfl) ?_
    refine lv_iadd hx hb dX2_playPlace_61 ?_
    refine lv_iload hx hb dX2_playPlace_62 (lv_at hl 2 rfl) ?_
    refine lv_fload hx hb dX2_playPlace_64 (lv_at hl 1 rfl) ?_
    refine mt_callV (index := 46) hx hb hml hown hts hK (ΩC.mono D d cp) hA hw hS hl.1 (tX2_sound l D d cp i (r15 + r21) r17 r19 (pPp u22 i (((sDf u22 i).2.2.1) + (1 : Int32))) hi hq) (c_recvD hK hw hi) q_354 q_33 q_351 q_353 q_11 nmhX2_sound ⟨⟨Nat.le_of_ble_eq_true rfl, Nat.le_of_ble_eq_true rfl⟩, ⟨Nat.le_of_ble_eq_true rfl, Nat.le_of_ble_eq_true rfl⟩⟩ rfl (Nat.le_of_ble_eq_true rfl) dX2_playPlace_66 (fun _ u24 H locs hq hw hS => ?_)
    obtain ⟨rfl, hq⟩ := hq
    refine W.eq (g2 := F0 m 69 ls []) rfl ?_
    exact mt_retv hx hb hr hlocks hw hS (Nat.le_of_ble_eq_true rfl) (Nat.le_of_ble_eq_true rfl) dX2_playPlace_69 ⟨rfl, hq⟩
abbrev rmX2_playOn : Room := { frames := 5, cells := 0, slots := 0, locals := 114 }
theorem nmhX2_playOn : NoMH yX2_playOn 1 := by decide +kernel
def wX2_playOn_b7 (i : Nat) (x1 : Int32) (Q : Int32 → CS → Prop) : Nat → Int32 → Int32 → CS → Prop
  | 0, _, _, _ => False
  | n + 1, v2, v3, σ =>
    (x1 ≤ v3 → (Q (((sDf σ i).2.1) - v2) σ)) ∧ (¬ x1 ≤ v3 → (wX2_someTrackHas i ((sDf σ i).1) σ (fun r13 u14 => (r13 = 0 → (Q (((sDf u14 i).2.1) - v2) u14)) ∧ (¬ r13 = 0 → (wX2_playPlace i ((sDf u14 i).1) u14 (fun u16 => ∀ y17 : Int32, y17 = v3 + 1 → (wX2_playOn_b7 i x1 Q n v2 y17 (pHd u16 i (((sDf u16 i).1) + (1 : Int32))))))))))
theorem wX2_playOn_b7_s (i : Nat) (x1 : Int32) (Q : Int32 → CS → Prop) (n : Nat) (v2 : Int32) (v3 : Int32) (σ : CS) : wX2_playOn_b7 i x1 Q (n + 1) v2 v3 σ = (
    (x1 ≤ v3 → (Q (((sDf σ i).2.1) - v2) σ)) ∧ (¬ x1 ≤ v3 → (wX2_someTrackHas i ((sDf σ i).1) σ (fun r13 u14 => (r13 = 0 → (Q (((sDf u14 i).2.1) - v2) u14)) ∧ (¬ r13 = 0 → (wX2_playPlace i ((sDf u14 i).1) u14 (fun u16 => ∀ y17 : Int32, y17 = v3 + 1 → (wX2_playOn_b7 i x1 Q n v2 y17 (pHd u16 i (((sDf u16 i).1) + (1 : Int32))))))))))) := rfl
def wX2_playOn (i : Nat) (x1 : Int32) (σ : CS) (Q : Int32 → CS → Prop) : Prop :=
    ∀ y12 : Int32, y12 = (sDf σ i).2.1 → (∃ k7 : Nat, wX2_playOn_b7 i x1 Q k7 y12 (0 : Int32) σ)
set_option maxHeartbeats 4000000 in
set_option maxRecDepth 100000 in
theorem tX2_playOn (l : Launch) (D : va_G) (d : AC) (cp : CP) (i : Nat) (x1 : Int32) (σ : CS) {Q : Int32 → CS → Prop} (hi : i < 8) (hq : wX2_playOn i x1 σ Q) : MT D d (ΩC D d cp) l yX2_playOn (WS yX2_playOn cX2_playOn 4 (some (.int))) rmX2_playOn [.ref (aDr cp i), .int x1] σ (qI Q) := by
  refine mt_of (ΩC.mono D d cp) (by decide +kernel) (Nat.le_of_ble_eq_true rfl) (fun p e s m below meth c A ls hx hb hr hml hown hts hlocks hnm hK hA hw hS hl => ?_)
  have hl : lv_has ls 4 [(0, .ref (aDr cp i)), (1, .int x1)] := hl
  have hown : s.vm.findClass RX2 = some m.cls := hown
  have b7 : ∀ (n : Nat) (v2 : Int32) (v3 : Int32) (σ : CS) (H : Heap) (locs : List Loc) (ls : Array Slot), wX2_playOn_b7 i x1 Q n v2 v3 σ → (ΩC D d cp) A σ H → va_S A s.heap H locs → lv_has ls 4 [(0, .ref (aDr cp i)), (1, .int x1), (2, .int v2), (3, .int v3)] → W p l e rmX2_playOn s m [.ref (aDr cp i), .int x1].toArray below meth c H locs 0 0 (MQ below (Qo (qI Q) (fun u' t => (ΩC D d cp) A u' t.heap) A) [.ref (aDr cp i), .int x1].toArray s rmX2_playOn.cells rmX2_playOn.slots A) (F0 m 7 ls []) := by
    intro n
    induction n with
    | zero =>
      intro v2 v3 σ H locs ls hq
      exact absurd hq id
    | succ n ih =>
      intro v2 v3 σ H locs ls hq hw hS hl
      rw [wX2_playOn_b7_s] at hq
      refine lv_iload_n hx hb dX2_playOn_7 rfl (lv_at hl 3 rfl) ?_
      refine lv_iload_n hx hb dX2_playOn_8 rfl (lv_at hl 1 rfl) ?_
      refine lv_icmp_ge (tgt := 47) hx hb dX2_playOn_9 (by decide) (fun hc => ?_) (fun hc => ?_)
      · replace hq := hq.1 hc
        refine lv_aload_n hx hb dX2_playOn_47 rfl (lv_at hl 0 rfl) ?_
        refine c_getd hx hb hts hown hK hw hi 2 (by decide) (hts _ q_64) (fun _ h9 => h9) rfl dX2_playOn_48 ?_
        refine lv_iload_n hx hb dX2_playOn_51 rfl (lv_at hl 2 rfl) ?_
        refine lv_isub hx hb dX2_playOn_52 ?_
        exact mt_reti hx hb hr hlocks hw hS (Nat.le_of_ble_eq_true rfl) (Nat.le_of_ble_eq_true rfl) dX2_playOn_53 ⟨_, rfl, hq⟩
      · replace hq := hq.2 hc
        refine lv_aload_n hx hb dX2_playOn_12 rfl (lv_at hl 0 rfl) ?_
        refine lv_aload_n hx hb dX2_playOn_13 rfl (lv_at hl 0 rfl) ?_
        refine c_getd hx hb hts hown hK hw hi 1 (by decide) (hts _ q_62) (fun _ h9 => h9) rfl dX2_playOn_14 ?_
        refine mt_callV (index := 24) hx hb hml hown hts hK (ΩC.mono D d cp) hA hw hS hl.1 (tX2_someTrackHas l D d cp i ((sDf σ i).1) σ hi hq) (c_recvD hK hw hi) q_327 q_33 q_324 q_326 q_7 nmhX2_someTrackHas ⟨⟨Nat.le_of_ble_eq_true rfl, Nat.le_of_ble_eq_true rfl⟩, ⟨Nat.le_of_ble_eq_true rfl, Nat.le_of_ble_eq_true rfl⟩⟩ rfl (Nat.le_of_ble_eq_true rfl) dX2_playOn_17 (fun _ u14 H locs hq hw hS => ?_)
        obtain ⟨r13, rfl, hzr13, hq⟩ := hq
        refine W.eq (g2 := F0 m 20 ls [.int r13]) rfl ?_
        refine lv_if_eq (tgt := 47) hx hb dX2_playOn_20 (by decide) (fun hc => ?_) (fun hc => ?_)
        · replace hq := hq.1 hc
          refine lv_aload_n hx hb dX2_playOn_47 rfl (lv_at hl 0 rfl) ?_
          refine c_getd hx hb hts hown hK hw hi 2 (by decide) (hts _ q_64) (fun _ h9 => h9) rfl dX2_playOn_48 ?_
          refine lv_iload_n hx hb dX2_playOn_51 rfl (lv_at hl 2 rfl) ?_
          refine lv_isub hx hb dX2_playOn_52 ?_
          exact mt_reti hx hb hr hlocks hw hS (Nat.le_of_ble_eq_true rfl) (Nat.le_of_ble_eq_true rfl) dX2_playOn_53 ⟨_, rfl, hq⟩
        · replace hq := hq.2 hc
          refine lv_aload_n hx hb dX2_playOn_23 rfl (lv_at hl 0 rfl) ?_
          refine lv_aload_n hx hb dX2_playOn_24 rfl (lv_at hl 0 rfl) ?_
          refine c_getd hx hb hts hown hK hw hi 1 (by decide) (hts _ q_62) (fun _ h9 => h9) rfl dX2_playOn_25 ?_
          refine mt_callV (index := 28) hx hb hml hown hts hK (ΩC.mono D d cp) hA hw hS hl.1 (tX2_playPlace l D d cp i ((sDf u14 i).1) u14 hi hq) (c_recvD hK hw hi) q_332 q_33 q_329 q_331 q_8 nmhX2_playPlace ⟨⟨Nat.le_of_ble_eq_true rfl, Nat.le_of_ble_eq_true rfl⟩, ⟨Nat.le_of_ble_eq_true rfl, Nat.le_of_ble_eq_true rfl⟩⟩ rfl (Nat.le_of_ble_eq_true rfl) dX2_playOn_28 (fun _ u16 H locs hq hw hS => ?_)
          obtain ⟨rfl, hq⟩ := hq
          refine W.eq (g2 := F0 m 31 ls []) rfl ?_
          refine lv_aload_n hx hb dX2_playOn_31 rfl (lv_at hl 0 rfl) ?_
          refine lv_dup hx hb dX2_playOn_32 rfl ?_
          refine c_getd hx hb hts hown hK hw hi 1 (by decide) (hts _ q_62) (fun _ h9 => h9) rfl dX2_playOn_33 ?_
          refine lv_iconst (v := 1) hx hb dX2_playOn_36 (by decide) ?_
          refine lv_iadd hx hb dX2_playOn_37 ?_
          refine c_putd hx hb hts hown hK hw hS hi 1 (by decide) (hts _ q_62) (fun _ h9 => h9) rfl (ty := .int) (v := .int (((sDf u16 i).1) + (1 : Int32))) (dHd (sDf u16 i) (((sDf u16 i).1) + (1 : Int32))) rfl (by decide +kernel) rfl rfl dX2_playOn_38 (fun H locs hw hS => ?_)
          obtain ⟨y17, ey17⟩ : ∃ z : Int32, z = v3 + 1 := ⟨_, rfl⟩
          replace hq := hq y17 ey17
          refine lv_iinc (v := y17) (lv' := [(3, .int y17), (0, .ref (aDr cp i)), (1, .int x1), (2, .int v2)]) hx hb dX2_playOn_41 hl (k := 3) rfl (by rw [ey17]; rfl) (by decide) rfl (fun ls hl => ?_)
          refine lv_goto (tgt := 7) hx hb dX2_playOn_44 (by decide) ?_
          exact ih v2 y17 (pHd u16 i (((sDf u16 i).1) + (1 : Int32))) _ _ _ hq hw hS (lv_sub hl [1, 2, 3, 0] rfl)
  unfold wX2_playOn at hq
  refine lv_aload_n hx hb dX2_playOn_0 rfl (lv_at hl 0 rfl) ?_
  refine c_getd hx hb hts hown hK hw hi 2 (by decide) (hts _ q_64) (fun _ h9 => h9) rfl dX2_playOn_1 ?_
  refine lv_topi (fun y12 ey12 => ?_)
  replace hq := hq y12 ey12
  refine lv_istore_n (lv' := [(2, .int y12), (0, .ref (aDr cp i)), (1, .int x1)]) hx hb dX2_playOn_4 rfl hl (by decide) rfl (fun ls hl => ?_)
  refine lv_iconst (v := 0) hx hb dX2_playOn_5 (by decide) ?_
  refine lv_istore_n (lv' := [(3, .int (0 : Int32)), (2, .int y12), (0, .ref (aDr cp i)), (1, .int x1)]) hx hb dX2_playOn_6 rfl hl (by decide) rfl (fun ls hl => ?_)
  obtain ⟨k7, hq⟩ := hq
  exact b7 k7 y12 (0 : Int32) σ _ _ _ hq hw hS (lv_sub hl [2, 3, 1, 0] rfl)
abbrev rmX2_tally : Room := { frames := 2, cells := 0, slots := 0, locals := 43 }
theorem nmhX2_tally : NoMH yX2_tally 1 := by decide +kernel
def wX2_tally (i : Nat) (x1 : Int32) (σ : CS) (Q : Int64 → CS → Prop) : Prop :=
    (x1.toInt < 0 ∨ 5 < x1.toInt → (Q (((sDf σ i).1).toInt64) σ)) ∧ (x1.toInt = 0 → (Q (((sDf σ i).2.1).toInt64) σ)) ∧ (x1.toInt = 1 → (Q (((sDf σ i).2.2.1).toInt64) σ)) ∧ (x1.toInt = 2 → (Q (((sDf σ i).2.2.2.1).toInt64) σ)) ∧ (x1.toInt = 3 → (Q ((sDf σ i).2.2.2.2.1) σ)) ∧ (x1.toInt = 4 → (Q (((sDf σ i).2.2.2.2.2.1).toInt64) σ)) ∧ (x1.toInt = 5 → (wX4_bitsOf ((sDf σ i).2.2.2.2.2.2) σ (fun r3 u4 => Q r3.toInt64 u4)))
set_option maxHeartbeats 4000000 in
set_option maxRecDepth 100000 in
theorem tX2_tally (l : Launch) (D : va_G) (d : AC) (cp : CP) (i : Nat) (x1 : Int32) (σ : CS) {Q : Int64 → CS → Prop} (hi : i < 8) (hq : wX2_tally i x1 σ Q) : MT D d (ΩC D d cp) l yX2_tally (WS yX2_tally cX2_tally 2 (some (.long))) rmX2_tally [.ref (aDr cp i), .int x1] σ (qL Q) := by
  refine mt_of (ΩC.mono D d cp) (by decide +kernel) (Nat.le_of_ble_eq_true rfl) (fun p e s m below meth c A ls hx hb hr hml hown hts hlocks hnm hK hA hw hS hl => ?_)
  have hl : lv_has ls 2 [(0, .ref (aDr cp i)), (1, .int x1)] := hl
  have hown : s.vm.findClass RX2 = some m.cls := hown
  unfold wX2_tally at hq
  refine lv_iload_n hx hb dX2_tally_0 rfl (lv_at hl 1 rfl) ?_
  rcases sw6 x1 with hc | hc | hc | hc | hc | hc | hc
  · replace hq := hq.1 hc
    refine lv_tableOut (tgt := 78) hx hb dX2_tally_1 (by first | omega | exact hc) (by decide) ?_
    refine lv_aload_n hx hb dX2_tally_78 rfl (lv_at hl 0 rfl) ?_
    refine c_getd hx hb hts hown hK hw hi 1 (by decide) (hts _ q_62) (fun _ h9 => h9) rfl dX2_tally_79 ?_
    refine lv_i2l hx hb dX2_tally_82 rfl ?_
    exact mt_retl hx hb hr hlocks hw hS (Nat.le_of_ble_eq_true rfl) (Nat.le_of_ble_eq_true rfl) dX2_tally_83 ⟨_, rfl, hq⟩
  · replace hq := hq.2.1 hc
    refine lv_tableIn (tgt := 40) hx hb dX2_tally_1 (by rw [hc]; decide) (by rw [hc]; decide) (by rw [hc]; rfl) (by decide) ?_
    refine lv_aload_n hx hb dX2_tally_40 rfl (lv_at hl 0 rfl) ?_
    refine c_getd hx hb hts hown hK hw hi 2 (by decide) (hts _ q_64) (fun _ h9 => h9) rfl dX2_tally_41 ?_
    refine lv_i2l hx hb dX2_tally_44 rfl ?_
    exact mt_retl hx hb hr hlocks hw hS (Nat.le_of_ble_eq_true rfl) (Nat.le_of_ble_eq_true rfl) dX2_tally_45 ⟨_, rfl, hq⟩
  · replace hq := hq.2.2.1 hc
    refine lv_tableIn (tgt := 46) hx hb dX2_tally_1 (by rw [hc]; decide) (by rw [hc]; decide) (by rw [hc]; rfl) (by decide) ?_
    refine lv_aload_n hx hb dX2_tally_46 rfl (lv_at hl 0 rfl) ?_
    refine c_getd hx hb hts hown hK hw hi 3 (by decide) (hts _ q_66) (fun _ h9 => h9) rfl dX2_tally_47 ?_
    refine lv_i2l hx hb dX2_tally_50 rfl ?_
    exact mt_retl hx hb hr hlocks hw hS (Nat.le_of_ble_eq_true rfl) (Nat.le_of_ble_eq_true rfl) dX2_tally_51 ⟨_, rfl, hq⟩
  · replace hq := hq.2.2.2.1 hc
    refine lv_tableIn (tgt := 52) hx hb dX2_tally_1 (by rw [hc]; decide) (by rw [hc]; decide) (by rw [hc]; rfl) (by decide) ?_
    refine lv_aload_n hx hb dX2_tally_52 rfl (lv_at hl 0 rfl) ?_
    refine c_getd hx hb hts hown hK hw hi 4 (by decide) (hts _ q_67) (fun _ h9 => h9) rfl dX2_tally_53 ?_
    refine lv_i2l hx hb dX2_tally_56 rfl ?_
    exact mt_retl hx hb hr hlocks hw hS (Nat.le_of_ble_eq_true rfl) (Nat.le_of_ble_eq_true rfl) dX2_tally_57 ⟨_, rfl, hq⟩
  · replace hq := hq.2.2.2.2.1 hc
    refine lv_tableIn (tgt := 58) hx hb dX2_tally_1 (by rw [hc]; decide) (by rw [hc]; decide) (by rw [hc]; rfl) (by decide) ?_
    refine lv_aload_n hx hb dX2_tally_58 rfl (lv_at hl 0 rfl) ?_
    refine c_getd hx hb hts hown hK hw hi 5 (by decide) (hts _ q_68) (fun _ h9 => h9) rfl dX2_tally_59 ?_
    exact mt_retl hx hb hr hlocks hw hS (Nat.le_of_ble_eq_true rfl) (Nat.le_of_ble_eq_true rfl) dX2_tally_62 ⟨_, rfl, hq⟩
  · replace hq := hq.2.2.2.2.2.1 hc
    refine lv_tableIn (tgt := 63) hx hb dX2_tally_1 (by rw [hc]; decide) (by rw [hc]; decide) (by rw [hc]; rfl) (by decide) ?_
    refine lv_aload_n hx hb dX2_tally_63 rfl (lv_at hl 0 rfl) ?_
    refine c_getd hx hb hts hown hK hw hi 6 (by decide) (hts _ q_69) (fun _ h9 => h9) rfl dX2_tally_64 ?_
    refine lv_i2l hx hb dX2_tally_67 rfl ?_
    exact mt_retl hx hb hr hlocks hw hS (Nat.le_of_ble_eq_true rfl) (Nat.le_of_ble_eq_true rfl) dX2_tally_68 ⟨_, rfl, hq⟩
  · replace hq := hq.2.2.2.2.2.2 hc
    refine lv_tableIn (tgt := 69) hx hb dX2_tally_1 (by rw [hc]; decide) (by rw [hc]; decide) (by rw [hc]; rfl) (by decide) ?_
    refine lv_aload_n hx hb dX2_tally_69 rfl (lv_at hl 0 rfl) ?_
    refine c_getd hx hb hts hown hK hw hi 7 (by decide) (hts _ q_70) (fun _ h9 => h9) rfl dX2_tally_70 ?_
    refine mt_callS (index := 74) hx hb hml hown hts hK (ΩC.mono D d cp) hA hw hS hl.1 (tX4_bitsOf l D d cp ((sDf σ i).2.2.2.2.2.2) σ hq) q_242 q_39 q_363 q_241 nmhX4_bitsOf ⟨⟨Nat.le_of_ble_eq_true rfl, Nat.le_of_ble_eq_true rfl⟩, ⟨Nat.le_of_ble_eq_true rfl, Nat.le_of_ble_eq_true rfl⟩⟩ rfl (Nat.le_of_ble_eq_true rfl) dX2_tally_73 (fun _ u4 H locs hq hw hS => ?_)
    obtain ⟨r3, rfl, hq⟩ := hq
    refine W.eq (g2 := F0 m 76 ls [.int r3]) rfl ?_
    refine lv_i2l hx hb dX2_tally_76 rfl ?_
    exact mt_retl hx hb hr hlocks hw hS (Nat.le_of_ble_eq_true rfl) (Nat.le_of_ble_eq_true rfl) dX2_tally_77 ⟨_, rfl, hq⟩
abbrev rmX2_forget : Room := { frames := 0, cells := 0, slots := 0, locals := 0 }
theorem nmhX2_forget : NoMH yX2_forget 0 := by decide +kernel
def wX2_forget (i : Nat) (σ : CS) (Q : CS → Prop) : Prop :=
    Q (pGl (pHp (pWt (pGp (pPp (pNo σ i (0 : Int32)) i (0 : Int32)) i (0 : Int32)) i (0 : Int64)) i (0 : Int32)) i FP.fconst0)
set_option maxHeartbeats 4000000 in
set_option maxRecDepth 100000 in
theorem tX2_forget (l : Launch) (D : va_G) (d : AC) (cp : CP) (i : Nat) (σ : CS) {Q : CS → Prop} (hi : i < 8) (hq : wX2_forget i σ Q) : MT D d (ΩC D d cp) l yX2_forget (WS yX2_forget cX2_forget 1 none) rmX2_forget [.ref (aDr cp i)] σ (qV Q) := by
  refine mt_of (ΩC.mono D d cp) (by decide +kernel) (Nat.le_of_ble_eq_true rfl) (fun p e s m below meth c A ls hx hb hr hml hown hts hlocks hnm hK hA hw hS hl => ?_)
  have hl : lv_has ls 1 [(0, .ref (aDr cp i))] := hl
  have hown : s.vm.findClass RX2 = some m.cls := hown
  unfold wX2_forget at hq
  refine lv_aload_n hx hb dX2_forget_0 rfl (lv_at hl 0 rfl) ?_
  refine lv_iconst (v := 0) hx hb dX2_forget_1 (by decide) ?_
  refine c_putd hx hb hts hown hK hw hS hi 2 (by decide) (hts _ q_64) (fun _ h9 => h9) rfl (ty := .int) (v := .int (0 : Int32)) (dNo (sDf σ i) (0 : Int32)) rfl (by decide +kernel) rfl rfl dX2_forget_2 (fun H locs hw hS => ?_)
  refine lv_aload_n hx hb dX2_forget_5 rfl (lv_at hl 0 rfl) ?_
  refine lv_iconst (v := 0) hx hb dX2_forget_6 (by decide) ?_
  refine c_putd hx hb hts hown hK hw hS hi 3 (by decide) (hts _ q_66) (fun _ h9 => h9) rfl (ty := .int) (v := .int (0 : Int32)) (dPp (sDf (pNo σ i (0 : Int32)) i) (0 : Int32)) rfl (by decide +kernel) rfl rfl dX2_forget_7 (fun H locs hw hS => ?_)
  refine lv_aload_n hx hb dX2_forget_10 rfl (lv_at hl 0 rfl) ?_
  refine lv_iconst (v := 0) hx hb dX2_forget_11 (by decide) ?_
  refine c_putd hx hb hts hown hK hw hS hi 4 (by decide) (hts _ q_67) (fun _ h9 => h9) rfl (ty := .int) (v := .int (0 : Int32)) (dGp (sDf (pPp (pNo σ i (0 : Int32)) i (0 : Int32)) i) (0 : Int32)) rfl (by decide +kernel) rfl rfl dX2_forget_12 (fun H locs hw hS => ?_)
  refine lv_aload_n hx hb dX2_forget_15 rfl (lv_at hl 0 rfl) ?_
  refine lv_lconst (v := 0) hx hb dX2_forget_16 (by decide) ?_
  refine c_putd hx hb hts hown hK hw hS hi 5 (by decide) (hts _ q_68) (fun _ h9 => h9) rfl (ty := .long) (v := .long (0 : Int64)) (dWt (sDf (pGp (pPp (pNo σ i (0 : Int32)) i (0 : Int32)) i (0 : Int32)) i) (0 : Int64)) rfl (by decide +kernel) rfl rfl dX2_forget_17 (fun H locs hw hS => ?_)
  refine lv_aload_n hx hb dX2_forget_20 rfl (lv_at hl 0 rfl) ?_
  refine lv_iconst (v := 0) hx hb dX2_forget_21 (by decide) ?_
  refine c_putd hx hb hts hown hK hw hS hi 6 (by decide) (hts _ q_69) (fun _ h9 => h9) rfl (ty := .int) (v := .int (0 : Int32)) (dHp (sDf (pWt (pGp (pPp (pNo σ i (0 : Int32)) i (0 : Int32)) i (0 : Int32)) i (0 : Int64)) i) (0 : Int32)) rfl (by decide +kernel) rfl rfl dX2_forget_22 (fun H locs hw hS => ?_)
  refine lv_aload_n hx hb dX2_forget_25 rfl (lv_at hl 0 rfl) ?_
  refine lv_fconst0 hx hb dX2_forget_26 ?_
  refine c_putd hx hb hts hown hK hw hS hi 7 (by decide) (hts _ q_70) (fun _ h9 => h9) rfl (ty := .float) (v := .float FP.fconst0) (dGl (sDf (pHp (pWt (pGp (pPp (pNo σ i (0 : Int32)) i (0 : Int32)) i (0 : Int32)) i (0 : Int64)) i (0 : Int32)) i) FP.fconst0) rfl (by decide +kernel) rfl rfl dX2_forget_27 (fun H locs hw hS => ?_)
  exact mt_retv hx hb hr hlocks hw hS (Nat.le_of_ble_eq_true rfl) (Nat.le_of_ble_eq_true rfl) dX2_forget_30 ⟨rfl, hq⟩
