abbrev rmX9_empties : Room := { frames := 1, cells := 0, slots := 0, locals := 24 }
theorem nmhX9_empties : NoMH yX9_empties 1 := by decide +kernel
def wX9_empties_b9 (x1 : Int32) (Q : Int32 → MS → Prop) : Nat → Int32 → Int32 → MS → Prop
  | 0, _, _, _ => False
  | n + 1, v2, v3, μ =>
    (v2 ≤ v3 → (vp_in x1 4 ∧ (vp_in x1 4 ∧ (Q v2 (nCK (nCT μ (upd (mCT μ) x1.toNatClampNeg (0 : Int32))) (upd (mCK (nCT μ (upd (mCT μ) x1.toNatClampNeg (0 : Int32)))) x1.toNatClampNeg (-1 : Int32))))))) ∧ (¬ v2 ≤ v3 → (wX9_toothGets x1 v3 (-1 : Int32) μ (fun u10 => ∀ y11 : Int32, y11 = v3 + 1 → (wX9_empties_b9 x1 Q n v2 y11 u10))))
theorem wX9_empties_b9_s (x1 : Int32) (Q : Int32 → MS → Prop) (n : Nat) (v2 : Int32) (v3 : Int32) (μ : MS) : wX9_empties_b9 x1 Q (n + 1) v2 v3 μ = (
    (v2 ≤ v3 → (vp_in x1 4 ∧ (vp_in x1 4 ∧ (Q v2 (nCK (nCT μ (upd (mCT μ) x1.toNatClampNeg (0 : Int32))) (upd (mCK (nCT μ (upd (mCT μ) x1.toNatClampNeg (0 : Int32)))) x1.toNatClampNeg (-1 : Int32))))))) ∧ (¬ v2 ≤ v3 → (wX9_toothGets x1 v3 (-1 : Int32) μ (fun u10 => ∀ y11 : Int32, y11 = v3 + 1 → (wX9_empties_b9 x1 Q n v2 y11 u10))))) := rfl
def wX9_empties (x1 : Int32) (μ : MS) (Q : Int32 → MS → Prop) : Prop :=
    vp_in x1 4 ∧ (∀ y8 : Int32, y8 = (mCT μ x1.toNatClampNeg) → (∃ k9 : Nat, wX9_empties_b9 x1 Q k9 y8 (0 : Int32) μ))
set_option maxHeartbeats 4000000 in
set_option maxRecDepth 100000 in
theorem tX9_empties (l : Launch) (D : va_G) (d : AC) (mp : Nat → Nat) (x1 : Int32) (μ : MS) {Q : Int32 → MS → Prop} (hq : wX9_empties x1 μ Q) : MT D d (ΩM D d mp) l yX9_empties (WS yX9_empties cX9_empties 4 (some (.int))) rmX9_empties [.ref (mp 0), .int x1] μ (qI Q) := by
  refine mt_of (ΩM.mono D d mp) (by decide +kernel) (Nat.le_of_ble_eq_true rfl) (fun p e s m below meth c A ls hx hb hr hml hown hts hlocks hnm hK hA hw hS hl => ?_)
  have hl : lv_has ls 4 [(0, .ref (mp 0)), (1, .int x1)] := hl
  have hown : s.vm.findClass RX9 = some m.cls := hown
  have b9 : ∀ (n : Nat) (v2 : Int32) (v3 : Int32) (μ : MS) (H : Heap) (locs : List Loc) (ls : Array Slot), wX9_empties_b9 x1 Q n v2 v3 μ → (ΩM D d mp) A μ H → va_S A s.heap H locs → lv_has ls 4 [(0, .ref (mp 0)), (1, .int x1), (2, .int v2), (3, .int v3)] → W p l e rmX9_empties s m [.ref (mp 0), .int x1].toArray below meth c H locs 0 0 (MQ below (Qo (qI Q) (fun u' t => (ΩM D d mp) A u' t.heap) A) [.ref (mp 0), .int x1].toArray s rmX9_empties.cells rmX9_empties.slots A) (F0 m 9 ls []) := by
    intro n
    induction n with
    | zero =>
      intro v2 v3 μ H locs ls hq
      exact absurd hq id
    | succ n ih =>
      intro v2 v3 μ H locs ls hq hw hS hl
      rw [wX9_empties_b9_s] at hq
      refine lv_iload_n hx hb dX9_empties_9 rfl (lv_at hl 3 rfl) ?_
      refine lv_iload_n hx hb dX9_empties_10 rfl (lv_at hl 2 rfl) ?_
      refine lv_icmp_ge (tgt := 27) hx hb dX9_empties_11 (by decide) (fun hc => ?_) (fun hc => ?_)
      · replace hq := hq.1 hc
        refine lv_aload_n hx hb dX9_empties_27 rfl (lv_at hl 0 rfl) ?_
        refine va_get (D := D) (ci := 8) (v := .ref (mp 7)) (C := RX9) (T := TX9) (N := 15) hx hb hts inX9 hown hK.1 hw.1 0 rfl rfl 6 (by decide) (hts _ q_467) (fun _ h9 => h9) rfl dX9_empties_28 ?_
        refine lv_iload_n hx hb dX9_empties_31 rfl (lv_at hl 1 rfl) ?_
        refine lv_iconst (v := 0) hx hb dX9_empties_32 (by decide) ?_
        refine va_iast hx hb hK.1 hw.1 hw.2 hS 7 8 rfl rfl hq.1 dX9_empties_33 (fun H locs hP hD hS => ?_)
        have hw : ΩM D d mp A (nCT μ (upd (mCT μ) x1.toNatClampNeg (0 : Int32))) H := ⟨hP, hD⟩
        replace hq := hq.2
        refine lv_aload_n hx hb dX9_empties_34 rfl (lv_at hl 0 rfl) ?_
        refine va_get (D := D) (ci := 8) (v := .ref (mp 6)) (C := RX9) (T := TX9) (N := 15) hx hb hts inX9 hown hK.1 hw.1 0 rfl rfl 5 (by decide) (hts _ q_466) (fun _ h9 => h9) rfl dX9_empties_35 ?_
        refine lv_iload_n hx hb dX9_empties_38 rfl (lv_at hl 1 rfl) ?_
        refine lv_iconst (v := -1) hx hb dX9_empties_39 (by decide) ?_
        refine va_iast hx hb hK.1 hw.1 hw.2 hS 6 8 rfl rfl hq.1 dX9_empties_40 (fun H locs hP hD hS => ?_)
        have hw : ΩM D d mp A (nCK (nCT μ (upd (mCT μ) x1.toNatClampNeg (0 : Int32))) (upd (mCK (nCT μ (upd (mCT μ) x1.toNatClampNeg (0 : Int32)))) x1.toNatClampNeg (-1 : Int32))) H := ⟨hP, hD⟩
        replace hq := hq.2
        refine lv_iload_n hx hb dX9_empties_41 rfl (lv_at hl 2 rfl) ?_
        exact mt_reti hx hb hr hlocks hw hS (Nat.le_of_ble_eq_true rfl) (Nat.le_of_ble_eq_true rfl) dX9_empties_42 ⟨_, rfl, hq⟩
      · replace hq := hq.2 hc
        refine lv_aload_n hx hb dX9_empties_14 rfl (lv_at hl 0 rfl) ?_
        refine lv_iload_n hx hb dX9_empties_15 rfl (lv_at hl 1 rfl) ?_
        refine lv_iload_n hx hb dX9_empties_16 rfl (lv_at hl 3 rfl) ?_
        refine lv_iconst (v := -1) hx hb dX9_empties_17 (by decide) ?_
        refine mt_callV (index := 128) hx hb hml hown hts hK (ΩM.mono D d mp) hA hw hS hl.1 (tX9_toothGets l D d mp x1 v3 (-1 : Int32) μ hq) (ΩM.recv hK hw) q_636 q_34 q_633 q_635 q_28 nmhX9_toothGets ⟨⟨Nat.le_of_ble_eq_true rfl, Nat.le_of_ble_eq_true rfl⟩, ⟨Nat.le_of_ble_eq_true rfl, Nat.le_of_ble_eq_true rfl⟩⟩ rfl (Nat.le_of_ble_eq_true rfl) dX9_empties_18 (fun _ u10 H locs hq hw hS => ?_)
        obtain ⟨rfl, hq⟩ := hq
        refine W.eq (g2 := F0 m 21 ls []) rfl ?_
        obtain ⟨y11, ey11⟩ : ∃ z : Int32, z = v3 + 1 := ⟨_, rfl⟩
        replace hq := hq y11 ey11
        refine lv_iinc (v := y11) (lv' := [(3, .int y11), (0, .ref (mp 0)), (1, .int x1), (2, .int v2)]) hx hb dX9_empties_21 hl (k := 3) rfl (by rw [ey11]; rfl) (by decide) rfl (fun ls hl => ?_)
        refine lv_goto (tgt := 9) hx hb dX9_empties_24 (by decide) ?_
        exact ih v2 y11 u10 _ _ _ hq hw hS (lv_sub hl [1, 2, 3, 0] rfl)
  unfold wX9_empties at hq
  refine lv_aload_n hx hb dX9_empties_0 rfl (lv_at hl 0 rfl) ?_
  refine va_get (D := D) (ci := 8) (v := .ref (mp 7)) (C := RX9) (T := TX9) (N := 15) hx hb hts inX9 hown hK.1 hw.1 0 rfl rfl 6 (by decide) (hts _ q_467) (fun _ h9 => h9) rfl dX9_empties_1 ?_
  refine lv_iload_n hx hb dX9_empties_4 rfl (lv_at hl 1 rfl) ?_
  refine va_iald hx hb hK.1 hw.1 7 8 rfl rfl hq.1 dX9_empties_5 ?_
  replace hq := hq.2
  refine lv_topi (fun y8 ey8 => ?_)
  replace hq := hq y8 ey8
  refine lv_istore_n (lv' := [(2, .int y8), (0, .ref (mp 0)), (1, .int x1)]) hx hb dX9_empties_6 rfl hl (by decide) rfl (fun ls hl => ?_)
  refine lv_iconst (v := 0) hx hb dX9_empties_7 (by decide) ?_
  refine lv_istore_n (lv' := [(3, .int (0 : Int32)), (2, .int y8), (0, .ref (mp 0)), (1, .int x1)]) hx hb dX9_empties_8 rfl hl (by decide) rfl (fun ls hl => ?_)
  obtain ⟨k9, hq⟩ := hq
  exact b9 k9 y8 (0 : Int32) μ _ _ _ hq hw hS (lv_sub hl [2, 3, 1, 0] rfl)
abbrev rmX9_comb : Room := { frames := 2, cells := 0, slots := 0, locals := 47 }
theorem nmhX9_comb : NoMH yX9_comb 4 := by decide +kernel
def wX9_comb_b74 (x1 : Int32) (x2 : Int32) (x3 : Int32) (x4 : Int32) (Q : Int32 → MS → Prop) : Nat → Int32 → Int32 → MS → Prop
  | 0, _, _, _ => False
  | n + 1, v5, v6, μ =>
    (x3 ≤ v6 → wX9_told x3 μ (fun r47 u48 => Q r47 u48)) ∧ (¬ x3 ≤ v6 → (wX9_newTrack x4 μ (fun r49 u50 => wX9_toothGets x1 v6 r49 u50 (fun u52 => ∀ y53 : Int32, y53 = v6 + 1 → (wX9_comb_b74 x1 x2 x3 x4 Q n v5 y53 u52)))))
theorem wX9_comb_b74_s (x1 : Int32) (x2 : Int32) (x3 : Int32) (x4 : Int32) (Q : Int32 → MS → Prop) (n : Nat) (v5 : Int32) (v6 : Int32) (μ : MS) : wX9_comb_b74 x1 x2 x3 x4 Q (n + 1) v5 v6 μ = (
    (x3 ≤ v6 → wX9_told x3 μ (fun r47 u48 => Q r47 u48)) ∧ (¬ x3 ≤ v6 → (wX9_newTrack x4 μ (fun r49 u50 => wX9_toothGets x1 v6 r49 u50 (fun u52 => ∀ y53 : Int32, y53 = v6 + 1 → (wX9_comb_b74 x1 x2 x3 x4 Q n v5 y53 u52)))))) := rfl
def wX9_comb (x1 : Int32) (x2 : Int32) (x3 : Int32) (x4 : Int32) (μ : MS) (Q : Int32 → MS → Prop) : Prop :=
    wX9_in x1 (0 : Int32) (3 : Int32) μ (fun r33 u34 => (r33 = 0 → wX9_told (-1 : Int32) u34 (fun r35 u36 => Q r35 u36)) ∧ (¬ r33 = 0 → (wX9_isKind x2 u34 (fun r37 u38 => (¬ r37 = 0 → (wX9_in x3 (0 : Int32) (40 : Int32) u38 (fun r39 u40 => (r39 = 0 → wX9_told (-4 : Int32) u40 (fun r41 u42 => Q r41 u42)) ∧ (¬ r39 = 0 → (wX9_in x4 (0 : Int32) (40 : Int32) u40 (fun r43 u44 => (¬ r43 = 0 → (wX9_empties x1 u44 (fun r45 u46 => vp_in x1 4 ∧ (vp_in x1 4 ∧ (∃ k74 : Nat, wX9_comb_b74 x1 x2 x3 x4 Q k74 r45 (0 : Int32) (nCT (nCK u46 (upd (mCK u46) x1.toNatClampNeg x2)) (upd (mCT (nCK u46 (upd (mCK u46) x1.toNatClampNeg x2))) x1.toNatClampNeg x3))))))) ∧ (r43 = 0 → wX9_told (-4 : Int32) u44 (fun r54 u55 => Q r54 u55)))))))) ∧ (r37 = 0 → wX9_told (-1 : Int32) u38 (fun r56 u57 => Q r56 u57))))))
set_option maxHeartbeats 4000000 in
set_option maxRecDepth 100000 in
theorem tX9_comb (l : Launch) (D : va_G) (d : AC) (mp : Nat → Nat) (x1 : Int32) (x2 : Int32) (x3 : Int32) (x4 : Int32) (μ : MS) {Q : Int32 → MS → Prop} (hq : wX9_comb x1 x2 x3 x4 μ Q) : MT D d (ΩM D d mp) l yX9_comb (WS yX9_comb cX9_comb 7 (some (.int))) rmX9_comb [.ref (mp 0), .int x1, .int x2, .int x3, .int x4] μ (qI Q) := by
  refine mt_of (ΩM.mono D d mp) (by decide +kernel) (Nat.le_of_ble_eq_true rfl) (fun p e s m below meth c A ls hx hb hr hml hown hts hlocks hnm hK hA hw hS hl => ?_)
  have hl : lv_has ls 7 [(0, .ref (mp 0)), (1, .int x1), (2, .int x2), (3, .int x3), (4, .int x4)] := hl
  have hown : s.vm.findClass RX9 = some m.cls := hown
  have b74 : ∀ (n : Nat) (v5 : Int32) (v6 : Int32) (μ : MS) (H : Heap) (locs : List Loc) (ls : Array Slot), wX9_comb_b74 x1 x2 x3 x4 Q n v5 v6 μ → (ΩM D d mp) A μ H → va_S A s.heap H locs → lv_has ls 7 [(0, .ref (mp 0)), (1, .int x1), (2, .int x2), (3, .int x3), (4, .int x4), (5, .int v5), (6, .int v6)] → W p l e rmX9_comb s m [.ref (mp 0), .int x1, .int x2, .int x3, .int x4].toArray below meth c H locs 0 0 (MQ below (Qo (qI Q) (fun u' t => (ΩM D d mp) A u' t.heap) A) [.ref (mp 0), .int x1, .int x2, .int x3, .int x4].toArray s rmX9_comb.cells rmX9_comb.slots A) (F0 m 74 ls []) := by
    intro n
    induction n with
    | zero =>
      intro v5 v6 μ H locs ls hq
      exact absurd hq id
    | succ n ih =>
      intro v5 v6 μ H locs ls hq hw hS hl
      rw [wX9_comb_b74_s] at hq
      refine lv_iload hx hb dX9_comb_74 (lv_at hl 6 rfl) ?_
      refine lv_iload_n hx hb dX9_comb_76 rfl (lv_at hl 3 rfl) ?_
      refine lv_icmp_ge (tgt := 99) hx hb dX9_comb_77 (by decide) (fun hc => ?_) (fun hc => ?_)
      · replace hq := hq.1 hc
        refine lv_aload_n hx hb dX9_comb_99 rfl (lv_at hl 0 rfl) ?_
        refine lv_iload_n hx hb dX9_comb_100 rfl (lv_at hl 3 rfl) ?_
        refine mt_callV (index := 96) hx hb hml hown hts hK (ΩM.mono D d mp) hA hw hS hl.1 (tX9_told l D d mp x3 μ hq) (ΩM.recv hK hw) q_525 q_34 q_522 q_524 q_17 nmhX9_told ⟨⟨Nat.le_of_ble_eq_true rfl, Nat.le_of_ble_eq_true rfl⟩, ⟨Nat.le_of_ble_eq_true rfl, Nat.le_of_ble_eq_true rfl⟩⟩ rfl (Nat.le_of_ble_eq_true rfl) dX9_comb_101 (fun _ u48 H locs hq hw hS => ?_)
        obtain ⟨r47, rfl, hq⟩ := hq
        refine W.eq (g2 := F0 m 104 ls [.int r47]) rfl ?_
        exact mt_reti hx hb hr hlocks hw hS (Nat.le_of_ble_eq_true rfl) (Nat.le_of_ble_eq_true rfl) dX9_comb_104 ⟨_, rfl, hq⟩
      · replace hq := hq.2 hc
        refine lv_aload_n hx hb dX9_comb_80 rfl (lv_at hl 0 rfl) ?_
        refine lv_iload_n hx hb dX9_comb_81 rfl (lv_at hl 1 rfl) ?_
        refine lv_iload hx hb dX9_comb_82 (lv_at hl 6 rfl) ?_
        refine lv_aload_n hx hb dX9_comb_84 rfl (lv_at hl 0 rfl) ?_
        refine lv_iload hx hb dX9_comb_85 (lv_at hl 4 rfl) ?_
        refine mt_callV (index := 100) hx hb hml hown hts hK (ΩM.mono D d mp) hA hw hS hl.1 (tX9_newTrack l D d mp x4 μ hq) (ΩM.recv hK hw) q_529 q_34 q_526 q_528 q_18 nmhX9_newTrack ⟨⟨Nat.le_of_ble_eq_true rfl, Nat.le_of_ble_eq_true rfl⟩, ⟨Nat.le_of_ble_eq_true rfl, Nat.le_of_ble_eq_true rfl⟩⟩ rfl (Nat.le_of_ble_eq_true rfl) dX9_comb_87 (fun _ u50 H locs hq hw hS => ?_)
        obtain ⟨r49, rfl, hq⟩ := hq
        refine W.eq (g2 := F0 m 90 ls [.int r49, .int v6, .int x1, .ref (mp 0)]) rfl ?_
        refine mt_callV (index := 128) hx hb hml hown hts hK (ΩM.mono D d mp) hA hw hS hl.1 (tX9_toothGets l D d mp x1 v6 r49 u50 hq) (ΩM.recv hK hw) q_636 q_34 q_633 q_635 q_28 nmhX9_toothGets ⟨⟨Nat.le_of_ble_eq_true rfl, Nat.le_of_ble_eq_true rfl⟩, ⟨Nat.le_of_ble_eq_true rfl, Nat.le_of_ble_eq_true rfl⟩⟩ rfl (Nat.le_of_ble_eq_true rfl) dX9_comb_90 (fun _ u52 H locs hq hw hS => ?_)
        obtain ⟨rfl, hq⟩ := hq
        refine W.eq (g2 := F0 m 93 ls []) rfl ?_
        obtain ⟨y53, ey53⟩ : ∃ z : Int32, z = v6 + 1 := ⟨_, rfl⟩
        replace hq := hq y53 ey53
        refine lv_iinc (v := y53) (lv' := [(6, .int y53), (0, .ref (mp 0)), (1, .int x1), (2, .int x2), (3, .int x3), (4, .int x4), (5, .int v5)]) hx hb dX9_comb_93 hl (k := 6) rfl (by rw [ey53]; rfl) (by decide) rfl (fun ls hl => ?_)
        refine lv_goto (tgt := 74) hx hb dX9_comb_96 (by decide) ?_
        exact ih v5 y53 u52 _ _ _ hq hw hS (lv_sub hl [1, 2, 3, 4, 5, 6, 0] rfl)
  unfold wX9_comb at hq
  refine lv_iload_n hx hb dX9_comb_0 rfl (lv_at hl 1 rfl) ?_
  refine lv_iconst (v := 0) hx hb dX9_comb_1 (by decide) ?_
  refine lv_iconst (v := 3) hx hb dX9_comb_2 (by decide) ?_
  refine mt_callS (index := 58) hx hb hml hown hts hK (ΩM.mono D d mp) hA hw hS hl.1 (tX9_in l D d mp x1 (0 : Int32) (3 : Int32) μ hq) q_518 q_34 q_516 q_517 nmhX9_in ⟨⟨Nat.le_of_ble_eq_true rfl, Nat.le_of_ble_eq_true rfl⟩, ⟨Nat.le_of_ble_eq_true rfl, Nat.le_of_ble_eq_true rfl⟩⟩ rfl (Nat.le_of_ble_eq_true rfl) dX9_comb_3 (fun _ u34 H locs hq hw hS => ?_)
  obtain ⟨r33, rfl, hzr33, hq⟩ := hq
  refine W.eq (g2 := F0 m 6 ls [.int r33]) rfl ?_
  refine lv_if_eq (tgt := 16) hx hb dX9_comb_6 (by decide) (fun hc => ?_) (fun hc => ?_)
  · replace hq := hq.1 hc
    refine lv_aload_n hx hb dX9_comb_16 rfl (lv_at hl 0 rfl) ?_
    refine lv_iconst (v := -1) hx hb dX9_comb_17 (by decide) ?_
    refine mt_callV (index := 96) hx hb hml hown hts hK (ΩM.mono D d mp) hA hw hS hl.1 (tX9_told l D d mp (-1 : Int32) u34 hq) (ΩM.recv hK hw) q_525 q_34 q_522 q_524 q_17 nmhX9_told ⟨⟨Nat.le_of_ble_eq_true rfl, Nat.le_of_ble_eq_true rfl⟩, ⟨Nat.le_of_ble_eq_true rfl, Nat.le_of_ble_eq_true rfl⟩⟩ rfl (Nat.le_of_ble_eq_true rfl) dX9_comb_18 (fun _ u36 H locs hq hw hS => ?_)
    obtain ⟨r35, rfl, hq⟩ := hq
    refine W.eq (g2 := F0 m 21 ls [.int r35]) rfl ?_
    exact mt_reti hx hb hr hlocks hw hS (Nat.le_of_ble_eq_true rfl) (Nat.le_of_ble_eq_true rfl) dX9_comb_21 ⟨_, rfl, hq⟩
  · replace hq := hq.2 hc
    refine lv_iload_n hx hb dX9_comb_9 rfl (lv_at hl 2 rfl) ?_
    refine mt_callS (index := 93) hx hb hml hown hts hK (ΩM.mono D d mp) hA hw hS hl.1 (tX9_isKind l D d mp x2 u34 hq) q_521 q_34 q_519 q_520 nmhX9_isKind ⟨⟨Nat.le_of_ble_eq_true rfl, Nat.le_of_ble_eq_true rfl⟩, ⟨Nat.le_of_ble_eq_true rfl, Nat.le_of_ble_eq_true rfl⟩⟩ rfl (Nat.le_of_ble_eq_true rfl) dX9_comb_10 (fun _ u38 H locs hq hw hS => ?_)
    obtain ⟨r37, rfl, hzr37, hq⟩ := hq
    refine W.eq (g2 := F0 m 13 ls [.int r37]) rfl ?_
    refine lv_if_ne (tgt := 22) hx hb dX9_comb_13 (by decide) (fun hc => ?_) (fun hc => ?_)
    · replace hq := hq.1 hc
      refine lv_iload_n hx hb dX9_comb_22 rfl (lv_at hl 3 rfl) ?_
      refine lv_iconst (v := 0) hx hb dX9_comb_23 (by decide) ?_
      refine lv_bipush (v := 40) hx hb dX9_comb_24 (by decide) ?_
      refine mt_callS (index := 58) hx hb hml hown hts hK (ΩM.mono D d mp) hA hw hS hl.1 (tX9_in l D d mp x3 (0 : Int32) (40 : Int32) u38 hq) q_518 q_34 q_516 q_517 nmhX9_in ⟨⟨Nat.le_of_ble_eq_true rfl, Nat.le_of_ble_eq_true rfl⟩, ⟨Nat.le_of_ble_eq_true rfl, Nat.le_of_ble_eq_true rfl⟩⟩ rfl (Nat.le_of_ble_eq_true rfl) dX9_comb_26 (fun _ u40 H locs hq hw hS => ?_)
      obtain ⟨r39, rfl, hzr39, hq⟩ := hq
      refine W.eq (g2 := F0 m 29 ls [.int r39]) rfl ?_
      refine lv_if_eq (tgt := 43) hx hb dX9_comb_29 (by decide) (fun hc => ?_) (fun hc => ?_)
      · replace hq := hq.1 hc
        refine lv_aload_n hx hb dX9_comb_43 rfl (lv_at hl 0 rfl) ?_
        refine lv_bipush (v := -4) hx hb dX9_comb_44 (by decide) ?_
        refine mt_callV (index := 96) hx hb hml hown hts hK (ΩM.mono D d mp) hA hw hS hl.1 (tX9_told l D d mp (-4 : Int32) u40 hq) (ΩM.recv hK hw) q_525 q_34 q_522 q_524 q_17 nmhX9_told ⟨⟨Nat.le_of_ble_eq_true rfl, Nat.le_of_ble_eq_true rfl⟩, ⟨Nat.le_of_ble_eq_true rfl, Nat.le_of_ble_eq_true rfl⟩⟩ rfl (Nat.le_of_ble_eq_true rfl) dX9_comb_46 (fun _ u42 H locs hq hw hS => ?_)
        obtain ⟨r41, rfl, hq⟩ := hq
        refine W.eq (g2 := F0 m 49 ls [.int r41]) rfl ?_
        exact mt_reti hx hb hr hlocks hw hS (Nat.le_of_ble_eq_true rfl) (Nat.le_of_ble_eq_true rfl) dX9_comb_49 ⟨_, rfl, hq⟩
      · replace hq := hq.2 hc
        refine lv_iload hx hb dX9_comb_32 (lv_at hl 4 rfl) ?_
        refine lv_iconst (v := 0) hx hb dX9_comb_34 (by decide) ?_
        refine lv_bipush (v := 40) hx hb dX9_comb_35 (by decide) ?_
        refine mt_callS (index := 58) hx hb hml hown hts hK (ΩM.mono D d mp) hA hw hS hl.1 (tX9_in l D d mp x4 (0 : Int32) (40 : Int32) u40 hq) q_518 q_34 q_516 q_517 nmhX9_in ⟨⟨Nat.le_of_ble_eq_true rfl, Nat.le_of_ble_eq_true rfl⟩, ⟨Nat.le_of_ble_eq_true rfl, Nat.le_of_ble_eq_true rfl⟩⟩ rfl (Nat.le_of_ble_eq_true rfl) dX9_comb_37 (fun _ u44 H locs hq hw hS => ?_)
        obtain ⟨r43, rfl, hzr43, hq⟩ := hq
        refine W.eq (g2 := F0 m 40 ls [.int r43]) rfl ?_
        refine lv_if_ne (tgt := 50) hx hb dX9_comb_40 (by decide) (fun hc => ?_) (fun hc => ?_)
        · replace hq := hq.1 hc
          refine lv_aload_n hx hb dX9_comb_50 rfl (lv_at hl 0 rfl) ?_
          refine lv_iload_n hx hb dX9_comb_51 rfl (lv_at hl 1 rfl) ?_
          refine mt_callV (index := 131) hx hb hml hown hts hK (ΩM.mono D d mp) hA hw hS hl.1 (tX9_empties l D d mp x1 u44 hq) (ΩM.recv hK hw) q_632 q_34 q_629 q_631 q_27 nmhX9_empties ⟨⟨Nat.le_of_ble_eq_true rfl, Nat.le_of_ble_eq_true rfl⟩, ⟨Nat.le_of_ble_eq_true rfl, Nat.le_of_ble_eq_true rfl⟩⟩ rfl (Nat.le_of_ble_eq_true rfl) dX9_comb_52 (fun _ u46 H locs hq hw hS => ?_)
          obtain ⟨r45, rfl, hq⟩ := hq
          refine W.eq (g2 := F0 m 55 ls [.int r45]) rfl ?_
          refine lv_istore (lv' := [(5, .int r45), (0, .ref (mp 0)), (1, .int x1), (2, .int x2), (3, .int x3), (4, .int x4)]) hx hb dX9_comb_55 hl (by decide) rfl (fun ls hl => ?_)
          refine lv_aload_n hx hb dX9_comb_57 rfl (lv_at hl 1 rfl) ?_
          refine va_get (D := D) (ci := 8) (v := .ref (mp 6)) (C := RX9) (T := TX9) (N := 15) hx hb hts inX9 hown hK.1 hw.1 0 rfl rfl 5 (by decide) (hts _ q_466) (fun _ h9 => h9) rfl dX9_comb_58 ?_
          refine lv_iload_n hx hb dX9_comb_61 rfl (lv_at hl 2 rfl) ?_
          refine lv_iload_n hx hb dX9_comb_62 rfl (lv_at hl 3 rfl) ?_
          refine va_iast hx hb hK.1 hw.1 hw.2 hS 6 8 rfl rfl hq.1 dX9_comb_63 (fun H locs hP hD hS => ?_)
          have hw : ΩM D d mp A (nCK u46 (upd (mCK u46) x1.toNatClampNeg x2)) H := ⟨hP, hD⟩
          replace hq := hq.2
          refine lv_aload_n hx hb dX9_comb_64 rfl (lv_at hl 1 rfl) ?_
          refine va_get (D := D) (ci := 8) (v := .ref (mp 7)) (C := RX9) (T := TX9) (N := 15) hx hb hts inX9 hown hK.1 hw.1 0 rfl rfl 6 (by decide) (hts _ q_467) (fun _ h9 => h9) rfl dX9_comb_65 ?_
          refine lv_iload_n hx hb dX9_comb_68 rfl (lv_at hl 2 rfl) ?_
          refine lv_iload_n hx hb dX9_comb_69 rfl (lv_at hl 4 rfl) ?_
          refine va_iast hx hb hK.1 hw.1 hw.2 hS 7 8 rfl rfl hq.1 dX9_comb_70 (fun H locs hP hD hS => ?_)
          have hw : ΩM D d mp A (nCT (nCK u46 (upd (mCK u46) x1.toNatClampNeg x2)) (upd (mCT (nCK u46 (upd (mCK u46) x1.toNatClampNeg x2))) x1.toNatClampNeg x3)) H := ⟨hP, hD⟩
          replace hq := hq.2
          refine lv_iconst (v := 0) hx hb dX9_comb_71 (by decide) ?_
          refine lv_istore (lv' := [(6, .int (0 : Int32)), (5, .int r45), (0, .ref (mp 0)), (1, .int x1), (2, .int x2), (3, .int x3), (4, .int x4)]) hx hb dX9_comb_72 hl (by decide) rfl (fun ls hl => ?_)
          obtain ⟨k74, hq⟩ := hq
          exact b74 k74 r45 (0 : Int32) (nCT (nCK u46 (upd (mCK u46) x1.toNatClampNeg x2)) (upd (mCT (nCK u46 (upd (mCK u46) x1.toNatClampNeg x2))) x1.toNatClampNeg x3)) _ _ _ hq hw hS (lv_sub hl [2, 3, 4, 5, 6, 1, 0] rfl)
        · replace hq := hq.2 hc
          refine lv_aload_n hx hb dX9_comb_43 rfl (lv_at hl 0 rfl) ?_
          refine lv_bipush (v := -4) hx hb dX9_comb_44 (by decide) ?_
          refine mt_callV (index := 96) hx hb hml hown hts hK (ΩM.mono D d mp) hA hw hS hl.1 (tX9_told l D d mp (-4 : Int32) u44 hq) (ΩM.recv hK hw) q_525 q_34 q_522 q_524 q_17 nmhX9_told ⟨⟨Nat.le_of_ble_eq_true rfl, Nat.le_of_ble_eq_true rfl⟩, ⟨Nat.le_of_ble_eq_true rfl, Nat.le_of_ble_eq_true rfl⟩⟩ rfl (Nat.le_of_ble_eq_true rfl) dX9_comb_46 (fun _ u55 H locs hq hw hS => ?_)
          obtain ⟨r54, rfl, hq⟩ := hq
          refine W.eq (g2 := F0 m 49 ls [.int r54]) rfl ?_
          exact mt_reti hx hb hr hlocks hw hS (Nat.le_of_ble_eq_true rfl) (Nat.le_of_ble_eq_true rfl) dX9_comb_49 ⟨_, rfl, hq⟩
    · replace hq := hq.2 hc
      refine lv_aload_n hx hb dX9_comb_16 rfl (lv_at hl 0 rfl) ?_
      refine lv_iconst (v := -1) hx hb dX9_comb_17 (by decide) ?_
      refine mt_callV (index := 96) hx hb hml hown hts hK (ΩM.mono D d mp) hA hw hS hl.1 (tX9_told l D d mp (-1 : Int32) u38 hq) (ΩM.recv hK hw) q_525 q_34 q_522 q_524 q_17 nmhX9_told ⟨⟨Nat.le_of_ble_eq_true rfl, Nat.le_of_ble_eq_true rfl⟩, ⟨Nat.le_of_ble_eq_true rfl, Nat.le_of_ble_eq_true rfl⟩⟩ rfl (Nat.le_of_ble_eq_true rfl) dX9_comb_18 (fun _ u57 H locs hq hw hS => ?_)
      obtain ⟨r56, rfl, hq⟩ := hq
      refine W.eq (g2 := F0 m 21 ls [.int r56]) rfl ?_
      exact mt_reti hx hb hr hlocks hw hS (Nat.le_of_ble_eq_true rfl) (Nat.le_of_ble_eq_true rfl) dX9_comb_21 ⟨_, rfl, hq⟩
abbrev rmX9_drop : Room := { frames := 2, cells := 0, slots := 0, locals := 47 }
theorem nmhX9_drop : NoMH yX9_drop 1 := by decide +kernel
def wX9_drop (x1 : Int32) (μ : MS) (Q : Int32 → MS → Prop) : Prop :=
    wX9_isComb x1 μ (fun r9 u10 => (r9 = 0 → wX9_told (-1 : Int32) u10 (fun r11 u12 => Q r11 u12)) ∧ (¬ r9 = 0 → (wX9_empties x1 u10 (fun r13 u14 => wX9_told r13 u14 (fun r15 u16 => Q r15 u16)))))
set_option maxHeartbeats 4000000 in
set_option maxRecDepth 100000 in
theorem tX9_drop (l : Launch) (D : va_G) (d : AC) (mp : Nat → Nat) (x1 : Int32) (μ : MS) {Q : Int32 → MS → Prop} (hq : wX9_drop x1 μ Q) : MT D d (ΩM D d mp) l yX9_drop (WS yX9_drop cX9_drop 2 (some (.int))) rmX9_drop [.ref (mp 0), .int x1] μ (qI Q) := by
  refine mt_of (ΩM.mono D d mp) (by decide +kernel) (Nat.le_of_ble_eq_true rfl) (fun p e s m below meth c A ls hx hb hr hml hown hts hlocks hnm hK hA hw hS hl => ?_)
  have hl : lv_has ls 2 [(0, .ref (mp 0)), (1, .int x1)] := hl
  have hown : s.vm.findClass RX9 = some m.cls := hown
  unfold wX9_drop at hq
  refine lv_aload_n hx hb dX9_drop_0 rfl (lv_at hl 0 rfl) ?_
  refine lv_aload_n hx hb dX9_drop_1 rfl (lv_at hl 0 rfl) ?_
  refine lv_iload_n hx hb dX9_drop_2 rfl (lv_at hl 1 rfl) ?_
  refine mt_callV (index := 62) hx hb hml hown hts hK (ΩM.mono D d mp) hA hw hS hl.1 (tX9_isComb l D d mp x1 μ hq) (ΩM.recv hK hw) q_644 q_34 q_641 q_643 q_29 nmhX9_isComb ⟨⟨Nat.le_of_ble_eq_true rfl, Nat.le_of_ble_eq_true rfl⟩, ⟨Nat.le_of_ble_eq_true rfl, Nat.le_of_ble_eq_true rfl⟩⟩ rfl (Nat.le_of_ble_eq_true rfl) dX9_drop_3 (fun _ u10 H locs hq hw hS => ?_)
  obtain ⟨r9, rfl, hzr9, hq⟩ := hq
  refine W.eq (g2 := F0 m 6 ls [.int r9, .ref (mp 0)]) rfl ?_
  refine lv_if_eq (tgt := 17) hx hb dX9_drop_6 (by decide) (fun hc => ?_) (fun hc => ?_)
  · replace hq := hq.1 hc
    refine lv_iconst (v := -1) hx hb dX9_drop_17 (by decide) ?_
    refine mt_callV (index := 96) hx hb hml hown hts hK (ΩM.mono D d mp) hA hw hS hl.1 (tX9_told l D d mp (-1 : Int32) u10 hq) (ΩM.recv hK hw) q_525 q_34 q_522 q_524 q_17 nmhX9_told ⟨⟨Nat.le_of_ble_eq_true rfl, Nat.le_of_ble_eq_true rfl⟩, ⟨Nat.le_of_ble_eq_true rfl, Nat.le_of_ble_eq_true rfl⟩⟩ rfl (Nat.le_of_ble_eq_true rfl) dX9_drop_18 (fun _ u12 H locs hq hw hS => ?_)
    obtain ⟨r11, rfl, hq⟩ := hq
    refine W.eq (g2 := F0 m 21 ls [.int r11]) rfl ?_
    exact mt_reti hx hb hr hlocks hw hS (Nat.le_of_ble_eq_true rfl) (Nat.le_of_ble_eq_true rfl) dX9_drop_21 ⟨_, rfl, hq⟩
  · replace hq := hq.2 hc
    refine lv_aload_n hx hb dX9_drop_9 rfl (lv_at hl 0 rfl) ?_
    refine lv_iload_n hx hb dX9_drop_10 rfl (lv_at hl 1 rfl) ?_
    refine mt_callV (index := 131) hx hb hml hown hts hK (ΩM.mono D d mp) hA hw hS hl.1 (tX9_empties l D d mp x1 u10 hq) (ΩM.recv hK hw) q_632 q_34 q_629 q_631 q_27 nmhX9_empties ⟨⟨Nat.le_of_ble_eq_true rfl, Nat.le_of_ble_eq_true rfl⟩, ⟨Nat.le_of_ble_eq_true rfl, Nat.le_of_ble_eq_true rfl⟩⟩ rfl (Nat.le_of_ble_eq_true rfl) dX9_drop_11 (fun _ u14 H locs hq hw hS => ?_)
    obtain ⟨r13, rfl, hq⟩ := hq
    refine W.eq (g2 := F0 m 14 ls [.int r13, .ref (mp 0)]) rfl ?_
    refine lv_goto (tgt := 18) hx hb dX9_drop_14 (by decide) ?_
    refine mt_callV (index := 96) hx hb hml hown hts hK (ΩM.mono D d mp) hA hw hS hl.1 (tX9_told l D d mp r13 u14 hq) (ΩM.recv hK hw) q_525 q_34 q_522 q_524 q_17 nmhX9_told ⟨⟨Nat.le_of_ble_eq_true rfl, Nat.le_of_ble_eq_true rfl⟩, ⟨Nat.le_of_ble_eq_true rfl, Nat.le_of_ble_eq_true rfl⟩⟩ rfl (Nat.le_of_ble_eq_true rfl) dX9_drop_18 (fun _ u16 H locs hq hw hS => ?_)
    obtain ⟨r15, rfl, hq⟩ := hq
    refine W.eq (g2 := F0 m 21 ls [.int r15]) rfl ?_
    exact mt_reti hx hb hr hlocks hw hS (Nat.le_of_ble_eq_true rfl) (Nat.le_of_ble_eq_true rfl) dX9_drop_21 ⟨_, rfl, hq⟩
abbrev rmX9_about : Room := { frames := 2, cells := 0, slots := 0, locals := 43 }
theorem nmhX9_about : NoMH yX9_about 2 := by decide +kernel
def wX9_about_b67 (x1 : Int32) (x2 : Int32) (K31 : Int32 → Int32 → Int32 → MS → Prop) (Q : Int32 → MS → Prop) (v3 : Int32) (v4 : Int32) (v5 : Int32) (v6 : Int32) (t0 : Int32) (t1 : Int32) (μ : MS) : Prop :=
    ∀ y57 : Int32, y57 = (t1 + t0) → ((0 ≤ v6 → (vp_in v6 202 ∧ (∀ y58 : Int32, y58 = (v4 + (mSize μ v6.toNatClampNeg)) → (∀ y59 : Int32, y59 = v5 + 1 → K31 y57 y58 y59 μ)))) ∧ (¬ 0 ≤ v6 → (∀ y60 : Int32, y60 = (v4 + (0 : Int32)) → (∀ y61 : Int32, y61 = v5 + 1 → K31 y57 y60 y61 μ))))
def wX9_about_b31 (x1 : Int32) (x2 : Int32) (Q : Int32 → MS → Prop) : Nat → Int32 → Int32 → Int32 → MS → Prop
  | 0, _, _, _, _ => False
  | n + 1, v3, v4, v5, μ =>
    vp_in x1 4 ∧ (((mCT μ x1.toNatClampNeg) ≤ v5 → ((¬ x2 = 0 → ((¬ x2 = (1 : Int32) → ((¬ x2 = (2 : Int32) → wX9_told v4 μ (fun r48 u49 => Q r48 u49)) ∧ (x2 = (2 : Int32) → wX9_told v3 μ (fun r50 u51 => Q r50 u51)))) ∧ (x2 = (1 : Int32) → (vp_in x1 4 ∧ wX9_told (mCT μ x1.toNatClampNeg) μ (fun r52 u53 => Q r52 u53))))) ∧ (x2 = 0 → (vp_in x1 4 ∧ wX9_told (mCK μ x1.toNatClampNeg) μ (fun r54 u55 => Q r54 u55))))) ∧ (¬ (mCT μ x1.toNatClampNeg) ≤ v5 → (vp_in (((40 : Int32) * x1) + v5) 160 ∧ (∀ y56 : Int32, y56 = (mTeeth μ (((40 : Int32) * x1) + v5).toNatClampNeg) → ((0 ≤ y56 → wX9_about_b67 x1 x2 (wX9_about_b31 x1 x2 Q n) Q v3 v4 v5 y56 (0 : Int32) v3 μ) ∧ (¬ 0 ≤ y56 → wX9_about_b67 x1 x2 (wX9_about_b31 x1 x2 Q n) Q v3 v4 v5 y56 (1 : Int32) v3 μ))))))
theorem wX9_about_b31_s (x1 : Int32) (x2 : Int32) (Q : Int32 → MS → Prop) (n : Nat) (v3 : Int32) (v4 : Int32) (v5 : Int32) (μ : MS) : wX9_about_b31 x1 x2 Q (n + 1) v3 v4 v5 μ = (
    vp_in x1 4 ∧ (((mCT μ x1.toNatClampNeg) ≤ v5 → ((¬ x2 = 0 → ((¬ x2 = (1 : Int32) → ((¬ x2 = (2 : Int32) → wX9_told v4 μ (fun r48 u49 => Q r48 u49)) ∧ (x2 = (2 : Int32) → wX9_told v3 μ (fun r50 u51 => Q r50 u51)))) ∧ (x2 = (1 : Int32) → (vp_in x1 4 ∧ wX9_told (mCT μ x1.toNatClampNeg) μ (fun r52 u53 => Q r52 u53))))) ∧ (x2 = 0 → (vp_in x1 4 ∧ wX9_told (mCK μ x1.toNatClampNeg) μ (fun r54 u55 => Q r54 u55))))) ∧ (¬ (mCT μ x1.toNatClampNeg) ≤ v5 → (vp_in (((40 : Int32) * x1) + v5) 160 ∧ (∀ y56 : Int32, y56 = (mTeeth μ (((40 : Int32) * x1) + v5).toNatClampNeg) → ((0 ≤ y56 → wX9_about_b67 x1 x2 (wX9_about_b31 x1 x2 Q n) Q v3 v4 v5 y56 (0 : Int32) v3 μ) ∧ (¬ 0 ≤ y56 → wX9_about_b67 x1 x2 (wX9_about_b31 x1 x2 Q n) Q v3 v4 v5 y56 (1 : Int32) v3 μ))))))) := rfl
def wX9_about (x1 : Int32) (x2 : Int32) (μ : MS) (Q : Int32 → MS → Prop) : Prop :=
    wX9_isComb x1 μ (fun r42 u43 => (r42 = 0 → wX9_told (-1 : Int32) u43 (fun r44 u45 => Q r44 u45)) ∧ (¬ r42 = 0 → (wX9_in x2 (0 : Int32) (3 : Int32) u43 (fun r46 u47 => (¬ r46 = 0 → (∃ k31 : Nat, wX9_about_b31 x1 x2 Q k31 (0 : Int32) (0 : Int32) (0 : Int32) u47)) ∧ (r46 = 0 → wX9_told (-1 : Int32) u47 (fun r62 u63 => Q r62 u63))))))
set_option maxHeartbeats 4000000 in
set_option maxRecDepth 100000 in
theorem tX9_about (l : Launch) (D : va_G) (d : AC) (mp : Nat → Nat) (x1 : Int32) (x2 : Int32) (μ : MS) {Q : Int32 → MS → Prop} (hq : wX9_about x1 x2 μ Q) : MT D d (ΩM D d mp) l yX9_about (WS yX9_about cX9_about 7 (some (.int))) rmX9_about [.ref (mp 0), .int x1, .int x2] μ (qI Q) := by
  refine mt_of (ΩM.mono D d mp) (by decide +kernel) (Nat.le_of_ble_eq_true rfl) (fun p e s m below meth c A ls hx hb hr hml hown hts hlocks hnm hK hA hw hS hl => ?_)
  have hl : lv_has ls 7 [(0, .ref (mp 0)), (1, .int x1), (2, .int x2)] := hl
  have hown : s.vm.findClass RX9 = some m.cls := hown
  have b67 : ∀ (K31 : Int32 → Int32 → Int32 → MS → Prop) (hK31 : ∀ (v3 : Int32) (v4 : Int32) (v5 : Int32) (μ : MS) (H : Heap) (locs : List Loc) (ls : Array Slot), K31 v3 v4 v5 μ → (ΩM D d mp) A μ H → va_S A s.heap H locs → lv_has ls 7 [(0, .ref (mp 0)), (1, .int x1), (2, .int x2), (3, .int v3), (4, .int v4), (5, .int v5)] → W p l e rmX9_about s m [.ref (mp 0), .int x1, .int x2].toArray below meth c H locs 0 0 (MQ below (Qo (qI Q) (fun u' t => (ΩM D d mp) A u' t.heap) A) [.ref (mp 0), .int x1, .int x2].toArray s rmX9_about.cells rmX9_about.slots A) (F0 m 31 ls [])) (v3 : Int32) (v4 : Int32) (v5 : Int32) (v6 : Int32) (t0 : Int32) (t1 : Int32) (μ : MS) (H : Heap) (locs : List Loc) (ls : Array Slot), wX9_about_b67 x1 x2 K31 Q v3 v4 v5 v6 t0 t1 μ → (ΩM D d mp) A μ H → va_S A s.heap H locs → lv_has ls 7 [(0, .ref (mp 0)), (1, .int x1), (2, .int x2), (3, .int v3), (4, .int v4), (5, .int v5), (6, .int v6)] → W p l e rmX9_about s m [.ref (mp 0), .int x1, .int x2].toArray below meth c H locs 0 0 (MQ below (Qo (qI Q) (fun u' t => (ΩM D d mp) A u' t.heap) A) [.ref (mp 0), .int x1, .int x2].toArray s rmX9_about.cells rmX9_about.slots A) (F0 m 67 ls [.int t0, .int t1]) := by
    intro K31 hK31 v3 v4 v5 v6 t0 t1 μ H locs ls hq hw hS hl
    unfold wX9_about_b67 at hq
    refine lv_iadd hx hb dX9_about_67 ?_
    refine lv_topi (fun y57 ey57 => ?_)
    replace hq := hq y57 ey57
    refine lv_istore_n (lv' := [(3, .int y57), (0, .ref (mp 0)), (1, .int x1), (2, .int x2), (4, .int v4), (5, .int v5), (6, .int v6)]) hx hb dX9_about_68 rfl hl (by decide) rfl (fun ls hl => ?_)
    refine lv_iload hx hb dX9_about_69 (lv_at hl 4 rfl) ?_
    refine lv_iload hx hb dX9_about_71 (lv_at hl 6 rfl) ?_
    refine lv_if_ge (tgt := 80) hx hb dX9_about_73 (by decide) (fun hc => ?_) (fun hc => ?_)
    · replace hq := hq.1 hc
      refine lv_aload_n hx hb dX9_about_80 rfl (lv_at hl 1 rfl) ?_
      refine va_get (D := D) (ci := 8) (v := .ref (mp 2)) (C := RX9) (T := TX9) (N := 15) hx hb hts inX9 hown hK.1 hw.1 0 rfl rfl 1 (by decide) (hts _ q_462) (fun _ h9 => h9) rfl dX9_about_81 ?_
      refine lv_iload hx hb dX9_about_84 (lv_at hl 6 rfl) ?_
      refine va_iald hx hb hK.1 hw.1 2 8 rfl rfl hq.1 dX9_about_86 ?_
      replace hq := hq.2
      refine lv_iadd hx hb dX9_about_87 ?_
      refine lv_topi (fun y58 ey58 => ?_)
      replace hq := hq y58 ey58
      refine lv_istore (lv' := [(4, .int y58), (3, .int y57), (0, .ref (mp 0)), (1, .int x1), (2, .int x2), (5, .int v5), (6, .int v6)]) hx hb dX9_about_88 hl (by decide) rfl (fun ls hl => ?_)
      obtain ⟨y59, ey59⟩ : ∃ z : Int32, z = v5 + 1 := ⟨_, rfl⟩
      replace hq := hq y59 ey59
      refine lv_iinc (v := y59) (lv' := [(5, .int y59), (4, .int y58), (3, .int y57), (0, .ref (mp 0)), (1, .int x1), (2, .int x2), (6, .int v6)]) hx hb dX9_about_90 hl (k := 5) rfl (by rw [ey59]; rfl) (by decide) rfl (fun ls hl => ?_)
      refine lv_goto (tgt := 31) hx hb dX9_about_93 (by decide) ?_
      exact hK31 y57 y58 y59 μ _ _ _ hq hw hS (lv_sub hl [3, 4, 5, 2, 1, 0] rfl)
    · replace hq := hq.2 hc
      refine lv_iconst (v := 0) hx hb dX9_about_76 (by decide) ?_
      refine lv_goto (tgt := 87) hx hb dX9_about_77 (by decide) ?_
      refine lv_iadd hx hb dX9_about_87 ?_
      refine lv_topi (fun y60 ey60 => ?_)
      replace hq := hq y60 ey60
      refine lv_istore (lv' := [(4, .int y60), (3, .int y57), (0, .ref (mp 0)), (1, .int x1), (2, .int x2), (5, .int v5), (6, .int v6)]) hx hb dX9_about_88 hl (by decide) rfl (fun ls hl => ?_)
      obtain ⟨y61, ey61⟩ : ∃ z : Int32, z = v5 + 1 := ⟨_, rfl⟩
      replace hq := hq y61 ey61
      refine lv_iinc (v := y61) (lv' := [(5, .int y61), (4, .int y60), (3, .int y57), (0, .ref (mp 0)), (1, .int x1), (2, .int x2), (6, .int v6)]) hx hb dX9_about_90 hl (k := 5) rfl (by rw [ey61]; rfl) (by decide) rfl (fun ls hl => ?_)
      refine lv_goto (tgt := 31) hx hb dX9_about_93 (by decide) ?_
      exact hK31 y57 y60 y61 μ _ _ _ hq hw hS (lv_sub hl [3, 4, 5, 2, 1, 0] rfl)
  have b31 : ∀ (n : Nat) (v3 : Int32) (v4 : Int32) (v5 : Int32) (μ : MS) (H : Heap) (locs : List Loc) (ls : Array Slot), wX9_about_b31 x1 x2 Q n v3 v4 v5 μ → (ΩM D d mp) A μ H → va_S A s.heap H locs → lv_has ls 7 [(0, .ref (mp 0)), (1, .int x1), (2, .int x2), (3, .int v3), (4, .int v4), (5, .int v5)] → W p l e rmX9_about s m [.ref (mp 0), .int x1, .int x2].toArray below meth c H locs 0 0 (MQ below (Qo (qI Q) (fun u' t => (ΩM D d mp) A u' t.heap) A) [.ref (mp 0), .int x1, .int x2].toArray s rmX9_about.cells rmX9_about.slots A) (F0 m 31 ls []) := by
    intro n
    induction n with
    | zero =>
      intro v3 v4 v5 μ H locs ls hq
      exact absurd hq id
    | succ n ih =>
      intro v3 v4 v5 μ H locs ls hq hw hS hl
      rw [wX9_about_b31_s] at hq
      refine lv_iload hx hb dX9_about_31 (lv_at hl 5 rfl) ?_
      refine lv_aload_n hx hb dX9_about_33 rfl (lv_at hl 0 rfl) ?_
      refine va_get (D := D) (ci := 8) (v := .ref (mp 7)) (C := RX9) (T := TX9) (N := 15) hx hb hts inX9 hown hK.1 hw.1 0 rfl rfl 6 (by decide) (hts _ q_467) (fun _ h9 => h9) rfl dX9_about_34 ?_
      refine lv_iload_n hx hb dX9_about_37 rfl (lv_at hl 1 rfl) ?_
      refine va_iald hx hb hK.1 hw.1 7 8 rfl rfl hq.1 dX9_about_38 ?_
      replace hq := hq.2
      refine lv_icmp_ge (tgt := 96) hx hb dX9_about_39 (by decide) (fun hc => ?_) (fun hc => ?_)
      · replace hq := hq.1 hc
        refine lv_aload_n hx hb dX9_about_96 rfl (lv_at hl 0 rfl) ?_
        refine lv_iload_n hx hb dX9_about_97 rfl (lv_at hl 2 rfl) ?_
        refine lv_if_ne (tgt := 110) hx hb dX9_about_98 (by decide) (fun hc => ?_) (fun hc => ?_)
        · replace hq := hq.1 hc
          refine lv_iload_n hx hb dX9_about_110 rfl (lv_at hl 2 rfl) ?_
          refine lv_iconst (v := 1) hx hb dX9_about_111 (by decide) ?_
          refine lv_icmp_ne (tgt := 124) hx hb dX9_about_112 (by decide) (fun hc => ?_) (fun hc => ?_)
          · replace hq := hq.1 hc
            refine lv_iload_n hx hb dX9_about_124 rfl (lv_at hl 2 rfl) ?_
            refine lv_iconst (v := 2) hx hb dX9_about_125 (by decide) ?_
            refine lv_icmp_ne (tgt := 133) hx hb dX9_about_126 (by decide) (fun hc => ?_) (fun hc => ?_)
            · replace hq := hq.1 hc
              refine lv_iload hx hb dX9_about_133 (lv_at hl 4 rfl) ?_
              refine mt_callV (index := 96) hx hb hml hown hts hK (ΩM.mono D d mp) hA hw hS hl.1 (tX9_told l D d mp v4 μ hq) (ΩM.recv hK hw) q_525 q_34 q_522 q_524 q_17 nmhX9_told ⟨⟨Nat.le_of_ble_eq_true rfl, Nat.le_of_ble_eq_true rfl⟩, ⟨Nat.le_of_ble_eq_true rfl, Nat.le_of_ble_eq_true rfl⟩⟩ rfl (Nat.le_of_ble_eq_true rfl) dX9_about_135 (fun _ u49 H locs hq hw hS => ?_)
              obtain ⟨r48, rfl, hq⟩ := hq
              refine W.eq (g2 := F0 m 138 ls [.int r48]) rfl ?_
              exact mt_reti hx hb hr hlocks hw hS (Nat.le_of_ble_eq_true rfl) (Nat.le_of_ble_eq_true rfl) dX9_about_138 ⟨_, rfl, hq⟩
            · replace hq := hq.2 hc
              refine lv_iload_n hx hb dX9_about_129 rfl (lv_at hl 3 rfl) ?_
              refine lv_goto (tgt := 135) hx hb dX9_about_130 (by decide) ?_
              refine mt_callV (index := 96) hx hb hml hown hts hK (ΩM.mono D d mp) hA hw hS hl.1 (tX9_told l D d mp v3 μ hq) (ΩM.recv hK hw) q_525 q_34 q_522 q_524 q_17 nmhX9_told ⟨⟨Nat.le_of_ble_eq_true rfl, Nat.le_of_ble_eq_true rfl⟩, ⟨Nat.le_of_ble_eq_true rfl, Nat.le_of_ble_eq_true rfl⟩⟩ rfl (Nat.le_of_ble_eq_true rfl) dX9_about_135 (fun _ u51 H locs hq hw hS => ?_)
              obtain ⟨r50, rfl, hq⟩ := hq
              refine W.eq (g2 := F0 m 138 ls [.int r50]) rfl ?_
              exact mt_reti hx hb hr hlocks hw hS (Nat.le_of_ble_eq_true rfl) (Nat.le_of_ble_eq_true rfl) dX9_about_138 ⟨_, rfl, hq⟩
          · replace hq := hq.2 hc
            refine lv_aload_n hx hb dX9_about_115 rfl (lv_at hl 0 rfl) ?_
            refine va_get (D := D) (ci := 8) (v := .ref (mp 7)) (C := RX9) (T := TX9) (N := 15) hx hb hts inX9 hown hK.1 hw.1 0 rfl rfl 6 (by decide) (hts _ q_467) (fun _ h9 => h9) rfl dX9_about_116 ?_
            refine lv_iload_n hx hb dX9_about_119 rfl (lv_at hl 1 rfl) ?_
            refine va_iald hx hb hK.1 hw.1 7 8 rfl rfl hq.1 dX9_about_120 ?_
            replace hq := hq.2
            refine lv_goto (tgt := 135) hx hb dX9_about_121 (by decide) ?_
            refine mt_callV (index := 96) hx hb hml hown hts hK (ΩM.mono D d mp) hA hw hS hl.1 (tX9_told l D d mp (mCT μ x1.toNatClampNeg) μ hq) (ΩM.recv hK hw) q_525 q_34 q_522 q_524 q_17 nmhX9_told ⟨⟨Nat.le_of_ble_eq_true rfl, Nat.le_of_ble_eq_true rfl⟩, ⟨Nat.le_of_ble_eq_true rfl, Nat.le_of_ble_eq_true rfl⟩⟩ rfl (Nat.le_of_ble_eq_true rfl) dX9_about_135 (fun _ u53 H locs hq hw hS => ?_)
            obtain ⟨r52, rfl, hq⟩ := hq
            refine W.eq (g2 := F0 m 138 ls [.int r52]) rfl ?_
            exact mt_reti hx hb hr hlocks hw hS (Nat.le_of_ble_eq_true rfl) (Nat.le_of_ble_eq_true rfl) dX9_about_138 ⟨_, rfl, hq⟩
        · replace hq := hq.2 hc
          refine lv_aload_n hx hb dX9_about_101 rfl (lv_at hl 0 rfl) ?_
          refine va_get (D := D) (ci := 8) (v := .ref (mp 6)) (C := RX9) (T := TX9) (N := 15) hx hb hts inX9 hown hK.1 hw.1 0 rfl rfl 5 (by decide) (hts _ q_466) (fun _ h9 => h9) rfl dX9_about_102 ?_
          refine lv_iload_n hx hb dX9_about_105 rfl (lv_at hl 1 rfl) ?_
          refine va_iald hx hb hK.1 hw.1 6 8 rfl rfl hq.1 dX9_about_106 ?_
          replace hq := hq.2
          refine lv_goto (tgt := 135) hx hb dX9_about_107 (by decide) ?_
          refine mt_callV (index := 96) hx hb hml hown hts hK (ΩM.mono D d mp) hA hw hS hl.1 (tX9_told l D d mp (mCK μ x1.toNatClampNeg) μ hq) (ΩM.recv hK hw) q_525 q_34 q_522 q_524 q_17 nmhX9_told ⟨⟨Nat.le_of_ble_eq_true rfl, Nat.le_of_ble_eq_true rfl⟩, ⟨Nat.le_of_ble_eq_true rfl, Nat.le_of_ble_eq_true rfl⟩⟩ rfl (Nat.le_of_ble_eq_true rfl) dX9_about_135 (fun _ u55 H locs hq hw hS => ?_)
          obtain ⟨r54, rfl, hq⟩ := hq
          refine W.eq (g2 := F0 m 138 ls [.int r54]) rfl ?_
          exact mt_reti hx hb hr hlocks hw hS (Nat.le_of_ble_eq_true rfl) (Nat.le_of_ble_eq_true rfl) dX9_about_138 ⟨_, rfl, hq⟩
      · replace hq := hq.2 hc
        refine lv_aload_n hx hb dX9_about_42 rfl (lv_at hl 0 rfl) ?_
        refine va_get (D := D) (ci := 8) (v := .ref (mp 5)) (C := RX9) (T := TX9) (N := 15) hx hb hts inX9 hown hK.1 hw.1 0 rfl rfl 4 (by decide) (hts _ q_465) (fun _ h9 => h9) rfl dX9_about_43 ?_
        refine lv_bipush (v := 40) hx hb dX9_about_46 (by decide) ?_
        refine lv_iload_n hx hb dX9_about_48 rfl (lv_at hl 1 rfl) ?_
        refine lv_imul hx hb dX9_about_49 ?_
        refine lv_iload hx hb dX9_about_50 (lv_at hl 5 rfl) ?_
        refine lv_iadd hx hb dX9_about_52 ?_
        refine va_iald hx hb hK.1 hw.1 5 8 rfl rfl hq.1 dX9_about_53 ?_
        replace hq := hq.2
        refine lv_topi (fun y56 ey56 => ?_)
        replace hq := hq y56 ey56
        refine lv_istore (lv' := [(6, .int y56), (0, .ref (mp 0)), (1, .int x1), (2, .int x2), (3, .int v3), (4, .int v4), (5, .int v5)]) hx hb dX9_about_54 hl (by decide) rfl (fun ls hl => ?_)
        refine lv_iload_n hx hb dX9_about_56 rfl (lv_at hl 4 rfl) ?_
        refine lv_iload hx hb dX9_about_57 (lv_at hl 0 rfl) ?_
        refine lv_if_ge (tgt := 66) hx hb dX9_about_59 (by decide) (fun hc => ?_) (fun hc => ?_)
        · replace hq := hq.1 hc
          refine lv_iconst (v := 0) hx hb dX9_about_66 (by decide) ?_
          exact b67 (wX9_about_b31 x1 x2 Q n) ih v3 v4 v5 y56 (0 : Int32) v3 μ _ _ _ hq hw hS (lv_sub hl [1, 2, 3, 4, 5, 6, 0] rfl)
        · replace hq := hq.2 hc
          refine lv_iconst (v := 1) hx hb dX9_about_62 (by decide) ?_
          refine lv_goto (tgt := 67) hx hb dX9_about_63 (by decide) ?_
          exact b67 (wX9_about_b31 x1 x2 Q n) ih v3 v4 v5 y56 (1 : Int32) v3 μ _ _ _ hq hw hS (lv_sub hl [1, 2, 3, 4, 5, 6, 0] rfl)
  unfold wX9_about at hq
  refine lv_aload_n hx hb dX9_about_0 rfl (lv_at hl 0 rfl) ?_
  refine lv_iload_n hx hb dX9_about_1 rfl (lv_at hl 1 rfl) ?_
  refine mt_callV (index := 62) hx hb hml hown hts hK (ΩM.mono D d mp) hA hw hS hl.1 (tX9_isComb l D d mp x1 μ hq) (ΩM.recv hK hw) q_644 q_34 q_641 q_643 q_29 nmhX9_isComb ⟨⟨Nat.le_of_ble_eq_true rfl, Nat.le_of_ble_eq_true rfl⟩, ⟨Nat.le_of_ble_eq_true rfl, Nat.le_of_ble_eq_true rfl⟩⟩ rfl (Nat.le_of_ble_eq_true rfl) dX9_about_2 (fun _ u43 H locs hq hw hS => ?_)
  obtain ⟨r42, rfl, hzr42, hq⟩ := hq
  refine W.eq (g2 := F0 m 5 ls [.int r42]) rfl ?_
  refine lv_if_eq (tgt := 17) hx hb dX9_about_5 (by decide) (fun hc => ?_) (fun hc => ?_)
  · replace hq := hq.1 hc
    refine lv_aload_n hx hb dX9_about_17 rfl (lv_at hl 0 rfl) ?_
    refine lv_iconst (v := -1) hx hb dX9_about_18 (by decide) ?_
    refine mt_callV (index := 96) hx hb hml hown hts hK (ΩM.mono D d mp) hA hw hS hl.1 (tX9_told l D d mp (-1 : Int32) u43 hq) (ΩM.recv hK hw) q_525 q_34 q_522 q_524 q_17 nmhX9_told ⟨⟨Nat.le_of_ble_eq_true rfl, Nat.le_of_ble_eq_true rfl⟩, ⟨Nat.le_of_ble_eq_true rfl, Nat.le_of_ble_eq_true rfl⟩⟩ rfl (Nat.le_of_ble_eq_true rfl) dX9_about_19 (fun _ u45 H locs hq hw hS => ?_)
    obtain ⟨r44, rfl, hq⟩ := hq
    refine W.eq (g2 := F0 m 22 ls [.int r44]) rfl ?_
    exact mt_reti hx hb hr hlocks hw hS (Nat.le_of_ble_eq_true rfl) (Nat.le_of_ble_eq_true rfl) dX9_about_22 ⟨_, rfl, hq⟩
  · replace hq := hq.2 hc
    refine lv_iload_n hx hb dX9_about_8 rfl (lv_at hl 2 rfl) ?_
    refine lv_iconst (v := 0) hx hb dX9_about_9 (by decide) ?_
    refine lv_iconst (v := 3) hx hb dX9_about_10 (by decide) ?_
    refine mt_callS (index := 58) hx hb hml hown hts hK (ΩM.mono D d mp) hA hw hS hl.1 (tX9_in l D d mp x2 (0 : Int32) (3 : Int32) u43 hq) q_518 q_34 q_516 q_517 nmhX9_in ⟨⟨Nat.le_of_ble_eq_true rfl, Nat.le_of_ble_eq_true rfl⟩, ⟨Nat.le_of_ble_eq_true rfl, Nat.le_of_ble_eq_true rfl⟩⟩ rfl (Nat.le_of_ble_eq_true rfl) dX9_about_11 (fun _ u47 H locs hq hw hS => ?_)
    obtain ⟨r46, rfl, hzr46, hq⟩ := hq
    refine W.eq (g2 := F0 m 14 ls [.int r46]) rfl ?_
    refine lv_if_ne (tgt := 23) hx hb dX9_about_14 (by decide) (fun hc => ?_) (fun hc => ?_)
    · replace hq := hq.1 hc
      refine lv_iconst (v := 0) hx hb dX9_about_23 (by decide) ?_
      refine lv_istore_n (lv' := [(3, .int (0 : Int32)), (0, .ref (mp 0)), (1, .int x1), (2, .int x2)]) hx hb dX9_about_24 rfl hl (by decide) rfl (fun ls hl => ?_)
      refine lv_iconst (v := 0) hx hb dX9_about_25 (by decide) ?_
      refine lv_istore (lv' := [(4, .int (0 : Int32)), (3, .int (0 : Int32)), (0, .ref (mp 0)), (1, .int x1), (2, .int x2)]) hx hb dX9_about_26 hl (by decide) rfl (fun ls hl => ?_)
      refine lv_iconst (v := 0) hx hb dX9_about_28 (by decide) ?_
      refine lv_istore (lv' := [(5, .int (0 : Int32)), (4, .int (0 : Int32)), (3, .int (0 : Int32)), (0, .ref (mp 0)), (1, .int x1), (2, .int x2)]) hx hb dX9_about_29 hl (by decide) rfl (fun ls hl => ?_)
      obtain ⟨k31, hq⟩ := hq
      exact b31 k31 (0 : Int32) (0 : Int32) (0 : Int32) u47 _ _ _ hq hw hS (lv_sub hl [3, 4, 5, 2, 1, 0] rfl)
    · replace hq := hq.2 hc
      refine lv_aload_n hx hb dX9_about_17 rfl (lv_at hl 0 rfl) ?_
      refine lv_iconst (v := -1) hx hb dX9_about_18 (by decide) ?_
      refine mt_callV (index := 96) hx hb hml hown hts hK (ΩM.mono D d mp) hA hw hS hl.1 (tX9_told l D d mp (-1 : Int32) u47 hq) (ΩM.recv hK hw) q_525 q_34 q_522 q_524 q_17 nmhX9_told ⟨⟨Nat.le_of_ble_eq_true rfl, Nat.le_of_ble_eq_true rfl⟩, ⟨Nat.le_of_ble_eq_true rfl, Nat.le_of_ble_eq_true rfl⟩⟩ rfl (Nat.le_of_ble_eq_true rfl) dX9_about_19 (fun _ u63 H locs hq hw hS => ?_)
      obtain ⟨r62, rfl, hq⟩ := hq
      refine W.eq (g2 := F0 m 22 ls [.int r62]) rfl ?_
      exact mt_reti hx hb hr hlocks hw hS (Nat.le_of_ble_eq_true rfl) (Nat.le_of_ble_eq_true rfl) dX9_about_22 ⟨_, rfl, hq⟩
abbrev rmX9_loosen : Room := { frames := 3, cells := 0, slots := 0, locals := 65 }
theorem nmhX9_loosen : NoMH yX9_loosen 2 := by decide +kernel
def wX9_loosen (x1 : Int32) (x2 : Int32) (μ : MS) (Q : Int32 → MS → Prop) : Prop :=
    wX9_isTooth x1 x2 μ (fun r12 u13 => (¬ r12 = 0 → (vp_in (((40 : Int32) * x1) + x2) 160 ∧ (∀ y14 : Int32, y14 = (mTeeth u13 (((40 : Int32) * x1) + x2).toNatClampNeg) → ((0 ≤ y14 → (wX9_toothGets x1 x2 (-1 : Int32) u13 (fun u16 => vp_in y14 202 ∧ wX9_told (mSize u16 y14.toNatClampNeg) u16 (fun r17 u18 => Q r17 u18)))) ∧ (¬ 0 ≤ y14 → wX9_told (-2 : Int32) u13 (fun r19 u20 => Q r19 u20)))))) ∧ (r12 = 0 → wX9_told (-1 : Int32) u13 (fun r21 u22 => Q r21 u22)))
set_option maxHeartbeats 4000000 in
set_option maxRecDepth 100000 in
theorem tX9_loosen (l : Launch) (D : va_G) (d : AC) (mp : Nat → Nat) (x1 : Int32) (x2 : Int32) (μ : MS) {Q : Int32 → MS → Prop} (hq : wX9_loosen x1 x2 μ Q) : MT D d (ΩM D d mp) l yX9_loosen (WS yX9_loosen cX9_loosen 4 (some (.int))) rmX9_loosen [.ref (mp 0), .int x1, .int x2] μ (qI Q) := by
  refine mt_of (ΩM.mono D d mp) (by decide +kernel) (Nat.le_of_ble_eq_true rfl) (fun p e s m below meth c A ls hx hb hr hml hown hts hlocks hnm hK hA hw hS hl => ?_)
  have hl : lv_has ls 4 [(0, .ref (mp 0)), (1, .int x1), (2, .int x2)] := hl
  have hown : s.vm.findClass RX9 = some m.cls := hown
  unfold wX9_loosen at hq
  refine lv_aload_n hx hb dX9_loosen_0 rfl (lv_at hl 0 rfl) ?_
  refine lv_iload_n hx hb dX9_loosen_1 rfl (lv_at hl 1 rfl) ?_
  refine lv_iload_n hx hb dX9_loosen_2 rfl (lv_at hl 2 rfl) ?_
  refine mt_callV (index := 134) hx hb hml hown hts hK (ΩM.mono D d mp) hA hw hS hl.1 (tX9_isTooth l D d mp x1 x2 μ hq) (ΩM.recv hK hw) q_656 q_34 q_653 q_655 q_30 nmhX9_isTooth ⟨⟨Nat.le_of_ble_eq_true rfl, Nat.le_of_ble_eq_true rfl⟩, ⟨Nat.le_of_ble_eq_true rfl, Nat.le_of_ble_eq_true rfl⟩⟩ rfl (Nat.le_of_ble_eq_true rfl) dX9_loosen_3 (fun _ u13 H locs hq hw hS => ?_)
  obtain ⟨r12, rfl, hzr12, hq⟩ := hq
  refine W.eq (g2 := F0 m 6 ls [.int r12]) rfl ?_
  refine lv_if_ne (tgt := 15) hx hb dX9_loosen_6 (by decide) (fun hc => ?_) (fun hc => ?_)
  · replace hq := hq.1 hc
    refine lv_aload_n hx hb dX9_loosen_15 rfl (lv_at hl 0 rfl) ?_
    refine va_get (D := D) (ci := 8) (v := .ref (mp 5)) (C := RX9) (T := TX9) (N := 15) hx hb hts inX9 hown hK.1 hw.1 0 rfl rfl 4 (by decide) (hts _ q_465) (fun _ h9 => h9) rfl dX9_loosen_16 ?_
    refine lv_bipush (v := 40) hx hb dX9_loosen_19 (by decide) ?_
    refine lv_iload_n hx hb dX9_loosen_21 rfl (lv_at hl 1 rfl) ?_
    refine lv_imul hx hb dX9_loosen_22 ?_
    refine lv_iload_n hx hb dX9_loosen_23 rfl (lv_at hl 2 rfl) ?_
    refine lv_iadd hx hb dX9_loosen_24 ?_
    refine va_iald hx hb hK.1 hw.1 5 8 rfl rfl hq.1 dX9_loosen_25 ?_
    replace hq := hq.2
    refine lv_topi (fun y14 ey14 => ?_)
    replace hq := hq y14 ey14
    refine lv_istore_n (lv' := [(3, .int y14), (0, .ref (mp 0)), (1, .int x1), (2, .int x2)]) hx hb dX9_loosen_26 rfl hl (by decide) rfl (fun ls hl => ?_)
    refine lv_iload_n hx hb dX9_loosen_27 rfl (lv_at hl 0 rfl) ?_
    refine lv_if_ge (tgt := 38) hx hb dX9_loosen_28 (by decide) (fun hc => ?_) (fun hc => ?_)
    · replace hq := hq.1 hc
      refine lv_aload_n hx hb dX9_loosen_38 rfl (lv_at hl 1 rfl) ?_
      refine lv_iload_n hx hb dX9_loosen_39 rfl (lv_at hl 2 rfl) ?_
      refine lv_iload_n hx hb dX9_loosen_40 rfl (lv_at hl 3 rfl) ?_
      refine lv_iconst (v := -1) hx hb dX9_loosen_41 (by decide) ?_
      refine mt_callV (index := 128) hx hb hml hown hts hK (ΩM.mono D d mp) hA hw hS hl.1 (tX9_toothGets l D d mp x1 x2 (-1 : Int32) u13 hq) (ΩM.recv hK hw) q_636 q_34 q_633 q_635 q_28 nmhX9_toothGets ⟨⟨Nat.le_of_ble_eq_true rfl, Nat.le_of_ble_eq_true rfl⟩, ⟨Nat.le_of_ble_eq_true rfl, Nat.le_of_ble_eq_true rfl⟩⟩ rfl (Nat.le_of_ble_eq_true rfl) dX9_loosen_42 (fun _ u16 H locs hq hw hS => ?_)
      obtain ⟨rfl, hq⟩ := hq
      refine W.eq (g2 := F0 m 45 ls []) rfl ?_
      refine lv_aload_n hx hb dX9_loosen_45 rfl (lv_at hl 1 rfl) ?_
      refine lv_aload_n hx hb dX9_loosen_46 rfl (lv_at hl 1 rfl) ?_
      refine va_get (D := D) (ci := 8) (v := .ref (mp 2)) (C := RX9) (T := TX9) (N := 15) hx hb hts inX9 hown hK.1 hw.1 0 rfl rfl 1 (by decide) (hts _ q_462) (fun _ h9 => h9) rfl dX9_loosen_47 ?_
      refine lv_iload_n hx hb dX9_loosen_50 rfl (lv_at hl 0 rfl) ?_
      refine va_iald hx hb hK.1 hw.1 2 8 rfl rfl hq.1 dX9_loosen_51 ?_
      replace hq := hq.2
      refine mt_callV (index := 96) hx hb hml hown hts hK (ΩM.mono D d mp) hA hw hS hl.1 (tX9_told l D d mp (mSize u16 y14.toNatClampNeg) u16 hq) (ΩM.recv hK hw) q_525 q_34 q_522 q_524 q_17 nmhX9_told ⟨⟨Nat.le_of_ble_eq_true rfl, Nat.le_of_ble_eq_true rfl⟩, ⟨Nat.le_of_ble_eq_true rfl, Nat.le_of_ble_eq_true rfl⟩⟩ rfl (Nat.le_of_ble_eq_true rfl) dX9_loosen_52 (fun _ u18 H locs hq hw hS => ?_)
      obtain ⟨r17, rfl, hq⟩ := hq
      refine W.eq (g2 := F0 m 55 ls [.int r17]) rfl ?_
      exact mt_reti hx hb hr hlocks hw hS (Nat.le_of_ble_eq_true rfl) (Nat.le_of_ble_eq_true rfl) dX9_loosen_55 ⟨_, rfl, hq⟩
    · replace hq := hq.2 hc
      refine lv_aload_n hx hb dX9_loosen_31 rfl (lv_at hl 1 rfl) ?_
      refine lv_bipush (v := -2) hx hb dX9_loosen_32 (by decide) ?_
      refine mt_callV (index := 96) hx hb hml hown hts hK (ΩM.mono D d mp) hA hw hS hl.1 (tX9_told l D d mp (-2 : Int32) u13 hq) (ΩM.recv hK hw) q_525 q_34 q_522 q_524 q_17 nmhX9_told ⟨⟨Nat.le_of_ble_eq_true rfl, Nat.le_of_ble_eq_true rfl⟩, ⟨Nat.le_of_ble_eq_true rfl, Nat.le_of_ble_eq_true rfl⟩⟩ rfl (Nat.le_of_ble_eq_true rfl) dX9_loosen_34 (fun _ u20 H locs hq hw hS => ?_)
      obtain ⟨r19, rfl, hq⟩ := hq
      refine W.eq (g2 := F0 m 37 ls [.int r19]) rfl ?_
      exact mt_reti hx hb hr hlocks hw hS (Nat.le_of_ble_eq_true rfl) (Nat.le_of_ble_eq_true rfl) dX9_loosen_37 ⟨_, rfl, hq⟩
  · replace hq := hq.2 hc
    refine lv_aload_n hx hb dX9_loosen_9 rfl (lv_at hl 0 rfl) ?_
    refine lv_iconst (v := -1) hx hb dX9_loosen_10 (by decide) ?_
    refine mt_callV (index := 96) hx hb hml hown hts hK (ΩM.mono D d mp) hA hw hS hl.1 (tX9_told l D d mp (-1 : Int32) u13 hq) (ΩM.recv hK hw) q_525 q_34 q_522 q_524 q_17 nmhX9_told ⟨⟨Nat.le_of_ble_eq_true rfl, Nat.le_of_ble_eq_true rfl⟩, ⟨Nat.le_of_ble_eq_true rfl, Nat.le_of_ble_eq_true rfl⟩⟩ rfl (Nat.le_of_ble_eq_true rfl) dX9_loosen_11 (fun _ u22 H locs hq hw hS => ?_)
    obtain ⟨r21, rfl, hq⟩ := hq
    refine W.eq (g2 := F0 m 14 ls [.int r21]) rfl ?_
    exact mt_reti hx hb hr hlocks hw hS (Nat.le_of_ble_eq_true rfl) (Nat.le_of_ble_eq_true rfl) dX9_loosen_14 ⟨_, rfl, hq⟩
abbrev rmX9_hang : Room := { frames := 3, cells := 0, slots := 0, locals := 65 }
theorem nmhX9_hang : NoMH yX9_hang 3 := by decide +kernel
def wX9_hang (x1 : Int32) (x2 : Int32) (x3 : Int32) (μ : MS) (Q : Int32 → MS → Prop) : Prop :=
    wX9_isTooth x1 x2 μ (fun r16 u17 => (r16 = 0 → wX9_told (-1 : Int32) u17 (fun r18 u19 => Q r18 u19)) ∧ (¬ r16 = 0 → (wX9_isDrum x3 u17 (fun r20 u21 => (¬ r20 = 0 → (vp_in x1 4 ∧ (vp_in (((5 : Int32) * x3) + (mCK u21 x1.toNatClampNeg)) 40 ∧ (∀ y22 : Int32, y22 = (mDrums u21 (((5 : Int32) * x3) + (mCK u21 x1.toNatClampNeg)).toNatClampNeg) → ((0 ≤ y22 → (wX9_toothGets x1 x2 y22 u21 (fun u24 => vp_in y22 202 ∧ wX9_told (mSize u24 y22.toNatClampNeg) u24 (fun r25 u26 => Q r25 u26)))) ∧ (¬ 0 ≤ y22 → wX9_told (-2 : Int32) u21 (fun r27 u28 => Q r27 u28))))))) ∧ (r20 = 0 → wX9_told (-1 : Int32) u21 (fun r29 u30 => Q r29 u30))))))
set_option maxHeartbeats 4000000 in
set_option maxRecDepth 100000 in
theorem tX9_hang (l : Launch) (D : va_G) (d : AC) (mp : Nat → Nat) (x1 : Int32) (x2 : Int32) (x3 : Int32) (μ : MS) {Q : Int32 → MS → Prop} (hq : wX9_hang x1 x2 x3 μ Q) : MT D d (ΩM D d mp) l yX9_hang (WS yX9_hang cX9_hang 5 (some (.int))) rmX9_hang [.ref (mp 0), .int x1, .int x2, .int x3] μ (qI Q) := by
  refine mt_of (ΩM.mono D d mp) (by decide +kernel) (Nat.le_of_ble_eq_true rfl) (fun p e s m below meth c A ls hx hb hr hml hown hts hlocks hnm hK hA hw hS hl => ?_)
  have hl : lv_has ls 5 [(0, .ref (mp 0)), (1, .int x1), (2, .int x2), (3, .int x3)] := hl
  have hown : s.vm.findClass RX9 = some m.cls := hown
  unfold wX9_hang at hq
  refine lv_aload_n hx hb dX9_hang_0 rfl (lv_at hl 0 rfl) ?_
  refine lv_iload_n hx hb dX9_hang_1 rfl (lv_at hl 1 rfl) ?_
  refine lv_iload_n hx hb dX9_hang_2 rfl (lv_at hl 2 rfl) ?_
  refine mt_callV (index := 134) hx hb hml hown hts hK (ΩM.mono D d mp) hA hw hS hl.1 (tX9_isTooth l D d mp x1 x2 μ hq) (ΩM.recv hK hw) q_656 q_34 q_653 q_655 q_30 nmhX9_isTooth ⟨⟨Nat.le_of_ble_eq_true rfl, Nat.le_of_ble_eq_true rfl⟩, ⟨Nat.le_of_ble_eq_true rfl, Nat.le_of_ble_eq_true rfl⟩⟩ rfl (Nat.le_of_ble_eq_true rfl) dX9_hang_3 (fun _ u17 H locs hq hw hS => ?_)
  obtain ⟨r16, rfl, hzr16, hq⟩ := hq
  refine W.eq (g2 := F0 m 6 ls [.int r16]) rfl ?_
  refine lv_if_eq (tgt := 16) hx hb dX9_hang_6 (by decide) (fun hc => ?_) (fun hc => ?_)
  · replace hq := hq.1 hc
    refine lv_aload_n hx hb dX9_hang_16 rfl (lv_at hl 0 rfl) ?_
    refine lv_iconst (v := -1) hx hb dX9_hang_17 (by decide) ?_
    refine mt_callV (index := 96) hx hb hml hown hts hK (ΩM.mono D d mp) hA hw hS hl.1 (tX9_told l D d mp (-1 : Int32) u17 hq) (ΩM.recv hK hw) q_525 q_34 q_522 q_524 q_17 nmhX9_told ⟨⟨Nat.le_of_ble_eq_true rfl, Nat.le_of_ble_eq_true rfl⟩, ⟨Nat.le_of_ble_eq_true rfl, Nat.le_of_ble_eq_true rfl⟩⟩ rfl (Nat.le_of_ble_eq_true rfl) dX9_hang_18 (fun _ u19 H locs hq hw hS => ?_)
    obtain ⟨r18, rfl, hq⟩ := hq
    refine W.eq (g2 := F0 m 21 ls [.int r18]) rfl ?_
    exact mt_reti hx hb hr hlocks hw hS (Nat.le_of_ble_eq_true rfl) (Nat.le_of_ble_eq_true rfl) dX9_hang_21 ⟨_, rfl, hq⟩
  · replace hq := hq.2 hc
    refine lv_iload_n hx hb dX9_hang_9 rfl (lv_at hl 3 rfl) ?_
    refine mt_callS (index := 90) hx hb hml hown hts hK (ΩM.mono D d mp) hA hw hS hl.1 (tX9_isDrum l D d mp x3 u17 hq) q_515 q_34 q_513 q_514 nmhX9_isDrum ⟨⟨Nat.le_of_ble_eq_true rfl, Nat.le_of_ble_eq_true rfl⟩, ⟨Nat.le_of_ble_eq_true rfl, Nat.le_of_ble_eq_true rfl⟩⟩ rfl (Nat.le_of_ble_eq_true rfl) dX9_hang_10 (fun _ u21 H locs hq hw hS => ?_)
    obtain ⟨r20, rfl, hzr20, hq⟩ := hq
    refine W.eq (g2 := F0 m 13 ls [.int r20]) rfl ?_
    refine lv_if_ne (tgt := 22) hx hb dX9_hang_13 (by decide) (fun hc => ?_) (fun hc => ?_)
    · replace hq := hq.1 hc
      refine lv_aload_n hx hb dX9_hang_22 rfl (lv_at hl 0 rfl) ?_
      refine va_get (D := D) (ci := 8) (v := .ref (mp 4)) (C := RX9) (T := TX9) (N := 15) hx hb hts inX9 hown hK.1 hw.1 0 rfl rfl 3 (by decide) (hts _ q_464) (fun _ h9 => h9) rfl dX9_hang_23 ?_
      refine lv_iconst (v := 5) hx hb dX9_hang_26 (by decide) ?_
      refine lv_iload_n hx hb dX9_hang_27 rfl (lv_at hl 3 rfl) ?_
      refine lv_imul hx hb dX9_hang_28 ?_
      refine lv_aload_n hx hb dX9_hang_29 rfl (lv_at hl 0 rfl) ?_
      refine va_get (D := D) (ci := 8) (v := .ref (mp 6)) (C := RX9) (T := TX9) (N := 15) hx hb hts inX9 hown hK.1 hw.1 0 rfl rfl 5 (by decide) (hts _ q_466) (fun _ h9 => h9) rfl dX9_hang_30 ?_
      refine lv_iload_n hx hb dX9_hang_33 rfl (lv_at hl 1 rfl) ?_
      refine va_iald hx hb hK.1 hw.1 6 8 rfl rfl hq.1 dX9_hang_34 ?_
      replace hq := hq.2
      refine lv_iadd hx hb dX9_hang_35 ?_
      refine va_iald hx hb hK.1 hw.1 4 8 rfl rfl hq.1 dX9_hang_36 ?_
      replace hq := hq.2
      refine lv_topi (fun y22 ey22 => ?_)
      replace hq := hq y22 ey22
      refine lv_istore (lv' := [(4, .int y22), (0, .ref (mp 0)), (1, .int x1), (2, .int x2), (3, .int x3)]) hx hb dX9_hang_37 hl (by decide) rfl (fun ls hl => ?_)
      refine lv_iload hx hb dX9_hang_39 (lv_at hl 0 rfl) ?_
      refine lv_if_ge (tgt := 51) hx hb dX9_hang_41 (by decide) (fun hc => ?_) (fun hc => ?_)
      · replace hq := hq.1 hc
        refine lv_aload_n hx hb dX9_hang_51 rfl (lv_at hl 1 rfl) ?_
        refine lv_iload_n hx hb dX9_hang_52 rfl (lv_at hl 2 rfl) ?_
        refine lv_iload_n hx hb dX9_hang_53 rfl (lv_at hl 3 rfl) ?_
        refine lv_iload hx hb dX9_hang_54 (lv_at hl 0 rfl) ?_
        refine mt_callV (index := 128) hx hb hml hown hts hK (ΩM.mono D d mp) hA hw hS hl.1 (tX9_toothGets l D d mp x1 x2 y22 u21 hq) (ΩM.recv hK hw) q_636 q_34 q_633 q_635 q_28 nmhX9_toothGets ⟨⟨Nat.le_of_ble_eq_true rfl, Nat.le_of_ble_eq_true rfl⟩, ⟨Nat.le_of_ble_eq_true rfl, Nat.le_of_ble_eq_true rfl⟩⟩ rfl (Nat.le_of_ble_eq_true rfl) dX9_hang_56 (fun _ u24 H locs hq hw hS => ?_)
        obtain ⟨rfl, hq⟩ := hq
        refine W.eq (g2 := F0 m 59 ls []) rfl ?_
        refine lv_aload_n hx hb dX9_hang_59 rfl (lv_at hl 1 rfl) ?_
        refine lv_aload_n hx hb dX9_hang_60 rfl (lv_at hl 1 rfl) ?_
        refine va_get (D := D) (ci := 8) (v := .ref (mp 2)) (C := RX9) (T := TX9) (N := 15) hx hb hts inX9 hown hK.1 hw.1 0 rfl rfl 1 (by decide) (hts _ q_462) (fun _ h9 => h9) rfl dX9_hang_61 ?_
        refine lv_iload hx hb dX9_hang_64 (lv_at hl 0 rfl) ?_
        refine va_iald hx hb hK.1 hw.1 2 8 rfl rfl hq.1 dX9_hang_66 ?_
        replace hq := hq.2
        refine mt_callV (index := 96) hx hb hml hown hts hK (ΩM.mono D d mp) hA hw hS hl.1 (tX9_told l D d mp (mSize u24 y22.toNatClampNeg) u24 hq) (ΩM.recv hK hw) q_525 q_34 q_522 q_524 q_17 nmhX9_told ⟨⟨Nat.le_of_ble_eq_true rfl, Nat.le_of_ble_eq_true rfl⟩, ⟨Nat.le_of_ble_eq_true rfl, Nat.le_of_ble_eq_true rfl⟩⟩ rfl (Nat.le_of_ble_eq_true rfl) dX9_hang_67 (fun _ u26 H locs hq hw hS => ?_)
        obtain ⟨r25, rfl, hq⟩ := hq
        refine W.eq (g2 := F0 m 70 ls [.int r25]) rfl ?_
        exact mt_reti hx hb hr hlocks hw hS (Nat.le_of_ble_eq_true rfl) (Nat.le_of_ble_eq_true rfl) dX9_hang_70 ⟨_, rfl, hq⟩
      · replace hq := hq.2 hc
        refine lv_aload_n hx hb dX9_hang_44 rfl (lv_at hl 1 rfl) ?_
        refine lv_bipush (v := -2) hx hb dX9_hang_45 (by decide) ?_
        refine mt_callV (index := 96) hx hb hml hown hts hK (ΩM.mono D d mp) hA hw hS hl.1 (tX9_told l D d mp (-2 : Int32) u21 hq) (ΩM.recv hK hw) q_525 q_34 q_522 q_524 q_17 nmhX9_told ⟨⟨Nat.le_of_ble_eq_true rfl, Nat.le_of_ble_eq_true rfl⟩, ⟨Nat.le_of_ble_eq_true rfl, Nat.le_of_ble_eq_true rfl⟩⟩ rfl (Nat.le_of_ble_eq_true rfl) dX9_hang_47 (fun _ u28 H locs hq hw hS => ?_)
        obtain ⟨r27, rfl, hq⟩ := hq
        refine W.eq (g2 := F0 m 50 ls [.int r27]) rfl ?_
        exact mt_reti hx hb hr hlocks hw hS (Nat.le_of_ble_eq_true rfl) (Nat.le_of_ble_eq_true rfl) dX9_hang_50 ⟨_, rfl, hq⟩
    · replace hq := hq.2 hc
      refine lv_aload_n hx hb dX9_hang_16 rfl (lv_at hl 0 rfl) ?_
      refine lv_iconst (v := -1) hx hb dX9_hang_17 (by decide) ?_
      refine mt_callV (index := 96) hx hb hml hown hts hK (ΩM.mono D d mp) hA hw hS hl.1 (tX9_told l D d mp (-1 : Int32) u21 hq) (ΩM.recv hK hw) q_525 q_34 q_522 q_524 q_17 nmhX9_told ⟨⟨Nat.le_of_ble_eq_true rfl, Nat.le_of_ble_eq_true rfl⟩, ⟨Nat.le_of_ble_eq_true rfl, Nat.le_of_ble_eq_true rfl⟩⟩ rfl (Nat.le_of_ble_eq_true rfl) dX9_hang_18 (fun _ u30 H locs hq hw hS => ?_)
      obtain ⟨r29, rfl, hq⟩ := hq
      refine W.eq (g2 := F0 m 21 ls [.int r29]) rfl ?_
      exact mt_reti hx hb hr hlocks hw hS (Nat.le_of_ble_eq_true rfl) (Nat.le_of_ble_eq_true rfl) dX9_hang_21 ⟨_, rfl, hq⟩
abbrev rmX9_fit : Room := { frames := 3, cells := 0, slots := 0, locals := 65 }
theorem nmhX9_fit : NoMH yX9_fit 3 := by decide +kernel
def wX9_fit (x1 : Int32) (x2 : Int32) (x3 : Int32) (μ : MS) (Q : Int32 → MS → Prop) : Prop :=
    wX9_isTooth x1 x2 μ (fun r16 u17 => (r16 = 0 → wX9_told (-1 : Int32) u17 (fun r18 u19 => Q r18 u19)) ∧ (¬ r16 = 0 → (wX9_isDrum x3 u17 (fun r20 u21 => (¬ r20 = 0 → (vp_in (((40 : Int32) * x1) + x2) 160 ∧ (∀ y22 : Int32, y22 = (mTeeth u21 (((40 : Int32) * x1) + x2).toNatClampNeg) → ((0 ≤ y22 → (vp_in x1 4 ∧ (wX9_drumGets x3 (mCK u21 x1.toNatClampNeg) y22 u21 (fun u24 => vp_in y22 202 ∧ wX9_told (mSize u24 y22.toNatClampNeg) u24 (fun r25 u26 => Q r25 u26))))) ∧ (¬ 0 ≤ y22 → wX9_told (-2 : Int32) u21 (fun r27 u28 => Q r27 u28)))))) ∧ (r20 = 0 → wX9_told (-1 : Int32) u21 (fun r29 u30 => Q r29 u30))))))
set_option maxHeartbeats 4000000 in
set_option maxRecDepth 100000 in
theorem tX9_fit (l : Launch) (D : va_G) (d : AC) (mp : Nat → Nat) (x1 : Int32) (x2 : Int32) (x3 : Int32) (μ : MS) {Q : Int32 → MS → Prop} (hq : wX9_fit x1 x2 x3 μ Q) : MT D d (ΩM D d mp) l yX9_fit (WS yX9_fit cX9_fit 5 (some (.int))) rmX9_fit [.ref (mp 0), .int x1, .int x2, .int x3] μ (qI Q) := by
  refine mt_of (ΩM.mono D d mp) (by decide +kernel) (Nat.le_of_ble_eq_true rfl) (fun p e s m below meth c A ls hx hb hr hml hown hts hlocks hnm hK hA hw hS hl => ?_)
  have hl : lv_has ls 5 [(0, .ref (mp 0)), (1, .int x1), (2, .int x2), (3, .int x3)] := hl
  have hown : s.vm.findClass RX9 = some m.cls := hown
  unfold wX9_fit at hq
  refine lv_aload_n hx hb dX9_fit_0 rfl (lv_at hl 0 rfl) ?_
  refine lv_iload_n hx hb dX9_fit_1 rfl (lv_at hl 1 rfl) ?_
  refine lv_iload_n hx hb dX9_fit_2 rfl (lv_at hl 2 rfl) ?_
  refine mt_callV (index := 134) hx hb hml hown hts hK (ΩM.mono D d mp) hA hw hS hl.1 (tX9_isTooth l D d mp x1 x2 μ hq) (ΩM.recv hK hw) q_656 q_34 q_653 q_655 q_30 nmhX9_isTooth ⟨⟨Nat.le_of_ble_eq_true rfl, Nat.le_of_ble_eq_true rfl⟩, ⟨Nat.le_of_ble_eq_true rfl, Nat.le_of_ble_eq_true rfl⟩⟩ rfl (Nat.le_of_ble_eq_true rfl) dX9_fit_3 (fun _ u17 H locs hq hw hS => ?_)
  obtain ⟨r16, rfl, hzr16, hq⟩ := hq
  refine W.eq (g2 := F0 m 6 ls [.int r16]) rfl ?_
  refine lv_if_eq (tgt := 16) hx hb dX9_fit_6 (by decide) (fun hc => ?_) (fun hc => ?_)
  · replace hq := hq.1 hc
    refine lv_aload_n hx hb dX9_fit_16 rfl (lv_at hl 0 rfl) ?_
    refine lv_iconst (v := -1) hx hb dX9_fit_17 (by decide) ?_
    refine mt_callV (index := 96) hx hb hml hown hts hK (ΩM.mono D d mp) hA hw hS hl.1 (tX9_told l D d mp (-1 : Int32) u17 hq) (ΩM.recv hK hw) q_525 q_34 q_522 q_524 q_17 nmhX9_told ⟨⟨Nat.le_of_ble_eq_true rfl, Nat.le_of_ble_eq_true rfl⟩, ⟨Nat.le_of_ble_eq_true rfl, Nat.le_of_ble_eq_true rfl⟩⟩ rfl (Nat.le_of_ble_eq_true rfl) dX9_fit_18 (fun _ u19 H locs hq hw hS => ?_)
    obtain ⟨r18, rfl, hq⟩ := hq
    refine W.eq (g2 := F0 m 21 ls [.int r18]) rfl ?_
    exact mt_reti hx hb hr hlocks hw hS (Nat.le_of_ble_eq_true rfl) (Nat.le_of_ble_eq_true rfl) dX9_fit_21 ⟨_, rfl, hq⟩
  · replace hq := hq.2 hc
    refine lv_iload_n hx hb dX9_fit_9 rfl (lv_at hl 3 rfl) ?_
    refine mt_callS (index := 90) hx hb hml hown hts hK (ΩM.mono D d mp) hA hw hS hl.1 (tX9_isDrum l D d mp x3 u17 hq) q_515 q_34 q_513 q_514 nmhX9_isDrum ⟨⟨Nat.le_of_ble_eq_true rfl, Nat.le_of_ble_eq_true rfl⟩, ⟨Nat.le_of_ble_eq_true rfl, Nat.le_of_ble_eq_true rfl⟩⟩ rfl (Nat.le_of_ble_eq_true rfl) dX9_fit_10 (fun _ u21 H locs hq hw hS => ?_)
    obtain ⟨r20, rfl, hzr20, hq⟩ := hq
    refine W.eq (g2 := F0 m 13 ls [.int r20]) rfl ?_
    refine lv_if_ne (tgt := 22) hx hb dX9_fit_13 (by decide) (fun hc => ?_) (fun hc => ?_)
    · replace hq := hq.1 hc
      refine lv_aload_n hx hb dX9_fit_22 rfl (lv_at hl 0 rfl) ?_
      refine va_get (D := D) (ci := 8) (v := .ref (mp 5)) (C := RX9) (T := TX9) (N := 15) hx hb hts inX9 hown hK.1 hw.1 0 rfl rfl 4 (by decide) (hts _ q_465) (fun _ h9 => h9) rfl dX9_fit_23 ?_
      refine lv_bipush (v := 40) hx hb dX9_fit_26 (by decide) ?_
      refine lv_iload_n hx hb dX9_fit_28 rfl (lv_at hl 1 rfl) ?_
      refine lv_imul hx hb dX9_fit_29 ?_
      refine lv_iload_n hx hb dX9_fit_30 rfl (lv_at hl 2 rfl) ?_
      refine lv_iadd hx hb dX9_fit_31 ?_
      refine va_iald hx hb hK.1 hw.1 5 8 rfl rfl hq.1 dX9_fit_32 ?_
      replace hq := hq.2
      refine lv_topi (fun y22 ey22 => ?_)
      replace hq := hq y22 ey22
      refine lv_istore (lv' := [(4, .int y22), (0, .ref (mp 0)), (1, .int x1), (2, .int x2), (3, .int x3)]) hx hb dX9_fit_33 hl (by decide) rfl (fun ls hl => ?_)
      refine lv_iload hx hb dX9_fit_35 (lv_at hl 0 rfl) ?_
      refine lv_if_ge (tgt := 47) hx hb dX9_fit_37 (by decide) (fun hc => ?_) (fun hc => ?_)
      · replace hq := hq.1 hc
        refine lv_aload_n hx hb dX9_fit_47 rfl (lv_at hl 1 rfl) ?_
        refine lv_iload_n hx hb dX9_fit_48 rfl (lv_at hl 4 rfl) ?_
        refine lv_aload_n hx hb dX9_fit_49 rfl (lv_at hl 1 rfl) ?_
        refine va_get (D := D) (ci := 8) (v := .ref (mp 6)) (C := RX9) (T := TX9) (N := 15) hx hb hts inX9 hown hK.1 hw.1 0 rfl rfl 5 (by decide) (hts _ q_466) (fun _ h9 => h9) rfl dX9_fit_50 ?_
        refine lv_iload_n hx hb dX9_fit_53 rfl (lv_at hl 2 rfl) ?_
        refine va_iald hx hb hK.1 hw.1 6 8 rfl rfl hq.1 dX9_fit_54 ?_
        replace hq := hq.2
        refine lv_iload hx hb dX9_fit_55 (lv_at hl 0 rfl) ?_
        refine mt_callV (index := 103) hx hb hml hown hts hK (ΩM.mono D d mp) hA hw hS hl.1 (tX9_drumGets l D d mp x3 (mCK u21 x1.toNatClampNeg) y22 u21 hq) (ΩM.recv hK hw) q_533 q_34 q_530 q_532 q_19 nmhX9_drumGets ⟨⟨Nat.le_of_ble_eq_true rfl, Nat.le_of_ble_eq_true rfl⟩, ⟨Nat.le_of_ble_eq_true rfl, Nat.le_of_ble_eq_true rfl⟩⟩ rfl (Nat.le_of_ble_eq_true rfl) dX9_fit_57 (fun _ u24 H locs hq hw hS => ?_)
        obtain ⟨rfl, hq⟩ := hq
        refine W.eq (g2 := F0 m 60 ls []) rfl ?_
        refine lv_aload_n hx hb dX9_fit_60 rfl (lv_at hl 1 rfl) ?_
        refine lv_aload_n hx hb dX9_fit_61 rfl (lv_at hl 1 rfl) ?_
        refine va_get (D := D) (ci := 8) (v := .ref (mp 2)) (C := RX9) (T := TX9) (N := 15) hx hb hts inX9 hown hK.1 hw.1 0 rfl rfl 1 (by decide) (hts _ q_462) (fun _ h9 => h9) rfl dX9_fit_62 ?_
        refine lv_iload hx hb dX9_fit_65 (lv_at hl 0 rfl) ?_
        refine va_iald hx hb hK.1 hw.1 2 8 rfl rfl hq.1 dX9_fit_67 ?_
        replace hq := hq.2
        refine mt_callV (index := 96) hx hb hml hown hts hK (ΩM.mono D d mp) hA hw hS hl.1 (tX9_told l D d mp (mSize u24 y22.toNatClampNeg) u24 hq) (ΩM.recv hK hw) q_525 q_34 q_522 q_524 q_17 nmhX9_told ⟨⟨Nat.le_of_ble_eq_true rfl, Nat.le_of_ble_eq_true rfl⟩, ⟨Nat.le_of_ble_eq_true rfl, Nat.le_of_ble_eq_true rfl⟩⟩ rfl (Nat.le_of_ble_eq_true rfl) dX9_fit_68 (fun _ u26 H locs hq hw hS => ?_)
        obtain ⟨r25, rfl, hq⟩ := hq
        refine W.eq (g2 := F0 m 71 ls [.int r25]) rfl ?_
        exact mt_reti hx hb hr hlocks hw hS (Nat.le_of_ble_eq_true rfl) (Nat.le_of_ble_eq_true rfl) dX9_fit_71 ⟨_, rfl, hq⟩
      · replace hq := hq.2 hc
        refine lv_aload_n hx hb dX9_fit_40 rfl (lv_at hl 1 rfl) ?_
        refine lv_bipush (v := -2) hx hb dX9_fit_41 (by decide) ?_
        refine mt_callV (index := 96) hx hb hml hown hts hK (ΩM.mono D d mp) hA hw hS hl.1 (tX9_told l D d mp (-2 : Int32) u21 hq) (ΩM.recv hK hw) q_525 q_34 q_522 q_524 q_17 nmhX9_told ⟨⟨Nat.le_of_ble_eq_true rfl, Nat.le_of_ble_eq_true rfl⟩, ⟨Nat.le_of_ble_eq_true rfl, Nat.le_of_ble_eq_true rfl⟩⟩ rfl (Nat.le_of_ble_eq_true rfl) dX9_fit_43 (fun _ u28 H locs hq hw hS => ?_)
        obtain ⟨r27, rfl, hq⟩ := hq
        refine W.eq (g2 := F0 m 46 ls [.int r27]) rfl ?_
        exact mt_reti hx hb hr hlocks hw hS (Nat.le_of_ble_eq_true rfl) (Nat.le_of_ble_eq_true rfl) dX9_fit_46 ⟨_, rfl, hq⟩
    · replace hq := hq.2 hc
      refine lv_aload_n hx hb dX9_fit_16 rfl (lv_at hl 0 rfl) ?_
      refine lv_iconst (v := -1) hx hb dX9_fit_17 (by decide) ?_
      refine mt_callV (index := 96) hx hb hml hown hts hK (ΩM.mono D d mp) hA hw hS hl.1 (tX9_told l D d mp (-1 : Int32) u21 hq) (ΩM.recv hK hw) q_525 q_34 q_522 q_524 q_17 nmhX9_told ⟨⟨Nat.le_of_ble_eq_true rfl, Nat.le_of_ble_eq_true rfl⟩, ⟨Nat.le_of_ble_eq_true rfl, Nat.le_of_ble_eq_true rfl⟩⟩ rfl (Nat.le_of_ble_eq_true rfl) dX9_fit_18 (fun _ u30 H locs hq hw hS => ?_)
      obtain ⟨r29, rfl, hq⟩ := hq
      refine W.eq (g2 := F0 m 21 ls [.int r29]) rfl ?_
      exact mt_reti hx hb hr hlocks hw hS (Nat.le_of_ble_eq_true rfl) (Nat.le_of_ble_eq_true rfl) dX9_fit_21 ⟨_, rfl, hq⟩
abbrev rmX9_cell : Room := { frames := 3, cells := 0, slots := 0, locals := 65 }
theorem nmhX9_cell : NoMH yX9_cell 3 := by decide +kernel
def wX9_cell (x1 : Int32) (x2 : Int32) (x3 : Int32) (μ : MS) (Q : Int32 → MS → Prop) : Prop :=
    wX9_isTooth x1 x2 μ (fun r5 u6 => (¬ r5 = 0 → (vp_in (((40 : Int32) * x1) + x2) 160 ∧ (wX9_reads (mTeeth u6 (((40 : Int32) * x1) + x2).toNatClampNeg) x3 u6 (fun r7 u8 => Q r7 u8)))) ∧ (r5 = 0 → (Q (0 : Int32) (nState u6 (-1 : Int32)))))
set_option maxHeartbeats 4000000 in
set_option maxRecDepth 100000 in
theorem tX9_cell (l : Launch) (D : va_G) (d : AC) (mp : Nat → Nat) (x1 : Int32) (x2 : Int32) (x3 : Int32) (μ : MS) {Q : Int32 → MS → Prop} (hq : wX9_cell x1 x2 x3 μ Q) : MT D d (ΩM D d mp) l yX9_cell (WS yX9_cell cX9_cell 4 (some (.int))) rmX9_cell [.ref (mp 0), .int x1, .int x2, .int x3] μ (qI Q) := by
  refine mt_of (ΩM.mono D d mp) (by decide +kernel) (Nat.le_of_ble_eq_true rfl) (fun p e s m below meth c A ls hx hb hr hml hown hts hlocks hnm hK hA hw hS hl => ?_)
  have hl : lv_has ls 4 [(0, .ref (mp 0)), (1, .int x1), (2, .int x2), (3, .int x3)] := hl
  have hown : s.vm.findClass RX9 = some m.cls := hown
  unfold wX9_cell at hq
  refine lv_aload_n hx hb dX9_cell_0 rfl (lv_at hl 0 rfl) ?_
  refine lv_iload_n hx hb dX9_cell_1 rfl (lv_at hl 1 rfl) ?_
  refine lv_iload_n hx hb dX9_cell_2 rfl (lv_at hl 2 rfl) ?_
  refine mt_callV (index := 134) hx hb hml hown hts hK (ΩM.mono D d mp) hA hw hS hl.1 (tX9_isTooth l D d mp x1 x2 μ hq) (ΩM.recv hK hw) q_656 q_34 q_653 q_655 q_30 nmhX9_isTooth ⟨⟨Nat.le_of_ble_eq_true rfl, Nat.le_of_ble_eq_true rfl⟩, ⟨Nat.le_of_ble_eq_true rfl, Nat.le_of_ble_eq_true rfl⟩⟩ rfl (Nat.le_of_ble_eq_true rfl) dX9_cell_3 (fun _ u6 H locs hq hw hS => ?_)
  obtain ⟨r5, rfl, hzr5, hq⟩ := hq
  refine W.eq (g2 := F0 m 6 ls [.int r5]) rfl ?_
  refine lv_if_ne (tgt := 16) hx hb dX9_cell_6 (by decide) (fun hc => ?_) (fun hc => ?_)
  · replace hq := hq.1 hc
    refine lv_aload_n hx hb dX9_cell_16 rfl (lv_at hl 0 rfl) ?_
    refine lv_aload_n hx hb dX9_cell_17 rfl (lv_at hl 0 rfl) ?_
    refine va_get (D := D) (ci := 8) (v := .ref (mp 5)) (C := RX9) (T := TX9) (N := 15) hx hb hts inX9 hown hK.1 hw.1 0 rfl rfl 4 (by decide) (hts _ q_465) (fun _ h9 => h9) rfl dX9_cell_18 ?_
    refine lv_bipush (v := 40) hx hb dX9_cell_21 (by decide) ?_
    refine lv_iload_n hx hb dX9_cell_23 rfl (lv_at hl 1 rfl) ?_
    refine lv_imul hx hb dX9_cell_24 ?_
    refine lv_iload_n hx hb dX9_cell_25 rfl (lv_at hl 2 rfl) ?_
    refine lv_iadd hx hb dX9_cell_26 ?_
    refine va_iald hx hb hK.1 hw.1 5 8 rfl rfl hq.1 dX9_cell_27 ?_
    replace hq := hq.2
    refine lv_iload_n hx hb dX9_cell_28 rfl (lv_at hl 3 rfl) ?_
    refine mt_callV (index := 107) hx hb hml hown hts hK (ΩM.mono D d mp) hA hw hS hl.1 (tX9_reads l D d mp (mTeeth u6 (((40 : Int32) * x1) + x2).toNatClampNeg) x3 u6 hq) (ΩM.recv hK hw) q_553 q_34 q_550 q_552 q_20 nmhX9_reads ⟨⟨Nat.le_of_ble_eq_true rfl, Nat.le_of_ble_eq_true rfl⟩, ⟨Nat.le_of_ble_eq_true rfl, Nat.le_of_ble_eq_true rfl⟩⟩ rfl (Nat.le_of_ble_eq_true rfl) dX9_cell_29 (fun _ u8 H locs hq hw hS => ?_)
    obtain ⟨r7, rfl, hq⟩ := hq
    refine W.eq (g2 := F0 m 32 ls [.int r7]) rfl ?_
    exact mt_reti hx hb hr hlocks hw hS (Nat.le_of_ble_eq_true rfl) (Nat.le_of_ble_eq_true rfl) dX9_cell_32 ⟨_, rfl, hq⟩
  · replace hq := hq.2 hc
    refine lv_aload_n hx hb dX9_cell_9 rfl (lv_at hl 0 rfl) ?_
    refine lv_iconst (v := -1) hx hb dX9_cell_10 (by decide) ?_
    refine va_put (D := D) (ci := 8) (v := .int (-1 : Int32)) (ty := .int) (C := RX9) (T := TX9) (N := 15) hx hb hts inX9 tyX9 tyX9_ok nmX9 hown hK.1 hw.1 hw.2 hS 0 rfl rfl 14 (by decide) (hts _ q_475) (fun _ h9 => h9) rfl (by decide +kernel) rfl rfl (Nat.le_of_ble_eq_true rfl) dX9_cell_11 (fun H locs hP hD hS => ?_)
    have hw : ΩM D d mp A (nState u6 (-1 : Int32)) H := ⟨hP, hD⟩
    refine lv_iconst (v := 0) hx hb dX9_cell_14 (by decide) ?_
    exact mt_reti hx hb hr hlocks hw hS (Nat.le_of_ble_eq_true rfl) (Nat.le_of_ble_eq_true rfl) dX9_cell_15 ⟨_, rfl, hq⟩
abbrev rmX9_set : Room := { frames := 3, cells := 0, slots := 0, locals := 69 }
theorem nmhX9_set : NoMH yX9_set 4 := by decide +kernel
def wX9_set (x1 : Int32) (x2 : Int32) (x3 : Int32) (x4 : Int32) (μ : MS) (Q : Int32 → MS → Prop) : Prop :=
    wX9_isTooth x1 x2 μ (fun r9 u10 => (¬ r9 = 0 → (vp_in x1 4 ∧ (vp_in (((40 : Int32) * x1) + x2) 160 ∧ (wX9_writes (mCK u10 x1.toNatClampNeg) (mTeeth u10 (((40 : Int32) * x1) + x2).toNatClampNeg) x3 x4 u10 (fun r11 u12 => wX9_told r11 u12 (fun r13 u14 => Q r13 u14)))))) ∧ (r9 = 0 → wX9_told (-1 : Int32) u10 (fun r15 u16 => Q r15 u16)))
set_option maxHeartbeats 4000000 in
set_option maxRecDepth 100000 in
theorem tX9_set (l : Launch) (D : va_G) (d : AC) (mp : Nat → Nat) (x1 : Int32) (x2 : Int32) (x3 : Int32) (x4 : Int32) (μ : MS) {Q : Int32 → MS → Prop} (hq : wX9_set x1 x2 x3 x4 μ Q) : MT D d (ΩM D d mp) l yX9_set (WS yX9_set cX9_set 5 (some (.int))) rmX9_set [.ref (mp 0), .int x1, .int x2, .int x3, .int x4] μ (qI Q) := by
  refine mt_of (ΩM.mono D d mp) (by decide +kernel) (Nat.le_of_ble_eq_true rfl) (fun p e s m below meth c A ls hx hb hr hml hown hts hlocks hnm hK hA hw hS hl => ?_)
  have hl : lv_has ls 5 [(0, .ref (mp 0)), (1, .int x1), (2, .int x2), (3, .int x3), (4, .int x4)] := hl
  have hown : s.vm.findClass RX9 = some m.cls := hown
  unfold wX9_set at hq
  refine lv_aload_n hx hb dX9_set_0 rfl (lv_at hl 0 rfl) ?_
  refine lv_iload_n hx hb dX9_set_1 rfl (lv_at hl 1 rfl) ?_
  refine lv_iload_n hx hb dX9_set_2 rfl (lv_at hl 2 rfl) ?_
  refine mt_callV (index := 134) hx hb hml hown hts hK (ΩM.mono D d mp) hA hw hS hl.1 (tX9_isTooth l D d mp x1 x2 μ hq) (ΩM.recv hK hw) q_656 q_34 q_653 q_655 q_30 nmhX9_isTooth ⟨⟨Nat.le_of_ble_eq_true rfl, Nat.le_of_ble_eq_true rfl⟩, ⟨Nat.le_of_ble_eq_true rfl, Nat.le_of_ble_eq_true rfl⟩⟩ rfl (Nat.le_of_ble_eq_true rfl) dX9_set_3 (fun _ u10 H locs hq hw hS => ?_)
  obtain ⟨r9, rfl, hzr9, hq⟩ := hq
  refine W.eq (g2 := F0 m 6 ls [.int r9]) rfl ?_
  refine lv_if_ne (tgt := 15) hx hb dX9_set_6 (by decide) (fun hc => ?_) (fun hc => ?_)
  · replace hq := hq.1 hc
    refine lv_aload_n hx hb dX9_set_15 rfl (lv_at hl 0 rfl) ?_
    refine lv_aload_n hx hb dX9_set_16 rfl (lv_at hl 0 rfl) ?_
    refine lv_aload_n hx hb dX9_set_17 rfl (lv_at hl 0 rfl) ?_
    refine va_get (D := D) (ci := 8) (v := .ref (mp 6)) (C := RX9) (T := TX9) (N := 15) hx hb hts inX9 hown hK.1 hw.1 0 rfl rfl 5 (by decide) (hts _ q_466) (fun _ h9 => h9) rfl dX9_set_18 ?_
    refine lv_iload_n hx hb dX9_set_21 rfl (lv_at hl 1 rfl) ?_
    refine va_iald hx hb hK.1 hw.1 6 8 rfl rfl hq.1 dX9_set_22 ?_
    replace hq := hq.2
    refine lv_aload_n hx hb dX9_set_23 rfl (lv_at hl 0 rfl) ?_
    refine va_get (D := D) (ci := 8) (v := .ref (mp 5)) (C := RX9) (T := TX9) (N := 15) hx hb hts inX9 hown hK.1 hw.1 0 rfl rfl 4 (by decide) (hts _ q_465) (fun _ h9 => h9) rfl dX9_set_24 ?_
    refine lv_bipush (v := 40) hx hb dX9_set_27 (by decide) ?_
    refine lv_iload_n hx hb dX9_set_29 rfl (lv_at hl 1 rfl) ?_
    refine lv_imul hx hb dX9_set_30 ?_
    refine lv_iload_n hx hb dX9_set_31 rfl (lv_at hl 2 rfl) ?_
    refine lv_iadd hx hb dX9_set_32 ?_
    refine va_iald hx hb hK.1 hw.1 5 8 rfl rfl hq.1 dX9_set_33 ?_
    replace hq := hq.2
    refine lv_iload_n hx hb dX9_set_34 rfl (lv_at hl 3 rfl) ?_
    refine lv_iload hx hb dX9_set_35 (lv_at hl 4 rfl) ?_
    refine mt_callV (index := 110) hx hb hml hown hts hK (ΩM.mono D d mp) hA hw hS hl.1 (tX9_writes l D d mp (mCK u10 x1.toNatClampNeg) (mTeeth u10 (((40 : Int32) * x1) + x2).toNatClampNeg) x3 x4 u10 hq) (ΩM.recv hK hw) q_565 q_34 q_562 q_564 q_22 nmhX9_writes ⟨⟨Nat.le_of_ble_eq_true rfl, Nat.le_of_ble_eq_true rfl⟩, ⟨Nat.le_of_ble_eq_true rfl, Nat.le_of_ble_eq_true rfl⟩⟩ rfl (Nat.le_of_ble_eq_true rfl) dX9_set_37 (fun _ u12 H locs hq hw hS => ?_)
    obtain ⟨r11, rfl, hq⟩ := hq
    refine W.eq (g2 := F0 m 40 ls [.int r11, .ref (mp 0)]) rfl ?_
    refine mt_callV (index := 96) hx hb hml hown hts hK (ΩM.mono D d mp) hA hw hS hl.1 (tX9_told l D d mp r11 u12 hq) (ΩM.recv hK hw) q_525 q_34 q_522 q_524 q_17 nmhX9_told ⟨⟨Nat.le_of_ble_eq_true rfl, Nat.le_of_ble_eq_true rfl⟩, ⟨Nat.le_of_ble_eq_true rfl, Nat.le_of_ble_eq_true rfl⟩⟩ rfl (Nat.le_of_ble_eq_true rfl) dX9_set_40 (fun _ u14 H locs hq hw hS => ?_)
    obtain ⟨r13, rfl, hq⟩ := hq
    refine W.eq (g2 := F0 m 43 ls [.int r13]) rfl ?_
    exact mt_reti hx hb hr hlocks hw hS (Nat.le_of_ble_eq_true rfl) (Nat.le_of_ble_eq_true rfl) dX9_set_43 ⟨_, rfl, hq⟩
  · replace hq := hq.2 hc
    refine lv_aload_n hx hb dX9_set_9 rfl (lv_at hl 0 rfl) ?_
    refine lv_iconst (v := -1) hx hb dX9_set_10 (by decide) ?_
    refine mt_callV (index := 96) hx hb hml hown hts hK (ΩM.mono D d mp) hA hw hS hl.1 (tX9_told l D d mp (-1 : Int32) u10 hq) (ΩM.recv hK hw) q_525 q_34 q_522 q_524 q_17 nmhX9_told ⟨⟨Nat.le_of_ble_eq_true rfl, Nat.le_of_ble_eq_true rfl⟩, ⟨Nat.le_of_ble_eq_true rfl, Nat.le_of_ble_eq_true rfl⟩⟩ rfl (Nat.le_of_ble_eq_true rfl) dX9_set_11 (fun _ u16 H locs hq hw hS => ?_)
    obtain ⟨r15, rfl, hq⟩ := hq
    refine W.eq (g2 := F0 m 14 ls [.int r15]) rfl ?_
    exact mt_reti hx hb hr hlocks hw hS (Nat.le_of_ble_eq_true rfl) (Nat.le_of_ble_eq_true rfl) dX9_set_14 ⟨_, rfl, hq⟩
abbrev rmX9_twist : Room := { frames := 3, cells := 0, slots := 0, locals := 71 }
theorem nmhX9_twist : NoMH yX9_twist 4 := by decide +kernel
def wX9_twist (x1 : Int32) (x2 : Int32) (x3 : Int32) (x4 : Int32) (μ : MS) (Q : Int32 → MS → Prop) : Prop :=
    wX9_isTooth x1 x2 μ (fun r9 u10 => (¬ r9 = 0 → (vp_in x1 4 ∧ (vp_in (((40 : Int32) * x1) + x2) 160 ∧ (wX9_turns (mCK u10 x1.toNatClampNeg) (mTeeth u10 (((40 : Int32) * x1) + x2).toNatClampNeg) x3 x4 u10 (fun r11 u12 => wX9_told r11 u12 (fun r13 u14 => Q r13 u14)))))) ∧ (r9 = 0 → wX9_told (-1 : Int32) u10 (fun r15 u16 => Q r15 u16)))
set_option maxHeartbeats 4000000 in
set_option maxRecDepth 100000 in
theorem tX9_twist (l : Launch) (D : va_G) (d : AC) (mp : Nat → Nat) (x1 : Int32) (x2 : Int32) (x3 : Int32) (x4 : Int32) (μ : MS) {Q : Int32 → MS → Prop} (hq : wX9_twist x1 x2 x3 x4 μ Q) : MT D d (ΩM D d mp) l yX9_twist (WS yX9_twist cX9_twist 5 (some (.int))) rmX9_twist [.ref (mp 0), .int x1, .int x2, .int x3, .int x4] μ (qI Q) := by
  refine mt_of (ΩM.mono D d mp) (by decide +kernel) (Nat.le_of_ble_eq_true rfl) (fun p e s m below meth c A ls hx hb hr hml hown hts hlocks hnm hK hA hw hS hl => ?_)
  have hl : lv_has ls 5 [(0, .ref (mp 0)), (1, .int x1), (2, .int x2), (3, .int x3), (4, .int x4)] := hl
  have hown : s.vm.findClass RX9 = some m.cls := hown
  unfold wX9_twist at hq
  refine lv_aload_n hx hb dX9_twist_0 rfl (lv_at hl 0 rfl) ?_
  refine lv_iload_n hx hb dX9_twist_1 rfl (lv_at hl 1 rfl) ?_
  refine lv_iload_n hx hb dX9_twist_2 rfl (lv_at hl 2 rfl) ?_
  refine mt_callV (index := 134) hx hb hml hown hts hK (ΩM.mono D d mp) hA hw hS hl.1 (tX9_isTooth l D d mp x1 x2 μ hq) (ΩM.recv hK hw) q_656 q_34 q_653 q_655 q_30 nmhX9_isTooth ⟨⟨Nat.le_of_ble_eq_true rfl, Nat.le_of_ble_eq_true rfl⟩, ⟨Nat.le_of_ble_eq_true rfl, Nat.le_of_ble_eq_true rfl⟩⟩ rfl (Nat.le_of_ble_eq_true rfl) dX9_twist_3 (fun _ u10 H locs hq hw hS => ?_)
  obtain ⟨r9, rfl, hzr9, hq⟩ := hq
  refine W.eq (g2 := F0 m 6 ls [.int r9]) rfl ?_
  refine lv_if_ne (tgt := 15) hx hb dX9_twist_6 (by decide) (fun hc => ?_) (fun hc => ?_)
  · replace hq := hq.1 hc
    refine lv_aload_n hx hb dX9_twist_15 rfl (lv_at hl 0 rfl) ?_
    refine lv_aload_n hx hb dX9_twist_16 rfl (lv_at hl 0 rfl) ?_
    refine lv_aload_n hx hb dX9_twist_17 rfl (lv_at hl 0 rfl) ?_
    refine va_get (D := D) (ci := 8) (v := .ref (mp 6)) (C := RX9) (T := TX9) (N := 15) hx hb hts inX9 hown hK.1 hw.1 0 rfl rfl 5 (by decide) (hts _ q_466) (fun _ h9 => h9) rfl dX9_twist_18 ?_
    refine lv_iload_n hx hb dX9_twist_21 rfl (lv_at hl 1 rfl) ?_
    refine va_iald hx hb hK.1 hw.1 6 8 rfl rfl hq.1 dX9_twist_22 ?_
    replace hq := hq.2
    refine lv_aload_n hx hb dX9_twist_23 rfl (lv_at hl 0 rfl) ?_
    refine va_get (D := D) (ci := 8) (v := .ref (mp 5)) (C := RX9) (T := TX9) (N := 15) hx hb hts inX9 hown hK.1 hw.1 0 rfl rfl 4 (by decide) (hts _ q_465) (fun _ h9 => h9) rfl dX9_twist_24 ?_
    refine lv_bipush (v := 40) hx hb dX9_twist_27 (by decide) ?_
    refine lv_iload_n hx hb dX9_twist_29 rfl (lv_at hl 1 rfl) ?_
    refine lv_imul hx hb dX9_twist_30 ?_
    refine lv_iload_n hx hb dX9_twist_31 rfl (lv_at hl 2 rfl) ?_
    refine lv_iadd hx hb dX9_twist_32 ?_
    refine va_iald hx hb hK.1 hw.1 5 8 rfl rfl hq.1 dX9_twist_33 ?_
    replace hq := hq.2
    refine lv_iload_n hx hb dX9_twist_34 rfl (lv_at hl 3 rfl) ?_
    refine lv_iload hx hb dX9_twist_35 (lv_at hl 4 rfl) ?_
    refine mt_callV (index := 114) hx hb hml hown hts hK (ΩM.mono D d mp) hA hw hS hl.1 (tX9_turns l D d mp (mCK u10 x1.toNatClampNeg) (mTeeth u10 (((40 : Int32) * x1) + x2).toNatClampNeg) x3 x4 u10 hq) (ΩM.recv hK hw) q_590 q_34 q_587 q_589 q_23 nmhX9_turns ⟨⟨Nat.le_of_ble_eq_true rfl, Nat.le_of_ble_eq_true rfl⟩, ⟨Nat.le_of_ble_eq_true rfl, Nat.le_of_ble_eq_true rfl⟩⟩ rfl (Nat.le_of_ble_eq_true rfl) dX9_twist_37 (fun _ u12 H locs hq hw hS => ?_)
    obtain ⟨r11, rfl, hq⟩ := hq
    refine W.eq (g2 := F0 m 40 ls [.int r11, .ref (mp 0)]) rfl ?_
    refine mt_callV (index := 96) hx hb hml hown hts hK (ΩM.mono D d mp) hA hw hS hl.1 (tX9_told l D d mp r11 u12 hq) (ΩM.recv hK hw) q_525 q_34 q_522 q_524 q_17 nmhX9_told ⟨⟨Nat.le_of_ble_eq_true rfl, Nat.le_of_ble_eq_true rfl⟩, ⟨Nat.le_of_ble_eq_true rfl, Nat.le_of_ble_eq_true rfl⟩⟩ rfl (Nat.le_of_ble_eq_true rfl) dX9_twist_40 (fun _ u14 H locs hq hw hS => ?_)
    obtain ⟨r13, rfl, hq⟩ := hq
    refine W.eq (g2 := F0 m 43 ls [.int r13]) rfl ?_
    exact mt_reti hx hb hr hlocks hw hS (Nat.le_of_ble_eq_true rfl) (Nat.le_of_ble_eq_true rfl) dX9_twist_43 ⟨_, rfl, hq⟩
  · replace hq := hq.2 hc
    refine lv_aload_n hx hb dX9_twist_9 rfl (lv_at hl 0 rfl) ?_
    refine lv_iconst (v := -1) hx hb dX9_twist_10 (by decide) ?_
    refine mt_callV (index := 96) hx hb hml hown hts hK (ΩM.mono D d mp) hA hw hS hl.1 (tX9_told l D d mp (-1 : Int32) u10 hq) (ΩM.recv hK hw) q_525 q_34 q_522 q_524 q_17 nmhX9_told ⟨⟨Nat.le_of_ble_eq_true rfl, Nat.le_of_ble_eq_true rfl⟩, ⟨Nat.le_of_ble_eq_true rfl, Nat.le_of_ble_eq_true rfl⟩⟩ rfl (Nat.le_of_ble_eq_true rfl) dX9_twist_11 (fun _ u16 H locs hq hw hS => ?_)
    obtain ⟨r15, rfl, hq⟩ := hq
    refine W.eq (g2 := F0 m 14 ls [.int r15]) rfl ?_
    exact mt_reti hx hb hr hlocks hw hS (Nat.le_of_ble_eq_true rfl) (Nat.le_of_ble_eq_true rfl) dX9_twist_14 ⟨_, rfl, hq⟩
abbrev rmX9_state : Room := { frames := 0, cells := 0, slots := 0, locals := 0 }
theorem nmhX9_state : NoMH yX9_state 0 := by decide +kernel
def wX9_state (μ : MS) (Q : Int32 → MS → Prop) : Prop :=
    Q (mState μ) μ
set_option maxHeartbeats 4000000 in
set_option maxRecDepth 100000 in
theorem tX9_state (l : Launch) (D : va_G) (d : AC) (mp : Nat → Nat) (μ : MS) {Q : Int32 → MS → Prop} (hq : wX9_state  μ Q) : MT D d (ΩM D d mp) l yX9_state (WS yX9_state cX9_state 1 (some (.int))) rmX9_state [.ref (mp 0)] μ (qI Q) := by
  refine mt_of (ΩM.mono D d mp) (by decide +kernel) (Nat.le_of_ble_eq_true rfl) (fun p e s m below meth c A ls hx hb hr hml hown hts hlocks hnm hK hA hw hS hl => ?_)
  have hl : lv_has ls 1 [(0, .ref (mp 0))] := hl
  have hown : s.vm.findClass RX9 = some m.cls := hown
  unfold wX9_state at hq
  refine lv_aload_n hx hb dX9_state_0 rfl (lv_at hl 0 rfl) ?_
  refine va_get (D := D) (ci := 8) (v := .int (mState μ)) (C := RX9) (T := TX9) (N := 15) hx hb hts inX9 hown hK.1 hw.1 0 rfl rfl 14 (by decide) (hts _ q_475) (fun _ h9 => h9) rfl dX9_state_1 ?_
  exact mt_reti hx hb hr hlocks hw hS (Nat.le_of_ble_eq_true rfl) (Nat.le_of_ble_eq_true rfl) dX9_state_4 ⟨_, rfl, hq⟩
