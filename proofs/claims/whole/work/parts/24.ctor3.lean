theorem vaP_nil {D : va_G} {H : Heap} : va_P D vwCl [] H := fun k q hk => by simp at hk
theorem vaP_cons {D : va_G} {H : Heap} {a : Nat} {e : va_E} {ws : va_W} (h : va_at D vwCl (a, e) H) (t : va_P D vwCl ws H) : va_P D vwCl ((a, e) :: ws) H := fun k q hk => by
  cases k with
  | zero => cases hk; exact h
  | succ k => exact t k q hk
theorem vaD_of {A : Nat → Prop} {ws : va_W} (hn : (ws.map (fun p => p.1)).Nodup) (hA : ∀ p ∈ ws, A p.1) : va_D A ws := by
  have pw : List.Pairwise (fun p q : Nat × va_E => p.1 ≠ q.1) ws := List.pairwise_map.mp hn
  refine ⟨fun i j x y hi hj hxy => ?_, fun k q hk => hA q (List.mem_of_getElem? hk)⟩
  obtain ⟨li, ei⟩ := List.getElem?_eq_some_iff.mp hi
  obtain ⟨lj, ej⟩ := List.getElem?_eq_some_iff.mp hj
  rcases Nat.lt_trichotomy i j with h | h | h
  · exact absurd (by rw [ei, ej]; exact hxy) (List.pairwise_iff_getElem.mp pw i j li lj h)
  · exact h
  · exact absurd (by rw [ei, ej]; exact hxy.symm) (List.pairwise_iff_getElem.mp pw j i lj li h)
/-- the world while the reference is made: a picture, then its own -/
def ΩI (D : va_G) (d : AC) : Wld (Pic ⊕ ((Nat → Nat) × MS)) := fun F u H => match u with
  | .inl G => ΩG D F G H
  | .inr v => ΩM D d v.1 F v.2 H
theorem ΩI.mono (D : va_G) (d : AC) : Mono (ΩI D d) := fun F F' v H h hw => by
  cases v with
  | inl G => exact ΩG.mono D F F' G H h hw
  | inr v => exact ΩM.mono D d v.1 F F' v.2 H h hw
abbrev mpOf (l : List Nat) : Nat → Nat := fun n => l.getD n 0
abbrev μ0 : MS := (fun _ => 0, fun _ => 0, fun _ => 0, fun _ => 0, fun _ => 0, fun _ => 0, fun _ => 0, fun _ => 0, fun _ => 0, fun _ => 0, fun _ => 0, fun _ => 0, fun _ => 0, fun _ => 0, 0)
abbrev rmX9_init : Room := { frames := 1, cells := 14, slots := 61268, locals := 20 }
theorem nmhX9_init : NoMH yX9_init 0 := by decide +kernel
def wX9_init_b162 (Q : MS → Prop) : Nat → Int32 → MS → Prop
  | 0, _, _ => False
  | n + 1, v1, μ =>
    ((4 : Int32) ≤ v1 → Q μ) ∧ (¬ (4 : Int32) ≤ v1 → (vp_in v1 4 ∧ (∀ y7 : Int32, y7 = v1 + 1 → (wX9_init_b162  Q n y7 (nCK μ (upd (mCK μ) v1.toNatClampNeg (-1 : Int32)))))))
theorem wX9_init_b162_s (Q : MS → Prop) (n : Nat) (v1 : Int32) (μ : MS) : wX9_init_b162  Q (n + 1) v1 μ = (
    ((4 : Int32) ≤ v1 → Q μ) ∧ (¬ (4 : Int32) ≤ v1 → (vp_in v1 4 ∧ (∀ y7 : Int32, y7 = v1 + 1 → (wX9_init_b162  Q n y7 (nCK μ (upd (mCK μ) v1.toNatClampNeg (-1 : Int32)))))))) := rfl
def wX9_init_b140 (Q : MS → Prop) : Nat → Int32 → MS → Prop
  | 0, _, _ => False
  | n + 1, v1, μ =>
    ((160 : Int32) ≤ v1 → (∃ k162 : Nat, wX9_init_b162  Q k162 (0 : Int32) μ)) ∧ (¬ (160 : Int32) ≤ v1 → (vp_in v1 160 ∧ (∀ y8 : Int32, y8 = v1 + 1 → (wX9_init_b140  Q n y8 (nTeeth μ (upd (mTeeth μ) v1.toNatClampNeg (-1 : Int32)))))))
theorem wX9_init_b140_s (Q : MS → Prop) (n : Nat) (v1 : Int32) (μ : MS) : wX9_init_b140  Q (n + 1) v1 μ = (
    ((160 : Int32) ≤ v1 → (∃ k162 : Nat, wX9_init_b162  Q k162 (0 : Int32) μ)) ∧ (¬ (160 : Int32) ≤ v1 → (vp_in v1 160 ∧ (∀ y8 : Int32, y8 = v1 + 1 → (wX9_init_b140  Q n y8 (nTeeth μ (upd (mTeeth μ) v1.toNatClampNeg (-1 : Int32)))))))) := rfl
def wX9_init_b119 (Q : MS → Prop) : Nat → Int32 → MS → Prop
  | 0, _, _ => False
  | n + 1, v1, μ =>
    ((40 : Int32) ≤ v1 → (∃ k140 : Nat, wX9_init_b140  Q k140 (0 : Int32) μ)) ∧ (¬ (40 : Int32) ≤ v1 → (vp_in v1 40 ∧ (∀ y9 : Int32, y9 = v1 + 1 → (wX9_init_b119  Q n y9 (nDrums μ (upd (mDrums μ) v1.toNatClampNeg (-1 : Int32)))))))
theorem wX9_init_b119_s (Q : MS → Prop) (n : Nat) (v1 : Int32) (μ : MS) : wX9_init_b119  Q (n + 1) v1 μ = (
    ((40 : Int32) ≤ v1 → (∃ k140 : Nat, wX9_init_b140  Q k140 (0 : Int32) μ)) ∧ (¬ (40 : Int32) ≤ v1 → (vp_in v1 40 ∧ (∀ y9 : Int32, y9 = v1 + 1 → (wX9_init_b119  Q n y9 (nDrums μ (upd (mDrums μ) v1.toNatClampNeg (-1 : Int32)))))))) := rfl
def wX9_init (μ : MS) (Q : MS → Prop) : Prop :=
    ∃ k119 : Nat, wX9_init_b119  Q k119 (0 : Int32) μ
set_option maxHeartbeats 8000000 in
set_option maxRecDepth 100000 in
theorem tX9_init (l : Launch) (D : va_G) (d : AC) (a : Nat) (G : Pic) {QQ : Pic ⊕ ((Nat → Nat) × MS) → Prop} (hg : G a = some (.inr (8, [.null, .null, .null, .null, .null, .null, .null, .null, .null, .null, .null, .null, .null, .null, .int 0]))) (hq : ∀ mp : Nat → Nat, mp 0 = a → wX9_init μ0 (fun μ => QQ (.inr (mp, μ)))) : MT D d (ΩI D d) l yX9_init (WS yX9_init cX9_init 2 none) rmX9_init [.ref a] (.inl G) (qV QQ) := by
  refine mt_of (ΩI.mono D d) (by decide +kernel) (Nat.le_of_ble_eq_true rfl) (fun p e s m below meth c A ls hx hb hr hml hown hts hlocks hnm hK hA hw hS hl => ?_)
  have hl : lv_has ls 2 [(0, .ref a)] := hl
  have hown : s.vm.findClass RX9 = some m.cls := hown
  have hw : ΩG D A G s.heap := hw
  refine lv_aload_n hx hb dX9_init_0 rfl (lv_at hl 0 rfl) ?_
  refine W.objInit hx hb hown (hts _ q_459) (hts _ q_49) (hts _ q_50) rfl (by rw [hml]; exact hl.1) rfl dX9_init_1 (Nat.le_of_ble_eq_true rfl) (Nat.le_of_ble_eq_true rfl) ?_
  refine W.eq (g2 := F0 m 4 ls []) rfl ?_
  have hN : [a].Nodup := by simp
  refine lv_aload_n hx hb dX9_init_4 rfl (lv_at hl 0 rfl) ?_
  refine lv_ldc (v := 60600) hx hb hown (hts _ q_460) dX9_init_5 ?_
  refine g_newa (atype := .int) (a0 := (60600, .inl (fun _ => 0))) (ty := .int) (cA := d 8) (N' := 60600) hx hb (hts _ q_507) rfl hK hw hS hA 8 rfl (fun _ => rfl) (by decide) (by decide) (by decide) (Nat.le_of_ble_eq_true rfl) (Nat.le_of_ble_eq_true rfl) dX9_init_7 (fun q0 H hqn hw hS => ?_)
  have hnm0 : q0 ∉ [a] := fun hm => by
    simp only [List.mem_cons, List.not_mem_nil, or_false] at hm
    rw [hm, hg] at hqn; cases hqn
  replace hN := List.nodup_cons.mpr ⟨hnm0, hN⟩
  have hnq0 : ∀ z ∈ [a], z ≠ q0 := fun z hz h => hnm0 (h ▸ hz)
  have hg2 : pset G q0 (.inl (d 8, 60600, .inl (fun _ => 0))) a = some (.inr (8, [.null, .null, .null, .null, .null, .null, .null, .null, .null, .null, .null, .null, .null, .null, .int 0])) := by rw [pset_ne (hnq0 a (by simp))]; exact hg
  refine g_putF (ci := 8) (C := RX9) (T := TX9) (N := 15) hx hb hts inX9 tyX9 tyX9_ok nmX9 hown hK hw hS hg2 rfl 0 (by decide) (hts _ q_461) (fun _ h9 => h9) rfl hnm rfl (ty := .array .int) (v := .ref q0) (by decide +kernel) rfl rfl (Nat.le_of_ble_eq_true rfl) dX9_init_9 (fun H locs hw hS => ?_)
  obtain ⟨G1, hG1⟩ : ∃ z : Pic, z = pset (pset G q0 (.inl (d 8, 60600, .inl (fun _ => 0)))) a (.inr (8, [.ref q0, .null, .null, .null, .null, .null, .null, .null, .null, .null, .null, .null, .null, .null, .int 0])) := ⟨_, rfl⟩
  have hw : ΩG D A G1 H := by rw [hG1]; exact hw
  have hg1 : G1 a = some (.inr (8, [.ref q0, .null, .null, .null, .null, .null, .null, .null, .null, .null, .null, .null, .null, .null, .int 0])) := by rw [hG1, pset_self]
  have hq0 : G1 q0 = some (.inl (d 8, 60600, .inl (fun _ => 0))) := by rw [hG1, pset_ne (Ne.symm (hnq0 a (by simp))), pset_self]
  clear hG1 hg2 hqn hg
  have hg := hg1
  clear hg1
  generalize G1 = G at *
  refine lv_aload_n hx hb dX9_init_12 rfl (lv_at hl 0 rfl) ?_
  refine lv_sipush (v := 202) hx hb dX9_init_13 (by decide) ?_
  refine g_newa (atype := .int) (a0 := (202, .inl (fun _ => 0))) (ty := .int) (cA := d 8) (N' := 202) hx hb (hts _ q_507) rfl hK hw hS hA 8 rfl (fun _ => rfl) (by decide) (by decide) (by decide) (Nat.le_of_ble_eq_true rfl) (Nat.le_of_ble_eq_true rfl) dX9_init_16 (fun q1 H hqn hw hS => ?_)
  have hnm1 : q1 ∉ [q0, a] := fun hm => by
    simp only [List.mem_cons, List.not_mem_nil, or_false] at hm
    rcases hm with h | h
    · rw [h, hq0] at hqn; cases hqn
    · rw [h, hg] at hqn; cases hqn
  replace hN := List.nodup_cons.mpr ⟨hnm1, hN⟩
  have hnq1 : ∀ z ∈ [q0, a], z ≠ q1 := fun z hz h => hnm1 (h ▸ hz)
  have hg2 : pset G q1 (.inl (d 8, 202, .inl (fun _ => 0))) a = some (.inr (8, [.ref q0, .null, .null, .null, .null, .null, .null, .null, .null, .null, .null, .null, .null, .null, .int 0])) := by rw [pset_ne (hnq1 a (by simp))]; exact hg
  refine g_putF (ci := 8) (C := RX9) (T := TX9) (N := 15) hx hb hts inX9 tyX9 tyX9_ok nmX9 hown hK hw hS hg2 rfl 1 (by decide) (hts _ q_462) (fun _ h9 => h9) rfl hnm rfl (ty := .array .int) (v := .ref q1) (by decide +kernel) rfl rfl (Nat.le_of_ble_eq_true rfl) dX9_init_18 (fun H locs hw hS => ?_)
  obtain ⟨G1, hG1⟩ : ∃ z : Pic, z = pset (pset G q1 (.inl (d 8, 202, .inl (fun _ => 0)))) a (.inr (8, [.ref q0, .ref q1, .null, .null, .null, .null, .null, .null, .null, .null, .null, .null, .null, .null, .int 0])) := ⟨_, rfl⟩
  have hw : ΩG D A G1 H := by rw [hG1]; exact hw
  have hg1 : G1 a = some (.inr (8, [.ref q0, .ref q1, .null, .null, .null, .null, .null, .null, .null, .null, .null, .null, .null, .null, .int 0])) := by rw [hG1, pset_self]
  have hq0 : G1 q0 = some (.inl (d 8, 60600, .inl (fun _ => 0))) := by rw [hG1, pset_ne (fun h => by rw [h, hg] at hq0; cases hq0), pset_ne (hnq1 q0 (by simp))]; exact hq0
  have hq1 : G1 q1 = some (.inl (d 8, 202, .inl (fun _ => 0))) := by rw [hG1, pset_ne (Ne.symm (hnq1 a (by simp))), pset_self]
  clear hG1 hg2 hqn hg
  have hg := hg1
  clear hg1
  generalize G1 = G at *
  refine lv_aload_n hx hb dX9_init_21 rfl (lv_at hl 0 rfl) ?_
  refine lv_sipush (v := 202) hx hb dX9_init_22 (by decide) ?_
  refine g_newa (atype := .int) (a0 := (202, .inl (fun _ => 0))) (ty := .int) (cA := d 8) (N' := 202) hx hb (hts _ q_507) rfl hK hw hS hA 8 rfl (fun _ => rfl) (by decide) (by decide) (by decide) (Nat.le_of_ble_eq_true rfl) (Nat.le_of_ble_eq_true rfl) dX9_init_25 (fun q2 H hqn hw hS => ?_)
  have hnm2 : q2 ∉ [q1, q0, a] := fun hm => by
    simp only [List.mem_cons, List.not_mem_nil, or_false] at hm
    rcases hm with h | h | h
    · rw [h, hq1] at hqn; cases hqn
    · rw [h, hq0] at hqn; cases hqn
    · rw [h, hg] at hqn; cases hqn
  replace hN := List.nodup_cons.mpr ⟨hnm2, hN⟩
  have hnq2 : ∀ z ∈ [q1, q0, a], z ≠ q2 := fun z hz h => hnm2 (h ▸ hz)
  have hg2 : pset G q2 (.inl (d 8, 202, .inl (fun _ => 0))) a = some (.inr (8, [.ref q0, .ref q1, .null, .null, .null, .null, .null, .null, .null, .null, .null, .null, .null, .null, .int 0])) := by rw [pset_ne (hnq2 a (by simp))]; exact hg
  refine g_putF (ci := 8) (C := RX9) (T := TX9) (N := 15) hx hb hts inX9 tyX9 tyX9_ok nmX9 hown hK hw hS hg2 rfl 2 (by decide) (hts _ q_463) (fun _ h9 => h9) rfl hnm rfl (ty := .array .int) (v := .ref q2) (by decide +kernel) rfl rfl (Nat.le_of_ble_eq_true rfl) dX9_init_27 (fun H locs hw hS => ?_)
  obtain ⟨G1, hG1⟩ : ∃ z : Pic, z = pset (pset G q2 (.inl (d 8, 202, .inl (fun _ => 0)))) a (.inr (8, [.ref q0, .ref q1, .ref q2, .null, .null, .null, .null, .null, .null, .null, .null, .null, .null, .null, .int 0])) := ⟨_, rfl⟩
  have hw : ΩG D A G1 H := by rw [hG1]; exact hw
  have hg1 : G1 a = some (.inr (8, [.ref q0, .ref q1, .ref q2, .null, .null, .null, .null, .null, .null, .null, .null, .null, .null, .null, .int 0])) := by rw [hG1, pset_self]
  have hq0 : G1 q0 = some (.inl (d 8, 60600, .inl (fun _ => 0))) := by rw [hG1, pset_ne (fun h => by rw [h, hg] at hq0; cases hq0), pset_ne (hnq2 q0 (by simp))]; exact hq0
  have hq1 : G1 q1 = some (.inl (d 8, 202, .inl (fun _ => 0))) := by rw [hG1, pset_ne (fun h => by rw [h, hg] at hq1; cases hq1), pset_ne (hnq2 q1 (by simp))]; exact hq1
  have hq2 : G1 q2 = some (.inl (d 8, 202, .inl (fun _ => 0))) := by rw [hG1, pset_ne (Ne.symm (hnq2 a (by simp))), pset_self]
  clear hG1 hg2 hqn hg
  have hg := hg1
  clear hg1
  generalize G1 = G at *
  refine lv_aload_n hx hb dX9_init_30 rfl (lv_at hl 0 rfl) ?_
  refine lv_bipush (v := 40) hx hb dX9_init_31 (by decide) ?_
  refine g_newa (atype := .int) (a0 := (40, .inl (fun _ => 0))) (ty := .int) (cA := d 8) (N' := 40) hx hb (hts _ q_507) rfl hK hw hS hA 8 rfl (fun _ => rfl) (by decide) (by decide) (by decide) (Nat.le_of_ble_eq_true rfl) (Nat.le_of_ble_eq_true rfl) dX9_init_33 (fun q3 H hqn hw hS => ?_)
  have hnm3 : q3 ∉ [q2, q1, q0, a] := fun hm => by
    simp only [List.mem_cons, List.not_mem_nil, or_false] at hm
    rcases hm with h | h | h | h
    · rw [h, hq2] at hqn; cases hqn
    · rw [h, hq1] at hqn; cases hqn
    · rw [h, hq0] at hqn; cases hqn
    · rw [h, hg] at hqn; cases hqn
  replace hN := List.nodup_cons.mpr ⟨hnm3, hN⟩
  have hnq3 : ∀ z ∈ [q2, q1, q0, a], z ≠ q3 := fun z hz h => hnm3 (h ▸ hz)
  have hg2 : pset G q3 (.inl (d 8, 40, .inl (fun _ => 0))) a = some (.inr (8, [.ref q0, .ref q1, .ref q2, .null, .null, .null, .null, .null, .null, .null, .null, .null, .null, .null, .int 0])) := by rw [pset_ne (hnq3 a (by simp))]; exact hg
  refine g_putF (ci := 8) (C := RX9) (T := TX9) (N := 15) hx hb hts inX9 tyX9 tyX9_ok nmX9 hown hK hw hS hg2 rfl 3 (by decide) (hts _ q_464) (fun _ h9 => h9) rfl hnm rfl (ty := .array .int) (v := .ref q3) (by decide +kernel) rfl rfl (Nat.le_of_ble_eq_true rfl) dX9_init_35 (fun H locs hw hS => ?_)
  obtain ⟨G1, hG1⟩ : ∃ z : Pic, z = pset (pset G q3 (.inl (d 8, 40, .inl (fun _ => 0)))) a (.inr (8, [.ref q0, .ref q1, .ref q2, .ref q3, .null, .null, .null, .null, .null, .null, .null, .null, .null, .null, .int 0])) := ⟨_, rfl⟩
  have hw : ΩG D A G1 H := by rw [hG1]; exact hw
  have hg1 : G1 a = some (.inr (8, [.ref q0, .ref q1, .ref q2, .ref q3, .null, .null, .null, .null, .null, .null, .null, .null, .null, .null, .int 0])) := by rw [hG1, pset_self]
  have hq0 : G1 q0 = some (.inl (d 8, 60600, .inl (fun _ => 0))) := by rw [hG1, pset_ne (fun h => by rw [h, hg] at hq0; cases hq0), pset_ne (hnq3 q0 (by simp))]; exact hq0
  have hq1 : G1 q1 = some (.inl (d 8, 202, .inl (fun _ => 0))) := by rw [hG1, pset_ne (fun h => by rw [h, hg] at hq1; cases hq1), pset_ne (hnq3 q1 (by simp))]; exact hq1
  have hq2 : G1 q2 = some (.inl (d 8, 202, .inl (fun _ => 0))) := by rw [hG1, pset_ne (fun h => by rw [h, hg] at hq2; cases hq2), pset_ne (hnq3 q2 (by simp))]; exact hq2
  have hq3 : G1 q3 = some (.inl (d 8, 40, .inl (fun _ => 0))) := by rw [hG1, pset_ne (Ne.symm (hnq3 a (by simp))), pset_self]
  clear hG1 hg2 hqn hg
  have hg := hg1
  clear hg1
  generalize G1 = G at *
  refine lv_aload_n hx hb dX9_init_38 rfl (lv_at hl 0 rfl) ?_
  refine lv_sipush (v := 160) hx hb dX9_init_39 (by decide) ?_
  refine g_newa (atype := .int) (a0 := (160, .inl (fun _ => 0))) (ty := .int) (cA := d 8) (N' := 160) hx hb (hts _ q_507) rfl hK hw hS hA 8 rfl (fun _ => rfl) (by decide) (by decide) (by decide) (Nat.le_of_ble_eq_true rfl) (Nat.le_of_ble_eq_true rfl) dX9_init_42 (fun q4 H hqn hw hS => ?_)
  have hnm4 : q4 ∉ [q3, q2, q1, q0, a] := fun hm => by
    simp only [List.mem_cons, List.not_mem_nil, or_false] at hm
    rcases hm with h | h | h | h | h
    · rw [h, hq3] at hqn; cases hqn
    · rw [h, hq2] at hqn; cases hqn
    · rw [h, hq1] at hqn; cases hqn
    · rw [h, hq0] at hqn; cases hqn
    · rw [h, hg] at hqn; cases hqn
  replace hN := List.nodup_cons.mpr ⟨hnm4, hN⟩
  have hnq4 : ∀ z ∈ [q3, q2, q1, q0, a], z ≠ q4 := fun z hz h => hnm4 (h ▸ hz)
  have hg2 : pset G q4 (.inl (d 8, 160, .inl (fun _ => 0))) a = some (.inr (8, [.ref q0, .ref q1, .ref q2, .ref q3, .null, .null, .null, .null, .null, .null, .null, .null, .null, .null, .int 0])) := by rw [pset_ne (hnq4 a (by simp))]; exact hg
  refine g_putF (ci := 8) (C := RX9) (T := TX9) (N := 15) hx hb hts inX9 tyX9 tyX9_ok nmX9 hown hK hw hS hg2 rfl 4 (by decide) (hts _ q_465) (fun _ h9 => h9) rfl hnm rfl (ty := .array .int) (v := .ref q4) (by decide +kernel) rfl rfl (Nat.le_of_ble_eq_true rfl) dX9_init_44 (fun H locs hw hS => ?_)
  obtain ⟨G1, hG1⟩ : ∃ z : Pic, z = pset (pset G q4 (.inl (d 8, 160, .inl (fun _ => 0)))) a (.inr (8, [.ref q0, .ref q1, .ref q2, .ref q3, .ref q4, .null, .null, .null, .null, .null, .null, .null, .null, .null, .int 0])) := ⟨_, rfl⟩
  have hw : ΩG D A G1 H := by rw [hG1]; exact hw
  have hg1 : G1 a = some (.inr (8, [.ref q0, .ref q1, .ref q2, .ref q3, .ref q4, .null, .null, .null, .null, .null, .null, .null, .null, .null, .int 0])) := by rw [hG1, pset_self]
  have hq0 : G1 q0 = some (.inl (d 8, 60600, .inl (fun _ => 0))) := by rw [hG1, pset_ne (fun h => by rw [h, hg] at hq0; cases hq0), pset_ne (hnq4 q0 (by simp))]; exact hq0
  have hq1 : G1 q1 = some (.inl (d 8, 202, .inl (fun _ => 0))) := by rw [hG1, pset_ne (fun h => by rw [h, hg] at hq1; cases hq1), pset_ne (hnq4 q1 (by simp))]; exact hq1
  have hq2 : G1 q2 = some (.inl (d 8, 202, .inl (fun _ => 0))) := by rw [hG1, pset_ne (fun h => by rw [h, hg] at hq2; cases hq2), pset_ne (hnq4 q2 (by simp))]; exact hq2
  have hq3 : G1 q3 = some (.inl (d 8, 40, .inl (fun _ => 0))) := by rw [hG1, pset_ne (fun h => by rw [h, hg] at hq3; cases hq3), pset_ne (hnq4 q3 (by simp))]; exact hq3
  have hq4 : G1 q4 = some (.inl (d 8, 160, .inl (fun _ => 0))) := by rw [hG1, pset_ne (Ne.symm (hnq4 a (by simp))), pset_self]
  clear hG1 hg2 hqn hg
  have hg := hg1
  clear hg1
  generalize G1 = G at *
  refine lv_aload_n hx hb dX9_init_47 rfl (lv_at hl 0 rfl) ?_
  refine lv_iconst (v := 4) hx hb dX9_init_48 (by decide) ?_
  refine g_newa (atype := .int) (a0 := (4, .inl (fun _ => 0))) (ty := .int) (cA := d 8) (N' := 4) hx hb (hts _ q_507) rfl hK hw hS hA 8 rfl (fun _ => rfl) (by decide) (by decide) (by decide) (Nat.le_of_ble_eq_true rfl) (Nat.le_of_ble_eq_true rfl) dX9_init_49 (fun q5 H hqn hw hS => ?_)
  have hnm5 : q5 ∉ [q4, q3, q2, q1, q0, a] := fun hm => by
    simp only [List.mem_cons, List.not_mem_nil, or_false] at hm
    rcases hm with h | h | h | h | h | h
    · rw [h, hq4] at hqn; cases hqn
    · rw [h, hq3] at hqn; cases hqn
    · rw [h, hq2] at hqn; cases hqn
    · rw [h, hq1] at hqn; cases hqn
    · rw [h, hq0] at hqn; cases hqn
    · rw [h, hg] at hqn; cases hqn
  replace hN := List.nodup_cons.mpr ⟨hnm5, hN⟩
  have hnq5 : ∀ z ∈ [q4, q3, q2, q1, q0, a], z ≠ q5 := fun z hz h => hnm5 (h ▸ hz)
  have hg2 : pset G q5 (.inl (d 8, 4, .inl (fun _ => 0))) a = some (.inr (8, [.ref q0, .ref q1, .ref q2, .ref q3, .ref q4, .null, .null, .null, .null, .null, .null, .null, .null, .null, .int 0])) := by rw [pset_ne (hnq5 a (by simp))]; exact hg
  refine g_putF (ci := 8) (C := RX9) (T := TX9) (N := 15) hx hb hts inX9 tyX9 tyX9_ok nmX9 hown hK hw hS hg2 rfl 5 (by decide) (hts _ q_466) (fun _ h9 => h9) rfl hnm rfl (ty := .array .int) (v := .ref q5) (by decide +kernel) rfl rfl (Nat.le_of_ble_eq_true rfl) dX9_init_51 (fun H locs hw hS => ?_)
  obtain ⟨G1, hG1⟩ : ∃ z : Pic, z = pset (pset G q5 (.inl (d 8, 4, .inl (fun _ => 0)))) a (.inr (8, [.ref q0, .ref q1, .ref q2, .ref q3, .ref q4, .ref q5, .null, .null, .null, .null, .null, .null, .null, .null, .int 0])) := ⟨_, rfl⟩
  have hw : ΩG D A G1 H := by rw [hG1]; exact hw
  have hg1 : G1 a = some (.inr (8, [.ref q0, .ref q1, .ref q2, .ref q3, .ref q4, .ref q5, .null, .null, .null, .null, .null, .null, .null, .null, .int 0])) := by rw [hG1, pset_self]
  have hq0 : G1 q0 = some (.inl (d 8, 60600, .inl (fun _ => 0))) := by rw [hG1, pset_ne (fun h => by rw [h, hg] at hq0; cases hq0), pset_ne (hnq5 q0 (by simp))]; exact hq0
  have hq1 : G1 q1 = some (.inl (d 8, 202, .inl (fun _ => 0))) := by rw [hG1, pset_ne (fun h => by rw [h, hg] at hq1; cases hq1), pset_ne (hnq5 q1 (by simp))]; exact hq1
  have hq2 : G1 q2 = some (.inl (d 8, 202, .inl (fun _ => 0))) := by rw [hG1, pset_ne (fun h => by rw [h, hg] at hq2; cases hq2), pset_ne (hnq5 q2 (by simp))]; exact hq2
  have hq3 : G1 q3 = some (.inl (d 8, 40, .inl (fun _ => 0))) := by rw [hG1, pset_ne (fun h => by rw [h, hg] at hq3; cases hq3), pset_ne (hnq5 q3 (by simp))]; exact hq3
  have hq4 : G1 q4 = some (.inl (d 8, 160, .inl (fun _ => 0))) := by rw [hG1, pset_ne (fun h => by rw [h, hg] at hq4; cases hq4), pset_ne (hnq5 q4 (by simp))]; exact hq4
  have hq5 : G1 q5 = some (.inl (d 8, 4, .inl (fun _ => 0))) := by rw [hG1, pset_ne (Ne.symm (hnq5 a (by simp))), pset_self]
  clear hG1 hg2 hqn hg
  have hg := hg1
  clear hg1
  generalize G1 = G at *
  refine lv_aload_n hx hb dX9_init_54 rfl (lv_at hl 0 rfl) ?_
  refine lv_iconst (v := 4) hx hb dX9_init_55 (by decide) ?_
  refine g_newa (atype := .int) (a0 := (4, .inl (fun _ => 0))) (ty := .int) (cA := d 8) (N' := 4) hx hb (hts _ q_507) rfl hK hw hS hA 8 rfl (fun _ => rfl) (by decide) (by decide) (by decide) (Nat.le_of_ble_eq_true rfl) (Nat.le_of_ble_eq_true rfl) dX9_init_56 (fun q6 H hqn hw hS => ?_)
  have hnm6 : q6 ∉ [q5, q4, q3, q2, q1, q0, a] := fun hm => by
    simp only [List.mem_cons, List.not_mem_nil, or_false] at hm
    rcases hm with h | h | h | h | h | h | h
    · rw [h, hq5] at hqn; cases hqn
    · rw [h, hq4] at hqn; cases hqn
    · rw [h, hq3] at hqn; cases hqn
    · rw [h, hq2] at hqn; cases hqn
    · rw [h, hq1] at hqn; cases hqn
    · rw [h, hq0] at hqn; cases hqn
    · rw [h, hg] at hqn; cases hqn
  replace hN := List.nodup_cons.mpr ⟨hnm6, hN⟩
  have hnq6 : ∀ z ∈ [q5, q4, q3, q2, q1, q0, a], z ≠ q6 := fun z hz h => hnm6 (h ▸ hz)
  have hg2 : pset G q6 (.inl (d 8, 4, .inl (fun _ => 0))) a = some (.inr (8, [.ref q0, .ref q1, .ref q2, .ref q3, .ref q4, .ref q5, .null, .null, .null, .null, .null, .null, .null, .null, .int 0])) := by rw [pset_ne (hnq6 a (by simp))]; exact hg
  refine g_putF (ci := 8) (C := RX9) (T := TX9) (N := 15) hx hb hts inX9 tyX9 tyX9_ok nmX9 hown hK hw hS hg2 rfl 6 (by decide) (hts _ q_467) (fun _ h9 => h9) rfl hnm rfl (ty := .array .int) (v := .ref q6) (by decide +kernel) rfl rfl (Nat.le_of_ble_eq_true rfl) dX9_init_58 (fun H locs hw hS => ?_)
  obtain ⟨G1, hG1⟩ : ∃ z : Pic, z = pset (pset G q6 (.inl (d 8, 4, .inl (fun _ => 0)))) a (.inr (8, [.ref q0, .ref q1, .ref q2, .ref q3, .ref q4, .ref q5, .ref q6, .null, .null, .null, .null, .null, .null, .null, .int 0])) := ⟨_, rfl⟩
  have hw : ΩG D A G1 H := by rw [hG1]; exact hw
  have hg1 : G1 a = some (.inr (8, [.ref q0, .ref q1, .ref q2, .ref q3, .ref q4, .ref q5, .ref q6, .null, .null, .null, .null, .null, .null, .null, .int 0])) := by rw [hG1, pset_self]
  have hq0 : G1 q0 = some (.inl (d 8, 60600, .inl (fun _ => 0))) := by rw [hG1, pset_ne (fun h => by rw [h, hg] at hq0; cases hq0), pset_ne (hnq6 q0 (by simp))]; exact hq0
  have hq1 : G1 q1 = some (.inl (d 8, 202, .inl (fun _ => 0))) := by rw [hG1, pset_ne (fun h => by rw [h, hg] at hq1; cases hq1), pset_ne (hnq6 q1 (by simp))]; exact hq1
  have hq2 : G1 q2 = some (.inl (d 8, 202, .inl (fun _ => 0))) := by rw [hG1, pset_ne (fun h => by rw [h, hg] at hq2; cases hq2), pset_ne (hnq6 q2 (by simp))]; exact hq2
  have hq3 : G1 q3 = some (.inl (d 8, 40, .inl (fun _ => 0))) := by rw [hG1, pset_ne (fun h => by rw [h, hg] at hq3; cases hq3), pset_ne (hnq6 q3 (by simp))]; exact hq3
  have hq4 : G1 q4 = some (.inl (d 8, 160, .inl (fun _ => 0))) := by rw [hG1, pset_ne (fun h => by rw [h, hg] at hq4; cases hq4), pset_ne (hnq6 q4 (by simp))]; exact hq4
  have hq5 : G1 q5 = some (.inl (d 8, 4, .inl (fun _ => 0))) := by rw [hG1, pset_ne (fun h => by rw [h, hg] at hq5; cases hq5), pset_ne (hnq6 q5 (by simp))]; exact hq5
  have hq6 : G1 q6 = some (.inl (d 8, 4, .inl (fun _ => 0))) := by rw [hG1, pset_ne (Ne.symm (hnq6 a (by simp))), pset_self]
  clear hG1 hg2 hqn hg
  have hg := hg1
  clear hg1
  generalize G1 = G at *
  refine lv_aload_n hx hb dX9_init_61 rfl (lv_at hl 0 rfl) ?_
  refine lv_bipush (v := 8) hx hb dX9_init_62 (by decide) ?_
  refine g_newa (atype := .int) (a0 := (8, .inl (fun _ => 0))) (ty := .int) (cA := d 8) (N' := 8) hx hb (hts _ q_507) rfl hK hw hS hA 8 rfl (fun _ => rfl) (by decide) (by decide) (by decide) (Nat.le_of_ble_eq_true rfl) (Nat.le_of_ble_eq_true rfl) dX9_init_64 (fun q7 H hqn hw hS => ?_)
  have hnm7 : q7 ∉ [q6, q5, q4, q3, q2, q1, q0, a] := fun hm => by
    simp only [List.mem_cons, List.not_mem_nil, or_false] at hm
    rcases hm with h | h | h | h | h | h | h | h
    · rw [h, hq6] at hqn; cases hqn
    · rw [h, hq5] at hqn; cases hqn
    · rw [h, hq4] at hqn; cases hqn
    · rw [h, hq3] at hqn; cases hqn
    · rw [h, hq2] at hqn; cases hqn
    · rw [h, hq1] at hqn; cases hqn
    · rw [h, hq0] at hqn; cases hqn
    · rw [h, hg] at hqn; cases hqn
  replace hN := List.nodup_cons.mpr ⟨hnm7, hN⟩
  have hnq7 : ∀ z ∈ [q6, q5, q4, q3, q2, q1, q0, a], z ≠ q7 := fun z hz h => hnm7 (h ▸ hz)
  have hg2 : pset G q7 (.inl (d 8, 8, .inl (fun _ => 0))) a = some (.inr (8, [.ref q0, .ref q1, .ref q2, .ref q3, .ref q4, .ref q5, .ref q6, .null, .null, .null, .null, .null, .null, .null, .int 0])) := by rw [pset_ne (hnq7 a (by simp))]; exact hg
  refine g_putF (ci := 8) (C := RX9) (T := TX9) (N := 15) hx hb hts inX9 tyX9 tyX9_ok nmX9 hown hK hw hS hg2 rfl 7 (by decide) (hts _ q_468) (fun _ h9 => h9) rfl hnm rfl (ty := .array .int) (v := .ref q7) (by decide +kernel) rfl rfl (Nat.le_of_ble_eq_true rfl) dX9_init_66 (fun H locs hw hS => ?_)
  obtain ⟨G1, hG1⟩ : ∃ z : Pic, z = pset (pset G q7 (.inl (d 8, 8, .inl (fun _ => 0)))) a (.inr (8, [.ref q0, .ref q1, .ref q2, .ref q3, .ref q4, .ref q5, .ref q6, .ref q7, .null, .null, .null, .null, .null, .null, .int 0])) := ⟨_, rfl⟩
  have hw : ΩG D A G1 H := by rw [hG1]; exact hw
  have hg1 : G1 a = some (.inr (8, [.ref q0, .ref q1, .ref q2, .ref q3, .ref q4, .ref q5, .ref q6, .ref q7, .null, .null, .null, .null, .null, .null, .int 0])) := by rw [hG1, pset_self]
  have hq0 : G1 q0 = some (.inl (d 8, 60600, .inl (fun _ => 0))) := by rw [hG1, pset_ne (fun h => by rw [h, hg] at hq0; cases hq0), pset_ne (hnq7 q0 (by simp))]; exact hq0
  have hq1 : G1 q1 = some (.inl (d 8, 202, .inl (fun _ => 0))) := by rw [hG1, pset_ne (fun h => by rw [h, hg] at hq1; cases hq1), pset_ne (hnq7 q1 (by simp))]; exact hq1
  have hq2 : G1 q2 = some (.inl (d 8, 202, .inl (fun _ => 0))) := by rw [hG1, pset_ne (fun h => by rw [h, hg] at hq2; cases hq2), pset_ne (hnq7 q2 (by simp))]; exact hq2
  have hq3 : G1 q3 = some (.inl (d 8, 40, .inl (fun _ => 0))) := by rw [hG1, pset_ne (fun h => by rw [h, hg] at hq3; cases hq3), pset_ne (hnq7 q3 (by simp))]; exact hq3
  have hq4 : G1 q4 = some (.inl (d 8, 160, .inl (fun _ => 0))) := by rw [hG1, pset_ne (fun h => by rw [h, hg] at hq4; cases hq4), pset_ne (hnq7 q4 (by simp))]; exact hq4
  have hq5 : G1 q5 = some (.inl (d 8, 4, .inl (fun _ => 0))) := by rw [hG1, pset_ne (fun h => by rw [h, hg] at hq5; cases hq5), pset_ne (hnq7 q5 (by simp))]; exact hq5
  have hq6 : G1 q6 = some (.inl (d 8, 4, .inl (fun _ => 0))) := by rw [hG1, pset_ne (fun h => by rw [h, hg] at hq6; cases hq6), pset_ne (hnq7 q6 (by simp))]; exact hq6
  have hq7 : G1 q7 = some (.inl (d 8, 8, .inl (fun _ => 0))) := by rw [hG1, pset_ne (Ne.symm (hnq7 a (by simp))), pset_self]
  clear hG1 hg2 hqn hg
  have hg := hg1
  clear hg1
  generalize G1 = G at *
  refine lv_aload_n hx hb dX9_init_69 rfl (lv_at hl 0 rfl) ?_
  refine lv_bipush (v := 8) hx hb dX9_init_70 (by decide) ?_
  refine g_newa (atype := .int) (a0 := (8, .inl (fun _ => 0))) (ty := .int) (cA := d 8) (N' := 8) hx hb (hts _ q_507) rfl hK hw hS hA 8 rfl (fun _ => rfl) (by decide) (by decide) (by decide) (Nat.le_of_ble_eq_true rfl) (Nat.le_of_ble_eq_true rfl) dX9_init_72 (fun q8 H hqn hw hS => ?_)
  have hnm8 : q8 ∉ [q7, q6, q5, q4, q3, q2, q1, q0, a] := fun hm => by
    simp only [List.mem_cons, List.not_mem_nil, or_false] at hm
    rcases hm with h | h | h | h | h | h | h | h | h
    · rw [h, hq7] at hqn; cases hqn
    · rw [h, hq6] at hqn; cases hqn
    · rw [h, hq5] at hqn; cases hqn
    · rw [h, hq4] at hqn; cases hqn
    · rw [h, hq3] at hqn; cases hqn
    · rw [h, hq2] at hqn; cases hqn
    · rw [h, hq1] at hqn; cases hqn
    · rw [h, hq0] at hqn; cases hqn
    · rw [h, hg] at hqn; cases hqn
  replace hN := List.nodup_cons.mpr ⟨hnm8, hN⟩
  have hnq8 : ∀ z ∈ [q7, q6, q5, q4, q3, q2, q1, q0, a], z ≠ q8 := fun z hz h => hnm8 (h ▸ hz)
  have hg2 : pset G q8 (.inl (d 8, 8, .inl (fun _ => 0))) a = some (.inr (8, [.ref q0, .ref q1, .ref q2, .ref q3, .ref q4, .ref q5, .ref q6, .ref q7, .null, .null, .null, .null, .null, .null, .int 0])) := by rw [pset_ne (hnq8 a (by simp))]; exact hg
  refine g_putF (ci := 8) (C := RX9) (T := TX9) (N := 15) hx hb hts inX9 tyX9 tyX9_ok nmX9 hown hK hw hS hg2 rfl 8 (by decide) (hts _ q_469) (fun _ h9 => h9) rfl hnm rfl (ty := .array .int) (v := .ref q8) (by decide +kernel) rfl rfl (Nat.le_of_ble_eq_true rfl) dX9_init_74 (fun H locs hw hS => ?_)
  obtain ⟨G1, hG1⟩ : ∃ z : Pic, z = pset (pset G q8 (.inl (d 8, 8, .inl (fun _ => 0)))) a (.inr (8, [.ref q0, .ref q1, .ref q2, .ref q3, .ref q4, .ref q5, .ref q6, .ref q7, .ref q8, .null, .null, .null, .null, .null, .int 0])) := ⟨_, rfl⟩
  have hw : ΩG D A G1 H := by rw [hG1]; exact hw
  have hg1 : G1 a = some (.inr (8, [.ref q0, .ref q1, .ref q2, .ref q3, .ref q4, .ref q5, .ref q6, .ref q7, .ref q8, .null, .null, .null, .null, .null, .int 0])) := by rw [hG1, pset_self]
  have hq0 : G1 q0 = some (.inl (d 8, 60600, .inl (fun _ => 0))) := by rw [hG1, pset_ne (fun h => by rw [h, hg] at hq0; cases hq0), pset_ne (hnq8 q0 (by simp))]; exact hq0
  have hq1 : G1 q1 = some (.inl (d 8, 202, .inl (fun _ => 0))) := by rw [hG1, pset_ne (fun h => by rw [h, hg] at hq1; cases hq1), pset_ne (hnq8 q1 (by simp))]; exact hq1
  have hq2 : G1 q2 = some (.inl (d 8, 202, .inl (fun _ => 0))) := by rw [hG1, pset_ne (fun h => by rw [h, hg] at hq2; cases hq2), pset_ne (hnq8 q2 (by simp))]; exact hq2
  have hq3 : G1 q3 = some (.inl (d 8, 40, .inl (fun _ => 0))) := by rw [hG1, pset_ne (fun h => by rw [h, hg] at hq3; cases hq3), pset_ne (hnq8 q3 (by simp))]; exact hq3
  have hq4 : G1 q4 = some (.inl (d 8, 160, .inl (fun _ => 0))) := by rw [hG1, pset_ne (fun h => by rw [h, hg] at hq4; cases hq4), pset_ne (hnq8 q4 (by simp))]; exact hq4
  have hq5 : G1 q5 = some (.inl (d 8, 4, .inl (fun _ => 0))) := by rw [hG1, pset_ne (fun h => by rw [h, hg] at hq5; cases hq5), pset_ne (hnq8 q5 (by simp))]; exact hq5
  have hq6 : G1 q6 = some (.inl (d 8, 4, .inl (fun _ => 0))) := by rw [hG1, pset_ne (fun h => by rw [h, hg] at hq6; cases hq6), pset_ne (hnq8 q6 (by simp))]; exact hq6
  have hq7 : G1 q7 = some (.inl (d 8, 8, .inl (fun _ => 0))) := by rw [hG1, pset_ne (fun h => by rw [h, hg] at hq7; cases hq7), pset_ne (hnq8 q7 (by simp))]; exact hq7
  have hq8 : G1 q8 = some (.inl (d 8, 8, .inl (fun _ => 0))) := by rw [hG1, pset_ne (Ne.symm (hnq8 a (by simp))), pset_self]
  clear hG1 hg2 hqn hg
  have hg := hg1
  clear hg1
  generalize G1 = G at *
  refine lv_aload_n hx hb dX9_init_77 rfl (lv_at hl 0 rfl) ?_
  refine lv_bipush (v := 8) hx hb dX9_init_78 (by decide) ?_
  refine g_newa (atype := .int) (a0 := (8, .inl (fun _ => 0))) (ty := .int) (cA := d 8) (N' := 8) hx hb (hts _ q_507) rfl hK hw hS hA 8 rfl (fun _ => rfl) (by decide) (by decide) (by decide) (Nat.le_of_ble_eq_true rfl) (Nat.le_of_ble_eq_true rfl) dX9_init_80 (fun q9 H hqn hw hS => ?_)
  have hnm9 : q9 ∉ [q8, q7, q6, q5, q4, q3, q2, q1, q0, a] := fun hm => by
    simp only [List.mem_cons, List.not_mem_nil, or_false] at hm
    rcases hm with h | h | h | h | h | h | h | h | h | h
    · rw [h, hq8] at hqn; cases hqn
    · rw [h, hq7] at hqn; cases hqn
    · rw [h, hq6] at hqn; cases hqn
    · rw [h, hq5] at hqn; cases hqn
    · rw [h, hq4] at hqn; cases hqn
    · rw [h, hq3] at hqn; cases hqn
    · rw [h, hq2] at hqn; cases hqn
    · rw [h, hq1] at hqn; cases hqn
    · rw [h, hq0] at hqn; cases hqn
    · rw [h, hg] at hqn; cases hqn
  replace hN := List.nodup_cons.mpr ⟨hnm9, hN⟩
  have hnq9 : ∀ z ∈ [q8, q7, q6, q5, q4, q3, q2, q1, q0, a], z ≠ q9 := fun z hz h => hnm9 (h ▸ hz)
  have hg2 : pset G q9 (.inl (d 8, 8, .inl (fun _ => 0))) a = some (.inr (8, [.ref q0, .ref q1, .ref q2, .ref q3, .ref q4, .ref q5, .ref q6, .ref q7, .ref q8, .null, .null, .null, .null, .null, .int 0])) := by rw [pset_ne (hnq9 a (by simp))]; exact hg
  refine g_putF (ci := 8) (C := RX9) (T := TX9) (N := 15) hx hb hts inX9 tyX9 tyX9_ok nmX9 hown hK hw hS hg2 rfl 9 (by decide) (hts _ q_470) (fun _ h9 => h9) rfl hnm rfl (ty := .array .int) (v := .ref q9) (by decide +kernel) rfl rfl (Nat.le_of_ble_eq_true rfl) dX9_init_82 (fun H locs hw hS => ?_)
  obtain ⟨G1, hG1⟩ : ∃ z : Pic, z = pset (pset G q9 (.inl (d 8, 8, .inl (fun _ => 0)))) a (.inr (8, [.ref q0, .ref q1, .ref q2, .ref q3, .ref q4, .ref q5, .ref q6, .ref q7, .ref q8, .ref q9, .null, .null, .null, .null, .int 0])) := ⟨_, rfl⟩
  have hw : ΩG D A G1 H := by rw [hG1]; exact hw
  have hg1 : G1 a = some (.inr (8, [.ref q0, .ref q1, .ref q2, .ref q3, .ref q4, .ref q5, .ref q6, .ref q7, .ref q8, .ref q9, .null, .null, .null, .null, .int 0])) := by rw [hG1, pset_self]
  have hq0 : G1 q0 = some (.inl (d 8, 60600, .inl (fun _ => 0))) := by rw [hG1, pset_ne (fun h => by rw [h, hg] at hq0; cases hq0), pset_ne (hnq9 q0 (by simp))]; exact hq0
  have hq1 : G1 q1 = some (.inl (d 8, 202, .inl (fun _ => 0))) := by rw [hG1, pset_ne (fun h => by rw [h, hg] at hq1; cases hq1), pset_ne (hnq9 q1 (by simp))]; exact hq1
  have hq2 : G1 q2 = some (.inl (d 8, 202, .inl (fun _ => 0))) := by rw [hG1, pset_ne (fun h => by rw [h, hg] at hq2; cases hq2), pset_ne (hnq9 q2 (by simp))]; exact hq2
  have hq3 : G1 q3 = some (.inl (d 8, 40, .inl (fun _ => 0))) := by rw [hG1, pset_ne (fun h => by rw [h, hg] at hq3; cases hq3), pset_ne (hnq9 q3 (by simp))]; exact hq3
  have hq4 : G1 q4 = some (.inl (d 8, 160, .inl (fun _ => 0))) := by rw [hG1, pset_ne (fun h => by rw [h, hg] at hq4; cases hq4), pset_ne (hnq9 q4 (by simp))]; exact hq4
  have hq5 : G1 q5 = some (.inl (d 8, 4, .inl (fun _ => 0))) := by rw [hG1, pset_ne (fun h => by rw [h, hg] at hq5; cases hq5), pset_ne (hnq9 q5 (by simp))]; exact hq5
  have hq6 : G1 q6 = some (.inl (d 8, 4, .inl (fun _ => 0))) := by rw [hG1, pset_ne (fun h => by rw [h, hg] at hq6; cases hq6), pset_ne (hnq9 q6 (by simp))]; exact hq6
  have hq7 : G1 q7 = some (.inl (d 8, 8, .inl (fun _ => 0))) := by rw [hG1, pset_ne (fun h => by rw [h, hg] at hq7; cases hq7), pset_ne (hnq9 q7 (by simp))]; exact hq7
  have hq8 : G1 q8 = some (.inl (d 8, 8, .inl (fun _ => 0))) := by rw [hG1, pset_ne (fun h => by rw [h, hg] at hq8; cases hq8), pset_ne (hnq9 q8 (by simp))]; exact hq8
  have hq9 : G1 q9 = some (.inl (d 8, 8, .inl (fun _ => 0))) := by rw [hG1, pset_ne (Ne.symm (hnq9 a (by simp))), pset_self]
  clear hG1 hg2 hqn hg
  have hg := hg1
  clear hg1
  generalize G1 = G at *
  refine lv_aload_n hx hb dX9_init_85 rfl (lv_at hl 0 rfl) ?_
  refine lv_bipush (v := 8) hx hb dX9_init_86 (by decide) ?_
  refine g_newa (atype := .int) (a0 := (8, .inl (fun _ => 0))) (ty := .int) (cA := d 8) (N' := 8) hx hb (hts _ q_507) rfl hK hw hS hA 8 rfl (fun _ => rfl) (by decide) (by decide) (by decide) (Nat.le_of_ble_eq_true rfl) (Nat.le_of_ble_eq_true rfl) dX9_init_88 (fun q10 H hqn hw hS => ?_)
  have hnm10 : q10 ∉ [q9, q8, q7, q6, q5, q4, q3, q2, q1, q0, a] := fun hm => by
    simp only [List.mem_cons, List.not_mem_nil, or_false] at hm
    rcases hm with h | h | h | h | h | h | h | h | h | h | h
    · rw [h, hq9] at hqn; cases hqn
    · rw [h, hq8] at hqn; cases hqn
    · rw [h, hq7] at hqn; cases hqn
    · rw [h, hq6] at hqn; cases hqn
    · rw [h, hq5] at hqn; cases hqn
    · rw [h, hq4] at hqn; cases hqn
    · rw [h, hq3] at hqn; cases hqn
    · rw [h, hq2] at hqn; cases hqn
    · rw [h, hq1] at hqn; cases hqn
    · rw [h, hq0] at hqn; cases hqn
    · rw [h, hg] at hqn; cases hqn
  replace hN := List.nodup_cons.mpr ⟨hnm10, hN⟩
  have hnq10 : ∀ z ∈ [q9, q8, q7, q6, q5, q4, q3, q2, q1, q0, a], z ≠ q10 := fun z hz h => hnm10 (h ▸ hz)
  have hg2 : pset G q10 (.inl (d 8, 8, .inl (fun _ => 0))) a = some (.inr (8, [.ref q0, .ref q1, .ref q2, .ref q3, .ref q4, .ref q5, .ref q6, .ref q7, .ref q8, .ref q9, .null, .null, .null, .null, .int 0])) := by rw [pset_ne (hnq10 a (by simp))]; exact hg
  refine g_putF (ci := 8) (C := RX9) (T := TX9) (N := 15) hx hb hts inX9 tyX9 tyX9_ok nmX9 hown hK hw hS hg2 rfl 10 (by decide) (hts _ q_471) (fun _ h9 => h9) rfl hnm rfl (ty := .array .int) (v := .ref q10) (by decide +kernel) rfl rfl (Nat.le_of_ble_eq_true rfl) dX9_init_90 (fun H locs hw hS => ?_)
  obtain ⟨G1, hG1⟩ : ∃ z : Pic, z = pset (pset G q10 (.inl (d 8, 8, .inl (fun _ => 0)))) a (.inr (8, [.ref q0, .ref q1, .ref q2, .ref q3, .ref q4, .ref q5, .ref q6, .ref q7, .ref q8, .ref q9, .ref q10, .null, .null, .null, .int 0])) := ⟨_, rfl⟩
  have hw : ΩG D A G1 H := by rw [hG1]; exact hw
  have hg1 : G1 a = some (.inr (8, [.ref q0, .ref q1, .ref q2, .ref q3, .ref q4, .ref q5, .ref q6, .ref q7, .ref q8, .ref q9, .ref q10, .null, .null, .null, .int 0])) := by rw [hG1, pset_self]
  have hq0 : G1 q0 = some (.inl (d 8, 60600, .inl (fun _ => 0))) := by rw [hG1, pset_ne (fun h => by rw [h, hg] at hq0; cases hq0), pset_ne (hnq10 q0 (by simp))]; exact hq0
  have hq1 : G1 q1 = some (.inl (d 8, 202, .inl (fun _ => 0))) := by rw [hG1, pset_ne (fun h => by rw [h, hg] at hq1; cases hq1), pset_ne (hnq10 q1 (by simp))]; exact hq1
  have hq2 : G1 q2 = some (.inl (d 8, 202, .inl (fun _ => 0))) := by rw [hG1, pset_ne (fun h => by rw [h, hg] at hq2; cases hq2), pset_ne (hnq10 q2 (by simp))]; exact hq2
  have hq3 : G1 q3 = some (.inl (d 8, 40, .inl (fun _ => 0))) := by rw [hG1, pset_ne (fun h => by rw [h, hg] at hq3; cases hq3), pset_ne (hnq10 q3 (by simp))]; exact hq3
  have hq4 : G1 q4 = some (.inl (d 8, 160, .inl (fun _ => 0))) := by rw [hG1, pset_ne (fun h => by rw [h, hg] at hq4; cases hq4), pset_ne (hnq10 q4 (by simp))]; exact hq4
  have hq5 : G1 q5 = some (.inl (d 8, 4, .inl (fun _ => 0))) := by rw [hG1, pset_ne (fun h => by rw [h, hg] at hq5; cases hq5), pset_ne (hnq10 q5 (by simp))]; exact hq5
  have hq6 : G1 q6 = some (.inl (d 8, 4, .inl (fun _ => 0))) := by rw [hG1, pset_ne (fun h => by rw [h, hg] at hq6; cases hq6), pset_ne (hnq10 q6 (by simp))]; exact hq6
  have hq7 : G1 q7 = some (.inl (d 8, 8, .inl (fun _ => 0))) := by rw [hG1, pset_ne (fun h => by rw [h, hg] at hq7; cases hq7), pset_ne (hnq10 q7 (by simp))]; exact hq7
  have hq8 : G1 q8 = some (.inl (d 8, 8, .inl (fun _ => 0))) := by rw [hG1, pset_ne (fun h => by rw [h, hg] at hq8; cases hq8), pset_ne (hnq10 q8 (by simp))]; exact hq8
  have hq9 : G1 q9 = some (.inl (d 8, 8, .inl (fun _ => 0))) := by rw [hG1, pset_ne (fun h => by rw [h, hg] at hq9; cases hq9), pset_ne (hnq10 q9 (by simp))]; exact hq9
  have hq10 : G1 q10 = some (.inl (d 8, 8, .inl (fun _ => 0))) := by rw [hG1, pset_ne (Ne.symm (hnq10 a (by simp))), pset_self]
  clear hG1 hg2 hqn hg
  have hg := hg1
  clear hg1
  generalize G1 = G at *
  refine lv_aload_n hx hb dX9_init_93 rfl (lv_at hl 0 rfl) ?_
  refine lv_bipush (v := 8) hx hb dX9_init_94 (by decide) ?_
  refine g_newa (atype := .long) (a0 := (8, .inr (.inl (fun _ => 0)))) (ty := .long) (cA := d 9) (N' := 8) hx hb (hts _ q_508) rfl hK hw hS hA 9 rfl (fun _ => rfl) (by decide) (by decide) (by decide) (Nat.le_of_ble_eq_true rfl) (Nat.le_of_ble_eq_true rfl) dX9_init_96 (fun q11 H hqn hw hS => ?_)
  have hnm11 : q11 ∉ [q10, q9, q8, q7, q6, q5, q4, q3, q2, q1, q0, a] := fun hm => by
    simp only [List.mem_cons, List.not_mem_nil, or_false] at hm
    rcases hm with h | h | h | h | h | h | h | h | h | h | h | h
    · rw [h, hq10] at hqn; cases hqn
    · rw [h, hq9] at hqn; cases hqn
    · rw [h, hq8] at hqn; cases hqn
    · rw [h, hq7] at hqn; cases hqn
    · rw [h, hq6] at hqn; cases hqn
    · rw [h, hq5] at hqn; cases hqn
    · rw [h, hq4] at hqn; cases hqn
    · rw [h, hq3] at hqn; cases hqn
    · rw [h, hq2] at hqn; cases hqn
    · rw [h, hq1] at hqn; cases hqn
    · rw [h, hq0] at hqn; cases hqn
    · rw [h, hg] at hqn; cases hqn
  replace hN := List.nodup_cons.mpr ⟨hnm11, hN⟩
  have hnq11 : ∀ z ∈ [q10, q9, q8, q7, q6, q5, q4, q3, q2, q1, q0, a], z ≠ q11 := fun z hz h => hnm11 (h ▸ hz)
  have hg2 : pset G q11 (.inl (d 9, 8, .inr (.inl (fun _ => 0)))) a = some (.inr (8, [.ref q0, .ref q1, .ref q2, .ref q3, .ref q4, .ref q5, .ref q6, .ref q7, .ref q8, .ref q9, .ref q10, .null, .null, .null, .int 0])) := by rw [pset_ne (hnq11 a (by simp))]; exact hg
  refine g_putF (ci := 8) (C := RX9) (T := TX9) (N := 15) hx hb hts inX9 tyX9 tyX9_ok nmX9 hown hK hw hS hg2 rfl 11 (by decide) (hts _ q_472) (fun _ h9 => h9) rfl hnm rfl (ty := .array .long) (v := .ref q11) (by decide +kernel) rfl rfl (Nat.le_of_ble_eq_true rfl) dX9_init_98 (fun H locs hw hS => ?_)
  obtain ⟨G1, hG1⟩ : ∃ z : Pic, z = pset (pset G q11 (.inl (d 9, 8, .inr (.inl (fun _ => 0))))) a (.inr (8, [.ref q0, .ref q1, .ref q2, .ref q3, .ref q4, .ref q5, .ref q6, .ref q7, .ref q8, .ref q9, .ref q10, .ref q11, .null, .null, .int 0])) := ⟨_, rfl⟩
  have hw : ΩG D A G1 H := by rw [hG1]; exact hw
  have hg1 : G1 a = some (.inr (8, [.ref q0, .ref q1, .ref q2, .ref q3, .ref q4, .ref q5, .ref q6, .ref q7, .ref q8, .ref q9, .ref q10, .ref q11, .null, .null, .int 0])) := by rw [hG1, pset_self]
  have hq0 : G1 q0 = some (.inl (d 8, 60600, .inl (fun _ => 0))) := by rw [hG1, pset_ne (fun h => by rw [h, hg] at hq0; cases hq0), pset_ne (hnq11 q0 (by simp))]; exact hq0
  have hq1 : G1 q1 = some (.inl (d 8, 202, .inl (fun _ => 0))) := by rw [hG1, pset_ne (fun h => by rw [h, hg] at hq1; cases hq1), pset_ne (hnq11 q1 (by simp))]; exact hq1
  have hq2 : G1 q2 = some (.inl (d 8, 202, .inl (fun _ => 0))) := by rw [hG1, pset_ne (fun h => by rw [h, hg] at hq2; cases hq2), pset_ne (hnq11 q2 (by simp))]; exact hq2
  have hq3 : G1 q3 = some (.inl (d 8, 40, .inl (fun _ => 0))) := by rw [hG1, pset_ne (fun h => by rw [h, hg] at hq3; cases hq3), pset_ne (hnq11 q3 (by simp))]; exact hq3
  have hq4 : G1 q4 = some (.inl (d 8, 160, .inl (fun _ => 0))) := by rw [hG1, pset_ne (fun h => by rw [h, hg] at hq4; cases hq4), pset_ne (hnq11 q4 (by simp))]; exact hq4
  have hq5 : G1 q5 = some (.inl (d 8, 4, .inl (fun _ => 0))) := by rw [hG1, pset_ne (fun h => by rw [h, hg] at hq5; cases hq5), pset_ne (hnq11 q5 (by simp))]; exact hq5
  have hq6 : G1 q6 = some (.inl (d 8, 4, .inl (fun _ => 0))) := by rw [hG1, pset_ne (fun h => by rw [h, hg] at hq6; cases hq6), pset_ne (hnq11 q6 (by simp))]; exact hq6
  have hq7 : G1 q7 = some (.inl (d 8, 8, .inl (fun _ => 0))) := by rw [hG1, pset_ne (fun h => by rw [h, hg] at hq7; cases hq7), pset_ne (hnq11 q7 (by simp))]; exact hq7
  have hq8 : G1 q8 = some (.inl (d 8, 8, .inl (fun _ => 0))) := by rw [hG1, pset_ne (fun h => by rw [h, hg] at hq8; cases hq8), pset_ne (hnq11 q8 (by simp))]; exact hq8
  have hq9 : G1 q9 = some (.inl (d 8, 8, .inl (fun _ => 0))) := by rw [hG1, pset_ne (fun h => by rw [h, hg] at hq9; cases hq9), pset_ne (hnq11 q9 (by simp))]; exact hq9
  have hq10 : G1 q10 = some (.inl (d 8, 8, .inl (fun _ => 0))) := by rw [hG1, pset_ne (fun h => by rw [h, hg] at hq10; cases hq10), pset_ne (hnq11 q10 (by simp))]; exact hq10
  have hq11 : G1 q11 = some (.inl (d 9, 8, .inr (.inl (fun _ => 0)))) := by rw [hG1, pset_ne (Ne.symm (hnq11 a (by simp))), pset_self]
  clear hG1 hg2 hqn hg
  have hg := hg1
  clear hg1
  generalize G1 = G at *
  refine lv_aload_n hx hb dX9_init_101 rfl (lv_at hl 0 rfl) ?_
  refine lv_bipush (v := 8) hx hb dX9_init_102 (by decide) ?_
  refine g_newa (atype := .int) (a0 := (8, .inl (fun _ => 0))) (ty := .int) (cA := d 8) (N' := 8) hx hb (hts _ q_507) rfl hK hw hS hA 8 rfl (fun _ => rfl) (by decide) (by decide) (by decide) (Nat.le_of_ble_eq_true rfl) (Nat.le_of_ble_eq_true rfl) dX9_init_104 (fun q12 H hqn hw hS => ?_)
  have hnm12 : q12 ∉ [q11, q10, q9, q8, q7, q6, q5, q4, q3, q2, q1, q0, a] := fun hm => by
    simp only [List.mem_cons, List.not_mem_nil, or_false] at hm
    rcases hm with h | h | h | h | h | h | h | h | h | h | h | h | h
    · rw [h, hq11] at hqn; cases hqn
    · rw [h, hq10] at hqn; cases hqn
    · rw [h, hq9] at hqn; cases hqn
    · rw [h, hq8] at hqn; cases hqn
    · rw [h, hq7] at hqn; cases hqn
    · rw [h, hq6] at hqn; cases hqn
    · rw [h, hq5] at hqn; cases hqn
    · rw [h, hq4] at hqn; cases hqn
    · rw [h, hq3] at hqn; cases hqn
    · rw [h, hq2] at hqn; cases hqn
    · rw [h, hq1] at hqn; cases hqn
    · rw [h, hq0] at hqn; cases hqn
    · rw [h, hg] at hqn; cases hqn
  replace hN := List.nodup_cons.mpr ⟨hnm12, hN⟩
  have hnq12 : ∀ z ∈ [q11, q10, q9, q8, q7, q6, q5, q4, q3, q2, q1, q0, a], z ≠ q12 := fun z hz h => hnm12 (h ▸ hz)
  have hg2 : pset G q12 (.inl (d 8, 8, .inl (fun _ => 0))) a = some (.inr (8, [.ref q0, .ref q1, .ref q2, .ref q3, .ref q4, .ref q5, .ref q6, .ref q7, .ref q8, .ref q9, .ref q10, .ref q11, .null, .null, .int 0])) := by rw [pset_ne (hnq12 a (by simp))]; exact hg
  refine g_putF (ci := 8) (C := RX9) (T := TX9) (N := 15) hx hb hts inX9 tyX9 tyX9_ok nmX9 hown hK hw hS hg2 rfl 12 (by decide) (hts _ q_473) (fun _ h9 => h9) rfl hnm rfl (ty := .array .int) (v := .ref q12) (by decide +kernel) rfl rfl (Nat.le_of_ble_eq_true rfl) dX9_init_106 (fun H locs hw hS => ?_)
  obtain ⟨G1, hG1⟩ : ∃ z : Pic, z = pset (pset G q12 (.inl (d 8, 8, .inl (fun _ => 0)))) a (.inr (8, [.ref q0, .ref q1, .ref q2, .ref q3, .ref q4, .ref q5, .ref q6, .ref q7, .ref q8, .ref q9, .ref q10, .ref q11, .ref q12, .null, .int 0])) := ⟨_, rfl⟩
  have hw : ΩG D A G1 H := by rw [hG1]; exact hw
  have hg1 : G1 a = some (.inr (8, [.ref q0, .ref q1, .ref q2, .ref q3, .ref q4, .ref q5, .ref q6, .ref q7, .ref q8, .ref q9, .ref q10, .ref q11, .ref q12, .null, .int 0])) := by rw [hG1, pset_self]
  have hq0 : G1 q0 = some (.inl (d 8, 60600, .inl (fun _ => 0))) := by rw [hG1, pset_ne (fun h => by rw [h, hg] at hq0; cases hq0), pset_ne (hnq12 q0 (by simp))]; exact hq0
  have hq1 : G1 q1 = some (.inl (d 8, 202, .inl (fun _ => 0))) := by rw [hG1, pset_ne (fun h => by rw [h, hg] at hq1; cases hq1), pset_ne (hnq12 q1 (by simp))]; exact hq1
  have hq2 : G1 q2 = some (.inl (d 8, 202, .inl (fun _ => 0))) := by rw [hG1, pset_ne (fun h => by rw [h, hg] at hq2; cases hq2), pset_ne (hnq12 q2 (by simp))]; exact hq2
  have hq3 : G1 q3 = some (.inl (d 8, 40, .inl (fun _ => 0))) := by rw [hG1, pset_ne (fun h => by rw [h, hg] at hq3; cases hq3), pset_ne (hnq12 q3 (by simp))]; exact hq3
  have hq4 : G1 q4 = some (.inl (d 8, 160, .inl (fun _ => 0))) := by rw [hG1, pset_ne (fun h => by rw [h, hg] at hq4; cases hq4), pset_ne (hnq12 q4 (by simp))]; exact hq4
  have hq5 : G1 q5 = some (.inl (d 8, 4, .inl (fun _ => 0))) := by rw [hG1, pset_ne (fun h => by rw [h, hg] at hq5; cases hq5), pset_ne (hnq12 q5 (by simp))]; exact hq5
  have hq6 : G1 q6 = some (.inl (d 8, 4, .inl (fun _ => 0))) := by rw [hG1, pset_ne (fun h => by rw [h, hg] at hq6; cases hq6), pset_ne (hnq12 q6 (by simp))]; exact hq6
  have hq7 : G1 q7 = some (.inl (d 8, 8, .inl (fun _ => 0))) := by rw [hG1, pset_ne (fun h => by rw [h, hg] at hq7; cases hq7), pset_ne (hnq12 q7 (by simp))]; exact hq7
  have hq8 : G1 q8 = some (.inl (d 8, 8, .inl (fun _ => 0))) := by rw [hG1, pset_ne (fun h => by rw [h, hg] at hq8; cases hq8), pset_ne (hnq12 q8 (by simp))]; exact hq8
  have hq9 : G1 q9 = some (.inl (d 8, 8, .inl (fun _ => 0))) := by rw [hG1, pset_ne (fun h => by rw [h, hg] at hq9; cases hq9), pset_ne (hnq12 q9 (by simp))]; exact hq9
  have hq10 : G1 q10 = some (.inl (d 8, 8, .inl (fun _ => 0))) := by rw [hG1, pset_ne (fun h => by rw [h, hg] at hq10; cases hq10), pset_ne (hnq12 q10 (by simp))]; exact hq10
  have hq11 : G1 q11 = some (.inl (d 9, 8, .inr (.inl (fun _ => 0)))) := by rw [hG1, pset_ne (fun h => by rw [h, hg] at hq11; cases hq11), pset_ne (hnq12 q11 (by simp))]; exact hq11
  have hq12 : G1 q12 = some (.inl (d 8, 8, .inl (fun _ => 0))) := by rw [hG1, pset_ne (Ne.symm (hnq12 a (by simp))), pset_self]
  clear hG1 hg2 hqn hg
  have hg := hg1
  clear hg1
  generalize G1 = G at *
  refine lv_aload_n hx hb dX9_init_109 rfl (lv_at hl 0 rfl) ?_
  refine lv_bipush (v := 8) hx hb dX9_init_110 (by decide) ?_
  refine g_newa (atype := .int) (a0 := (8, .inl (fun _ => 0))) (ty := .int) (cA := d 8) (N' := 8) hx hb (hts _ q_507) rfl hK hw hS hA 8 rfl (fun _ => rfl) (by decide) (by decide) (by decide) (Nat.le_of_ble_eq_true rfl) (Nat.le_of_ble_eq_true rfl) dX9_init_112 (fun q13 H hqn hw hS => ?_)
  have hnm13 : q13 ∉ [q12, q11, q10, q9, q8, q7, q6, q5, q4, q3, q2, q1, q0, a] := fun hm => by
    simp only [List.mem_cons, List.not_mem_nil, or_false] at hm
    rcases hm with h | h | h | h | h | h | h | h | h | h | h | h | h | h
    · rw [h, hq12] at hqn; cases hqn
    · rw [h, hq11] at hqn; cases hqn
    · rw [h, hq10] at hqn; cases hqn
    · rw [h, hq9] at hqn; cases hqn
    · rw [h, hq8] at hqn; cases hqn
    · rw [h, hq7] at hqn; cases hqn
    · rw [h, hq6] at hqn; cases hqn
    · rw [h, hq5] at hqn; cases hqn
    · rw [h, hq4] at hqn; cases hqn
    · rw [h, hq3] at hqn; cases hqn
    · rw [h, hq2] at hqn; cases hqn
    · rw [h, hq1] at hqn; cases hqn
    · rw [h, hq0] at hqn; cases hqn
    · rw [h, hg] at hqn; cases hqn
  replace hN := List.nodup_cons.mpr ⟨hnm13, hN⟩
  have hnq13 : ∀ z ∈ [q12, q11, q10, q9, q8, q7, q6, q5, q4, q3, q2, q1, q0, a], z ≠ q13 := fun z hz h => hnm13 (h ▸ hz)
  have hg2 : pset G q13 (.inl (d 8, 8, .inl (fun _ => 0))) a = some (.inr (8, [.ref q0, .ref q1, .ref q2, .ref q3, .ref q4, .ref q5, .ref q6, .ref q7, .ref q8, .ref q9, .ref q10, .ref q11, .ref q12, .null, .int 0])) := by rw [pset_ne (hnq13 a (by simp))]; exact hg
  refine g_putF (ci := 8) (C := RX9) (T := TX9) (N := 15) hx hb hts inX9 tyX9 tyX9_ok nmX9 hown hK hw hS hg2 rfl 13 (by decide) (hts _ q_474) (fun _ h9 => h9) rfl hnm rfl (ty := .array .int) (v := .ref q13) (by decide +kernel) rfl rfl (Nat.le_of_ble_eq_true rfl) dX9_init_114 (fun H locs hw hS => ?_)
  obtain ⟨G1, hG1⟩ : ∃ z : Pic, z = pset (pset G q13 (.inl (d 8, 8, .inl (fun _ => 0)))) a (.inr (8, [.ref q0, .ref q1, .ref q2, .ref q3, .ref q4, .ref q5, .ref q6, .ref q7, .ref q8, .ref q9, .ref q10, .ref q11, .ref q12, .ref q13, .int 0])) := ⟨_, rfl⟩
  have hw : ΩG D A G1 H := by rw [hG1]; exact hw
  have hg1 : G1 a = some (.inr (8, [.ref q0, .ref q1, .ref q2, .ref q3, .ref q4, .ref q5, .ref q6, .ref q7, .ref q8, .ref q9, .ref q10, .ref q11, .ref q12, .ref q13, .int 0])) := by rw [hG1, pset_self]
  have hq0 : G1 q0 = some (.inl (d 8, 60600, .inl (fun _ => 0))) := by rw [hG1, pset_ne (fun h => by rw [h, hg] at hq0; cases hq0), pset_ne (hnq13 q0 (by simp))]; exact hq0
  have hq1 : G1 q1 = some (.inl (d 8, 202, .inl (fun _ => 0))) := by rw [hG1, pset_ne (fun h => by rw [h, hg] at hq1; cases hq1), pset_ne (hnq13 q1 (by simp))]; exact hq1
  have hq2 : G1 q2 = some (.inl (d 8, 202, .inl (fun _ => 0))) := by rw [hG1, pset_ne (fun h => by rw [h, hg] at hq2; cases hq2), pset_ne (hnq13 q2 (by simp))]; exact hq2
  have hq3 : G1 q3 = some (.inl (d 8, 40, .inl (fun _ => 0))) := by rw [hG1, pset_ne (fun h => by rw [h, hg] at hq3; cases hq3), pset_ne (hnq13 q3 (by simp))]; exact hq3
  have hq4 : G1 q4 = some (.inl (d 8, 160, .inl (fun _ => 0))) := by rw [hG1, pset_ne (fun h => by rw [h, hg] at hq4; cases hq4), pset_ne (hnq13 q4 (by simp))]; exact hq4
  have hq5 : G1 q5 = some (.inl (d 8, 4, .inl (fun _ => 0))) := by rw [hG1, pset_ne (fun h => by rw [h, hg] at hq5; cases hq5), pset_ne (hnq13 q5 (by simp))]; exact hq5
  have hq6 : G1 q6 = some (.inl (d 8, 4, .inl (fun _ => 0))) := by rw [hG1, pset_ne (fun h => by rw [h, hg] at hq6; cases hq6), pset_ne (hnq13 q6 (by simp))]; exact hq6
  have hq7 : G1 q7 = some (.inl (d 8, 8, .inl (fun _ => 0))) := by rw [hG1, pset_ne (fun h => by rw [h, hg] at hq7; cases hq7), pset_ne (hnq13 q7 (by simp))]; exact hq7
  have hq8 : G1 q8 = some (.inl (d 8, 8, .inl (fun _ => 0))) := by rw [hG1, pset_ne (fun h => by rw [h, hg] at hq8; cases hq8), pset_ne (hnq13 q8 (by simp))]; exact hq8
  have hq9 : G1 q9 = some (.inl (d 8, 8, .inl (fun _ => 0))) := by rw [hG1, pset_ne (fun h => by rw [h, hg] at hq9; cases hq9), pset_ne (hnq13 q9 (by simp))]; exact hq9
  have hq10 : G1 q10 = some (.inl (d 8, 8, .inl (fun _ => 0))) := by rw [hG1, pset_ne (fun h => by rw [h, hg] at hq10; cases hq10), pset_ne (hnq13 q10 (by simp))]; exact hq10
  have hq11 : G1 q11 = some (.inl (d 9, 8, .inr (.inl (fun _ => 0)))) := by rw [hG1, pset_ne (fun h => by rw [h, hg] at hq11; cases hq11), pset_ne (hnq13 q11 (by simp))]; exact hq11
  have hq12 : G1 q12 = some (.inl (d 8, 8, .inl (fun _ => 0))) := by rw [hG1, pset_ne (fun h => by rw [h, hg] at hq12; cases hq12), pset_ne (hnq13 q12 (by simp))]; exact hq12
  have hq13 : G1 q13 = some (.inl (d 8, 8, .inl (fun _ => 0))) := by rw [hG1, pset_ne (Ne.symm (hnq13 a (by simp))), pset_self]
  clear hG1 hg2 hqn hg
  have hg := hg1
  clear hg1
  generalize G1 = G at *
  have hP : va_P D vwCl (mw d (mpOf [a, q0, q1, q2, q3, q4, q5, q6, q7, q8, q9, q10, q11, q12, q13]) μ0) H := (vaP_cons (hw.1 _ _ hg) (vaP_cons (hw.1 _ _ hq0) (vaP_cons (hw.1 _ _ hq1) (vaP_cons (hw.1 _ _ hq2) (vaP_cons (hw.1 _ _ hq3) (vaP_cons (hw.1 _ _ hq4) (vaP_cons (hw.1 _ _ hq5) (vaP_cons (hw.1 _ _ hq6) (vaP_cons (hw.1 _ _ hq7) (vaP_cons (hw.1 _ _ hq8) (vaP_cons (hw.1 _ _ hq9) (vaP_cons (hw.1 _ _ hq10) (vaP_cons (hw.1 _ _ hq11) (vaP_cons (hw.1 _ _ hq12) (vaP_cons (hw.1 _ _ hq13) vaP_nil)))))))))))))))
  have hD : va_D A (mw d (mpOf [a, q0, q1, q2, q3, q4, q5, q6, q7, q8, q9, q10, q11, q12, q13]) μ0) := by
    refine vaD_of ?_ ?_
    · show [a, q0, q1, q2, q3, q4, q5, q6, q7, q8, q9, q10, q11, q12, q13].Nodup
      exact (List.pairwise_reverse (l := [q13, q12, q11, q10, q9, q8, q7, q6, q5, q4, q3, q2, q1, q0, a])).mpr (List.Pairwise.imp (fun h => Ne.symm h) hN)
    · intro p hp
      simp only [mw, List.mem_cons, List.not_mem_nil, or_false] at hp
      rcases hp with rfl | rfl | rfl | rfl | rfl | rfl | rfl | rfl | rfl | rfl | rfl | rfl | rfl | rfl | rfl
      · exact hw.2 _ _ hg
      · exact hw.2 _ _ hq0
      · exact hw.2 _ _ hq1
      · exact hw.2 _ _ hq2
      · exact hw.2 _ _ hq3
      · exact hw.2 _ _ hq4
      · exact hw.2 _ _ hq5
      · exact hw.2 _ _ hq6
      · exact hw.2 _ _ hq7
      · exact hw.2 _ _ hq8
      · exact hw.2 _ _ hq9
      · exact hw.2 _ _ hq10
      · exact hw.2 _ _ hq11
      · exact hw.2 _ _ hq12
      · exact hw.2 _ _ hq13
  obtain ⟨mp, hmp⟩ : ∃ mp : Nat → Nat, mp = mpOf [a, q0, q1, q2, q3, q4, q5, q6, q7, q8, q9, q10, q11, q12, q13] := ⟨_, rfl⟩
  replace hq := hq mp (by rw [hmp]; rfl)
  have hl : lv_has ls 2 [(0, .ref (mp 0))] := by rw [hmp]; exact hl
  have hw : ΩM D d mp A μ0 H := by rw [hmp]; exact ⟨hP, hD⟩
  clear hP hD hmp hN hg hq0 hq1 hq2 hq3 hq4 hq5 hq6 hq7 hq8 hq9 hq10 hq11 hq12 hq13 hnm13 hnq13 hnm12 hnq12 hnm11 hnq11 hnm10 hnq10 hnm9 hnq9 hnm8 hnq8 hnm7 hnq7 hnm6 hnq6 hnm5 hnq5 hnm4 hnq4 hnm3 hnq3 hnm2 hnq2 hnm1 hnq1 hnm0 hnq0
  obtain ⟨Q, hQ, hq⟩ : ∃ Q : MS → Prop, (∀ μ, Q μ → QQ (.inr (mp, μ))) ∧ wX9_init μ0 Q := ⟨_, fun _ h => h, hq⟩
  have b162 : ∀ (n : Nat) (v1 : Int32) (μ : MS) (H : Heap) (locs : List Loc) (ls : Array Slot), wX9_init_b162  Q n v1 μ → (ΩM D d mp) A μ H → va_S A s.heap H locs → lv_has ls 2 [(0, .ref (mp 0)), (1, .int v1)] → W p l e rmX9_init s m [.ref a].toArray below meth c H locs 14 61268 (MQ below (Qo (qV QQ) (fun u' t => ΩI D d A u' t.heap) A) [.ref a].toArray s rmX9_init.cells rmX9_init.slots A) (F0 m 162 ls []) := by
    intro n
    induction n with
    | zero =>
      intro v1 μ H locs ls hq
      exact absurd hq id
    | succ n ih =>
      intro v1 μ H locs ls hq hw hS hl
      rw [wX9_init_b162_s] at hq
      refine lv_iload_n hx hb dX9_init_162 rfl (lv_at hl 1 rfl) ?_
      refine lv_iconst (v := 4) hx hb dX9_init_163 (by decide) ?_
      refine lv_icmp_ge (tgt := 180) hx hb dX9_init_164 (by decide) (fun hc => ?_) (fun hc => ?_)
      · replace hq := hq.1 hc
        exact mt_retv (Ω := ΩI D d) (u := .inr (mp, μ)) hx hb hr hlocks hw hS (Nat.le_of_ble_eq_true rfl) (Nat.le_of_ble_eq_true rfl) dX9_init_180 ⟨rfl, hQ _ hq⟩
      · replace hq := hq.2 hc
        refine lv_aload_n hx hb dX9_init_167 rfl (lv_at hl 0 rfl) ?_
        refine va_get (D := D) (ci := 8) (v := .ref (mp 6)) (C := RX9) (T := TX9) (N := 15) hx hb hts inX9 hown hK.1 hw.1 0 rfl rfl 5 (by decide) (hts _ q_466) (fun _ h9 => h9) rfl dX9_init_168 ?_
        refine lv_iload_n hx hb dX9_init_171 rfl (lv_at hl 1 rfl) ?_
        refine lv_iconst (v := -1) hx hb dX9_init_172 (by decide) ?_
        refine va_iast hx hb hK.1 hw.1 hw.2 hS 6 8 rfl rfl hq.1 dX9_init_173 (fun H locs hP hD hS => ?_)
        have hw : ΩM D d mp A (nCK μ (upd (mCK μ) v1.toNatClampNeg (-1 : Int32))) H := ⟨hP, hD⟩
        replace hq := hq.2
        obtain ⟨y7, ey7⟩ : ∃ z : Int32, z = v1 + 1 := ⟨_, rfl⟩
        replace hq := hq y7 ey7
        refine lv_iinc (v := y7) (lv' := [(1, .int y7), (0, .ref (mp 0))]) hx hb dX9_init_174 hl (k := 1) rfl (by rw [ey7]; rfl) (by decide) rfl (fun ls hl => ?_)
        refine lv_goto (tgt := 162) hx hb dX9_init_177 (by decide) ?_
        exact ih y7 (nCK μ (upd (mCK μ) v1.toNatClampNeg (-1 : Int32))) _ _ _ hq hw hS (lv_sub hl [1, 0] rfl)
  have b140 : ∀ (n : Nat) (v1 : Int32) (μ : MS) (H : Heap) (locs : List Loc) (ls : Array Slot), wX9_init_b140  Q n v1 μ → (ΩM D d mp) A μ H → va_S A s.heap H locs → lv_has ls 2 [(0, .ref (mp 0)), (1, .int v1)] → W p l e rmX9_init s m [.ref a].toArray below meth c H locs 14 61268 (MQ below (Qo (qV QQ) (fun u' t => ΩI D d A u' t.heap) A) [.ref a].toArray s rmX9_init.cells rmX9_init.slots A) (F0 m 140 ls []) := by
    intro n
    induction n with
    | zero =>
      intro v1 μ H locs ls hq
      exact absurd hq id
    | succ n ih =>
      intro v1 μ H locs ls hq hw hS hl
      rw [wX9_init_b140_s] at hq
      refine lv_iload_n hx hb dX9_init_140 rfl (lv_at hl 1 rfl) ?_
      refine lv_sipush (v := 160) hx hb dX9_init_141 (by decide) ?_
      refine lv_icmp_ge (tgt := 160) hx hb dX9_init_144 (by decide) (fun hc => ?_) (fun hc => ?_)
      · replace hq := hq.1 hc
        refine lv_iconst (v := 0) hx hb dX9_init_160 (by decide) ?_
        refine lv_istore_n (lv' := [(1, .int (0 : Int32)), (0, .ref (mp 0))]) hx hb dX9_init_161 rfl hl (by decide) rfl (fun ls hl => ?_)
        obtain ⟨k162, hq⟩ := hq
        exact b162 k162 (0 : Int32) μ _ _ _ hq hw hS (lv_sub hl [1, 0] rfl)
      · replace hq := hq.2 hc
        refine lv_aload_n hx hb dX9_init_147 rfl (lv_at hl 0 rfl) ?_
        refine va_get (D := D) (ci := 8) (v := .ref (mp 5)) (C := RX9) (T := TX9) (N := 15) hx hb hts inX9 hown hK.1 hw.1 0 rfl rfl 4 (by decide) (hts _ q_465) (fun _ h9 => h9) rfl dX9_init_148 ?_
        refine lv_iload_n hx hb dX9_init_151 rfl (lv_at hl 1 rfl) ?_
        refine lv_iconst (v := -1) hx hb dX9_init_152 (by decide) ?_
        refine va_iast hx hb hK.1 hw.1 hw.2 hS 5 8 rfl rfl hq.1 dX9_init_153 (fun H locs hP hD hS => ?_)
        have hw : ΩM D d mp A (nTeeth μ (upd (mTeeth μ) v1.toNatClampNeg (-1 : Int32))) H := ⟨hP, hD⟩
        replace hq := hq.2
        obtain ⟨y8, ey8⟩ : ∃ z : Int32, z = v1 + 1 := ⟨_, rfl⟩
        replace hq := hq y8 ey8
        refine lv_iinc (v := y8) (lv' := [(1, .int y8), (0, .ref (mp 0))]) hx hb dX9_init_154 hl (k := 1) rfl (by rw [ey8]; rfl) (by decide) rfl (fun ls hl => ?_)
        refine lv_goto (tgt := 140) hx hb dX9_init_157 (by decide) ?_
        exact ih y8 (nTeeth μ (upd (mTeeth μ) v1.toNatClampNeg (-1 : Int32))) _ _ _ hq hw hS (lv_sub hl [1, 0] rfl)
  have b119 : ∀ (n : Nat) (v1 : Int32) (μ : MS) (H : Heap) (locs : List Loc) (ls : Array Slot), wX9_init_b119  Q n v1 μ → (ΩM D d mp) A μ H → va_S A s.heap H locs → lv_has ls 2 [(0, .ref (mp 0)), (1, .int v1)] → W p l e rmX9_init s m [.ref a].toArray below meth c H locs 14 61268 (MQ below (Qo (qV QQ) (fun u' t => ΩI D d A u' t.heap) A) [.ref a].toArray s rmX9_init.cells rmX9_init.slots A) (F0 m 119 ls []) := by
    intro n
    induction n with
    | zero =>
      intro v1 μ H locs ls hq
      exact absurd hq id
    | succ n ih =>
      intro v1 μ H locs ls hq hw hS hl
      rw [wX9_init_b119_s] at hq
      refine lv_iload_n hx hb dX9_init_119 rfl (lv_at hl 1 rfl) ?_
      refine lv_bipush (v := 40) hx hb dX9_init_120 (by decide) ?_
      refine lv_icmp_ge (tgt := 138) hx hb dX9_init_122 (by decide) (fun hc => ?_) (fun hc => ?_)
      · replace hq := hq.1 hc
        refine lv_iconst (v := 0) hx hb dX9_init_138 (by decide) ?_
        refine lv_istore_n (lv' := [(1, .int (0 : Int32)), (0, .ref (mp 0))]) hx hb dX9_init_139 rfl hl (by decide) rfl (fun ls hl => ?_)
        obtain ⟨k140, hq⟩ := hq
        exact b140 k140 (0 : Int32) μ _ _ _ hq hw hS (lv_sub hl [1, 0] rfl)
      · replace hq := hq.2 hc
        refine lv_aload_n hx hb dX9_init_125 rfl (lv_at hl 0 rfl) ?_
        refine va_get (D := D) (ci := 8) (v := .ref (mp 4)) (C := RX9) (T := TX9) (N := 15) hx hb hts inX9 hown hK.1 hw.1 0 rfl rfl 3 (by decide) (hts _ q_464) (fun _ h9 => h9) rfl dX9_init_126 ?_
        refine lv_iload_n hx hb dX9_init_129 rfl (lv_at hl 1 rfl) ?_
        refine lv_iconst (v := -1) hx hb dX9_init_130 (by decide) ?_
        refine va_iast hx hb hK.1 hw.1 hw.2 hS 4 8 rfl rfl hq.1 dX9_init_131 (fun H locs hP hD hS => ?_)
        have hw : ΩM D d mp A (nDrums μ (upd (mDrums μ) v1.toNatClampNeg (-1 : Int32))) H := ⟨hP, hD⟩
        replace hq := hq.2
        obtain ⟨y9, ey9⟩ : ∃ z : Int32, z = v1 + 1 := ⟨_, rfl⟩
        replace hq := hq y9 ey9
        refine lv_iinc (v := y9) (lv' := [(1, .int y9), (0, .ref (mp 0))]) hx hb dX9_init_132 hl (k := 1) rfl (by rw [ey9]; rfl) (by decide) rfl (fun ls hl => ?_)
        refine lv_goto (tgt := 119) hx hb dX9_init_135 (by decide) ?_
        exact ih y9 (nDrums μ (upd (mDrums μ) v1.toNatClampNeg (-1 : Int32))) _ _ _ hq hw hS (lv_sub hl [1, 0] rfl)
  unfold wX9_init at hq
  generalize μ0 = μ at hw hq
  refine lv_iconst (v := 0) hx hb dX9_init_117 (by decide) ?_
  refine lv_istore_n (lv' := [(1, .int (0 : Int32)), (0, .ref (mp 0))]) hx hb dX9_init_118 rfl hl (by decide) rfl (fun ls hl => ?_)
  obtain ⟨k119, hq⟩ := hq
  exact b119 k119 (0 : Int32) μ _ _ _ hq hw hS (lv_sub hl [1, 0] rfl)
