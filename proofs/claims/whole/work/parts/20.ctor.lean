abbrev rmX7_init : Room := { frames := 1, cells := 0, slots := 0, locals := 20 }
theorem nmhX7_init : NoMH yX7_init 1 := by decide +kernel
set_option maxHeartbeats 4000000 in
set_option maxRecDepth 100000 in
theorem tX7_init (l : Launch) (D : va_G) (d : AC) (a kd : Nat) (x1 : Int32) (G : Pic) {Q : Pic → Prop} (hk : kd < 5) (hg : G a = some (.inr (tci kd, [.int 0, .null]))) (hq : Q (pset G a (.inr (tci kd, [.int x1, .null])))) : MT D d (ΩG D) l yX7_init (WS yX7_init cX7_init 2 none) rmX7_init [.ref a, .int x1] G (qV Q) := by
  refine mt_of (ΩG.mono D) (by decide +kernel) (Nat.le_of_ble_eq_true rfl) (fun p e s m below meth c A ls hx hb hr hml hown hts hlocks hnm hK hA hw hS hl => ?_)
  have hl : lv_has ls 2 [(0, .ref a), (1, .int x1)] := hl
  have hown : s.vm.findClass RX7 = some m.cls := hown
  refine lv_aload_n hx hb dX7_init_0 rfl (lv_at hl 0 rfl) ?_
  refine W.objInit hx hb hown (hts _ q_128) (hts _ q_49) (hts _ q_50) rfl (by rw [hml]; exact hl.1) rfl dX7_init_1 (Nat.le_of_ble_eq_true rfl) (Nat.le_of_ble_eq_true rfl) ?_
  refine W.eq (g2 := F0 m 4 ls []) rfl ?_
  refine lv_aload_n hx hb dX7_init_4 rfl (lv_at hl 0 rfl) ?_
  refine lv_iload_n hx hb dX7_init_5 rfl (lv_at hl 1 rfl) ?_
  rcases kd with _ | _ | _ | _ | _ | _
  · refine g_putF (ci := tci 0) (C := RX5) (T := TX5) (N := 2) hx hb hts inX5 tyX5 tyX5_ok nmX5 hown hK hw hS hg rfl 0 (by decide) (hts _ q_130) (fun _ h9 => h9) rfl hnm rfl (ty := .int) (by decide +kernel) rfl rfl (Nat.le_of_ble_eq_true rfl) dX7_init_6 (fun H locs hw hS => ?_)
    exact mt_retv hx hb hr hlocks hw hS (Nat.le_of_ble_eq_true rfl) (Nat.le_of_ble_eq_true rfl) dX7_init_9 ⟨rfl, hq⟩
  · refine g_putF (ci := tci 1) (C := RX6) (T := TX6) (N := 2) hx hb hts inX6 tyX6 tyX6_ok nmX6 hown hK hw hS hg rfl 0 (by decide) (hts _ q_130) (fun _ h9 => h9) rfl hnm rfl (ty := .int) (by decide +kernel) rfl rfl (Nat.le_of_ble_eq_true rfl) dX7_init_6 (fun H locs hw hS => ?_)
    exact mt_retv hx hb hr hlocks hw hS (Nat.le_of_ble_eq_true rfl) (Nat.le_of_ble_eq_true rfl) dX7_init_9 ⟨rfl, hq⟩
  · refine g_putF (ci := tci 2) (C := RX3) (T := TX3) (N := 2) hx hb hts inX3 tyX3 tyX3_ok nmX3 hown hK hw hS hg rfl 0 (by decide) (hts _ q_130) (fun _ h9 => h9) rfl hnm rfl (ty := .int) (by decide +kernel) rfl rfl (Nat.le_of_ble_eq_true rfl) dX7_init_6 (fun H locs hw hS => ?_)
    exact mt_retv hx hb hr hlocks hw hS (Nat.le_of_ble_eq_true rfl) (Nat.le_of_ble_eq_true rfl) dX7_init_9 ⟨rfl, hq⟩
  · refine g_putF (ci := tci 3) (C := RX4) (T := TX4) (N := 2) hx hb hts inX4 tyX4 tyX4_ok nmX4 hown hK hw hS hg rfl 0 (by decide) (hts _ q_130) (fun _ h9 => h9) rfl hnm rfl (ty := .int) (by decide +kernel) rfl rfl (Nat.le_of_ble_eq_true rfl) dX7_init_6 (fun H locs hw hS => ?_)
    exact mt_retv hx hb hr hlocks hw hS (Nat.le_of_ble_eq_true rfl) (Nat.le_of_ble_eq_true rfl) dX7_init_9 ⟨rfl, hq⟩
  · refine g_putF (ci := tci 4) (C := RX0) (T := TX0) (N := 2) hx hb hts inX0 tyX0 tyX0_ok nmX0 hown hK hw hS hg rfl 0 (by decide) (hts _ q_130) (fun _ h9 => h9) rfl hnm rfl (ty := .int) (by decide +kernel) rfl rfl (Nat.le_of_ble_eq_true rfl) dX7_init_6 (fun H locs hw hS => ?_)
    exact mt_retv hx hb hr hlocks hw hS (Nat.le_of_ble_eq_true rfl) (Nat.le_of_ble_eq_true rfl) dX7_init_9 ⟨rfl, hq⟩
  · exact absurd hk (by omega)
abbrev rmX5_init (NN : Nat) : Room := { frames := 2, cells := 1, slots := NN, locals := 41 }
theorem nmhX5_init : NoMH yX5_init 1 := by decide +kernel
set_option maxHeartbeats 4000000 in
set_option maxRecDepth 100000 in
theorem tX5_init (l : Launch) (D : va_G) (d : AC) (a : Nat) (x1 : Int32) (NN : Nat) (G : Pic) {Q : Pic → Prop} (hg : G a = some (.inr (tci 0, [.int 0, .null]))) (h0 : ¬ x1 < 0) (hN : x1.toNatClampNeg ≤ NN) (hNN : NN ≤ 300) (hq : ∀ (c : Nat) (G1 : Pic), G c = none → (∀ (b : Nat) (e : va_E), b ≠ a → G b = some e → G1 b = some e) → G1 a = some (.inr (tci 0, [.int x1, .ref c])) → G1 c = some (arrE d 0 x1.toNatClampNeg (fun _ => 0)) → Q G1) : MT D d (ΩG D) l yX5_init (WS yX5_init cX5_init 2 none) (rmX5_init NN) [.ref a, .int x1] G (qV Q) := by
  refine mt_of (ΩG.mono D) (by decide +kernel) (Nat.le_of_ble_eq_true rfl) (fun p e s m below meth c A ls hx hb hr hml hown hts hlocks hnm hK hA hw hS hl => ?_)
  have hl : lv_has ls 2 [(0, .ref a), (1, .int x1)] := hl
  have hown : s.vm.findClass RX5 = some m.cls := hown
  refine lv_aload_n hx hb dX5_init_0 rfl (lv_at hl 0 rfl) ?_
  refine lv_iload_n hx hb dX5_init_1 rfl (lv_at hl 1 rfl) ?_
  refine mt_callI (index := 1) hx hb hml hown hts hK (ΩG.mono D) hA hw hS hl.1 (tX7_init l D d a 0 x1 G (Q := fun u => u = pset G a (.inr (tci 0, [.int x1, .null]))) (by decide) hg rfl) q_127 q_35 q_125 q_126 rfl nmhX7_init ⟨⟨(Nat.le_of_ble_eq_true rfl), (Nat.le_of_ble_eq_true rfl)⟩, ⟨(Nat.le_of_ble_eq_true rfl), Nat.zero_le _⟩⟩ rfl (Nat.le_of_ble_eq_true rfl) dX5_init_2 (fun _ u H locs hu hw hS => ?_)
  obtain ⟨rfl, rfl⟩ := hu
  refine W.eq (g2 := F0 m 5 ls []) rfl ?_
  refine lv_aload_n hx hb dX5_init_5 rfl (lv_at hl 0 rfl) ?_
  refine lv_iload_n hx hb dX5_init_6 rfl (lv_at hl 1 rfl) ?_
  refine g_newa (atype := .boolean) (a0 := (x1.toNatClampNeg, .inl (fun _ => 0))) (ty := .boolean) (cA := d 0) hx hb (hts _ q_138) rfl hK hw hS hA 0 rfl (fun _ => rfl) h0 rfl (Nat.le_trans (Nat.mul_le_mul_right _ (Nat.le_trans hN hNN)) (by decide)) (Nat.le_of_ble_eq_true rfl) (by show 0 + 0 + _ ≤ NN; omega) dX5_init_7 (fun q H hqn hw hS => ?_)
  have hqa : q ≠ a := fun h => by rw [h, pset_self] at hqn; cases hqn
  have hg2 : pset (pset G a (.inr (tci 0, [.int x1, .null]))) q (.inl (d 0, (x1.toNatClampNeg, .inl (fun _ => 0)))) a = some (.inr (tci 0, [.int x1, .null])) := by rw [pset_ne (Ne.symm hqa), pset_self]
  refine g_putF (ci := tci 0) (C := RX5) (T := TX5) (N := 2) hx hb hts inX5 tyX5 tyX5_ok nmX5 hown hK hw hS hg2 rfl 1 (by decide) (hts _ q_129) (fun _ h9 => h9) rfl hnm rfl (ty := .array .boolean) (v := .ref q) (by decide +kernel) rfl rfl (Nat.le_of_ble_eq_true rfl) dX5_init_9 (fun H locs hw hS => ?_)
  refine mt_retv hx hb hr hlocks hw hS (Nat.le_of_ble_eq_true rfl) (by show 0 + 0 + _ ≤ NN; omega) dX5_init_12 ⟨rfl, hq q _ ?_ ?_ ?_ ?_⟩
  · rw [← hqn, pset_ne hqa]
  · intro b e hb he
    have hbq : b ≠ q := fun h => by rw [h, ← pset_ne (G := G) (e := .inr (tci 0, [.int x1, .null])) hqa, hqn] at he; cases he
    rw [pset_ne hb, pset_ne hbq, pset_ne hb]; exact he
  · exact pset_self
  · rw [pset_ne hqa, pset_self]; rfl
abbrev rmX6_init (NN : Nat) : Room := { frames := 2, cells := 1, slots := NN, locals := 41 }
theorem nmhX6_init : NoMH yX6_init 1 := by decide +kernel
set_option maxHeartbeats 4000000 in
set_option maxRecDepth 100000 in
theorem tX6_init (l : Launch) (D : va_G) (d : AC) (a : Nat) (x1 : Int32) (NN : Nat) (G : Pic) {Q : Pic → Prop} (hg : G a = some (.inr (tci 1, [.int 0, .null]))) (h0 : ¬ x1 < 0) (hN : x1.toNatClampNeg ≤ NN) (hNN : NN ≤ 300) (hq : ∀ (c : Nat) (G1 : Pic), G c = none → (∀ (b : Nat) (e : va_E), b ≠ a → G b = some e → G1 b = some e) → G1 a = some (.inr (tci 1, [.int x1, .ref c])) → G1 c = some (arrE d 1 x1.toNatClampNeg (fun _ => 0)) → Q G1) : MT D d (ΩG D) l yX6_init (WS yX6_init cX6_init 2 none) (rmX6_init NN) [.ref a, .int x1] G (qV Q) := by
  refine mt_of (ΩG.mono D) (by decide +kernel) (Nat.le_of_ble_eq_true rfl) (fun p e s m below meth c A ls hx hb hr hml hown hts hlocks hnm hK hA hw hS hl => ?_)
  have hl : lv_has ls 2 [(0, .ref a), (1, .int x1)] := hl
  have hown : s.vm.findClass RX6 = some m.cls := hown
  refine lv_aload_n hx hb dX6_init_0 rfl (lv_at hl 0 rfl) ?_
  refine lv_iload_n hx hb dX6_init_1 rfl (lv_at hl 1 rfl) ?_
  refine mt_callI (index := 1) hx hb hml hown hts hK (ΩG.mono D) hA hw hS hl.1 (tX7_init l D d a 1 x1 G (Q := fun u => u = pset G a (.inr (tci 1, [.int x1, .null]))) (by decide) hg rfl) q_127 q_35 q_144 q_126 rfl nmhX7_init ⟨⟨(Nat.le_of_ble_eq_true rfl), (Nat.le_of_ble_eq_true rfl)⟩, ⟨(Nat.le_of_ble_eq_true rfl), Nat.zero_le _⟩⟩ rfl (Nat.le_of_ble_eq_true rfl) dX6_init_2 (fun _ u H locs hu hw hS => ?_)
  obtain ⟨rfl, rfl⟩ := hu
  refine W.eq (g2 := F0 m 5 ls []) rfl ?_
  refine lv_aload_n hx hb dX6_init_5 rfl (lv_at hl 0 rfl) ?_
  refine lv_iload_n hx hb dX6_init_6 rfl (lv_at hl 1 rfl) ?_
  refine g_newa (atype := .char) (a0 := (x1.toNatClampNeg, .inl (fun _ => 0))) (ty := .char) (cA := d 1) hx hb (hts _ q_150) rfl hK hw hS hA 1 rfl (fun _ => rfl) h0 rfl (Nat.le_trans (Nat.mul_le_mul_right _ (Nat.le_trans hN hNN)) (by decide)) (Nat.le_of_ble_eq_true rfl) (by show 0 + 0 + _ ≤ NN; omega) dX6_init_7 (fun q H hqn hw hS => ?_)
  have hqa : q ≠ a := fun h => by rw [h, pset_self] at hqn; cases hqn
  have hg2 : pset (pset G a (.inr (tci 1, [.int x1, .null]))) q (.inl (d 1, (x1.toNatClampNeg, .inl (fun _ => 0)))) a = some (.inr (tci 1, [.int x1, .null])) := by rw [pset_ne (Ne.symm hqa), pset_self]
  refine g_putF (ci := tci 1) (C := RX6) (T := TX6) (N := 2) hx hb hts inX6 tyX6 tyX6_ok nmX6 hown hK hw hS hg2 rfl 1 (by decide) (hts _ q_145) (fun _ h9 => h9) rfl hnm rfl (ty := .array .char) (v := .ref q) (by decide +kernel) rfl rfl (Nat.le_of_ble_eq_true rfl) dX6_init_9 (fun H locs hw hS => ?_)
  refine mt_retv hx hb hr hlocks hw hS (Nat.le_of_ble_eq_true rfl) (by show 0 + 0 + _ ≤ NN; omega) dX6_init_12 ⟨rfl, hq q _ ?_ ?_ ?_ ?_⟩
  · rw [← hqn, pset_ne hqa]
  · intro b e hb he
    have hbq : b ≠ q := fun h => by rw [h, ← pset_ne (G := G) (e := .inr (tci 1, [.int x1, .null])) hqa, hqn] at he; cases he
    rw [pset_ne hb, pset_ne hbq, pset_ne hb]; exact he
  · exact pset_self
  · rw [pset_ne hqa, pset_self]; rfl
abbrev rmX3_init (NN : Nat) : Room := { frames := 2, cells := 1, slots := NN, locals := 41 }
theorem nmhX3_init : NoMH yX3_init 1 := by decide +kernel
set_option maxHeartbeats 4000000 in
set_option maxRecDepth 100000 in
theorem tX3_init (l : Launch) (D : va_G) (d : AC) (a : Nat) (x1 : Int32) (NN : Nat) (G : Pic) {Q : Pic → Prop} (hg : G a = some (.inr (tci 2, [.int 0, .null]))) (h0 : ¬ x1 < 0) (hN : x1.toNatClampNeg ≤ NN) (hNN : NN ≤ 300) (hq : ∀ (c : Nat) (G1 : Pic), G c = none → (∀ (b : Nat) (e : va_E), b ≠ a → G b = some e → G1 b = some e) → G1 a = some (.inr (tci 2, [.int x1, .ref c])) → G1 c = some (arrE d 2 x1.toNatClampNeg (fun _ => 0)) → Q G1) : MT D d (ΩG D) l yX3_init (WS yX3_init cX3_init 2 none) (rmX3_init NN) [.ref a, .int x1] G (qV Q) := by
  refine mt_of (ΩG.mono D) (by decide +kernel) (Nat.le_of_ble_eq_true rfl) (fun p e s m below meth c A ls hx hb hr hml hown hts hlocks hnm hK hA hw hS hl => ?_)
  have hl : lv_has ls 2 [(0, .ref a), (1, .int x1)] := hl
  have hown : s.vm.findClass RX3 = some m.cls := hown
  refine lv_aload_n hx hb dX3_init_0 rfl (lv_at hl 0 rfl) ?_
  refine lv_iload_n hx hb dX3_init_1 rfl (lv_at hl 1 rfl) ?_
  refine mt_callI (index := 1) hx hb hml hown hts hK (ΩG.mono D) hA hw hS hl.1 (tX7_init l D d a 2 x1 G (Q := fun u => u = pset G a (.inr (tci 2, [.int x1, .null]))) (by decide) hg rfl) q_127 q_35 q_156 q_126 rfl nmhX7_init ⟨⟨(Nat.le_of_ble_eq_true rfl), (Nat.le_of_ble_eq_true rfl)⟩, ⟨(Nat.le_of_ble_eq_true rfl), Nat.zero_le _⟩⟩ rfl (Nat.le_of_ble_eq_true rfl) dX3_init_2 (fun _ u H locs hu hw hS => ?_)
  obtain ⟨rfl, rfl⟩ := hu
  refine W.eq (g2 := F0 m 5 ls []) rfl ?_
  refine lv_aload_n hx hb dX3_init_5 rfl (lv_at hl 0 rfl) ?_
  refine lv_iload_n hx hb dX3_init_6 rfl (lv_at hl 1 rfl) ?_
  refine g_newa (atype := .short) (a0 := (x1.toNatClampNeg, .inl (fun _ => 0))) (ty := .short) (cA := d 2) hx hb (hts _ q_162) rfl hK hw hS hA 2 rfl (fun _ => rfl) h0 rfl (Nat.le_trans (Nat.mul_le_mul_right _ (Nat.le_trans hN hNN)) (by decide)) (Nat.le_of_ble_eq_true rfl) (by show 0 + 0 + _ ≤ NN; omega) dX3_init_7 (fun q H hqn hw hS => ?_)
  have hqa : q ≠ a := fun h => by rw [h, pset_self] at hqn; cases hqn
  have hg2 : pset (pset G a (.inr (tci 2, [.int x1, .null]))) q (.inl (d 2, (x1.toNatClampNeg, .inl (fun _ => 0)))) a = some (.inr (tci 2, [.int x1, .null])) := by rw [pset_ne (Ne.symm hqa), pset_self]
  refine g_putF (ci := tci 2) (C := RX3) (T := TX3) (N := 2) hx hb hts inX3 tyX3 tyX3_ok nmX3 hown hK hw hS hg2 rfl 1 (by decide) (hts _ q_157) (fun _ h9 => h9) rfl hnm rfl (ty := .array .short) (v := .ref q) (by decide +kernel) rfl rfl (Nat.le_of_ble_eq_true rfl) dX3_init_9 (fun H locs hw hS => ?_)
  refine mt_retv hx hb hr hlocks hw hS (Nat.le_of_ble_eq_true rfl) (by show 0 + 0 + _ ≤ NN; omega) dX3_init_12 ⟨rfl, hq q _ ?_ ?_ ?_ ?_⟩
  · rw [← hqn, pset_ne hqa]
  · intro b e hb he
    have hbq : b ≠ q := fun h => by rw [h, ← pset_ne (G := G) (e := .inr (tci 2, [.int x1, .null])) hqa, hqn] at he; cases he
    rw [pset_ne hb, pset_ne hbq, pset_ne hb]; exact he
  · exact pset_self
  · rw [pset_ne hqa, pset_self]; rfl
abbrev rmX4_init (NN : Nat) : Room := { frames := 2, cells := 1, slots := NN, locals := 41 }
theorem nmhX4_init : NoMH yX4_init 1 := by decide +kernel
set_option maxHeartbeats 4000000 in
set_option maxRecDepth 100000 in
theorem tX4_init (l : Launch) (D : va_G) (d : AC) (a : Nat) (x1 : Int32) (NN : Nat) (G : Pic) {Q : Pic → Prop} (hg : G a = some (.inr (tci 3, [.int 0, .null]))) (h0 : ¬ x1 < 0) (hN : x1.toNatClampNeg ≤ NN) (hNN : NN ≤ 300) (hq : ∀ (c : Nat) (G1 : Pic), G c = none → (∀ (b : Nat) (e : va_E), b ≠ a → G b = some e → G1 b = some e) → G1 a = some (.inr (tci 3, [.int x1, .ref c])) → G1 c = some (arrE d 3 x1.toNatClampNeg (fun _ => 0)) → Q G1) : MT D d (ΩG D) l yX4_init (WS yX4_init cX4_init 2 none) (rmX4_init NN) [.ref a, .int x1] G (qV Q) := by
  refine mt_of (ΩG.mono D) (by decide +kernel) (Nat.le_of_ble_eq_true rfl) (fun p e s m below meth c A ls hx hb hr hml hown hts hlocks hnm hK hA hw hS hl => ?_)
  have hl : lv_has ls 2 [(0, .ref a), (1, .int x1)] := hl
  have hown : s.vm.findClass RX4 = some m.cls := hown
  refine lv_aload_n hx hb dX4_init_0 rfl (lv_at hl 0 rfl) ?_
  refine lv_iload_n hx hb dX4_init_1 rfl (lv_at hl 1 rfl) ?_
  refine mt_callI (index := 3) hx hb hml hown hts hK (ΩG.mono D) hA hw hS hl.1 (tX7_init l D d a 3 x1 G (Q := fun u => u = pset G a (.inr (tci 3, [.int x1, .null]))) (by decide) hg rfl) q_127 q_35 q_168 q_126 rfl nmhX7_init ⟨⟨(Nat.le_of_ble_eq_true rfl), (Nat.le_of_ble_eq_true rfl)⟩, ⟨(Nat.le_of_ble_eq_true rfl), Nat.zero_le _⟩⟩ rfl (Nat.le_of_ble_eq_true rfl) dX4_init_2 (fun _ u H locs hu hw hS => ?_)
  obtain ⟨rfl, rfl⟩ := hu
  refine W.eq (g2 := F0 m 5 ls []) rfl ?_
  refine lv_aload_n hx hb dX4_init_5 rfl (lv_at hl 0 rfl) ?_
  refine lv_iload_n hx hb dX4_init_6 rfl (lv_at hl 1 rfl) ?_
  refine g_newa (atype := .float) (a0 := (x1.toNatClampNeg, .inr (.inr (.inl (fun _ => (0 : Int32).toUInt32))))) (ty := .float) (cA := d 3) hx hb (hts _ q_174) rfl hK hw hS hA 3 rfl (fun _ => rfl) h0 rfl (Nat.le_trans (Nat.mul_le_mul_right _ (Nat.le_trans hN hNN)) (by decide)) (Nat.le_of_ble_eq_true rfl) (by show 0 + 0 + _ ≤ NN; omega) dX4_init_7 (fun q H hqn hw hS => ?_)
  have hqa : q ≠ a := fun h => by rw [h, pset_self] at hqn; cases hqn
  have hg2 : pset (pset G a (.inr (tci 3, [.int x1, .null]))) q (.inl (d 3, (x1.toNatClampNeg, .inr (.inr (.inl (fun _ => (0 : Int32).toUInt32)))))) a = some (.inr (tci 3, [.int x1, .null])) := by rw [pset_ne (Ne.symm hqa), pset_self]
  refine g_putF (ci := tci 3) (C := RX4) (T := TX4) (N := 2) hx hb hts inX4 tyX4 tyX4_ok nmX4 hown hK hw hS hg2 rfl 1 (by decide) (hts _ q_169) (fun _ h9 => h9) rfl hnm rfl (ty := .array .float) (v := .ref q) (by decide +kernel) rfl rfl (Nat.le_of_ble_eq_true rfl) dX4_init_9 (fun H locs hw hS => ?_)
  refine mt_retv hx hb hr hlocks hw hS (Nat.le_of_ble_eq_true rfl) (by show 0 + 0 + _ ≤ NN; omega) dX4_init_12 ⟨rfl, hq q _ ?_ ?_ ?_ ?_⟩
  · rw [← hqn, pset_ne hqa]
  · intro b e hb he
    have hbq : b ≠ q := fun h => by rw [h, ← pset_ne (G := G) (e := .inr (tci 3, [.int x1, .null])) hqa, hqn] at he; cases he
    rw [pset_ne hb, pset_ne hbq, pset_ne hb]; exact he
  · exact pset_self
  · rw [pset_ne hqa, pset_self]; rfl
abbrev rmX0_init (NN : Nat) : Room := { frames := 2, cells := 1, slots := NN, locals := 41 }
theorem nmhX0_init : NoMH yX0_init 1 := by decide +kernel
set_option maxHeartbeats 4000000 in
set_option maxRecDepth 100000 in
theorem tX0_init (l : Launch) (D : va_G) (d : AC) (a : Nat) (x1 : Int32) (NN : Nat) (G : Pic) {Q : Pic → Prop} (hg : G a = some (.inr (tci 4, [.int 0, .null]))) (h0 : ¬ x1 < 0) (hN : x1.toNatClampNeg ≤ NN) (hNN : NN ≤ 300) (hq : ∀ (c : Nat) (G1 : Pic), G c = none → (∀ (b : Nat) (e : va_E), b ≠ a → G b = some e → G1 b = some e) → G1 a = some (.inr (tci 4, [.int x1, .ref c])) → G1 c = some (arrE d 4 x1.toNatClampNeg (fun _ => 0)) → Q G1) : MT D d (ΩG D) l yX0_init (WS yX0_init cX0_init 2 none) (rmX0_init NN) [.ref a, .int x1] G (qV Q) := by
  refine mt_of (ΩG.mono D) (by decide +kernel) (Nat.le_of_ble_eq_true rfl) (fun p e s m below meth c A ls hx hb hr hml hown hts hlocks hnm hK hA hw hS hl => ?_)
  have hl : lv_has ls 2 [(0, .ref a), (1, .int x1)] := hl
  have hown : s.vm.findClass RX0 = some m.cls := hown
  refine lv_aload_n hx hb dX0_init_0 rfl (lv_at hl 0 rfl) ?_
  refine lv_iload_n hx hb dX0_init_1 rfl (lv_at hl 1 rfl) ?_
  refine mt_callI (index := 1) hx hb hml hown hts hK (ΩG.mono D) hA hw hS hl.1 (tX7_init l D d a 4 x1 G (Q := fun u => u = pset G a (.inr (tci 4, [.int x1, .null]))) (by decide) hg rfl) q_127 q_35 q_180 q_126 rfl nmhX7_init ⟨⟨(Nat.le_of_ble_eq_true rfl), (Nat.le_of_ble_eq_true rfl)⟩, ⟨(Nat.le_of_ble_eq_true rfl), Nat.zero_le _⟩⟩ rfl (Nat.le_of_ble_eq_true rfl) dX0_init_2 (fun _ u H locs hu hw hS => ?_)
  obtain ⟨rfl, rfl⟩ := hu
  refine W.eq (g2 := F0 m 5 ls []) rfl ?_
  refine lv_aload_n hx hb dX0_init_5 rfl (lv_at hl 0 rfl) ?_
  refine lv_iload_n hx hb dX0_init_6 rfl (lv_at hl 1 rfl) ?_
  refine g_newa (atype := .byte) (a0 := (x1.toNatClampNeg, .inl (fun _ => 0))) (ty := .byte) (cA := d 4) hx hb (hts _ q_186) rfl hK hw hS hA 4 rfl (fun _ => rfl) h0 rfl (Nat.le_trans (Nat.mul_le_mul_right _ (Nat.le_trans hN hNN)) (by decide)) (Nat.le_of_ble_eq_true rfl) (by show 0 + 0 + _ ≤ NN; omega) dX0_init_7 (fun q H hqn hw hS => ?_)
  have hqa : q ≠ a := fun h => by rw [h, pset_self] at hqn; cases hqn
  have hg2 : pset (pset G a (.inr (tci 4, [.int x1, .null]))) q (.inl (d 4, (x1.toNatClampNeg, .inl (fun _ => 0)))) a = some (.inr (tci 4, [.int x1, .null])) := by rw [pset_ne (Ne.symm hqa), pset_self]
  refine g_putF (ci := tci 4) (C := RX0) (T := TX0) (N := 2) hx hb hts inX0 tyX0 tyX0_ok nmX0 hown hK hw hS hg2 rfl 1 (by decide) (hts _ q_181) (fun _ h9 => h9) rfl hnm rfl (ty := .array .byte) (v := .ref q) (by decide +kernel) rfl rfl (Nat.le_of_ble_eq_true rfl) dX0_init_9 (fun H locs hw hS => ?_)
  refine mt_retv hx hb hr hlocks hw hS (Nat.le_of_ble_eq_true rfl) (by show 0 + 0 + _ ≤ NN; omega) dX0_init_12 ⟨rfl, hq q _ ?_ ?_ ?_ ?_⟩
  · rw [← hqn, pset_ne hqa]
  · intro b e hb he
    have hbq : b ≠ q := fun h => by rw [h, ← pset_ne (G := G) (e := .inr (tci 4, [.int x1, .null])) hqa, hqn] at he; cases he
    rw [pset_ne hb, pset_ne hbq, pset_ne hb]; exact he
  · exact pset_self
  · rw [pset_ne hqa, pset_self]; rfl
abbrev rmX8_newTrack (NN : Nat) : Room := { frames := 3, cells := 2, slots := 2 + NN, locals := 62 }
theorem nmhX8_newTrack : NoMH yX8_newTrack 2 := by decide +kernel
theorem sw4 (x : Int32) : (x.toInt < 0 ∨ 3 < x.toInt) ∨ x.toInt = 0 ∨ x.toInt = 1 ∨ x.toInt = 2 ∨ x.toInt = 3 := by omega
/-- which kind a number makes -/
def kOf (x : Int32) : Nat := if x.toInt = 0 then 0 else if x.toInt = 1 then 1 else if x.toInt = 2 then 2 else if x.toInt = 3 then 3 else 4
def wX8_newTrack (x0 x1 : Int32) (NN : Nat) (σ : CS) (Q : Option Nat → CS → Prop) : Prop := ¬ x1 < 0 ∧ x1.toNatClampNeg ≤ NN ∧ NN ≤ 300 ∧ ∀ a c : Nat, sTk σ a = none → Q (some a) (pTk σ a (kOf x0, x1.toNatClampNeg, c, fun _ => 0))
theorem nI_back {x : Int32} (h : ¬ x < 0) : nI x.toNatClampNeg = x := by
  obtain ⟨j, hj, rfl⟩ := nI_of h
  rw [nI_clamp hj]
set_option maxHeartbeats 4000000 in
set_option maxRecDepth 100000 in
theorem tX8_newTrack (l : Launch) (D : va_G) (d : AC) (cp : CP) (x0 x1 : Int32) (NN : Nat) (σ : CS) {Q : Option Nat → CS → Prop} (hq : wX8_newTrack x0 x1 NN σ Q) : MT D d (ΩC D d cp) l yX8_newTrack (WS yX8_newTrack cX8_newTrack 2 (some (.object "MusicBoxes$Track"))) (rmX8_newTrack NN) [.int x0, .int x1] σ (qA Q) := by
  refine mt_of (ΩC.mono D d cp) (by decide +kernel) (Nat.le_of_ble_eq_true rfl) (fun p e s m below meth c A ls hx hb hr hml hown hts hlocks hnm hK hA hw hS hl => ?_)
  have hl : lv_has ls 2 [(0, .int x0), (1, .int x1)] := hl
  have hown : s.vm.findClass RX8 = some m.cls := hown
  obtain ⟨h0, hN, hNN, hq⟩ := hq
  obtain ⟨G, hG, hR⟩ := hw
  refine lv_iload_n hx hb dX8_newTrack_0 rfl (lv_at hl 0 rfl) ?_
  rcases sw4 x0 with hc | hc | hc | hc | hc
  · have hkd : kOf x0 = 4 := by unfold kOf; repeat (first | rw [if_neg (by omega)])
    refine lv_tableOut (tgt := 68) hx hb dX8_newTrack_1 hc (by decide) ?_
    refine g_new (ci := tci 4) (fs := [.int 0, .null]) (C := RX0) (T := TX0) (N := 2) hx hb hts inX0 tyX0 tyX0_ok hown (hts _ q_175) (hts _ q_176) (hts _ q_40) hK hG hS hA rfl (fun j hj => by rcases (show j = 0 ∨ j = 1 by omega) with rfl | rfl <;> rfl) (by show 0 + 1 ≤ 2; omega) (by show 0 + 2 ≤ 2 + NN; omega) dX8_newTrack_68 (fun q H hqn hG1 hS => ?_)
    refine lv_dup hx hb dX8_newTrack_71 rfl ?_
    refine lv_iload_n hx hb dX8_newTrack_72 rfl (lv_at hl 1 rfl) ?_
    refine mt_callI (index := 145) hx hb hml hown hts hK (ΩG.mono D) hA hG1 hS hl.1 (tX0_init l D d q x1 NN _ (Q := fun G1 => ∃ c : Nat, G c = none ∧ (∀ (b : Nat) (e : va_E), G b = some e → G1 b = some e) ∧ G1 q = some (trackE 4 x1.toNatClampNeg c) ∧ G1 c = some (arrE d 4 x1.toNatClampNeg (fun _ => 0))) pset_self h0 hN hNN (fun c G1 e1 e2 e3 e4 => ?_)) q_179 q_40 q_177 q_178 rfl nmhX0_init ⟨⟨(Nat.le_of_ble_eq_true rfl), (Nat.le_of_ble_eq_true rfl)⟩, ⟨(Nat.le_of_ble_eq_true rfl), by show 0 + 2 + NN ≤ 2 + NN; omega⟩⟩ rfl (Nat.le_of_ble_eq_true rfl) dX8_newTrack_73 (fun _ u H locs hu hG2 hS => ?_)
    · have hcq : c ≠ q := fun h => by rw [h, pset_self] at e1; cases e1
      refine ⟨c, by rw [← e1, pset_ne hcq], fun b e he => e2 b e (fun h => by rw [h, hqn] at he; cases he) (by rw [pset_ne (fun h => by rw [h, hqn] at he; cases he)]; exact he), ?_, e4⟩
      rw [e3]; show some (Sum.inr (tci 4, [Value.int x1, Value.ref c])) = some (Sum.inr (tci 4, [Value.int (nI x1.toNatClampNeg), Value.ref c])); rw [nI_back h0]
    · obtain ⟨rfl, c1, e1, e2, e3, e4⟩ := hu
      obtain ⟨hn, hR2⟩ := hR.newTk e2 (by decide) hqn e1 e3 e4
      refine W.eq (g2 := F0 m 76 ls [va_rf (some q)]) rfl ?_
      refine mt_reta (o := some q) hx hb hr hlocks (Ω := ΩC D d cp) ⟨u, hG2, hR2⟩ hS (by show 0 + 1 + 1 ≤ 2; omega) (by show 0 + 2 + NN ≤ 2 + NN; omega) dX8_newTrack_76 ⟨_, rfl, ?_⟩
      have := hq q c1 hn
      rw [hkd] at this
      exact this
  · have hkd : kOf x0 = 0 := by unfold kOf; repeat (first | rw [if_pos hc] | rw [if_neg (by omega)])
    refine lv_tableIn (tgt := 32) hx hb dX8_newTrack_1 (by rw [hc]; decide) (by rw [hc]; decide) (by rw [hc]; rfl) (by decide) ?_
    refine g_new (ci := tci 0) (fs := [.int 0, .null]) (C := RX5) (T := TX5) (N := 2) hx hb hts inX5 tyX5 tyX5_ok hown (hts _ q_120) (hts _ q_121) (hts _ q_36) hK hG hS hA rfl (fun j hj => by rcases (show j = 0 ∨ j = 1 by omega) with rfl | rfl <;> rfl) (by show 0 + 1 ≤ 2; omega) (by show 0 + 2 ≤ 2 + NN; omega) dX8_newTrack_32 (fun q H hqn hG1 hS => ?_)
    refine lv_dup hx hb dX8_newTrack_35 rfl ?_
    refine lv_iload_n hx hb dX8_newTrack_36 rfl (lv_at hl 1 rfl) ?_
    refine mt_callI (index := 131) hx hb hml hown hts hK (ΩG.mono D) hA hG1 hS hl.1 (tX5_init l D d q x1 NN _ (Q := fun G1 => ∃ c : Nat, G c = none ∧ (∀ (b : Nat) (e : va_E), G b = some e → G1 b = some e) ∧ G1 q = some (trackE 0 x1.toNatClampNeg c) ∧ G1 c = some (arrE d 0 x1.toNatClampNeg (fun _ => 0))) pset_self h0 hN hNN (fun c G1 e1 e2 e3 e4 => ?_)) q_124 q_36 q_122 q_123 rfl nmhX5_init ⟨⟨(Nat.le_of_ble_eq_true rfl), (Nat.le_of_ble_eq_true rfl)⟩, ⟨(Nat.le_of_ble_eq_true rfl), by show 0 + 2 + NN ≤ 2 + NN; omega⟩⟩ rfl (Nat.le_of_ble_eq_true rfl) dX8_newTrack_37 (fun _ u H locs hu hG2 hS => ?_)
    · have hcq : c ≠ q := fun h => by rw [h, pset_self] at e1; cases e1
      refine ⟨c, by rw [← e1, pset_ne hcq], fun b e he => e2 b e (fun h => by rw [h, hqn] at he; cases he) (by rw [pset_ne (fun h => by rw [h, hqn] at he; cases he)]; exact he), ?_, e4⟩
      rw [e3]; show some (Sum.inr (tci 0, [Value.int x1, Value.ref c])) = some (Sum.inr (tci 0, [Value.int (nI x1.toNatClampNeg), Value.ref c])); rw [nI_back h0]
    · obtain ⟨rfl, c1, e1, e2, e3, e4⟩ := hu
      obtain ⟨hn, hR2⟩ := hR.newTk e2 (by decide) hqn e1 e3 e4
      refine W.eq (g2 := F0 m 40 ls [va_rf (some q)]) rfl ?_
      refine mt_reta (o := some q) hx hb hr hlocks (Ω := ΩC D d cp) ⟨u, hG2, hR2⟩ hS (by show 0 + 1 + 1 ≤ 2; omega) (by show 0 + 2 + NN ≤ 2 + NN; omega) dX8_newTrack_40 ⟨_, rfl, ?_⟩
      have := hq q c1 hn
      rw [hkd] at this
      exact this
  · have hkd : kOf x0 = 1 := by unfold kOf; repeat (first | rw [if_pos hc] | rw [if_neg (by omega)])
    refine lv_tableIn (tgt := 41) hx hb dX8_newTrack_1 (by rw [hc]; decide) (by rw [hc]; decide) (by rw [hc]; rfl) (by decide) ?_
    refine g_new (ci := tci 1) (fs := [.int 0, .null]) (C := RX6) (T := TX6) (N := 2) hx hb hts inX6 tyX6 tyX6_ok hown (hts _ q_139) (hts _ q_140) (hts _ q_37) hK hG hS hA rfl (fun j hj => by rcases (show j = 0 ∨ j = 1 by omega) with rfl | rfl <;> rfl) (by show 0 + 1 ≤ 2; omega) (by show 0 + 2 ≤ 2 + NN; omega) dX8_newTrack_41 (fun q H hqn hG1 hS => ?_)
    refine lv_dup hx hb dX8_newTrack_44 rfl ?_
    refine lv_iload_n hx hb dX8_newTrack_45 rfl (lv_at hl 1 rfl) ?_
    refine mt_callI (index := 136) hx hb hml hown hts hK (ΩG.mono D) hA hG1 hS hl.1 (tX6_init l D d q x1 NN _ (Q := fun G1 => ∃ c : Nat, G c = none ∧ (∀ (b : Nat) (e : va_E), G b = some e → G1 b = some e) ∧ G1 q = some (trackE 1 x1.toNatClampNeg c) ∧ G1 c = some (arrE d 1 x1.toNatClampNeg (fun _ => 0))) pset_self h0 hN hNN (fun c G1 e1 e2 e3 e4 => ?_)) q_143 q_37 q_141 q_142 rfl nmhX6_init ⟨⟨(Nat.le_of_ble_eq_true rfl), (Nat.le_of_ble_eq_true rfl)⟩, ⟨(Nat.le_of_ble_eq_true rfl), by show 0 + 2 + NN ≤ 2 + NN; omega⟩⟩ rfl (Nat.le_of_ble_eq_true rfl) dX8_newTrack_46 (fun _ u H locs hu hG2 hS => ?_)
    · have hcq : c ≠ q := fun h => by rw [h, pset_self] at e1; cases e1
      refine ⟨c, by rw [← e1, pset_ne hcq], fun b e he => e2 b e (fun h => by rw [h, hqn] at he; cases he) (by rw [pset_ne (fun h => by rw [h, hqn] at he; cases he)]; exact he), ?_, e4⟩
      rw [e3]; show some (Sum.inr (tci 1, [Value.int x1, Value.ref c])) = some (Sum.inr (tci 1, [Value.int (nI x1.toNatClampNeg), Value.ref c])); rw [nI_back h0]
    · obtain ⟨rfl, c1, e1, e2, e3, e4⟩ := hu
      obtain ⟨hn, hR2⟩ := hR.newTk e2 (by decide) hqn e1 e3 e4
      refine W.eq (g2 := F0 m 49 ls [va_rf (some q)]) rfl ?_
      refine mt_reta (o := some q) hx hb hr hlocks (Ω := ΩC D d cp) ⟨u, hG2, hR2⟩ hS (by show 0 + 1 + 1 ≤ 2; omega) (by show 0 + 2 + NN ≤ 2 + NN; omega) dX8_newTrack_49 ⟨_, rfl, ?_⟩
      have := hq q c1 hn
      rw [hkd] at this
      exact this
  · have hkd : kOf x0 = 2 := by unfold kOf; repeat (first | rw [if_pos hc] | rw [if_neg (by omega)])
    refine lv_tableIn (tgt := 50) hx hb dX8_newTrack_1 (by rw [hc]; decide) (by rw [hc]; decide) (by rw [hc]; rfl) (by decide) ?_
    refine g_new (ci := tci 2) (fs := [.int 0, .null]) (C := RX3) (T := TX3) (N := 2) hx hb hts inX3 tyX3 tyX3_ok hown (hts _ q_151) (hts _ q_152) (hts _ q_38) hK hG hS hA rfl (fun j hj => by rcases (show j = 0 ∨ j = 1 by omega) with rfl | rfl <;> rfl) (by show 0 + 1 ≤ 2; omega) (by show 0 + 2 ≤ 2 + NN; omega) dX8_newTrack_50 (fun q H hqn hG1 hS => ?_)
    refine lv_dup hx hb dX8_newTrack_53 rfl ?_
    refine lv_iload_n hx hb dX8_newTrack_54 rfl (lv_at hl 1 rfl) ?_
    refine mt_callI (index := 139) hx hb hml hown hts hK (ΩG.mono D) hA hG1 hS hl.1 (tX3_init l D d q x1 NN _ (Q := fun G1 => ∃ c : Nat, G c = none ∧ (∀ (b : Nat) (e : va_E), G b = some e → G1 b = some e) ∧ G1 q = some (trackE 2 x1.toNatClampNeg c) ∧ G1 c = some (arrE d 2 x1.toNatClampNeg (fun _ => 0))) pset_self h0 hN hNN (fun c G1 e1 e2 e3 e4 => ?_)) q_155 q_38 q_153 q_154 rfl nmhX3_init ⟨⟨(Nat.le_of_ble_eq_true rfl), (Nat.le_of_ble_eq_true rfl)⟩, ⟨(Nat.le_of_ble_eq_true rfl), by show 0 + 2 + NN ≤ 2 + NN; omega⟩⟩ rfl (Nat.le_of_ble_eq_true rfl) dX8_newTrack_55 (fun _ u H locs hu hG2 hS => ?_)
    · have hcq : c ≠ q := fun h => by rw [h, pset_self] at e1; cases e1
      refine ⟨c, by rw [← e1, pset_ne hcq], fun b e he => e2 b e (fun h => by rw [h, hqn] at he; cases he) (by rw [pset_ne (fun h => by rw [h, hqn] at he; cases he)]; exact he), ?_, e4⟩
      rw [e3]; show some (Sum.inr (tci 2, [Value.int x1, Value.ref c])) = some (Sum.inr (tci 2, [Value.int (nI x1.toNatClampNeg), Value.ref c])); rw [nI_back h0]
    · obtain ⟨rfl, c1, e1, e2, e3, e4⟩ := hu
      obtain ⟨hn, hR2⟩ := hR.newTk e2 (by decide) hqn e1 e3 e4
      refine W.eq (g2 := F0 m 58 ls [va_rf (some q)]) rfl ?_
      refine mt_reta (o := some q) hx hb hr hlocks (Ω := ΩC D d cp) ⟨u, hG2, hR2⟩ hS (by show 0 + 1 + 1 ≤ 2; omega) (by show 0 + 2 + NN ≤ 2 + NN; omega) dX8_newTrack_58 ⟨_, rfl, ?_⟩
      have := hq q c1 hn
      rw [hkd] at this
      exact this
  · have hkd : kOf x0 = 3 := by unfold kOf; repeat (first | rw [if_pos hc] | rw [if_neg (by omega)])
    refine lv_tableIn (tgt := 59) hx hb dX8_newTrack_1 (by rw [hc]; decide) (by rw [hc]; decide) (by rw [hc]; rfl) (by decide) ?_
    refine g_new (ci := tci 3) (fs := [.int 0, .null]) (C := RX4) (T := TX4) (N := 2) hx hb hts inX4 tyX4 tyX4_ok hown (hts _ q_163) (hts _ q_164) (hts _ q_39) hK hG hS hA rfl (fun j hj => by rcases (show j = 0 ∨ j = 1 by omega) with rfl | rfl <;> rfl) (by show 0 + 1 ≤ 2; omega) (by show 0 + 2 ≤ 2 + NN; omega) dX8_newTrack_59 (fun q H hqn hG1 hS => ?_)
    refine lv_dup hx hb dX8_newTrack_62 rfl ?_
    refine lv_iload_n hx hb dX8_newTrack_63 rfl (lv_at hl 1 rfl) ?_
    refine mt_callI (index := 142) hx hb hml hown hts hK (ΩG.mono D) hA hG1 hS hl.1 (tX4_init l D d q x1 NN _ (Q := fun G1 => ∃ c : Nat, G c = none ∧ (∀ (b : Nat) (e : va_E), G b = some e → G1 b = some e) ∧ G1 q = some (trackE 3 x1.toNatClampNeg c) ∧ G1 c = some (arrE d 3 x1.toNatClampNeg (fun _ => 0))) pset_self h0 hN hNN (fun c G1 e1 e2 e3 e4 => ?_)) q_167 q_39 q_165 q_166 rfl nmhX4_init ⟨⟨(Nat.le_of_ble_eq_true rfl), (Nat.le_of_ble_eq_true rfl)⟩, ⟨(Nat.le_of_ble_eq_true rfl), by show 0 + 2 + NN ≤ 2 + NN; omega⟩⟩ rfl (Nat.le_of_ble_eq_true rfl) dX8_newTrack_64 (fun _ u H locs hu hG2 hS => ?_)
    · have hcq : c ≠ q := fun h => by rw [h, pset_self] at e1; cases e1
      refine ⟨c, by rw [← e1, pset_ne hcq], fun b e he => e2 b e (fun h => by rw [h, hqn] at he; cases he) (by rw [pset_ne (fun h => by rw [h, hqn] at he; cases he)]; exact he), ?_, e4⟩
      rw [e3]; show some (Sum.inr (tci 3, [Value.int x1, Value.ref c])) = some (Sum.inr (tci 3, [Value.int (nI x1.toNatClampNeg), Value.ref c])); rw [nI_back h0]
    · obtain ⟨rfl, c1, e1, e2, e3, e4⟩ := hu
      obtain ⟨hn, hR2⟩ := hR.newTk e2 (by decide) hqn e1 e3 e4
      refine W.eq (g2 := F0 m 67 ls [va_rf (some q)]) rfl ?_
      refine mt_reta (o := some q) hx hb hr hlocks (Ω := ΩC D d cp) ⟨u, hG2, hR2⟩ hS (by show 0 + 1 + 1 ≤ 2; omega) (by show 0 + 2 + NN ≤ 2 + NN; omega) dX8_newTrack_67 ⟨_, rfl, ?_⟩
      have := hq q c1 hn
      rw [hkd] at this
      exact this
abbrev rmX1_init : Room := { frames := 1, cells := 1, slots := 40, locals := 20 }
theorem nmhX1_init : NoMH yX1_init 2 := by decide +kernel
set_option maxHeartbeats 4000000 in
set_option maxRecDepth 100000 in
theorem tX1_init (l : Launch) (D : va_G) (d : AC) (a : Nat) (x1 x2 : Int32) (G : Pic) {Q : Pic → Prop} (hg : G a = some (.inr (1, [.int 0, .null]))) (h0 : ¬ x2 < 0) (hN : x2.toNatClampNeg ≤ 40) (hq : ∀ (c : Nat) (G1 : Pic), G c = none → (∀ (b : Nat) (e : va_E), b ≠ a → G b = some e → G1 b = some e) → G1 a = some (combE x1 c) → G1 c = some (rrow (d 5) x2.toNatClampNeg (fun _ => none)) → Q G1) : MT D d (ΩG D) l yX1_init (WS yX1_init cX1_init 3 none) rmX1_init [.ref a, .int x1, .int x2] G (qV Q) := by
  refine mt_of (ΩG.mono D) (by decide +kernel) (Nat.le_of_ble_eq_true rfl) (fun p e s m below meth c A ls hx hb hr hml hown hts hlocks hnm hK hA hw hS hl => ?_)
  have hl : lv_has ls 3 [(0, .ref a), (1, .int x1), (2, .int x2)] := hl
  have hown : s.vm.findClass RX1 = some m.cls := hown
  refine lv_aload_n hx hb dX1_init_0 rfl (lv_at hl 0 rfl) ?_
  refine W.objInit hx hb hown (hts _ q_383) (hts _ q_49) (hts _ q_50) rfl (by rw [hml]; exact hl.1) rfl dX1_init_1 (Nat.le_of_ble_eq_true rfl) (Nat.le_of_ble_eq_true rfl) ?_
  refine W.eq (g2 := F0 m 4 ls []) rfl ?_
  refine lv_aload_n hx hb dX1_init_4 rfl (lv_at hl 0 rfl) ?_
  refine lv_iload_n hx hb dX1_init_5 rfl (lv_at hl 1 rfl) ?_
  refine g_putF (ci := 1) (C := RX1) (T := TX1) (N := 2) hx hb hts inX1 tyX1 tyX1_ok nmX1 hown hK hw hS hg rfl 0 (by decide) (hts _ q_385) (fun _ h9 => h9) rfl hnm rfl (ty := .int) (by decide +kernel) rfl rfl (Nat.le_of_ble_eq_true rfl) dX1_init_6 (fun H locs hw hS => ?_)
  refine lv_aload_n hx hb dX1_init_9 rfl (lv_at hl 0 rfl) ?_
  refine lv_iload_n hx hb dX1_init_10 rfl (lv_at hl 2 rfl) ?_
  refine g_newq (cA := d 5) hx hb hown (hts _ q_384) hK.2.1.1 hK hw hS hA 5 rfl h0 rfl (by omega) (Nat.le_of_ble_eq_true rfl) (by show 0 + _ ≤ 40; omega) dX1_init_11 (fun q H hqn hw hS => ?_)
  have hqa : q ≠ a := fun h => by rw [h, pset_self] at hqn; cases hqn
  have hg2 : pset (pset G a (.inr (1, [.int x1, .null]))) q (rrow (d 5) x2.toNatClampNeg (fun _ => none)) a = some (.inr (1, [.int x1, .null])) := by rw [pset_ne (Ne.symm hqa), pset_self]
  refine g_putF (ci := 1) (C := RX1) (T := TX1) (N := 2) hx hb hts inX1 tyX1 tyX1_ok nmX1 hown hK hw hS hg2 rfl 1 (by decide) (hts _ q_387) (fun _ h9 => h9) rfl hnm rfl (ty := .array (.object "MusicBoxes$Track")) (v := .ref q) (by decide +kernel) rfl rfl (Nat.le_of_ble_eq_true rfl) dX1_init_14 (fun H locs hw hS => ?_)
  refine mt_retv hx hb hr hlocks hw hS (Nat.le_of_ble_eq_true rfl) (by show 0 + _ ≤ 40; omega) dX1_init_17 ⟨rfl, hq q _ ?_ ?_ ?_ ?_⟩
  · rw [← hqn]; exact (pset_ne hqa).symm
  · intro b e hb he
    have hbq : b ≠ q := fun h => by rw [h] at he; have h2 : pset G a (.inr (1, [.int x1, .null])) q = some e := by rw [pset_ne hqa]; exact he
                                    have h3 := hqn.symm.trans h2
                                    cases h3
    rw [pset_ne hb, pset_ne hbq]; show pset G a _ b = some e; rw [pset_ne hb]; exact he
  · exact pset_self
  · rw [pset_ne hqa, pset_self]
section NEWCOMB
variable {p : Program} {l : Launch} {e : Env} {R : Room} {s : State} {m : MethodId} {args : Array Value} {below : List Frame} {meth : Method} {c : Code} {H : Heap} {locs : List Loc} {cells slots : Nat} {Qw : State → Prop} {ls : Array Slot} {D : va_G} {d : AC} {cp : CP} {A : Nat → Prop} {σ : CS}
set_option maxHeartbeats 4000000 in
set_option maxRecDepth 100000 in
theorem c_newComb {x2 x3 : Int32} (hx : p.tables.exec = Jvm.exec) (hb : c.code = cX8_comb) (hml : c.maxLocals = 7) (hown : s.vm.findClass RX8 = some m.cls) (hts : ∀ w ∈ lw_ok, w.before args s = true) (hK : KK D d s) (hA : ∀ q, s.heap.size ≤ q → A q) (hw : ΩC D d cp A σ H) (hS : va_S A s.heap H locs) (hlz : ls.size = 7) (h2 : ls[2]? = some (.val (.int x2))) (h3 : ls[3]? = some (.val (.int x3))) (h0 : ¬ x3 < 0) (hN : x3.toNatClampNeg ≤ 40) (hf1 : 2 ≤ R.frames) (hf2 : 42 ≤ R.locals) (hf3 : cells + 2 ≤ R.cells) (hf4 : slots + 42 ≤ R.slots)
    (kk : ∀ (b te : Nat) (H1 : Heap) (locs1 : List Loc), sCm σ b = none → ΩC D d cp A (pCm σ b (x2, x3.toNatClampNeg, te, fun _ => none)) H1 → va_S A s.heap H1 locs1 → W p l e R s m args below meth c H1 locs1 (cells + 2) (slots + 42) Qw (F0 m 55 ls [.ref b])) : W p l e R s m args below meth c H locs cells slots Qw (F0 m 46 ls []) := by
  obtain ⟨G, hG, hR⟩ := hw
  refine g_new (ci := 1) (fs := [.int 0, .null]) (C := RX1) (T := TX1) (N := 2) hx hb hts inX1 tyX1 tyX1_ok hown (hts _ q_88) (hts _ q_379) (hts _ q_42) hK hG hS hA rfl (fun j hj => by rcases (show j = 0 ∨ j = 1 by omega) with rfl | rfl <;> rfl) (by omega) (by omega) dX8_comb_46 (fun q H hqn hG1 hS => ?_)
  refine lv_dup hx hb dX8_comb_49 rfl ?_
  refine lv_iload_n hx hb dX8_comb_50 rfl h2 ?_
  refine lv_iload_n hx hb dX8_comb_51 rfl h3 ?_
  refine mt_callI (index := 90) hx hb hml hown hts hK (ΩG.mono D) hA hG1 hS hlz (tX1_init l D d q x2 x3 _ (Q := fun G1 => ∃ c : Nat, G c = none ∧ (∀ (b : Nat) (e : va_E), G b = some e → G1 b = some e) ∧ G1 q = some (combE x2 c) ∧ G1 c = some (rrow (d 5) x3.toNatClampNeg (fun _ => none))) pset_self h0 hN (fun c G1 e1 e2 e3 e4 => ?_)) q_382 q_42 q_380 q_381 rfl nmhX1_init ⟨⟨Nat.le_trans (Nat.le_of_ble_eq_true rfl) hf1, Nat.le_trans (Nat.le_of_ble_eq_true rfl) hf2⟩, ⟨by show cells + 1 + 1 ≤ R.cells; omega, by show slots + 2 + 40 ≤ R.slots; omega⟩⟩ rfl (Nat.le_of_ble_eq_true rfl) dX8_comb_52 (fun _ u H locs hu hG2 hS => ?_)
  · have hcq : c ≠ q := fun h => by rw [h, pset_self] at e1; cases e1
    exact ⟨c, by rw [← e1, pset_ne hcq], fun b e he => e2 b e (fun h => by rw [h, hqn] at he; cases he) (by rw [pset_ne (fun h => by rw [h, hqn] at he; cases he)]; exact he), e3, e4⟩
  · obtain ⟨rfl, c1, e1, e2, e3, e4⟩ := hu
    obtain ⟨hn, hR2⟩ := hR.newCm e2 hqn e1 e3 e4
    exact kk q c1 H locs hn ⟨u, hG2, hR2⟩ hS
end NEWCOMB
