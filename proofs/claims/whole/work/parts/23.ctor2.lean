abbrev rmX2_init : Room := { frames := 1, cells := 1, slots := 5, locals := 20 }
theorem nmhX2_init : NoMH yX2_init 0 := by decide +kernel
abbrev df0 : DF := (0, 0, 0, 0, 0, 0, 0)
set_option maxHeartbeats 4000000 in
set_option maxRecDepth 100000 in
theorem tX2_init (l : Launch) (D : va_G) (d : AC) (a : Nat) (G : Pic) {Q : Pic → Prop} (hg : G a = some (.inr (2, [.null, .int 0, .int 0, .int 0, .int 0, .long 0, .int 0, .float 0]))) (hq : ∀ (c : Nat) (G1 : Pic), G c = none → (∀ (b : Nat) (e : va_E), b ≠ a → G b = some e → G1 b = some e) → G1 a = some (drumE c df0) → G1 c = some (rrow (d 5) 5 (fun _ => none)) → Q G1) : MT D d (ΩG D) l yX2_init (WS yX2_init cX2_init 1 none) rmX2_init [.ref a] G (qV Q) := by
  refine mt_of (ΩG.mono D) (by decide +kernel) (Nat.le_of_ble_eq_true rfl) (fun p e s m below meth c A ls hx hb hr hml hown hts hlocks hnm hK hA hw hS hl => ?_)
  have hl : lv_has ls 1 [(0, .ref a)] := hl
  have hown : s.vm.findClass RX2 = some m.cls := hown
  refine lv_aload_n hx hb dX2_init_0 rfl (lv_at hl 0 rfl) ?_
  refine W.objInit hx hb hown (hts _ q_57) (hts _ q_49) (hts _ q_50) rfl (by rw [hml]; exact hl.1) rfl dX2_init_1 (Nat.le_of_ble_eq_true rfl) (Nat.le_of_ble_eq_true rfl) ?_
  refine W.eq (g2 := F0 m 4 ls []) rfl ?_
  refine lv_aload_n hx hb dX2_init_4 rfl (lv_at hl 0 rfl) ?_
  refine lv_iconst (v := 5) hx hb dX2_init_5 (by decide) ?_
  refine g_newq (cA := d 5) (N' := 5) hx hb hown (hts _ q_58) hK.2.1.1 hK hw hS hA 5 rfl (by decide) (by decide) (by decide) (Nat.le_of_ble_eq_true rfl) (Nat.le_of_ble_eq_true rfl) dX2_init_6 (fun q H hqn hw hS => ?_)
  have hqa : q ≠ a := fun h => by rw [h, hg] at hqn; cases hqn
  have hg2 : pset G q (rrow (d 5) 5 (fun _ => none)) a = some (.inr (2, [.null, .int 0, .int 0, .int 0, .int 0, .long 0, .int 0, .float 0])) := by rw [pset_ne (Ne.symm hqa)]; exact hg
  refine g_putF (ci := 2) (C := RX2) (T := TX2) (N := 8) hx hb hts inX2 tyX2 tyX2_ok nmX2 hown hK hw hS hg2 rfl 0 (by decide) (hts _ q_60) (fun _ h9 => h9) rfl hnm rfl (ty := .array (.object "MusicBoxes$Track")) (v := .ref q) (by decide +kernel) rfl rfl (Nat.le_of_ble_eq_true rfl) dX2_init_9 (fun H locs hw hS => ?_)
  refine mt_retv hx hb hr hlocks hw hS (Nat.le_of_ble_eq_true rfl) (Nat.le_of_ble_eq_true rfl) dX2_init_12 ⟨rfl, hq q _ hqn ?_ pset_self ?_⟩
  · intro b e hb he
    rw [pset_ne hb, pset_ne (fun h => by rw [h, hqn] at he; cases he)]; exact he
  · rw [pset_ne hqa, pset_self]
abbrev rmX8_init : Room := { frames := 2, cells := 18, slots := 116, locals := 40 }
theorem nmhX8_init : NoMH yX8_init 0 := by decide +kernel
/-- the drums so far -/
def IBox (d : AC) (x da : Nat) (G : Pic) (i : Nat) (dr dt : Nat → Nat) : Prop := G x = some (.inr (7, [.ref da, .null, .int 0])) ∧ (∃ f, G da = some (rrow (d 6) 8 f) ∧ ∀ j, j < i → f j = some (dr j)) ∧ (∀ j, j < i → G (dr j) = some (drumE (dt j) df0)) ∧ (∀ j, j < i → G (dt j) = some (rrow (d 5) 5 (fun _ => none))) ∧ (∀ j k, j < i → k < i → dr j = dr k → j = k) ∧ (∀ j k, j < i → k < i → dt j = dt k → j = k) ∧ ∀ j, j < i → da ≠ dt j
theorem IBox.step {d : AC} {x da : Nat} {G G1 : Pic} {i : Nat} {dr dt : Nat → Nat} (h : IBox d x da G i dr dt) {f : Nat → Option Nat} (hf : G da = some (rrow (d 6) 8 f)) {q c : Nat} (hq : G q = none) (hc : G c = none) (hk : ∀ (b : Nat) (e : va_E), G b = some e → G1 b = some e) (h1 : G1 q = some (drumE c df0)) (h2 : G1 c = some (rrow (d 5) 5 (fun _ => none))) : IBox d x da (pset G1 da (rrow (d 6) 8 (va_up f i (some q)))) (i + 1) (va_up dr i q) (va_up dt i c) := by
  obtain ⟨a1, ⟨f', a2, a3⟩, a4, a5, a6, a7, a8⟩ := h
  rw [hf] at a2
  cases a2
  have hda := hk _ _ hf
  have nda : ∀ {b : Nat} {e : va_E}, G1 b = some e → b ≠ da → pset G1 da (rrow (d 6) 8 (va_up f i (some q))) b = some e := fun {b} {e} hb hn => by rw [pset_ne hn]; exact hb
  have hcda : c ≠ da := fun h => by rw [h, hf] at hc; cases hc
  have hqda : q ≠ da := fun h => by rw [h, hf] at hq; cases hq
  refine ⟨nda (hk _ _ a1) (ap_tag (hk _ _ a1) hda (Nat.ne_of_beq_eq_false rfl)), ⟨_, pset_self, fun j hj => ?_⟩, fun j hj => ?_, fun j hj => ?_, fun j k hj hk' e => ?_, fun j k hj hk' e => ?_, fun j hj => ?_⟩
  · by_cases hji : j = i
    · subst hji; rw [va_up_self, va_up_self]
    · rw [va_up_ne _ _ hji, va_up_ne _ _ hji]; exact a3 j (by omega)
  · by_cases hji : j = i
    · subst hji; rw [va_up_self, va_up_self]; exact nda h1 hqda
    · rw [va_up_ne _ _ hji, va_up_ne _ _ hji]
      have := hk _ _ (a4 j (by omega))
      exact nda this (ap_tag this hda (Nat.ne_of_beq_eq_false rfl))
  · by_cases hji : j = i
    · subst hji; rw [va_up_self]; exact nda h2 hcda
    · rw [va_up_ne _ _ hji]
      exact nda (hk _ _ (a5 j (by omega))) (Ne.symm (a8 j (by omega)))
  · by_cases hji : j = i <;> by_cases hki : k = i
    · rw [hji, hki]
    · subst hji
      rw [va_up_self, va_up_ne _ _ hki] at e
      have := a4 k (by omega)
      rw [← e, hq] at this; cases this
    · subst hki
      rw [va_up_self, va_up_ne _ _ hji] at e
      have := a4 j (by omega)
      rw [e, hq] at this; cases this
    · rw [va_up_ne _ _ hji, va_up_ne _ _ hki] at e
      exact a6 j k (by omega) (by omega) e
  · by_cases hji : j = i <;> by_cases hki : k = i
    · rw [hji, hki]
    · subst hji
      rw [va_up_self, va_up_ne _ _ hki] at e
      have := a5 k (by omega)
      rw [← e, hc] at this; cases this
    · subst hki
      rw [va_up_self, va_up_ne _ _ hji] at e
      have := a5 j (by omega)
      rw [e, hc] at this; cases this
    · rw [va_up_ne _ _ hji, va_up_ne _ _ hki] at e
      exact a7 j k (by omega) (by omega) e
  · by_cases hji : j = i
    · subst hji; rw [va_up_self]; exact Ne.symm hcda
    · rw [va_up_ne _ _ hji]; exact a8 j (by omega)
abbrev σ0 : CS := (0, fun _ _ => none, fun _ => df0, fun _ => none, fun _ => none, fun _ => none)
set_option maxHeartbeats 4000000 in
set_option maxRecDepth 100000 in
theorem tX8_init (l : Launch) (D : va_G) (d : AC) (x : Nat) (G : Pic) {Q : Pic → Prop} (hg : G x = some (.inr (7, [.null, .null, .int 0]))) (hq : ∀ (cp : CP) (G1 : Pic), aX cp = x → CRep d cp σ0 G1 → Q G1) : MT D d (ΩG D) l yX8_init (WS yX8_init cX8_init 2 none) rmX8_init [.ref x] G (qV Q) := by
  refine mt_of (ΩG.mono D) (by decide +kernel) (Nat.le_of_ble_eq_true rfl) (fun p e s m below meth c A ls hx hb hr hml hown hts hlocks hnm hK hA hw hS hl => ?_)
  have hl : lv_has ls 2 [(0, .ref x)] := hl
  have hown : s.vm.findClass RX8 = some m.cls := hown
  have loop : ∀ (n i da : Nat) (dr dt : Nat → Nat) (G : Pic) (H : Heap) (locs : List Loc) (ls : Array Slot), i + n = 8 → IBox d x da G i dr dt → ΩG D A G H → va_S A s.heap H locs → lv_has ls 2 [(1, .int (nI i)), (0, .ref x)] → W p l e rmX8_init s m [.ref x].toArray below meth c H locs (1 + 2 * i) (8 + 13 * i) (MQ below (Qo (qV Q) (fun u' t => ΩG D A u' t.heap) A) [.ref x].toArray s rmX8_init.cells rmX8_init.slots A) (F0 m 15 ls []) := by
    intro n
    induction n with
    | zero =>
      intro i da dr dt G H locs ls hi hB hw hS hl
      have hi8 : i = 8 := by omega
      subst hi8
      obtain ⟨a1, ⟨f, a2, a3⟩, a4, a5, a6, a7, a8⟩ := hB
      refine lv_iload_n hx hb dX8_init_15 rfl (lv_at hl 0 rfl) ?_
      refine lv_bipush (v := 8) hx hb dX8_init_16 (by decide) ?_
      refine lv_icmp_ge (tgt := 40) hx hb dX8_init_18 (by decide) (fun _ => ?_) (fun hc => absurd (by decide) hc)
      refine lv_aload_n hx hb dX8_init_40 rfl (lv_at hl 1 rfl) ?_
      refine lv_iconst (v := 4) hx hb dX8_init_41 (by decide) ?_
      refine g_newq (cA := d 7) (N' := 4) hx hb hown (hts _ q_88) hK.2.1.2.2 hK hw hS hA 7 rfl (by decide) (by decide) (by decide) (by show 1 + 2 * 8 + 1 ≤ 18; omega) (by show 8 + 13 * 8 + 4 ≤ 116; omega) dX8_init_42 (fun q H hqn hw hS => ?_)
      have kp : ∀ {b : Nat} {e : va_E}, G b = some e → pset G q (rrow (d 7) 4 (fun _ => none)) b = some e := fun {b} {e} hb => by rw [pset_ne (fun h => by rw [h, hqn] at hb; cases hb)]; exact hb
      refine g_putF (ci := 7) (C := RX8) (T := TX8) (N := 3) hx hb hts inX8 tyX8 tyX8_ok nmX8 hown hK hw hS (kp a1) rfl 1 (by decide) (hts _ q_91) (fun _ h9 => h9) rfl hnm rfl (ty := .array (.object "MusicBoxes$Comb")) (v := .ref q) (by decide +kernel) rfl rfl (Nat.le_of_ble_eq_true rfl) dX8_init_45 (fun H locs hw hS => ?_)
      refine lv_aload_n hx hb dX8_init_48 rfl (lv_at hl 1 rfl) ?_
      refine lv_iconst (v := 0) hx hb dX8_init_49 (by decide) ?_
      refine g_put (ci := 7) (C := RX8) (T := TX8) (N := 3) hx hb hts inX8 tyX8 tyX8_ok nmX8 hown hK hw hS pset_self rfl 2 (by decide) (hts _ q_92) (fun _ h9 => h9) rfl (ty := .int) (by decide +kernel) rfl rfl (Nat.le_of_ble_eq_true rfl) dX8_init_50 (fun H locs hw hS => ?_)
      refine mt_retv hx hb hr hlocks hw hS (by show 1 + 2 * 8 + 1 ≤ 18; omega) (by show 8 + 13 * 8 + 4 ≤ 116; omega) dX8_init_53 ⟨rfl, hq (x, da, q, dr, dt) _ rfl ?_⟩
      have kq : ∀ {b : Nat} {e e1 e2 : va_E}, G b = some e → tagE e ≠ 7 → pset (pset (pset G q (rrow (d 7) 4 (fun _ => none))) x e1) x e2 b = some e := fun {b} {e} {e1} {e2} hb ht => by
        have hbx : b ≠ x := ap_tag hb a1 ht
        rw [pset_ne hbx, pset_ne hbx]; exact kp hb
      have hqx : q ≠ x := fun h => by rw [h, a1] at hqn; cases hqn
      refine ⟨pset_self, ⟨f, kq a2 (Nat.ne_of_beq_eq_false rfl), a3⟩, ?_, fun i hi => kq (a4 i hi) (Nat.ne_of_beq_eq_false rfl), fun i hi => kq (a5 i hi) (Nat.ne_of_beq_eq_false rfl), fun b m hb => (by cases hb), fun a t ha => (by cases ha), a6, a7, fun b m hb => (by cases hb), fun b b' m m' hb => (by cases hb), fun a a' t t' ha => (by cases ha), (fun h => by have h : da = q := h; rw [← h, a2] at hqn; cases hqn), fun i hi => ⟨a8 i hi, (fun h => by have h : q = dt i := h; rw [h, a5 i hi] at hqn; cases hqn)⟩⟩
      show pset (pset (pset G q (rrow (d 7) 4 (fun _ => none))) x _) x _ q = _
      rw [pset_ne hqx, pset_ne hqx, pset_self]
    | succ n ih =>
      intro i da dr dt G H locs ls hi hB hw hS hl
      have hi8 : i < 8 := by omega
      obtain ⟨f, hf, -⟩ := hB.2.1
      refine lv_iload_n hx hb dX8_init_15 rfl (lv_at hl 0 rfl) ?_
      refine lv_bipush (v := 8) hx hb dX8_init_16 (by decide) ?_
      refine lv_icmp_ge (tgt := 40) hx hb dX8_init_18 (by decide) (fun hc => absurd hc (nI_ge (b := 8) hi8 (by decide))) (fun _ => ?_)
      refine lv_aload_n hx hb dX8_init_21 rfl (lv_at hl 1 rfl) ?_
      refine g_get hx hb hts inX8 hown hK hw (ci := 7) hB.1 rfl 0 (by decide) (hts _ q_90) (fun _ h9 => h9) rfl dX8_init_22 ?_
      refine lv_iload_n hx hb dX8_init_25 rfl (lv_at hl 0 rfl) ?_
      refine g_new (ci := 2) (fs := [.null, .int 0, .int 0, .int 0, .int 0, .long 0, .int 0, .float 0]) (C := RX2) (T := TX2) (N := 8) hx hb hts inX2 tyX2 tyX2_ok hown (hts _ q_51) (hts _ q_53) (hts _ q_33) hK hw hS hA rfl (fun j hj => by rcases (show j = 0 ∨ j = 1 ∨ j = 2 ∨ j = 3 ∨ j = 4 ∨ j = 5 ∨ j = 6 ∨ j = 7 by omega) with rfl | rfl | rfl | rfl | rfl | rfl | rfl | rfl <;> rfl) (by show 1 + 2 * i + 1 ≤ 18; omega) (by show 8 + 13 * i + 8 ≤ 116; omega) dX8_init_26 (fun q H hqn hw1 hS => ?_)
      refine lv_dup hx hb dX8_init_29 rfl ?_
      refine mt_callI (index := 15) hx hb hml hown hts hK (ΩG.mono D) hA hw1 hS hl.1 (tX2_init l D d q _ (Q := fun G1 => ∃ c : Nat, G c = none ∧ (∀ (b : Nat) (e : va_E), G b = some e → G1 b = some e) ∧ G1 q = some (drumE c df0) ∧ G1 c = some (rrow (d 5) 5 (fun _ => none))) pset_self (fun c G1 e1 e2 e3 e4 => ?_)) q_56 q_33 q_54 q_55 rfl nmhX2_init ⟨⟨(Nat.le_of_ble_eq_true rfl), (Nat.le_of_ble_eq_true rfl)⟩, ⟨by show 1 + 2 * i + 1 + 1 ≤ 18; omega, by show 8 + 13 * i + 8 + 5 ≤ 116; omega⟩⟩ rfl (Nat.le_of_ble_eq_true rfl) dX8_init_30 (fun _ u H locs hu hw2 hS => ?_)
      · have hcq : c ≠ q := fun h => by rw [h, pset_self] at e1; cases e1
        exact ⟨c, by rw [← e1, pset_ne hcq], fun b e he => e2 b e (fun h => by rw [h, hqn] at he; cases he) (by rw [pset_ne (fun h => by rw [h, hqn] at he; cases he)]; exact he), e3, e4⟩
      · obtain ⟨rfl, c1, e1, e2, e3, e4⟩ := hu
        refine W.eq (g2 := F0 m 33 ls [.ref q, .int (nI i), .ref da]) rfl ?_
        refine g_astq hx hb hK hw2 hS 6 (e2 _ _ hf) (r := (RX2, TX2, 8)) rfl e3 rfl (vp_in_nI hi8 (by decide)) dX8_init_33 (fun H locs hw3 hS => ?_)
        rw [nI_clamp (show i < 2 ^ 31 by omega)] at hw3
        refine lv_iinc (v := nI (i + 1)) (lv' := [(1, .int (nI (i + 1))), (0, .ref x)]) hx hb dX8_init_34 hl (k := 0) rfl (nI_1 i) (by decide) rfl (fun ls hl => ?_)
        refine lv_goto (tgt := 15) hx hb dX8_init_37 (by decide) ?_
        refine W.widen (k := 1 + 2 * (i + 1)) (n := 8 + 13 * (i + 1)) (by show 1 + 2 * i + 1 + 1 ≤ _; omega) (by show 8 + 13 * i + 8 + 5 ≤ _; omega) ?_
        exact ih (i + 1) da (va_up dr i q) (va_up dt i c1) _ _ _ _ (by omega) (hB.step hf hqn e1 e2 e3 e4) hw3 hS hl
  refine lv_aload_n hx hb dX8_init_0 rfl (lv_at hl 0 rfl) ?_
  refine W.objInit hx hb hown (hts _ q_48) (hts _ q_49) (hts _ q_50) rfl (by rw [hml]; exact hl.1) rfl dX8_init_1 (Nat.le_of_ble_eq_true rfl) (Nat.le_of_ble_eq_true rfl) ?_
  refine W.eq (g2 := F0 m 4 ls []) rfl ?_
  refine lv_aload_n hx hb dX8_init_4 rfl (lv_at hl 0 rfl) ?_
  refine lv_bipush (v := 8) hx hb dX8_init_5 (by decide) ?_
  refine g_newq (cA := d 6) (N' := 8) hx hb hown (hts _ q_51) hK.2.1.2.1 hK hw hS hA 6 rfl (by decide) (by decide) (by decide) (Nat.le_of_ble_eq_true rfl) (Nat.le_of_ble_eq_true rfl) dX8_init_7 (fun q H hqn hw hS => ?_)
  have hqx : q ≠ x := fun h => by rw [h, hg] at hqn; cases hqn
  have hg2 : pset G q (rrow (d 6) 8 (fun _ => none)) x = some (.inr (7, [.null, .null, .int 0])) := by rw [pset_ne (Ne.symm hqx)]; exact hg
  refine g_putF (ci := 7) (C := RX8) (T := TX8) (N := 3) hx hb hts inX8 tyX8 tyX8_ok nmX8 hown hK hw hS hg2 rfl 0 (by decide) (hts _ q_90) (fun _ h9 => h9) rfl hnm rfl (ty := .array (.object "MusicBoxes$Drum")) (v := .ref q) (by decide +kernel) rfl rfl (Nat.le_of_ble_eq_true rfl) dX8_init_10 (fun H locs hw hS => ?_)
  refine lv_iconst (v := 0) hx hb dX8_init_13 (by decide) ?_
  refine lv_istore_n (lv' := [(1, .int 0), (0, .ref x)]) hx hb dX8_init_14 rfl hl (by decide) rfl (fun ls hl => ?_)
  exact loop 8 0 q (fun _ => 0) (fun _ => 0) _ _ _ ls rfl ⟨pset_self, ⟨_, by rw [pset_ne hqx, pset_self], fun j hj => absurd hj (by omega)⟩, fun j hj => absurd hj (by omega), fun j hj => absurd hj (by omega), fun j k hj => absurd hj (by omega), fun j k hj => absurd hj (by omega), fun j hj => absurd hj (by omega)⟩ hw hS hl
