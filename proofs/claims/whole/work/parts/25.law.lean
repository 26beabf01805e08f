/-! ===== the law: both worlds beside each other ===== -/
theorem ΩC.bnd {D : va_G} {d : AC} {cp : CP} {F : Nat → Prop} {σ : CS} {H : Heap} (h : ΩC D d cp F σ H) : ΩC D d cp (fun q => F q ∧ q < H.size) σ H := by
  obtain ⟨G, h1, h2⟩ := h
  exact ⟨G, ⟨h1.1, fun a e ha => ⟨h1.2 a e ha, h1.1.lt ha⟩⟩, h2⟩
theorem ΩM.bnd {D : va_G} {d : AC} {mp : Nat → Nat} {F : Nat → Prop} {μ : MS} {H : Heap} (h : ΩM D d mp F μ H) : ΩM D d mp (fun q => F q ∧ q < H.size) μ H := ⟨h.1, h.2.1, fun k q hk => ⟨h.2.2 k q hk, (h.1 k q hk).lt⟩⟩
theorem ΩC.kept {D : va_G} {d : AC} {cp : CP} {F : Nat → Prop} {σ : CS} {H H1 : Heap} (h : ΩC D d cp F σ H) (hk : ∀ q, F q → H1[q]? = H[q]?) : ΩC D d cp F σ H1 := by
  obtain ⟨G, h1, h2⟩ := h
  exact ⟨G, ⟨fun a e ha => (h1.1 a e ha).kept (hk a (h1.2 a e ha)), h1.2⟩, h2⟩
theorem ΩM.kept {D : va_G} {d : AC} {mp : Nat → Nat} {F : Nat → Prop} {μ : MS} {H H1 : Heap} (h : ΩM D d mp F μ H) (hk : ∀ q, F q → H1[q]? = H[q]?) : ΩM D d mp F μ H1 := ⟨h.1.kept (fun k q hq => hk q.1 (h.2.2 k q hq)), h.2⟩
/-- both worlds, apart, and all of it new since the law's start -/
def LI (D : va_G) (d : AC) (cp : CP) (mp : Nat → Nat) (z : Nat) (σ : CS) (μ : MS) (H : Heap) : Prop := ∃ Fc Fm : Nat → Prop, ΩC D d cp Fc σ H ∧ ΩM D d mp Fm μ H ∧ (∀ q, Fc q → z ≤ q ∧ q < H.size) ∧ (∀ q, Fm q → z ≤ q ∧ q < H.size) ∧ ∀ q, Fc q → Fm q → False
section LAW
variable {p : Program} {l : Launch} {e : Env} {R : Room} {s : State} {m : MethodId} {args : Array Value} {below : List Frame} {meth : Method} {c : Code} {H : Heap} {locs : List Loc} {cells slots : Nat} {Qw : State → Prop}
variable {cc : ByteArray} {pc : Nat} {ls : Array Slot} {rest st0 : List Value} {D : va_G} {d : AC} {cp : CP} {mp : Nat → Nat} {σ : CS} {μ : MS}
abbrev AL (s : State) : Nat → Prop := fun q => s.heap.size ≤ q
/-- a call that has a part of the cells: what else there is, stays -/
theorem mt_go2 {S : Type} {Ω : Wld S} {Q : Option Value → S → Prop} {a : Array Value} {F : Nat → Prop} {mc ms : Nat} (hF : ∀ q, F q → AL s q) (hr : va_Run p l e R s m args below meth c H locs cells slots mc ms (F0 m pc ls st0) rest (Qo Q (fun u' t => Ω (AF F H.size) u' t.heap) (AF F H.size) a) (AF F H.size)) (hS : va_S (AL s) s.heap H locs)
    (kk : ∀ (r : Option Value) (u' : S) (H1 : Heap) (locs1 : List Loc), Q r u' → Ω (AF F H.size) u' H1 → H.size ≤ H1.size → (∀ q, q < H.size → ¬ F q → H1[q]? = H[q]?) → va_S (AL s) s.heap H1 locs1 → W p l e R s m args below meth c H1 locs1 (cells + mc) (slots + ms) Qw (F0 m (pc + 3) ls (r.toList ++ rest))) : W p l e R s m args below meth c H locs cells slots Qw (F0 m pc ls st0) := by
  have hAA : ∀ q, AF F H.size q → AL s q := fun q h => h.elim (hF q) (fun h => Nat.le_trans hS.1 h)
  intro T hT X
  obtain ⟨v, st₀, t, T', L, h0, X', hL, e1, e2, ⟨⟨r, u, hv, hp, hb⟩, hz, hk⟩, st⟩ := hr T hT X
  cases hv
  rw [h0] at hz hk
  obtain ⟨t2, a1, b1⟩ := kk v u T'.heap (locs ++ L) hp (by rw [e1]; exact hb) (by rw [e1]; exact hz) (fun q h1 h2 => by rw [e1]; exact hk q h1 (fun z => z.elim h2 (fun z => by omega)))
    ⟨Nat.le_trans hS.1 (by rw [e1]; exact hz), fun q h1 h2 => by rw [e1, hk q (Nat.lt_of_lt_of_le h1 hS.1) (fun z => h2 (hAA q z))]; exact hS.2.1 q h1 h2, fun q hq => by
      rcases List.mem_append.mp hq with h | h
      · exact hS.2.2 q h
      · exact hAA _ (hL q h)⟩ T' rfl X'
  exact ⟨t2, st t2 a1, b1⟩
variable {y : MethodName} {bytes : ByteArray} {maxL nL index : Nat} {ret : Option FieldType} {rm : Room} {As : List Value} {own : String}
theorem li_callC {Q : Option Value → CS → Prop} (hx : p.tables.exec = Jvm.exec) (hb : c.code = cc) (hml : c.maxLocals = nL) (hown : s.vm.findClass own = some m.cls) (hts : ∀ w ∈ lw_ok, w.before args s = true) (hK : KK D d s) (hI : LI D d cp mp s.heap.size σ μ H) (hS : va_S (AL s) s.heap H locs) (hlz : ls.size = nL)
    (hM : MT D d (ΩC D d cp) l y (WS y bytes maxL ret) rm (.ref (aX cp) :: As) σ Q) (hc : Cond.code y bytes maxL ret ∈ lw_ok) (hi : Cond.initialized y.cls ∈ lw_ok) (hl : Cond.methodLink own index y ∈ lw_ok) (hin : Cond.instanceMethod y ∈ lw_ok) (hse : Cond.selects RX8 y y ∈ lw_ok) (hd : NoMH y As.length) (hf : Fits rm R maxL cells slots) (hstack : st0 = As.reverse ++ .ref (aX cp) :: rest) (hW : (rest.map fun v => v.category).sum ≤ 8) (hdg : decode cc pc = .ok (.invokevirtual index, 3))
    (kk : ∀ (r : Option Value) (σ' : CS) (H1 : Heap) (locs1 : List Loc), Q r σ' → LI D d cp mp s.heap.size σ' μ H1 → va_S (AL s) s.heap H1 locs1 → W p l e R s m args below meth c H1 locs1 (cells + rm.cells) (slots + rm.slots) Qw (F0 m (pc + 3) ls (r.toList ++ rest))) : W p l e R s m args below meth c H locs cells slots Qw (F0 m pc ls st0) := by
  obtain ⟨Fc, Fm, h1, h2, h3, h4, h5⟩ := hI
  refine mt_go2 (F := Fc) (fun q h => (h3 q h).1) (va_runV (As := As) (rest := rest) (C := RX8) ⟨hx, hb, hml, hown, hts⟩ (hM Fc H.size) ⟨callB_of As.length hts (ws_good hc) rfl rfl rfl (hts _ hi) (hts _ hl) hd hf.1, hts _ hin, hts _ hse⟩ ⟨mt_blind, c_recvX hK h1, fun U hU hW => ⟨rfl, by rw [hU], hK.moved hW, by rw [hU]; exact h1⟩⟩ rfl rfl hlz hstack (lv_room hW) hdg hf.2) hS (fun r u H1 locs1 hQ hO hz hk hS1 => ?_)
  refine kk r u H1 locs1 hQ ⟨_, Fm, hO.bnd, h2.kept (fun q hq => hk q (h4 q hq).2 (fun hc => h5 q hc hq)), fun q hq => ⟨hq.1.elim (fun h => (h3 q h).1) (fun h => Nat.le_trans hS.1 h), hq.2⟩, fun q hq => ⟨(h4 q hq).1, Nat.lt_of_lt_of_le (h4 q hq).2 hz⟩, fun q hq hm => hq.1.elim (fun h => h5 q h hm) (fun h => by have := (h4 q hm).2; omega)⟩ hS1
theorem li_callM {Q : Option Value → MS → Prop} (hx : p.tables.exec = Jvm.exec) (hb : c.code = cc) (hml : c.maxLocals = nL) (hown : s.vm.findClass own = some m.cls) (hts : ∀ w ∈ lw_ok, w.before args s = true) (hK : KK D d s) (hI : LI D d cp mp s.heap.size σ μ H) (hS : va_S (AL s) s.heap H locs) (hlz : ls.size = nL)
    (hM : MT D d (ΩM D d mp) l y (WS y bytes maxL ret) rm (.ref (mp 0) :: As) μ Q) (hc : Cond.code y bytes maxL ret ∈ lw_ok) (hi : Cond.initialized y.cls ∈ lw_ok) (hl : Cond.methodLink own index y ∈ lw_ok) (hin : Cond.instanceMethod y ∈ lw_ok) (hse : Cond.selects RX9 y y ∈ lw_ok) (hd : NoMH y As.length) (hf : Fits rm R maxL cells slots) (hstack : st0 = As.reverse ++ .ref (mp 0) :: rest) (hW : (rest.map fun v => v.category).sum ≤ 8) (hdg : decode cc pc = .ok (.invokevirtual index, 3))
    (kk : ∀ (r : Option Value) (μ' : MS) (H1 : Heap) (locs1 : List Loc), Q r μ' → LI D d cp mp s.heap.size σ μ' H1 → va_S (AL s) s.heap H1 locs1 → W p l e R s m args below meth c H1 locs1 (cells + rm.cells) (slots + rm.slots) Qw (F0 m (pc + 3) ls (r.toList ++ rest))) : W p l e R s m args below meth c H locs cells slots Qw (F0 m pc ls st0) := by
  obtain ⟨Fc, Fm, h1, h2, h3, h4, h5⟩ := hI
  refine mt_go2 (F := Fm) (fun q h => (h4 q h).1) (va_runV (As := As) (rest := rest) (C := RX9) ⟨hx, hb, hml, hown, hts⟩ (hM Fm H.size) ⟨callB_of As.length hts (ws_good hc) rfl rfl rfl (hts _ hi) (hts _ hl) hd hf.1, hts _ hin, hts _ hse⟩ ⟨mt_blind, ΩM.recv hK h2, fun U hU hW => ⟨rfl, by rw [hU], hK.moved hW, by rw [hU]; exact h2⟩⟩ rfl rfl hlz hstack (lv_room hW) hdg hf.2) hS (fun r u H1 locs1 hQ hO hz hk hS1 => ?_)
  refine kk r u H1 locs1 hQ ⟨Fc, _, h1.kept (fun q hq => hk q (h3 q hq).2 (fun hm => h5 q hq hm)), hO.bnd, fun q hq => ⟨(h3 q hq).1, Nat.lt_of_lt_of_le (h3 q hq).2 hz⟩, fun q hq => ⟨hq.1.elim (fun h => (h4 q h).1) (fun h => Nat.le_trans hS.1 h), hq.2⟩, fun q hc hq => hq.1.elim (fun h => h5 q hc h) (fun h => by have := (h3 q hc).2; omega)⟩ hS1
end LAW
/-- cut: alike, and alike behind it -/
def OK_cut (Sim : CS → MS → Nat → Prop) : Prop := ∀ (σ : CS) (μ : MS) (j : Nat) (x1 x2 x3 : Int32), j ≤ 512 → Sim σ μ j → wX8_cut x1 x2 x3 σ (fun r σ' => wX9_cut x1 x2 x3 μ (fun r' μ' => r = r' ∧ Sim σ' μ' (j + 1)))
/-- strip: alike, and alike behind it -/
def OK_strip (Sim : CS → MS → Nat → Prop) : Prop := ∀ (σ : CS) (μ : MS) (j : Nat) (x1 x2 : Int32), j ≤ 512 → Sim σ μ j → wX8_strip x1 x2 σ (fun r σ' => wX9_strip x1 x2 μ (fun r' μ' => r = r' ∧ Sim σ' μ' (j + 1)))
/-- share: alike, and alike behind it -/
def OK_share (Sim : CS → MS → Nat → Prop) : Prop := ∀ (σ : CS) (μ : MS) (j : Nat) (x1 x2 x3 : Int32), j ≤ 512 → Sim σ μ j → wX8_share x1 x2 x3 σ (fun r σ' => wX9_share x1 x2 x3 μ (fun r' μ' => r = r' ∧ Sim σ' μ' (j + 1)))
/-- places: alike, and alike behind it -/
def OK_places (Sim : CS → MS → Nat → Prop) : Prop := ∀ (σ : CS) (μ : MS) (j : Nat) (x1 x2 : Int32), j ≤ 512 → Sim σ μ j → wX8_places x1 x2 σ (fun r σ' => wX9_places x1 x2 μ (fun r' μ' => r = r' ∧ Sim σ' μ' (j + 1)))
/-- read: alike, and alike behind it -/
def OK_read (Sim : CS → MS → Nat → Prop) : Prop := ∀ (σ : CS) (μ : MS) (j : Nat) (x1 x2 x3 : Int32), j ≤ 512 → Sim σ μ j → wX8_read x1 x2 x3 σ (fun r σ' => wX9_read x1 x2 x3 μ (fun r' μ' => r = r' ∧ Sim σ' μ' (j + 1)))
/-- write: alike, and alike behind it -/
def OK_write (Sim : CS → MS → Nat → Prop) : Prop := ∀ (σ : CS) (μ : MS) (j : Nat) (x1 x2 x3 x4 : Int32), j ≤ 512 → Sim σ μ j → wX8_write x1 x2 x3 x4 σ (fun r σ' => wX9_write x1 x2 x3 x4 μ (fun r' μ' => r = r' ∧ Sim σ' μ' (j + 1)))
/-- turn: alike, and alike behind it -/
def OK_turn (Sim : CS → MS → Nat → Prop) : Prop := ∀ (σ : CS) (μ : MS) (j : Nat) (x1 x2 x3 x4 : Int32), j ≤ 512 → Sim σ μ j → wX8_turn x1 x2 x3 x4 σ (fun r σ' => wX9_turn x1 x2 x3 x4 μ (fun r' μ' => r = r' ∧ Sim σ' μ' (j + 1)))
/-- head: alike, and alike behind it -/
def OK_head (Sim : CS → MS → Nat → Prop) : Prop := ∀ (σ : CS) (μ : MS) (j : Nat) (x1 x2 : Int32), j ≤ 512 → Sim σ μ j → wX8_head x1 x2 σ (fun r σ' => wX9_head x1 x2 μ (fun r' μ' => r = r' ∧ Sim σ' μ' (j + 1)))
/-- play: alike, and alike behind it -/
def OK_play (Sim : CS → MS → Nat → Prop) : Prop := ∀ (σ : CS) (μ : MS) (j : Nat) (x1 x2 : Int32), j ≤ 512 → Sim σ μ j → wX8_play x1 x2 σ (fun r σ' => wX9_play x1 x2 μ (fun r' μ' => r = r' ∧ Sim σ' μ' (j + 1)))
/-- heard: alike, and alike behind it -/
def OK_heard (Sim : CS → MS → Nat → Prop) : Prop := ∀ (σ : CS) (μ : MS) (j : Nat) (x1 x2 : Int32), j ≤ 512 → Sim σ μ j → wX8_heard x1 x2 σ (fun r σ' => wX9_heard x1 x2 μ (fun r' μ' => r = r' ∧ Sim σ' μ' (j + 1)))
/-- quiet: alike, and alike behind it -/
def OK_quiet (Sim : CS → MS → Nat → Prop) : Prop := ∀ (σ : CS) (μ : MS) (j : Nat) (x1 : Int32), j ≤ 512 → Sim σ μ j → wX8_quiet x1 σ (fun r σ' => wX9_quiet x1 μ (fun r' μ' => r = r' ∧ Sim σ' μ' (j + 1)))
/-- comb: alike, and alike behind it -/
def OK_comb (Sim : CS → MS → Nat → Prop) : Prop := ∀ (σ : CS) (μ : MS) (j : Nat) (x1 x2 x3 x4 : Int32), j ≤ 512 → Sim σ μ j → wX8_comb x1 x2 x3 x4 σ (fun r σ' => wX9_comb x1 x2 x3 x4 μ (fun r' μ' => r = r' ∧ Sim σ' μ' (j + 1)))
/-- drop: alike, and alike behind it -/
def OK_drop (Sim : CS → MS → Nat → Prop) : Prop := ∀ (σ : CS) (μ : MS) (j : Nat) (x1 : Int32), j ≤ 512 → Sim σ μ j → wX8_drop x1 σ (fun r σ' => wX9_drop x1 μ (fun r' μ' => r = r' ∧ Sim σ' μ' (j + 1)))
/-- about: alike, and alike behind it -/
def OK_about (Sim : CS → MS → Nat → Prop) : Prop := ∀ (σ : CS) (μ : MS) (j : Nat) (x1 x2 : Int32), j ≤ 512 → Sim σ μ j → wX8_about x1 x2 σ (fun r σ' => wX9_about x1 x2 μ (fun r' μ' => r = r' ∧ Sim σ' μ' (j + 1)))
/-- loosen: alike, and alike behind it -/
def OK_loosen (Sim : CS → MS → Nat → Prop) : Prop := ∀ (σ : CS) (μ : MS) (j : Nat) (x1 x2 : Int32), j ≤ 512 → Sim σ μ j → wX8_loosen x1 x2 σ (fun r σ' => wX9_loosen x1 x2 μ (fun r' μ' => r = r' ∧ Sim σ' μ' (j + 1)))
/-- hang: alike, and alike behind it -/
def OK_hang (Sim : CS → MS → Nat → Prop) : Prop := ∀ (σ : CS) (μ : MS) (j : Nat) (x1 x2 x3 : Int32), j ≤ 512 → Sim σ μ j → wX8_hang x1 x2 x3 σ (fun r σ' => wX9_hang x1 x2 x3 μ (fun r' μ' => r = r' ∧ Sim σ' μ' (j + 1)))
/-- fit: alike, and alike behind it -/
def OK_fit (Sim : CS → MS → Nat → Prop) : Prop := ∀ (σ : CS) (μ : MS) (j : Nat) (x1 x2 x3 : Int32), j ≤ 512 → Sim σ μ j → wX8_fit x1 x2 x3 σ (fun r σ' => wX9_fit x1 x2 x3 μ (fun r' μ' => r = r' ∧ Sim σ' μ' (j + 1)))
/-- cell: alike, and alike behind it -/
def OK_cell (Sim : CS → MS → Nat → Prop) : Prop := ∀ (σ : CS) (μ : MS) (j : Nat) (x1 x2 x3 : Int32), j ≤ 512 → Sim σ μ j → wX8_cell x1 x2 x3 σ (fun r σ' => wX9_cell x1 x2 x3 μ (fun r' μ' => r = r' ∧ Sim σ' μ' (j + 1)))
/-- set: alike, and alike behind it -/
def OK_set (Sim : CS → MS → Nat → Prop) : Prop := ∀ (σ : CS) (μ : MS) (j : Nat) (x1 x2 x3 x4 : Int32), j ≤ 512 → Sim σ μ j → wX8_set x1 x2 x3 x4 σ (fun r σ' => wX9_set x1 x2 x3 x4 μ (fun r' μ' => r = r' ∧ Sim σ' μ' (j + 1)))
/-- twist: alike, and alike behind it -/
def OK_twist (Sim : CS → MS → Nat → Prop) : Prop := ∀ (σ : CS) (μ : MS) (j : Nat) (x1 x2 x3 x4 : Int32), j ≤ 512 → Sim σ μ j → wX8_twist x1 x2 x3 x4 σ (fun r σ' => wX9_twist x1 x2 x3 x4 μ (fun r' μ' => r = r' ∧ Sim σ' μ' (j + 1)))
/-- state: alike, and alike behind it -/
def OK_state (Sim : CS → MS → Nat → Prop) : Prop := ∀ (σ : CS) (μ : MS) (j : Nat), j ≤ 512 → Sim σ μ j → wX8_state  σ (fun r σ' => wX9_state  μ (fun r' μ' => r = r' ∧ Sim σ' μ' (j + 1)))
def OK_all (Sim : CS → MS → Nat → Prop) : Prop := OK_cut Sim ∧ OK_strip Sim ∧ OK_share Sim ∧ OK_places Sim ∧ OK_read Sim ∧ OK_write Sim ∧ OK_turn Sim ∧ OK_head Sim ∧ OK_play Sim ∧ OK_heard Sim ∧ OK_quiet Sim ∧ OK_comb Sim ∧ OK_drop Sim ∧ OK_about Sim ∧ OK_loosen Sim ∧ OK_hang Sim ∧ OK_fit Sim ∧ OK_cell Sim ∧ OK_set Sim ∧ OK_twist Sim ∧ OK_state Sim
theorem law_go {L i : Nat} (hL : L ≤ 2560) (hi : i ≤ 2565) (h : ¬ Int32.ofNat L - 5 < nI i) : i + 5 ≤ L := by
  have h1 : (nI L - nI 5).toInt = (L : Int) - 5 := pk_sub_toInt (by omega) (by omega)
  have h2 : ¬ (nI L - nI 5 < nI i) := h
  rw [Int32.lt_iff_toInt_lt, h1, nI_toInt (by omega)] at h2
  omega
theorem sw21 (x : Int32) : (x.toInt < 0 ∨ 20 < x.toInt) ∨ x.toInt = 0 ∨ x.toInt = 1 ∨ x.toInt = 2 ∨ x.toInt = 3 ∨ x.toInt = 4 ∨ x.toInt = 5 ∨ x.toInt = 6 ∨ x.toInt = 7 ∨ x.toInt = 8 ∨ x.toInt = 9 ∨ x.toInt = 10 ∨ x.toInt = 11 ∨ x.toInt = 12 ∨ x.toInt = 13 ∨ x.toInt = 14 ∨ x.toInt = 15 ∨ x.toInt = 16 ∨ x.toInt = 17 ∨ x.toInt = 18 ∨ x.toInt = 19 ∨ x.toInt = 20 := by omega
theorem lg_self (x : Int64) : lg_cmp x x = 0 := by simp [lg_cmp]
section LAWLOOP
variable {p : Program} {l : Launch} {e : Env} {s : State} {m : MethodId} {args : Array Value} {below : List Frame} {meth : Method} {c : Code} {Qw : State → Prop} {D : va_G} {d : AC} {cp : CP} {mp : Nat → Nat} {b L : Nat} {xs : Nat → Int32}
set_option maxHeartbeats 4000000 in
set_option maxRecDepth 100000 in
theorem law_cut {Sim : CS → MS → Nat → Prop} (hok : OK_cut Sim) (hx : p.tables.exec = Jvm.exec) (hb : c.code = cL_law) (hml : c.maxLocals = 4) (hown : s.vm.findClass RL = some m.cls) (hts : ∀ w ∈ lw_ok, w.before args s = true) (hK : KK D d s) (hL : L ≤ 2560) (hX : va_X b L xs s s.heap) (hbl : b < s.heap.size) {j : Nat} (hj : 5 * j + 5 ≤ L) {σ : CS} {μ : MS} (hsim : Sim σ μ j) {H : Heap} {locs : List Loc} {ls : Array Slot} (hI : LI D d cp mp s.heap.size σ μ H) (hS : va_S (AL s) s.heap H locs) (hl : lv_has ls 4 [(3, .int (nI (5 * j))), (2, .ref (mp 0)), (1, .ref (aX cp)), (0, .ref b)]) (kk : ∀ (σ : CS) (μ : MS) (H : Heap) (locs : List Loc), Sim σ μ (j + 1) → LI D d cp mp s.heap.size σ μ H → va_S (AL s) s.heap H locs → W p l e room_1 s m args below meth c H locs (34 + 84 * (j + 1)) (61402 + 1764 * (j + 1)) Qw (F0 m 946 ls [])) : W p l e room_1 s m args below meth c H locs (34 + 84 * j) (61402 + 1764 * j) Qw (F0 m 132 ls []) := by
  have hbA : ¬ AL s b := Nat.not_le.mpr hbl
  have hi1 : vp_in (nI (5 * j) + 1) L := by rw [show (1 : Int32) = nI 1 from rfl, nI_add]; exact vp_in_nI (by omega) (by omega)
  have hi2 : vp_in (nI (5 * j) + 2) L := by rw [show (2 : Int32) = nI 2 from rfl, nI_add]; exact vp_in_nI (by omega) (by omega)
  have hi3 : vp_in (nI (5 * j) + 3) L := by rw [show (3 : Int32) = nI 3 from rfl, nI_add]; exact vp_in_nI (by omega) (by omega)
  have hq := hok σ μ j (xs (nI (5 * j) + 1).toNatClampNeg) (xs (nI (5 * j) + 2).toNatClampNeg) (xs (nI (5 * j) + 3).toNatClampNeg) (by omega) hsim
  refine lv_aload_n hx hb dL_law_132 rfl (lv_at hl 2 rfl) ?_
  refine lv_aload_n hx hb dL_law_133 rfl (lv_at hl 3 rfl) ?_
  refine lv_iload_n hx hb dL_law_134 rfl (lv_at hl 0 rfl) ?_
  refine lv_iconst (v := 1) hx hb dL_law_135 (by decide) ?_
  refine lv_iadd hx hb dL_law_136 ?_
  refine va_sld hx hb hX hbl hbA hS hi1 dL_law_137 ?_
  refine lv_aload_n hx hb dL_law_138 rfl (lv_at hl 3 rfl) ?_
  refine lv_iload_n hx hb dL_law_139 rfl (lv_at hl 0 rfl) ?_
  refine lv_iconst (v := 2) hx hb dL_law_140 (by decide) ?_
  refine lv_iadd hx hb dL_law_141 ?_
  refine va_sld hx hb hX hbl hbA hS hi2 dL_law_142 ?_
  refine lv_aload_n hx hb dL_law_143 rfl (lv_at hl 3 rfl) ?_
  refine lv_iload_n hx hb dL_law_144 rfl (lv_at hl 0 rfl) ?_
  refine lv_iconst (v := 3) hx hb dL_law_145 (by decide) ?_
  refine lv_iadd hx hb dL_law_146 ?_
  refine va_sld hx hb hX hbl hbA hS hi3 dL_law_147 ?_
  refine li_callC (own := RL) (index := 13) hx hb hml hown hts hK hI hS hl.1 (tX8_cut l D d cp (xs (nI (5 * j) + 1).toNatClampNeg) (xs (nI (5 * j) + 2).toNatClampNeg) (xs (nI (5 * j) + 3).toNatClampNeg) σ hq) q_103 q_32 q_100 q_101 q_102 nmhX8_cut ⟨⟨(Nat.le_of_ble_eq_true rfl), (Nat.le_of_ble_eq_true rfl)⟩, ⟨by show 34 + 84 * j + 2 ≤ 600000; omega, by show 61402 + 1764 * j + 302 ≤ 7302250; omega⟩⟩ rfl (Nat.le_of_ble_eq_true rfl) dL_law_148 (fun _ σ1 H locs hq hI hS => ?_)
  obtain ⟨r1, rfl, hq⟩ := hq
  refine W.eq (g2 := F0 m 151 ls [.int r1]) rfl ?_
  refine lv_aload_n hx hb dL_law_151 rfl (lv_at hl 1 rfl) ?_
  refine lv_aload_n hx hb dL_law_152 rfl (lv_at hl 3 rfl) ?_
  refine lv_iload_n hx hb dL_law_153 rfl (lv_at hl 0 rfl) ?_
  refine lv_iconst (v := 1) hx hb dL_law_154 (by decide) ?_
  refine lv_iadd hx hb dL_law_155 ?_
  refine va_sld hx hb hX hbl hbA hS hi1 dL_law_156 ?_
  refine lv_aload_n hx hb dL_law_157 rfl (lv_at hl 3 rfl) ?_
  refine lv_iload_n hx hb dL_law_158 rfl (lv_at hl 0 rfl) ?_
  refine lv_iconst (v := 2) hx hb dL_law_159 (by decide) ?_
  refine lv_iadd hx hb dL_law_160 ?_
  refine va_sld hx hb hX hbl hbA hS hi2 dL_law_161 ?_
  refine lv_aload_n hx hb dL_law_162 rfl (lv_at hl 3 rfl) ?_
  refine lv_iload_n hx hb dL_law_163 rfl (lv_at hl 0 rfl) ?_
  refine lv_iconst (v := 3) hx hb dL_law_164 (by decide) ?_
  refine lv_iadd hx hb dL_law_165 ?_
  refine va_sld hx hb hX hbl hbA hS hi3 dL_law_166 ?_
  refine li_callM (own := RL) (index := 17) (rest := [.int r1]) hx hb hml hown hts hK hI hS hl.1 (tX9_cut l D d mp (xs (nI (5 * j) + 1).toNatClampNeg) (xs (nI (5 * j) + 2).toNatClampNeg) (xs (nI (5 * j) + 3).toNatClampNeg) μ hq) q_512 q_34 q_509 q_510 q_511 nmhX9_cut ⟨⟨(Nat.le_of_ble_eq_true rfl), (Nat.le_of_ble_eq_true rfl)⟩, ⟨by show 34 + 84 * j + 2 + 0 ≤ 600000; omega, by show 61402 + 1764 * j + 302 + 0 ≤ 7302250; omega⟩⟩ rfl (Nat.le_of_ble_eq_true rfl) dL_law_167 (fun _ μ1 H locs hq hI hS => ?_)
  obtain ⟨r2, rfl, hr, hsim⟩ := hq
  subst hr
  refine W.eq (g2 := F0 m 170 ls [.int r1, .int r1]) rfl ?_
  refine lv_icmp_eq (tgt := 946) hx hb dL_law_170 (by decide) (fun _ => ?_) (fun hc => absurd rfl hc)
  refine W.widen (k := 34 + 84 * (j + 1)) (n := 61402 + 1764 * (j + 1)) (by show 34 + 84 * j + 2 + 0 ≤ _; omega) (by show 61402 + 1764 * j + 302 + 0 ≤ _; omega) ?_
  exact kk σ1 μ1 H locs hsim hI hS
set_option maxHeartbeats 4000000 in
set_option maxRecDepth 100000 in
theorem law_strip {Sim : CS → MS → Nat → Prop} (hok : OK_strip Sim) (hx : p.tables.exec = Jvm.exec) (hb : c.code = cL_law) (hml : c.maxLocals = 4) (hown : s.vm.findClass RL = some m.cls) (hts : ∀ w ∈ lw_ok, w.before args s = true) (hK : KK D d s) (hL : L ≤ 2560) (hX : va_X b L xs s s.heap) (hbl : b < s.heap.size) {j : Nat} (hj : 5 * j + 5 ≤ L) {σ : CS} {μ : MS} (hsim : Sim σ μ j) {H : Heap} {locs : List Loc} {ls : Array Slot} (hI : LI D d cp mp s.heap.size σ μ H) (hS : va_S (AL s) s.heap H locs) (hl : lv_has ls 4 [(3, .int (nI (5 * j))), (2, .ref (mp 0)), (1, .ref (aX cp)), (0, .ref b)]) (kk : ∀ (σ : CS) (μ : MS) (H : Heap) (locs : List Loc), Sim σ μ (j + 1) → LI D d cp mp s.heap.size σ μ H → va_S (AL s) s.heap H locs → W p l e room_1 s m args below meth c H locs (34 + 84 * (j + 1)) (61402 + 1764 * (j + 1)) Qw (F0 m 946 ls [])) : W p l e room_1 s m args below meth c H locs (34 + 84 * j) (61402 + 1764 * j) Qw (F0 m 175 ls []) := by
  have hbA : ¬ AL s b := Nat.not_le.mpr hbl
  have hi1 : vp_in (nI (5 * j) + 1) L := by rw [show (1 : Int32) = nI 1 from rfl, nI_add]; exact vp_in_nI (by omega) (by omega)
  have hi2 : vp_in (nI (5 * j) + 2) L := by rw [show (2 : Int32) = nI 2 from rfl, nI_add]; exact vp_in_nI (by omega) (by omega)
  have hq := hok σ μ j (xs (nI (5 * j) + 1).toNatClampNeg) (xs (nI (5 * j) + 2).toNatClampNeg) (by omega) hsim
  refine lv_aload_n hx hb dL_law_175 rfl (lv_at hl 2 rfl) ?_
  refine lv_aload_n hx hb dL_law_176 rfl (lv_at hl 3 rfl) ?_
  refine lv_iload_n hx hb dL_law_177 rfl (lv_at hl 0 rfl) ?_
  refine lv_iconst (v := 1) hx hb dL_law_178 (by decide) ?_
  refine lv_iadd hx hb dL_law_179 ?_
  refine va_sld hx hb hX hbl hbA hS hi1 dL_law_180 ?_
  refine lv_aload_n hx hb dL_law_181 rfl (lv_at hl 3 rfl) ?_
  refine lv_iload_n hx hb dL_law_182 rfl (lv_at hl 0 rfl) ?_
  refine lv_iconst (v := 2) hx hb dL_law_183 (by decide) ?_
  refine lv_iadd hx hb dL_law_184 ?_
  refine va_sld hx hb hX hbl hbA hS hi2 dL_law_185 ?_
  refine li_callC (own := RL) (index := 18) hx hb hml hown hts hK hI hS hl.1 (tX8_strip l D d cp (xs (nI (5 * j) + 1).toNatClampNeg) (xs (nI (5 * j) + 2).toNatClampNeg) σ hq) q_194 q_32 q_191 q_192 q_193 nmhX8_strip ⟨⟨(Nat.le_of_ble_eq_true rfl), (Nat.le_of_ble_eq_true rfl)⟩, ⟨by show 34 + 84 * j + 0 ≤ 600000; omega, by show 61402 + 1764 * j + 0 ≤ 7302250; omega⟩⟩ rfl (Nat.le_of_ble_eq_true rfl) dL_law_186 (fun _ σ1 H locs hq hI hS => ?_)
  obtain ⟨r1, rfl, hq⟩ := hq
  refine W.eq (g2 := F0 m 189 ls [.int r1]) rfl ?_
  refine lv_aload_n hx hb dL_law_189 rfl (lv_at hl 1 rfl) ?_
  refine lv_aload_n hx hb dL_law_190 rfl (lv_at hl 3 rfl) ?_
  refine lv_iload_n hx hb dL_law_191 rfl (lv_at hl 0 rfl) ?_
  refine lv_iconst (v := 1) hx hb dL_law_192 (by decide) ?_
  refine lv_iadd hx hb dL_law_193 ?_
  refine va_sld hx hb hX hbl hbA hS hi1 dL_law_194 ?_
  refine lv_aload_n hx hb dL_law_195 rfl (lv_at hl 3 rfl) ?_
  refine lv_iload_n hx hb dL_law_196 rfl (lv_at hl 0 rfl) ?_
  refine lv_iconst (v := 2) hx hb dL_law_197 (by decide) ?_
  refine lv_iadd hx hb dL_law_198 ?_
  refine va_sld hx hb hX hbl hbA hS hi2 dL_law_199 ?_
  refine li_callM (own := RL) (index := 22) (rest := [.int r1]) hx hb hml hown hts hK hI hS hl.1 (tX9_strip l D d mp (xs (nI (5 * j) + 1).toNatClampNeg) (xs (nI (5 * j) + 2).toNatClampNeg) μ hq) q_537 q_34 q_534 q_535 q_536 nmhX9_strip ⟨⟨(Nat.le_of_ble_eq_true rfl), (Nat.le_of_ble_eq_true rfl)⟩, ⟨by show 34 + 84 * j + 0 + 0 ≤ 600000; omega, by show 61402 + 1764 * j + 0 + 0 ≤ 7302250; omega⟩⟩ rfl (Nat.le_of_ble_eq_true rfl) dL_law_200 (fun _ μ1 H locs hq hI hS => ?_)
  obtain ⟨r2, rfl, hr, hsim⟩ := hq
  subst hr
  refine W.eq (g2 := F0 m 203 ls [.int r1, .int r1]) rfl ?_
  refine lv_icmp_eq (tgt := 946) hx hb dL_law_203 (by decide) (fun _ => ?_) (fun hc => absurd rfl hc)
  refine W.widen (k := 34 + 84 * (j + 1)) (n := 61402 + 1764 * (j + 1)) (by show 34 + 84 * j + 0 + 0 ≤ _; omega) (by show 61402 + 1764 * j + 0 + 0 ≤ _; omega) ?_
  exact kk σ1 μ1 H locs hsim hI hS
set_option maxHeartbeats 4000000 in
set_option maxRecDepth 100000 in
theorem law_share {Sim : CS → MS → Nat → Prop} (hok : OK_share Sim) (hx : p.tables.exec = Jvm.exec) (hb : c.code = cL_law) (hml : c.maxLocals = 4) (hown : s.vm.findClass RL = some m.cls) (hts : ∀ w ∈ lw_ok, w.before args s = true) (hK : KK D d s) (hL : L ≤ 2560) (hX : va_X b L xs s s.heap) (hbl : b < s.heap.size) {j : Nat} (hj : 5 * j + 5 ≤ L) {σ : CS} {μ : MS} (hsim : Sim σ μ j) {H : Heap} {locs : List Loc} {ls : Array Slot} (hI : LI D d cp mp s.heap.size σ μ H) (hS : va_S (AL s) s.heap H locs) (hl : lv_has ls 4 [(3, .int (nI (5 * j))), (2, .ref (mp 0)), (1, .ref (aX cp)), (0, .ref b)]) (kk : ∀ (σ : CS) (μ : MS) (H : Heap) (locs : List Loc), Sim σ μ (j + 1) → LI D d cp mp s.heap.size σ μ H → va_S (AL s) s.heap H locs → W p l e room_1 s m args below meth c H locs (34 + 84 * (j + 1)) (61402 + 1764 * (j + 1)) Qw (F0 m 946 ls [])) : W p l e room_1 s m args below meth c H locs (34 + 84 * j) (61402 + 1764 * j) Qw (F0 m 208 ls []) := by
  have hbA : ¬ AL s b := Nat.not_le.mpr hbl
  have hi1 : vp_in (nI (5 * j) + 1) L := by rw [show (1 : Int32) = nI 1 from rfl, nI_add]; exact vp_in_nI (by omega) (by omega)
  have hi2 : vp_in (nI (5 * j) + 2) L := by rw [show (2 : Int32) = nI 2 from rfl, nI_add]; exact vp_in_nI (by omega) (by omega)
  have hi3 : vp_in (nI (5 * j) + 3) L := by rw [show (3 : Int32) = nI 3 from rfl, nI_add]; exact vp_in_nI (by omega) (by omega)
  have hq := hok σ μ j (xs (nI (5 * j) + 1).toNatClampNeg) (xs (nI (5 * j) + 2).toNatClampNeg) (xs (nI (5 * j) + 3).toNatClampNeg) (by omega) hsim
  refine lv_aload_n hx hb dL_law_208 rfl (lv_at hl 2 rfl) ?_
  refine lv_aload_n hx hb dL_law_209 rfl (lv_at hl 3 rfl) ?_
  refine lv_iload_n hx hb dL_law_210 rfl (lv_at hl 0 rfl) ?_
  refine lv_iconst (v := 1) hx hb dL_law_211 (by decide) ?_
  refine lv_iadd hx hb dL_law_212 ?_
  refine va_sld hx hb hX hbl hbA hS hi1 dL_law_213 ?_
  refine lv_aload_n hx hb dL_law_214 rfl (lv_at hl 3 rfl) ?_
  refine lv_iload_n hx hb dL_law_215 rfl (lv_at hl 0 rfl) ?_
  refine lv_iconst (v := 2) hx hb dL_law_216 (by decide) ?_
  refine lv_iadd hx hb dL_law_217 ?_
  refine va_sld hx hb hX hbl hbA hS hi2 dL_law_218 ?_
  refine lv_aload_n hx hb dL_law_219 rfl (lv_at hl 3 rfl) ?_
  refine lv_iload_n hx hb dL_law_220 rfl (lv_at hl 0 rfl) ?_
  refine lv_iconst (v := 3) hx hb dL_law_221 (by decide) ?_
  refine lv_iadd hx hb dL_law_222 ?_
  refine va_sld hx hb hX hbl hbA hS hi3 dL_law_223 ?_
  refine li_callC (own := RL) (index := 23) hx hb hml hown hts hK hI hS hl.1 (tX8_share l D d cp (xs (nI (5 * j) + 1).toNatClampNeg) (xs (nI (5 * j) + 2).toNatClampNeg) (xs (nI (5 * j) + 3).toNatClampNeg) σ hq) q_206 q_32 q_203 q_204 q_205 nmhX8_share ⟨⟨(Nat.le_of_ble_eq_true rfl), (Nat.le_of_ble_eq_true rfl)⟩, ⟨by show 34 + 84 * j + 0 ≤ 600000; omega, by show 61402 + 1764 * j + 0 ≤ 7302250; omega⟩⟩ rfl (Nat.le_of_ble_eq_true rfl) dL_law_224 (fun _ σ1 H locs hq hI hS => ?_)
  obtain ⟨r1, rfl, hq⟩ := hq
  refine W.eq (g2 := F0 m 227 ls [.int r1]) rfl ?_
  refine lv_aload_n hx hb dL_law_227 rfl (lv_at hl 1 rfl) ?_
  refine lv_aload_n hx hb dL_law_228 rfl (lv_at hl 3 rfl) ?_
  refine lv_iload_n hx hb dL_law_229 rfl (lv_at hl 0 rfl) ?_
  refine lv_iconst (v := 1) hx hb dL_law_230 (by decide) ?_
  refine lv_iadd hx hb dL_law_231 ?_
  refine va_sld hx hb hX hbl hbA hS hi1 dL_law_232 ?_
  refine lv_aload_n hx hb dL_law_233 rfl (lv_at hl 3 rfl) ?_
  refine lv_iload_n hx hb dL_law_234 rfl (lv_at hl 0 rfl) ?_
  refine lv_iconst (v := 2) hx hb dL_law_235 (by decide) ?_
  refine lv_iadd hx hb dL_law_236 ?_
  refine va_sld hx hb hX hbl hbA hS hi2 dL_law_237 ?_
  refine lv_aload_n hx hb dL_law_238 rfl (lv_at hl 3 rfl) ?_
  refine lv_iload_n hx hb dL_law_239 rfl (lv_at hl 0 rfl) ?_
  refine lv_iconst (v := 3) hx hb dL_law_240 (by decide) ?_
  refine lv_iadd hx hb dL_law_241 ?_
  refine va_sld hx hb hX hbl hbA hS hi3 dL_law_242 ?_
  refine li_callM (own := RL) (index := 26) (rest := [.int r1]) hx hb hml hown hts hK hI hS hl.1 (tX9_share l D d mp (xs (nI (5 * j) + 1).toNatClampNeg) (xs (nI (5 * j) + 2).toNatClampNeg) (xs (nI (5 * j) + 3).toNatClampNeg) μ hq) q_541 q_34 q_538 q_539 q_540 nmhX9_share ⟨⟨(Nat.le_of_ble_eq_true rfl), (Nat.le_of_ble_eq_true rfl)⟩, ⟨by show 34 + 84 * j + 0 + 0 ≤ 600000; omega, by show 61402 + 1764 * j + 0 + 0 ≤ 7302250; omega⟩⟩ rfl (Nat.le_of_ble_eq_true rfl) dL_law_243 (fun _ μ1 H locs hq hI hS => ?_)
  obtain ⟨r2, rfl, hr, hsim⟩ := hq
  subst hr
  refine W.eq (g2 := F0 m 246 ls [.int r1, .int r1]) rfl ?_
  refine lv_icmp_eq (tgt := 946) hx hb dL_law_246 (by decide) (fun _ => ?_) (fun hc => absurd rfl hc)
  refine W.widen (k := 34 + 84 * (j + 1)) (n := 61402 + 1764 * (j + 1)) (by show 34 + 84 * j + 0 + 0 ≤ _; omega) (by show 61402 + 1764 * j + 0 + 0 ≤ _; omega) ?_
  exact kk σ1 μ1 H locs hsim hI hS
set_option maxHeartbeats 4000000 in
set_option maxRecDepth 100000 in
theorem law_places {Sim : CS → MS → Nat → Prop} (hok : OK_places Sim) (hx : p.tables.exec = Jvm.exec) (hb : c.code = cL_law) (hml : c.maxLocals = 4) (hown : s.vm.findClass RL = some m.cls) (hts : ∀ w ∈ lw_ok, w.before args s = true) (hK : KK D d s) (hL : L ≤ 2560) (hX : va_X b L xs s s.heap) (hbl : b < s.heap.size) {j : Nat} (hj : 5 * j + 5 ≤ L) {σ : CS} {μ : MS} (hsim : Sim σ μ j) {H : Heap} {locs : List Loc} {ls : Array Slot} (hI : LI D d cp mp s.heap.size σ μ H) (hS : va_S (AL s) s.heap H locs) (hl : lv_has ls 4 [(3, .int (nI (5 * j))), (2, .ref (mp 0)), (1, .ref (aX cp)), (0, .ref b)]) (kk : ∀ (σ : CS) (μ : MS) (H : Heap) (locs : List Loc), Sim σ μ (j + 1) → LI D d cp mp s.heap.size σ μ H → va_S (AL s) s.heap H locs → W p l e room_1 s m args below meth c H locs (34 + 84 * (j + 1)) (61402 + 1764 * (j + 1)) Qw (F0 m 946 ls [])) : W p l e room_1 s m args below meth c H locs (34 + 84 * j) (61402 + 1764 * j) Qw (F0 m 251 ls []) := by
  have hbA : ¬ AL s b := Nat.not_le.mpr hbl
  have hi1 : vp_in (nI (5 * j) + 1) L := by rw [show (1 : Int32) = nI 1 from rfl, nI_add]; exact vp_in_nI (by omega) (by omega)
  have hi2 : vp_in (nI (5 * j) + 2) L := by rw [show (2 : Int32) = nI 2 from rfl, nI_add]; exact vp_in_nI (by omega) (by omega)
  have hq := hok σ μ j (xs (nI (5 * j) + 1).toNatClampNeg) (xs (nI (5 * j) + 2).toNatClampNeg) (by omega) hsim
  refine lv_aload_n hx hb dL_law_251 rfl (lv_at hl 2 rfl) ?_
  refine lv_aload_n hx hb dL_law_252 rfl (lv_at hl 3 rfl) ?_
  refine lv_iload_n hx hb dL_law_253 rfl (lv_at hl 0 rfl) ?_
  refine lv_iconst (v := 1) hx hb dL_law_254 (by decide) ?_
  refine lv_iadd hx hb dL_law_255 ?_
  refine va_sld hx hb hX hbl hbA hS hi1 dL_law_256 ?_
  refine lv_aload_n hx hb dL_law_257 rfl (lv_at hl 3 rfl) ?_
  refine lv_iload_n hx hb dL_law_258 rfl (lv_at hl 0 rfl) ?_
  refine lv_iconst (v := 2) hx hb dL_law_259 (by decide) ?_
  refine lv_iadd hx hb dL_law_260 ?_
  refine va_sld hx hb hX hbl hbA hS hi2 dL_law_261 ?_
  refine li_callC (own := RL) (index := 27) hx hb hml hown hts hK hI hS hl.1 (tX8_places l D d cp (xs (nI (5 * j) + 1).toNatClampNeg) (xs (nI (5 * j) + 2).toNatClampNeg) σ hq) q_210 q_32 q_207 q_208 q_209 nmhX8_places ⟨⟨(Nat.le_of_ble_eq_true rfl), (Nat.le_of_ble_eq_true rfl)⟩, ⟨by show 34 + 84 * j + 0 ≤ 600000; omega, by show 61402 + 1764 * j + 0 ≤ 7302250; omega⟩⟩ rfl (Nat.le_of_ble_eq_true rfl) dL_law_262 (fun _ σ1 H locs hq hI hS => ?_)
  obtain ⟨r1, rfl, hq⟩ := hq
  refine W.eq (g2 := F0 m 265 ls [.int r1]) rfl ?_
  refine lv_aload_n hx hb dL_law_265 rfl (lv_at hl 1 rfl) ?_
  refine lv_aload_n hx hb dL_law_266 rfl (lv_at hl 3 rfl) ?_
  refine lv_iload_n hx hb dL_law_267 rfl (lv_at hl 0 rfl) ?_
  refine lv_iconst (v := 1) hx hb dL_law_268 (by decide) ?_
  refine lv_iadd hx hb dL_law_269 ?_
  refine va_sld hx hb hX hbl hbA hS hi1 dL_law_270 ?_
  refine lv_aload_n hx hb dL_law_271 rfl (lv_at hl 3 rfl) ?_
  refine lv_iload_n hx hb dL_law_272 rfl (lv_at hl 0 rfl) ?_
  refine lv_iconst (v := 2) hx hb dL_law_273 (by decide) ?_
  refine lv_iadd hx hb dL_law_274 ?_
  refine va_sld hx hb hX hbl hbA hS hi2 dL_law_275 ?_
  refine li_callM (own := RL) (index := 30) (rest := [.int r1]) hx hb hml hown hts hK hI hS hl.1 (tX9_places l D d mp (xs (nI (5 * j) + 1).toNatClampNeg) (xs (nI (5 * j) + 2).toNatClampNeg) μ hq) q_545 q_34 q_542 q_543 q_544 nmhX9_places ⟨⟨(Nat.le_of_ble_eq_true rfl), (Nat.le_of_ble_eq_true rfl)⟩, ⟨by show 34 + 84 * j + 0 + 0 ≤ 600000; omega, by show 61402 + 1764 * j + 0 + 0 ≤ 7302250; omega⟩⟩ rfl (Nat.le_of_ble_eq_true rfl) dL_law_276 (fun _ μ1 H locs hq hI hS => ?_)
  obtain ⟨r2, rfl, hr, hsim⟩ := hq
  subst hr
  refine W.eq (g2 := F0 m 279 ls [.int r1, .int r1]) rfl ?_
  refine lv_icmp_eq (tgt := 946) hx hb dL_law_279 (by decide) (fun _ => ?_) (fun hc => absurd rfl hc)
  refine W.widen (k := 34 + 84 * (j + 1)) (n := 61402 + 1764 * (j + 1)) (by show 34 + 84 * j + 0 + 0 ≤ _; omega) (by show 61402 + 1764 * j + 0 + 0 ≤ _; omega) ?_
  exact kk σ1 μ1 H locs hsim hI hS
set_option maxHeartbeats 4000000 in
set_option maxRecDepth 100000 in
theorem law_read {Sim : CS → MS → Nat → Prop} (hok : OK_read Sim) (hx : p.tables.exec = Jvm.exec) (hb : c.code = cL_law) (hml : c.maxLocals = 4) (hown : s.vm.findClass RL = some m.cls) (hts : ∀ w ∈ lw_ok, w.before args s = true) (hK : KK D d s) (hL : L ≤ 2560) (hX : va_X b L xs s s.heap) (hbl : b < s.heap.size) {j : Nat} (hj : 5 * j + 5 ≤ L) {σ : CS} {μ : MS} (hsim : Sim σ μ j) {H : Heap} {locs : List Loc} {ls : Array Slot} (hI : LI D d cp mp s.heap.size σ μ H) (hS : va_S (AL s) s.heap H locs) (hl : lv_has ls 4 [(3, .int (nI (5 * j))), (2, .ref (mp 0)), (1, .ref (aX cp)), (0, .ref b)]) (kk : ∀ (σ : CS) (μ : MS) (H : Heap) (locs : List Loc), Sim σ μ (j + 1) → LI D d cp mp s.heap.size σ μ H → va_S (AL s) s.heap H locs → W p l e room_1 s m args below meth c H locs (34 + 84 * (j + 1)) (61402 + 1764 * (j + 1)) Qw (F0 m 946 ls [])) : W p l e room_1 s m args below meth c H locs (34 + 84 * j) (61402 + 1764 * j) Qw (F0 m 284 ls []) := by
  have hbA : ¬ AL s b := Nat.not_le.mpr hbl
  have hi1 : vp_in (nI (5 * j) + 1) L := by rw [show (1 : Int32) = nI 1 from rfl, nI_add]; exact vp_in_nI (by omega) (by omega)
  have hi2 : vp_in (nI (5 * j) + 2) L := by rw [show (2 : Int32) = nI 2 from rfl, nI_add]; exact vp_in_nI (by omega) (by omega)
  have hi3 : vp_in (nI (5 * j) + 3) L := by rw [show (3 : Int32) = nI 3 from rfl, nI_add]; exact vp_in_nI (by omega) (by omega)
  have hq := hok σ μ j (xs (nI (5 * j) + 1).toNatClampNeg) (xs (nI (5 * j) + 2).toNatClampNeg) (xs (nI (5 * j) + 3).toNatClampNeg) (by omega) hsim
  refine lv_aload_n hx hb dL_law_284 rfl (lv_at hl 2 rfl) ?_
  refine lv_aload_n hx hb dL_law_285 rfl (lv_at hl 3 rfl) ?_
  refine lv_iload_n hx hb dL_law_286 rfl (lv_at hl 0 rfl) ?_
  refine lv_iconst (v := 1) hx hb dL_law_287 (by decide) ?_
  refine lv_iadd hx hb dL_law_288 ?_
  refine va_sld hx hb hX hbl hbA hS hi1 dL_law_289 ?_
  refine lv_aload_n hx hb dL_law_290 rfl (lv_at hl 3 rfl) ?_
  refine lv_iload_n hx hb dL_law_291 rfl (lv_at hl 0 rfl) ?_
  refine lv_iconst (v := 2) hx hb dL_law_292 (by decide) ?_
  refine lv_iadd hx hb dL_law_293 ?_
  refine va_sld hx hb hX hbl hbA hS hi2 dL_law_294 ?_
  refine lv_aload_n hx hb dL_law_295 rfl (lv_at hl 3 rfl) ?_
  refine lv_iload_n hx hb dL_law_296 rfl (lv_at hl 0 rfl) ?_
  refine lv_iconst (v := 3) hx hb dL_law_297 (by decide) ?_
  refine lv_iadd hx hb dL_law_298 ?_
  refine va_sld hx hb hX hbl hbA hS hi3 dL_law_299 ?_
  refine li_callC (own := RL) (index := 31) hx hb hml hown hts hK hI hS hl.1 (tX8_read l D d cp (xs (nI (5 * j) + 1).toNatClampNeg) (xs (nI (5 * j) + 2).toNatClampNeg) (xs (nI (5 * j) + 3).toNatClampNeg) σ hq) q_214 q_32 q_211 q_212 q_213 nmhX8_read ⟨⟨(Nat.le_of_ble_eq_true rfl), (Nat.le_of_ble_eq_true rfl)⟩, ⟨by show 34 + 84 * j + 0 ≤ 600000; omega, by show 61402 + 1764 * j + 0 ≤ 7302250; omega⟩⟩ rfl (Nat.le_of_ble_eq_true rfl) dL_law_300 (fun _ σ1 H locs hq hI hS => ?_)
  obtain ⟨r1, rfl, hq⟩ := hq
  refine W.eq (g2 := F0 m 303 ls [.int r1]) rfl ?_
  refine lv_aload_n hx hb dL_law_303 rfl (lv_at hl 1 rfl) ?_
  refine lv_aload_n hx hb dL_law_304 rfl (lv_at hl 3 rfl) ?_
  refine lv_iload_n hx hb dL_law_305 rfl (lv_at hl 0 rfl) ?_
  refine lv_iconst (v := 1) hx hb dL_law_306 (by decide) ?_
  refine lv_iadd hx hb dL_law_307 ?_
  refine va_sld hx hb hX hbl hbA hS hi1 dL_law_308 ?_
  refine lv_aload_n hx hb dL_law_309 rfl (lv_at hl 3 rfl) ?_
  refine lv_iload_n hx hb dL_law_310 rfl (lv_at hl 0 rfl) ?_
  refine lv_iconst (v := 2) hx hb dL_law_311 (by decide) ?_
  refine lv_iadd hx hb dL_law_312 ?_
  refine va_sld hx hb hX hbl hbA hS hi2 dL_law_313 ?_
  refine lv_aload_n hx hb dL_law_314 rfl (lv_at hl 3 rfl) ?_
  refine lv_iload_n hx hb dL_law_315 rfl (lv_at hl 0 rfl) ?_
  refine lv_iconst (v := 3) hx hb dL_law_316 (by decide) ?_
  refine lv_iadd hx hb dL_law_317 ?_
  refine va_sld hx hb hX hbl hbA hS hi3 dL_law_318 ?_
  refine li_callM (own := RL) (index := 34) (rest := [.int r1]) hx hb hml hown hts hK hI hS hl.1 (tX9_read l D d mp (xs (nI (5 * j) + 1).toNatClampNeg) (xs (nI (5 * j) + 2).toNatClampNeg) (xs (nI (5 * j) + 3).toNatClampNeg) μ hq) q_549 q_34 q_546 q_547 q_548 nmhX9_read ⟨⟨(Nat.le_of_ble_eq_true rfl), (Nat.le_of_ble_eq_true rfl)⟩, ⟨by show 34 + 84 * j + 0 + 0 ≤ 600000; omega, by show 61402 + 1764 * j + 0 + 0 ≤ 7302250; omega⟩⟩ rfl (Nat.le_of_ble_eq_true rfl) dL_law_319 (fun _ μ1 H locs hq hI hS => ?_)
  obtain ⟨r2, rfl, hr, hsim⟩ := hq
  subst hr
  refine W.eq (g2 := F0 m 322 ls [.int r1, .int r1]) rfl ?_
  refine lv_icmp_eq (tgt := 946) hx hb dL_law_322 (by decide) (fun _ => ?_) (fun hc => absurd rfl hc)
  refine W.widen (k := 34 + 84 * (j + 1)) (n := 61402 + 1764 * (j + 1)) (by show 34 + 84 * j + 0 + 0 ≤ _; omega) (by show 61402 + 1764 * j + 0 + 0 ≤ _; omega) ?_
  exact kk σ1 μ1 H locs hsim hI hS
set_option maxHeartbeats 4000000 in
set_option maxRecDepth 100000 in
theorem law_write {Sim : CS → MS → Nat → Prop} (hok : OK_write Sim) (hx : p.tables.exec = Jvm.exec) (hb : c.code = cL_law) (hml : c.maxLocals = 4) (hown : s.vm.findClass RL = some m.cls) (hts : ∀ w ∈ lw_ok, w.before args s = true) (hK : KK D d s) (hL : L ≤ 2560) (hX : va_X b L xs s s.heap) (hbl : b < s.heap.size) {j : Nat} (hj : 5 * j + 5 ≤ L) {σ : CS} {μ : MS} (hsim : Sim σ μ j) {H : Heap} {locs : List Loc} {ls : Array Slot} (hI : LI D d cp mp s.heap.size σ μ H) (hS : va_S (AL s) s.heap H locs) (hl : lv_has ls 4 [(3, .int (nI (5 * j))), (2, .ref (mp 0)), (1, .ref (aX cp)), (0, .ref b)]) (kk : ∀ (σ : CS) (μ : MS) (H : Heap) (locs : List Loc), Sim σ μ (j + 1) → LI D d cp mp s.heap.size σ μ H → va_S (AL s) s.heap H locs → W p l e room_1 s m args below meth c H locs (34 + 84 * (j + 1)) (61402 + 1764 * (j + 1)) Qw (F0 m 946 ls [])) : W p l e room_1 s m args below meth c H locs (34 + 84 * j) (61402 + 1764 * j) Qw (F0 m 327 ls []) := by
  have hbA : ¬ AL s b := Nat.not_le.mpr hbl
  have hi1 : vp_in (nI (5 * j) + 1) L := by rw [show (1 : Int32) = nI 1 from rfl, nI_add]; exact vp_in_nI (by omega) (by omega)
  have hi2 : vp_in (nI (5 * j) + 2) L := by rw [show (2 : Int32) = nI 2 from rfl, nI_add]; exact vp_in_nI (by omega) (by omega)
  have hi3 : vp_in (nI (5 * j) + 3) L := by rw [show (3 : Int32) = nI 3 from rfl, nI_add]; exact vp_in_nI (by omega) (by omega)
  have hi4 : vp_in (nI (5 * j) + 4) L := by rw [show (4 : Int32) = nI 4 from rfl, nI_add]; exact vp_in_nI (by omega) (by omega)
  have hq := hok σ μ j (xs (nI (5 * j) + 1).toNatClampNeg) (xs (nI (5 * j) + 2).toNatClampNeg) (xs (nI (5 * j) + 3).toNatClampNeg) (xs (nI (5 * j) + 4).toNatClampNeg) (by omega) hsim
  refine lv_aload_n hx hb dL_law_327 rfl (lv_at hl 2 rfl) ?_
  refine lv_aload_n hx hb dL_law_328 rfl (lv_at hl 3 rfl) ?_
  refine lv_iload_n hx hb dL_law_329 rfl (lv_at hl 0 rfl) ?_
  refine lv_iconst (v := 1) hx hb dL_law_330 (by decide) ?_
  refine lv_iadd hx hb dL_law_331 ?_
  refine va_sld hx hb hX hbl hbA hS hi1 dL_law_332 ?_
  refine lv_aload_n hx hb dL_law_333 rfl (lv_at hl 3 rfl) ?_
  refine lv_iload_n hx hb dL_law_334 rfl (lv_at hl 0 rfl) ?_
  refine lv_iconst (v := 2) hx hb dL_law_335 (by decide) ?_
  refine lv_iadd hx hb dL_law_336 ?_
  refine va_sld hx hb hX hbl hbA hS hi2 dL_law_337 ?_
  refine lv_aload_n hx hb dL_law_338 rfl (lv_at hl 3 rfl) ?_
  refine lv_iload_n hx hb dL_law_339 rfl (lv_at hl 0 rfl) ?_
  refine lv_iconst (v := 3) hx hb dL_law_340 (by decide) ?_
  refine lv_iadd hx hb dL_law_341 ?_
  refine va_sld hx hb hX hbl hbA hS hi3 dL_law_342 ?_
  refine lv_aload_n hx hb dL_law_343 rfl (lv_at hl 3 rfl) ?_
  refine lv_iload_n hx hb dL_law_344 rfl (lv_at hl 0 rfl) ?_
  refine lv_iconst (v := 4) hx hb dL_law_345 (by decide) ?_
  refine lv_iadd hx hb dL_law_346 ?_
  refine va_sld hx hb hX hbl hbA hS hi4 dL_law_347 ?_
  refine li_callC (own := RL) (index := 35) hx hb hml hown hts hK hI hS hl.1 (tX8_write l D d cp (xs (nI (5 * j) + 1).toNatClampNeg) (xs (nI (5 * j) + 2).toNatClampNeg) (xs (nI (5 * j) + 3).toNatClampNeg) (xs (nI (5 * j) + 4).toNatClampNeg) σ hq) q_257 q_32 q_254 q_255 q_256 nmhX8_write ⟨⟨(Nat.le_of_ble_eq_true rfl), (Nat.le_of_ble_eq_true rfl)⟩, ⟨by show 34 + 84 * j + 0 ≤ 600000; omega, by show 61402 + 1764 * j + 0 ≤ 7302250; omega⟩⟩ rfl (Nat.le_of_ble_eq_true rfl) dL_law_348 (fun _ σ1 H locs hq hI hS => ?_)
  obtain ⟨r1, rfl, hq⟩ := hq
  refine W.eq (g2 := F0 m 351 ls [.int r1]) rfl ?_
  refine lv_aload_n hx hb dL_law_351 rfl (lv_at hl 1 rfl) ?_
  refine lv_aload_n hx hb dL_law_352 rfl (lv_at hl 3 rfl) ?_
  refine lv_iload_n hx hb dL_law_353 rfl (lv_at hl 0 rfl) ?_
  refine lv_iconst (v := 1) hx hb dL_law_354 (by decide) ?_
  refine lv_iadd hx hb dL_law_355 ?_
  refine va_sld hx hb hX hbl hbA hS hi1 dL_law_356 ?_
  refine lv_aload_n hx hb dL_law_357 rfl (lv_at hl 3 rfl) ?_
  refine lv_iload_n hx hb dL_law_358 rfl (lv_at hl 0 rfl) ?_
  refine lv_iconst (v := 2) hx hb dL_law_359 (by decide) ?_
  refine lv_iadd hx hb dL_law_360 ?_
  refine va_sld hx hb hX hbl hbA hS hi2 dL_law_361 ?_
  refine lv_aload_n hx hb dL_law_362 rfl (lv_at hl 3 rfl) ?_
  refine lv_iload_n hx hb dL_law_363 rfl (lv_at hl 0 rfl) ?_
  refine lv_iconst (v := 3) hx hb dL_law_364 (by decide) ?_
  refine lv_iadd hx hb dL_law_365 ?_
  refine va_sld hx hb hX hbl hbA hS hi3 dL_law_366 ?_
  refine lv_aload_n hx hb dL_law_367 rfl (lv_at hl 3 rfl) ?_
  refine lv_iload_n hx hb dL_law_368 rfl (lv_at hl 0 rfl) ?_
  refine lv_iconst (v := 4) hx hb dL_law_369 (by decide) ?_
  refine lv_iadd hx hb dL_law_370 ?_
  refine va_sld hx hb hX hbl hbA hS hi4 dL_law_371 ?_
  refine li_callM (own := RL) (index := 39) (rest := [.int r1]) hx hb hml hown hts hK hI hS hl.1 (tX9_write l D d mp (xs (nI (5 * j) + 1).toNatClampNeg) (xs (nI (5 * j) + 2).toNatClampNeg) (xs (nI (5 * j) + 3).toNatClampNeg) (xs (nI (5 * j) + 4).toNatClampNeg) μ hq) q_561 q_34 q_558 q_559 q_560 nmhX9_write ⟨⟨(Nat.le_of_ble_eq_true rfl), (Nat.le_of_ble_eq_true rfl)⟩, ⟨by show 34 + 84 * j + 0 + 0 ≤ 600000; omega, by show 61402 + 1764 * j + 0 + 0 ≤ 7302250; omega⟩⟩ rfl (Nat.le_of_ble_eq_true rfl) dL_law_372 (fun _ μ1 H locs hq hI hS => ?_)
  obtain ⟨r2, rfl, hr, hsim⟩ := hq
  subst hr
  refine W.eq (g2 := F0 m 375 ls [.int r1, .int r1]) rfl ?_
  refine lv_icmp_eq (tgt := 946) hx hb dL_law_375 (by decide) (fun _ => ?_) (fun hc => absurd rfl hc)
  refine W.widen (k := 34 + 84 * (j + 1)) (n := 61402 + 1764 * (j + 1)) (by show 34 + 84 * j + 0 + 0 ≤ _; omega) (by show 61402 + 1764 * j + 0 + 0 ≤ _; omega) ?_
  exact kk σ1 μ1 H locs hsim hI hS
set_option maxHeartbeats 4000000 in
set_option maxRecDepth 100000 in
theorem law_turn {Sim : CS → MS → Nat → Prop} (hok : OK_turn Sim) (hx : p.tables.exec = Jvm.exec) (hb : c.code = cL_law) (hml : c.maxLocals = 4) (hown : s.vm.findClass RL = some m.cls) (hts : ∀ w ∈ lw_ok, w.before args s = true) (hK : KK D d s) (hL : L ≤ 2560) (hX : va_X b L xs s s.heap) (hbl : b < s.heap.size) {j : Nat} (hj : 5 * j + 5 ≤ L) {σ : CS} {μ : MS} (hsim : Sim σ μ j) {H : Heap} {locs : List Loc} {ls : Array Slot} (hI : LI D d cp mp s.heap.size σ μ H) (hS : va_S (AL s) s.heap H locs) (hl : lv_has ls 4 [(3, .int (nI (5 * j))), (2, .ref (mp 0)), (1, .ref (aX cp)), (0, .ref b)]) (kk : ∀ (σ : CS) (μ : MS) (H : Heap) (locs : List Loc), Sim σ μ (j + 1) → LI D d cp mp s.heap.size σ μ H → va_S (AL s) s.heap H locs → W p l e room_1 s m args below meth c H locs (34 + 84 * (j + 1)) (61402 + 1764 * (j + 1)) Qw (F0 m 946 ls [])) : W p l e room_1 s m args below meth c H locs (34 + 84 * j) (61402 + 1764 * j) Qw (F0 m 380 ls []) := by
  have hbA : ¬ AL s b := Nat.not_le.mpr hbl
  have hi1 : vp_in (nI (5 * j) + 1) L := by rw [show (1 : Int32) = nI 1 from rfl, nI_add]; exact vp_in_nI (by omega) (by omega)
  have hi2 : vp_in (nI (5 * j) + 2) L := by rw [show (2 : Int32) = nI 2 from rfl, nI_add]; exact vp_in_nI (by omega) (by omega)
  have hi3 : vp_in (nI (5 * j) + 3) L := by rw [show (3 : Int32) = nI 3 from rfl, nI_add]; exact vp_in_nI (by omega) (by omega)
  have hi4 : vp_in (nI (5 * j) + 4) L := by rw [show (4 : Int32) = nI 4 from rfl, nI_add]; exact vp_in_nI (by omega) (by omega)
  have hq := hok σ μ j (xs (nI (5 * j) + 1).toNatClampNeg) (xs (nI (5 * j) + 2).toNatClampNeg) (xs (nI (5 * j) + 3).toNatClampNeg) (xs (nI (5 * j) + 4).toNatClampNeg) (by omega) hsim
  refine lv_aload_n hx hb dL_law_380 rfl (lv_at hl 2 rfl) ?_
  refine lv_aload_n hx hb dL_law_381 rfl (lv_at hl 3 rfl) ?_
  refine lv_iload_n hx hb dL_law_382 rfl (lv_at hl 0 rfl) ?_
  refine lv_iconst (v := 1) hx hb dL_law_383 (by decide) ?_
  refine lv_iadd hx hb dL_law_384 ?_
  refine va_sld hx hb hX hbl hbA hS hi1 dL_law_385 ?_
  refine lv_aload_n hx hb dL_law_386 rfl (lv_at hl 3 rfl) ?_
  refine lv_iload_n hx hb dL_law_387 rfl (lv_at hl 0 rfl) ?_
  refine lv_iconst (v := 2) hx hb dL_law_388 (by decide) ?_
  refine lv_iadd hx hb dL_law_389 ?_
  refine va_sld hx hb hX hbl hbA hS hi2 dL_law_390 ?_
  refine lv_aload_n hx hb dL_law_391 rfl (lv_at hl 3 rfl) ?_
  refine lv_iload_n hx hb dL_law_392 rfl (lv_at hl 0 rfl) ?_
  refine lv_iconst (v := 3) hx hb dL_law_393 (by decide) ?_
  refine lv_iadd hx hb dL_law_394 ?_
  refine va_sld hx hb hX hbl hbA hS hi3 dL_law_395 ?_
  refine lv_aload_n hx hb dL_law_396 rfl (lv_at hl 3 rfl) ?_
  refine lv_iload_n hx hb dL_law_397 rfl (lv_at hl 0 rfl) ?_
  refine lv_iconst (v := 4) hx hb dL_law_398 (by decide) ?_
  refine lv_iadd hx hb dL_law_399 ?_
  refine va_sld hx hb hX hbl hbA hS hi4 dL_law_400 ?_
  refine li_callC (own := RL) (index := 40) hx hb hml hown hts hK hI hS hl.1 (tX8_turn l D d cp (xs (nI (5 * j) + 1).toNatClampNeg) (xs (nI (5 * j) + 2).toNatClampNeg) (xs (nI (5 * j) + 3).toNatClampNeg) (xs (nI (5 * j) + 4).toNatClampNeg) σ hq) q_286 q_32 q_283 q_284 q_285 nmhX8_turn ⟨⟨(Nat.le_of_ble_eq_true rfl), (Nat.le_of_ble_eq_true rfl)⟩, ⟨by show 34 + 84 * j + 0 ≤ 600000; omega, by show 61402 + 1764 * j + 0 ≤ 7302250; omega⟩⟩ rfl (Nat.le_of_ble_eq_true rfl) dL_law_401 (fun _ σ1 H locs hq hI hS => ?_)
  obtain ⟨r1, rfl, hq⟩ := hq
  refine W.eq (g2 := F0 m 404 ls [.int r1]) rfl ?_
  refine lv_aload_n hx hb dL_law_404 rfl (lv_at hl 1 rfl) ?_
  refine lv_aload_n hx hb dL_law_405 rfl (lv_at hl 3 rfl) ?_
  refine lv_iload_n hx hb dL_law_406 rfl (lv_at hl 0 rfl) ?_
  refine lv_iconst (v := 1) hx hb dL_law_407 (by decide) ?_
  refine lv_iadd hx hb dL_law_408 ?_
  refine va_sld hx hb hX hbl hbA hS hi1 dL_law_409 ?_
  refine lv_aload_n hx hb dL_law_410 rfl (lv_at hl 3 rfl) ?_
  refine lv_iload_n hx hb dL_law_411 rfl (lv_at hl 0 rfl) ?_
  refine lv_iconst (v := 2) hx hb dL_law_412 (by decide) ?_
  refine lv_iadd hx hb dL_law_413 ?_
  refine va_sld hx hb hX hbl hbA hS hi2 dL_law_414 ?_
  refine lv_aload_n hx hb dL_law_415 rfl (lv_at hl 3 rfl) ?_
  refine lv_iload_n hx hb dL_law_416 rfl (lv_at hl 0 rfl) ?_
  refine lv_iconst (v := 3) hx hb dL_law_417 (by decide) ?_
  refine lv_iadd hx hb dL_law_418 ?_
  refine va_sld hx hb hX hbl hbA hS hi3 dL_law_419 ?_
  refine lv_aload_n hx hb dL_law_420 rfl (lv_at hl 3 rfl) ?_
  refine lv_iload_n hx hb dL_law_421 rfl (lv_at hl 0 rfl) ?_
  refine lv_iconst (v := 4) hx hb dL_law_422 (by decide) ?_
  refine lv_iadd hx hb dL_law_423 ?_
  refine va_sld hx hb hX hbl hbA hS hi4 dL_law_424 ?_
  refine li_callM (own := RL) (index := 43) (rest := [.int r1]) hx hb hml hown hts hK hI hS hl.1 (tX9_turn l D d mp (xs (nI (5 * j) + 1).toNatClampNeg) (xs (nI (5 * j) + 2).toNatClampNeg) (xs (nI (5 * j) + 3).toNatClampNeg) (xs (nI (5 * j) + 4).toNatClampNeg) μ hq) q_586 q_34 q_583 q_584 q_585 nmhX9_turn ⟨⟨(Nat.le_of_ble_eq_true rfl), (Nat.le_of_ble_eq_true rfl)⟩, ⟨by show 34 + 84 * j + 0 + 0 ≤ 600000; omega, by show 61402 + 1764 * j + 0 + 0 ≤ 7302250; omega⟩⟩ rfl (Nat.le_of_ble_eq_true rfl) dL_law_425 (fun _ μ1 H locs hq hI hS => ?_)
  obtain ⟨r2, rfl, hr, hsim⟩ := hq
  subst hr
  refine W.eq (g2 := F0 m 428 ls [.int r1, .int r1]) rfl ?_
  refine lv_icmp_eq (tgt := 946) hx hb dL_law_428 (by decide) (fun _ => ?_) (fun hc => absurd rfl hc)
  refine W.widen (k := 34 + 84 * (j + 1)) (n := 61402 + 1764 * (j + 1)) (by show 34 + 84 * j + 0 + 0 ≤ _; omega) (by show 61402 + 1764 * j + 0 + 0 ≤ _; omega) ?_
  exact kk σ1 μ1 H locs hsim hI hS
set_option maxHeartbeats 4000000 in
set_option maxRecDepth 100000 in
theorem law_head {Sim : CS → MS → Nat → Prop} (hok : OK_head Sim) (hx : p.tables.exec = Jvm.exec) (hb : c.code = cL_law) (hml : c.maxLocals = 4) (hown : s.vm.findClass RL = some m.cls) (hts : ∀ w ∈ lw_ok, w.before args s = true) (hK : KK D d s) (hL : L ≤ 2560) (hX : va_X b L xs s s.heap) (hbl : b < s.heap.size) {j : Nat} (hj : 5 * j + 5 ≤ L) {σ : CS} {μ : MS} (hsim : Sim σ μ j) {H : Heap} {locs : List Loc} {ls : Array Slot} (hI : LI D d cp mp s.heap.size σ μ H) (hS : va_S (AL s) s.heap H locs) (hl : lv_has ls 4 [(3, .int (nI (5 * j))), (2, .ref (mp 0)), (1, .ref (aX cp)), (0, .ref b)]) (kk : ∀ (σ : CS) (μ : MS) (H : Heap) (locs : List Loc), Sim σ μ (j + 1) → LI D d cp mp s.heap.size σ μ H → va_S (AL s) s.heap H locs → W p l e room_1 s m args below meth c H locs (34 + 84 * (j + 1)) (61402 + 1764 * (j + 1)) Qw (F0 m 946 ls [])) : W p l e room_1 s m args below meth c H locs (34 + 84 * j) (61402 + 1764 * j) Qw (F0 m 433 ls []) := by
  have hbA : ¬ AL s b := Nat.not_le.mpr hbl
  have hi1 : vp_in (nI (5 * j) + 1) L := by rw [show (1 : Int32) = nI 1 from rfl, nI_add]; exact vp_in_nI (by omega) (by omega)
  have hi2 : vp_in (nI (5 * j) + 2) L := by rw [show (2 : Int32) = nI 2 from rfl, nI_add]; exact vp_in_nI (by omega) (by omega)
  have hq := hok σ μ j (xs (nI (5 * j) + 1).toNatClampNeg) (xs (nI (5 * j) + 2).toNatClampNeg) (by omega) hsim
  refine lv_aload_n hx hb dL_law_433 rfl (lv_at hl 2 rfl) ?_
  refine lv_aload_n hx hb dL_law_434 rfl (lv_at hl 3 rfl) ?_
  refine lv_iload_n hx hb dL_law_435 rfl (lv_at hl 0 rfl) ?_
  refine lv_iconst (v := 1) hx hb dL_law_436 (by decide) ?_
  refine lv_iadd hx hb dL_law_437 ?_
  refine va_sld hx hb hX hbl hbA hS hi1 dL_law_438 ?_
  refine lv_aload_n hx hb dL_law_439 rfl (lv_at hl 3 rfl) ?_
  refine lv_iload_n hx hb dL_law_440 rfl (lv_at hl 0 rfl) ?_
  refine lv_iconst (v := 2) hx hb dL_law_441 (by decide) ?_
  refine lv_iadd hx hb dL_law_442 ?_
  refine va_sld hx hb hX hbl hbA hS hi2 dL_law_443 ?_
  refine li_callC (own := RL) (index := 44) hx hb hml hown hts hK hI hS hl.1 (tX8_head l D d cp (xs (nI (5 * j) + 1).toNatClampNeg) (xs (nI (5 * j) + 2).toNatClampNeg) σ hq) q_315 q_32 q_312 q_313 q_314 nmhX8_head ⟨⟨(Nat.le_of_ble_eq_true rfl), (Nat.le_of_ble_eq_true rfl)⟩, ⟨by show 34 + 84 * j + 0 ≤ 600000; omega, by show 61402 + 1764 * j + 0 ≤ 7302250; omega⟩⟩ rfl (Nat.le_of_ble_eq_true rfl) dL_law_444 (fun _ σ1 H locs hq hI hS => ?_)
  obtain ⟨r1, rfl, hq⟩ := hq
  refine W.eq (g2 := F0 m 447 ls [.int r1]) rfl ?_
  refine lv_aload_n hx hb dL_law_447 rfl (lv_at hl 1 rfl) ?_
  refine lv_aload_n hx hb dL_law_448 rfl (lv_at hl 3 rfl) ?_
  refine lv_iload_n hx hb dL_law_449 rfl (lv_at hl 0 rfl) ?_
  refine lv_iconst (v := 1) hx hb dL_law_450 (by decide) ?_
  refine lv_iadd hx hb dL_law_451 ?_
  refine va_sld hx hb hX hbl hbA hS hi1 dL_law_452 ?_
  refine lv_aload_n hx hb dL_law_453 rfl (lv_at hl 3 rfl) ?_
  refine lv_iload_n hx hb dL_law_454 rfl (lv_at hl 0 rfl) ?_
  refine lv_iconst (v := 2) hx hb dL_law_455 (by decide) ?_
  refine lv_iadd hx hb dL_law_456 ?_
  refine va_sld hx hb hX hbl hbA hS hi2 dL_law_457 ?_
  refine li_callM (own := RL) (index := 47) (rest := [.int r1]) hx hb hml hown hts hK hI hS hl.1 (tX9_head l D d mp (xs (nI (5 * j) + 1).toNatClampNeg) (xs (nI (5 * j) + 2).toNatClampNeg) μ hq) q_600 q_34 q_597 q_598 q_599 nmhX9_head ⟨⟨(Nat.le_of_ble_eq_true rfl), (Nat.le_of_ble_eq_true rfl)⟩, ⟨by show 34 + 84 * j + 0 + 0 ≤ 600000; omega, by show 61402 + 1764 * j + 0 + 0 ≤ 7302250; omega⟩⟩ rfl (Nat.le_of_ble_eq_true rfl) dL_law_458 (fun _ μ1 H locs hq hI hS => ?_)
  obtain ⟨r2, rfl, hr, hsim⟩ := hq
  subst hr
  refine W.eq (g2 := F0 m 461 ls [.int r1, .int r1]) rfl ?_
  refine lv_icmp_eq (tgt := 946) hx hb dL_law_461 (by decide) (fun _ => ?_) (fun hc => absurd rfl hc)
  refine W.widen (k := 34 + 84 * (j + 1)) (n := 61402 + 1764 * (j + 1)) (by show 34 + 84 * j + 0 + 0 ≤ _; omega) (by show 61402 + 1764 * j + 0 + 0 ≤ _; omega) ?_
  exact kk σ1 μ1 H locs hsim hI hS
set_option maxHeartbeats 4000000 in
set_option maxRecDepth 100000 in
theorem law_play {Sim : CS → MS → Nat → Prop} (hok : OK_play Sim) (hx : p.tables.exec = Jvm.exec) (hb : c.code = cL_law) (hml : c.maxLocals = 4) (hown : s.vm.findClass RL = some m.cls) (hts : ∀ w ∈ lw_ok, w.before args s = true) (hK : KK D d s) (hL : L ≤ 2560) (hX : va_X b L xs s s.heap) (hbl : b < s.heap.size) {j : Nat} (hj : 5 * j + 5 ≤ L) {σ : CS} {μ : MS} (hsim : Sim σ μ j) {H : Heap} {locs : List Loc} {ls : Array Slot} (hI : LI D d cp mp s.heap.size σ μ H) (hS : va_S (AL s) s.heap H locs) (hl : lv_has ls 4 [(3, .int (nI (5 * j))), (2, .ref (mp 0)), (1, .ref (aX cp)), (0, .ref b)]) (kk : ∀ (σ : CS) (μ : MS) (H : Heap) (locs : List Loc), Sim σ μ (j + 1) → LI D d cp mp s.heap.size σ μ H → va_S (AL s) s.heap H locs → W p l e room_1 s m args below meth c H locs (34 + 84 * (j + 1)) (61402 + 1764 * (j + 1)) Qw (F0 m 946 ls [])) : W p l e room_1 s m args below meth c H locs (34 + 84 * j) (61402 + 1764 * j) Qw (F0 m 466 ls []) := by
  have hbA : ¬ AL s b := Nat.not_le.mpr hbl
  have hi1 : vp_in (nI (5 * j) + 1) L := by rw [show (1 : Int32) = nI 1 from rfl, nI_add]; exact vp_in_nI (by omega) (by omega)
  have hi2 : vp_in (nI (5 * j) + 2) L := by rw [show (2 : Int32) = nI 2 from rfl, nI_add]; exact vp_in_nI (by omega) (by omega)
  have hq := hok σ μ j (xs (nI (5 * j) + 1).toNatClampNeg) (xs (nI (5 * j) + 2).toNatClampNeg) (by omega) hsim
  refine lv_aload_n hx hb dL_law_466 rfl (lv_at hl 2 rfl) ?_
  refine lv_aload_n hx hb dL_law_467 rfl (lv_at hl 3 rfl) ?_
  refine lv_iload_n hx hb dL_law_468 rfl (lv_at hl 0 rfl) ?_
  refine lv_iconst (v := 1) hx hb dL_law_469 (by decide) ?_
  refine lv_iadd hx hb dL_law_470 ?_
  refine va_sld hx hb hX hbl hbA hS hi1 dL_law_471 ?_
  refine lv_aload_n hx hb dL_law_472 rfl (lv_at hl 3 rfl) ?_
  refine lv_iload_n hx hb dL_law_473 rfl (lv_at hl 0 rfl) ?_
  refine lv_iconst (v := 2) hx hb dL_law_474 (by decide) ?_
  refine lv_iadd hx hb dL_law_475 ?_
  refine va_sld hx hb hX hbl hbA hS hi2 dL_law_476 ?_
  refine li_callC (own := RL) (index := 48) hx hb hml hown hts hK hI hS hl.1 (tX8_play l D d cp (xs (nI (5 * j) + 1).toNatClampNeg) (xs (nI (5 * j) + 2).toNatClampNeg) σ hq) q_319 q_32 q_316 q_317 q_318 nmhX8_play ⟨⟨(Nat.le_of_ble_eq_true rfl), (Nat.le_of_ble_eq_true rfl)⟩, ⟨by show 34 + 84 * j + 0 ≤ 600000; omega, by show 61402 + 1764 * j + 0 ≤ 7302250; omega⟩⟩ rfl (Nat.le_of_ble_eq_true rfl) dL_law_477 (fun _ σ1 H locs hq hI hS => ?_)
  obtain ⟨r1, rfl, hq⟩ := hq
  refine W.eq (g2 := F0 m 480 ls [.int r1]) rfl ?_
  refine lv_aload_n hx hb dL_law_480 rfl (lv_at hl 1 rfl) ?_
  refine lv_aload_n hx hb dL_law_481 rfl (lv_at hl 3 rfl) ?_
  refine lv_iload_n hx hb dL_law_482 rfl (lv_at hl 0 rfl) ?_
  refine lv_iconst (v := 1) hx hb dL_law_483 (by decide) ?_
  refine lv_iadd hx hb dL_law_484 ?_
  refine va_sld hx hb hX hbl hbA hS hi1 dL_law_485 ?_
  refine lv_aload_n hx hb dL_law_486 rfl (lv_at hl 3 rfl) ?_
  refine lv_iload_n hx hb dL_law_487 rfl (lv_at hl 0 rfl) ?_
  refine lv_iconst (v := 2) hx hb dL_law_488 (by decide) ?_
  refine lv_iadd hx hb dL_law_489 ?_
  refine va_sld hx hb hX hbl hbA hS hi2 dL_law_490 ?_
  refine li_callM (own := RL) (index := 51) (rest := [.int r1]) hx hb hml hown hts hK hI hS hl.1 (tX9_play l D d mp (xs (nI (5 * j) + 1).toNatClampNeg) (xs (nI (5 * j) + 2).toNatClampNeg) μ hq) q_604 q_34 q_601 q_602 q_603 nmhX9_play ⟨⟨(Nat.le_of_ble_eq_true rfl), (Nat.le_of_ble_eq_true rfl)⟩, ⟨by show 34 + 84 * j + 0 + 0 ≤ 600000; omega, by show 61402 + 1764 * j + 0 + 0 ≤ 7302250; omega⟩⟩ rfl (Nat.le_of_ble_eq_true rfl) dL_law_491 (fun _ μ1 H locs hq hI hS => ?_)
  obtain ⟨r2, rfl, hr, hsim⟩ := hq
  subst hr
  refine W.eq (g2 := F0 m 494 ls [.int r1, .int r1]) rfl ?_
  refine lv_icmp_eq (tgt := 946) hx hb dL_law_494 (by decide) (fun _ => ?_) (fun hc => absurd rfl hc)
  refine W.widen (k := 34 + 84 * (j + 1)) (n := 61402 + 1764 * (j + 1)) (by show 34 + 84 * j + 0 + 0 ≤ _; omega) (by show 61402 + 1764 * j + 0 + 0 ≤ _; omega) ?_
  exact kk σ1 μ1 H locs hsim hI hS
set_option maxHeartbeats 4000000 in
set_option maxRecDepth 100000 in
theorem law_heard {Sim : CS → MS → Nat → Prop} (hok : OK_heard Sim) (hx : p.tables.exec = Jvm.exec) (hb : c.code = cL_law) (hml : c.maxLocals = 4) (hown : s.vm.findClass RL = some m.cls) (hts : ∀ w ∈ lw_ok, w.before args s = true) (hK : KK D d s) (hL : L ≤ 2560) (hX : va_X b L xs s s.heap) (hbl : b < s.heap.size) {j : Nat} (hj : 5 * j + 5 ≤ L) {σ : CS} {μ : MS} (hsim : Sim σ μ j) {H : Heap} {locs : List Loc} {ls : Array Slot} (hI : LI D d cp mp s.heap.size σ μ H) (hS : va_S (AL s) s.heap H locs) (hl : lv_has ls 4 [(3, .int (nI (5 * j))), (2, .ref (mp 0)), (1, .ref (aX cp)), (0, .ref b)]) (kk : ∀ (σ : CS) (μ : MS) (H : Heap) (locs : List Loc), Sim σ μ (j + 1) → LI D d cp mp s.heap.size σ μ H → va_S (AL s) s.heap H locs → W p l e room_1 s m args below meth c H locs (34 + 84 * (j + 1)) (61402 + 1764 * (j + 1)) Qw (F0 m 946 ls [])) : W p l e room_1 s m args below meth c H locs (34 + 84 * j) (61402 + 1764 * j) Qw (F0 m 499 ls []) := by
  have hbA : ¬ AL s b := Nat.not_le.mpr hbl
  have hi1 : vp_in (nI (5 * j) + 1) L := by rw [show (1 : Int32) = nI 1 from rfl, nI_add]; exact vp_in_nI (by omega) (by omega)
  have hi2 : vp_in (nI (5 * j) + 2) L := by rw [show (2 : Int32) = nI 2 from rfl, nI_add]; exact vp_in_nI (by omega) (by omega)
  have hq := hok σ μ j (xs (nI (5 * j) + 1).toNatClampNeg) (xs (nI (5 * j) + 2).toNatClampNeg) (by omega) hsim
  refine lv_aload_n hx hb dL_law_499 rfl (lv_at hl 2 rfl) ?_
  refine lv_aload_n hx hb dL_law_500 rfl (lv_at hl 3 rfl) ?_
  refine lv_iload_n hx hb dL_law_501 rfl (lv_at hl 0 rfl) ?_
  refine lv_iconst (v := 1) hx hb dL_law_502 (by decide) ?_
  refine lv_iadd hx hb dL_law_503 ?_
  refine va_sld hx hb hX hbl hbA hS hi1 dL_law_504 ?_
  refine lv_aload_n hx hb dL_law_505 rfl (lv_at hl 3 rfl) ?_
  refine lv_iload_n hx hb dL_law_506 rfl (lv_at hl 0 rfl) ?_
  refine lv_iconst (v := 2) hx hb dL_law_507 (by decide) ?_
  refine lv_iadd hx hb dL_law_508 ?_
  refine va_sld hx hb hX hbl hbA hS hi2 dL_law_509 ?_
  refine li_callC (own := RL) (index := 52) hx hb hml hown hts hK hI hS hl.1 (tX8_heard l D d cp (xs (nI (5 * j) + 1).toNatClampNeg) (xs (nI (5 * j) + 2).toNatClampNeg) σ hq) q_358 q_32 q_355 q_356 q_357 nmhX8_heard ⟨⟨(Nat.le_of_ble_eq_true rfl), (Nat.le_of_ble_eq_true rfl)⟩, ⟨by show 34 + 84 * j + 0 ≤ 600000; omega, by show 61402 + 1764 * j + 0 ≤ 7302250; omega⟩⟩ rfl (Nat.le_of_ble_eq_true rfl) dL_law_510 (fun _ σ1 H locs hq hI hS => ?_)
  obtain ⟨r1, rfl, hq⟩ := hq
  refine W.eq (g2 := F0 m 513 ls [.long r1]) rfl ?_
  refine lv_aload_n hx hb dL_law_513 rfl (lv_at hl 1 rfl) ?_
  refine lv_aload_n hx hb dL_law_514 rfl (lv_at hl 3 rfl) ?_
  refine lv_iload_n hx hb dL_law_515 rfl (lv_at hl 0 rfl) ?_
  refine lv_iconst (v := 1) hx hb dL_law_516 (by decide) ?_
  refine lv_iadd hx hb dL_law_517 ?_
  refine va_sld hx hb hX hbl hbA hS hi1 dL_law_518 ?_
  refine lv_aload_n hx hb dL_law_519 rfl (lv_at hl 3 rfl) ?_
  refine lv_iload_n hx hb dL_law_520 rfl (lv_at hl 0 rfl) ?_
  refine lv_iconst (v := 2) hx hb dL_law_521 (by decide) ?_
  refine lv_iadd hx hb dL_law_522 ?_
  refine va_sld hx hb hX hbl hbA hS hi2 dL_law_523 ?_
  refine li_callM (own := RL) (index := 56) (rest := [.long r1]) hx hb hml hown hts hK hI hS hl.1 (tX9_heard l D d mp (xs (nI (5 * j) + 1).toNatClampNeg) (xs (nI (5 * j) + 2).toNatClampNeg) μ hq) q_620 q_34 q_617 q_618 q_619 nmhX9_heard ⟨⟨(Nat.le_of_ble_eq_true rfl), (Nat.le_of_ble_eq_true rfl)⟩, ⟨by show 34 + 84 * j + 0 + 0 ≤ 600000; omega, by show 61402 + 1764 * j + 0 + 0 ≤ 7302250; omega⟩⟩ rfl (Nat.le_of_ble_eq_true rfl) dL_law_524 (fun _ μ1 H locs hq hI hS => ?_)
  obtain ⟨r2, rfl, hr, hsim⟩ := hq
  subst hr
  refine W.eq (g2 := F0 m 527 ls [.long r1, .long r1]) rfl ?_
  refine W.lcmp hx hb dL_law_527 ?_
  refine lv_if_eq (tgt := 946) hx hb dL_law_528 (by decide) (fun _ => ?_) (fun hc => absurd (lg_self r1) hc)
  refine W.widen (k := 34 + 84 * (j + 1)) (n := 61402 + 1764 * (j + 1)) (by show 34 + 84 * j + 0 + 0 ≤ _; omega) (by show 61402 + 1764 * j + 0 + 0 ≤ _; omega) ?_
  exact kk σ1 μ1 H locs hsim hI hS
set_option maxHeartbeats 4000000 in
set_option maxRecDepth 100000 in
theorem law_quiet {Sim : CS → MS → Nat → Prop} (hok : OK_quiet Sim) (hx : p.tables.exec = Jvm.exec) (hb : c.code = cL_law) (hml : c.maxLocals = 4) (hown : s.vm.findClass RL = some m.cls) (hts : ∀ w ∈ lw_ok, w.before args s = true) (hK : KK D d s) (hL : L ≤ 2560) (hX : va_X b L xs s s.heap) (hbl : b < s.heap.size) {j : Nat} (hj : 5 * j + 5 ≤ L) {σ : CS} {μ : MS} (hsim : Sim σ μ j) {H : Heap} {locs : List Loc} {ls : Array Slot} (hI : LI D d cp mp s.heap.size σ μ H) (hS : va_S (AL s) s.heap H locs) (hl : lv_has ls 4 [(3, .int (nI (5 * j))), (2, .ref (mp 0)), (1, .ref (aX cp)), (0, .ref b)]) (kk : ∀ (σ : CS) (μ : MS) (H : Heap) (locs : List Loc), Sim σ μ (j + 1) → LI D d cp mp s.heap.size σ μ H → va_S (AL s) s.heap H locs → W p l e room_1 s m args below meth c H locs (34 + 84 * (j + 1)) (61402 + 1764 * (j + 1)) Qw (F0 m 946 ls [])) : W p l e room_1 s m args below meth c H locs (34 + 84 * j) (61402 + 1764 * j) Qw (F0 m 533 ls []) := by
  have hbA : ¬ AL s b := Nat.not_le.mpr hbl
  have hi1 : vp_in (nI (5 * j) + 1) L := by rw [show (1 : Int32) = nI 1 from rfl, nI_add]; exact vp_in_nI (by omega) (by omega)
  have hq := hok σ μ j (xs (nI (5 * j) + 1).toNatClampNeg) (by omega) hsim
  refine lv_aload_n hx hb dL_law_533 rfl (lv_at hl 2 rfl) ?_
  refine lv_aload_n hx hb dL_law_534 rfl (lv_at hl 3 rfl) ?_
  refine lv_iload_n hx hb dL_law_535 rfl (lv_at hl 0 rfl) ?_
  refine lv_iconst (v := 1) hx hb dL_law_536 (by decide) ?_
  refine lv_iadd hx hb dL_law_537 ?_
  refine va_sld hx hb hX hbl hbA hS hi1 dL_law_538 ?_
  refine li_callC (own := RL) (index := 57) hx hb hml hown hts hK hI hS hl.1 (tX8_quiet l D d cp (xs (nI (5 * j) + 1).toNatClampNeg) σ hq) q_367 q_32 q_364 q_365 q_366 nmhX8_quiet ⟨⟨(Nat.le_of_ble_eq_true rfl), (Nat.le_of_ble_eq_true rfl)⟩, ⟨by show 34 + 84 * j + 0 ≤ 600000; omega, by show 61402 + 1764 * j + 0 ≤ 7302250; omega⟩⟩ rfl (Nat.le_of_ble_eq_true rfl) dL_law_539 (fun _ σ1 H locs hq hI hS => ?_)
  obtain ⟨r1, rfl, hq⟩ := hq
  refine W.eq (g2 := F0 m 542 ls [.int r1]) rfl ?_
  refine lv_aload_n hx hb dL_law_542 rfl (lv_at hl 1 rfl) ?_
  refine lv_aload_n hx hb dL_law_543 rfl (lv_at hl 3 rfl) ?_
  refine lv_iload_n hx hb dL_law_544 rfl (lv_at hl 0 rfl) ?_
  refine lv_iconst (v := 1) hx hb dL_law_545 (by decide) ?_
  refine lv_iadd hx hb dL_law_546 ?_
  refine va_sld hx hb hX hbl hbA hS hi1 dL_law_547 ?_
  refine li_callM (own := RL) (index := 61) (rest := [.int r1]) hx hb hml hown hts hK hI hS hl.1 (tX9_quiet l D d mp (xs (nI (5 * j) + 1).toNatClampNeg) μ hq) q_624 q_34 q_621 q_622 q_623 nmhX9_quiet ⟨⟨(Nat.le_of_ble_eq_true rfl), (Nat.le_of_ble_eq_true rfl)⟩, ⟨by show 34 + 84 * j + 0 + 0 ≤ 600000; omega, by show 61402 + 1764 * j + 0 + 0 ≤ 7302250; omega⟩⟩ rfl (Nat.le_of_ble_eq_true rfl) dL_law_548 (fun _ μ1 H locs hq hI hS => ?_)
  obtain ⟨r2, rfl, hr, hsim⟩ := hq
  subst hr
  refine W.eq (g2 := F0 m 551 ls [.int r1, .int r1]) rfl ?_
  refine lv_icmp_eq (tgt := 946) hx hb dL_law_551 (by decide) (fun _ => ?_) (fun hc => absurd rfl hc)
  refine W.widen (k := 34 + 84 * (j + 1)) (n := 61402 + 1764 * (j + 1)) (by show 34 + 84 * j + 0 + 0 ≤ _; omega) (by show 61402 + 1764 * j + 0 + 0 ≤ _; omega) ?_
  exact kk σ1 μ1 H locs hsim hI hS
set_option maxHeartbeats 4000000 in
set_option maxRecDepth 100000 in
theorem law_comb {Sim : CS → MS → Nat → Prop} (hok : OK_comb Sim) (hx : p.tables.exec = Jvm.exec) (hb : c.code = cL_law) (hml : c.maxLocals = 4) (hown : s.vm.findClass RL = some m.cls) (hts : ∀ w ∈ lw_ok, w.before args s = true) (hK : KK D d s) (hL : L ≤ 2560) (hX : va_X b L xs s s.heap) (hbl : b < s.heap.size) {j : Nat} (hj : 5 * j + 5 ≤ L) {σ : CS} {μ : MS} (hsim : Sim σ μ j) {H : Heap} {locs : List Loc} {ls : Array Slot} (hI : LI D d cp mp s.heap.size σ μ H) (hS : va_S (AL s) s.heap H locs) (hl : lv_has ls 4 [(3, .int (nI (5 * j))), (2, .ref (mp 0)), (1, .ref (aX cp)), (0, .ref b)]) (kk : ∀ (σ : CS) (μ : MS) (H : Heap) (locs : List Loc), Sim σ μ (j + 1) → LI D d cp mp s.heap.size σ μ H → va_S (AL s) s.heap H locs → W p l e room_1 s m args below meth c H locs (34 + 84 * (j + 1)) (61402 + 1764 * (j + 1)) Qw (F0 m 946 ls [])) : W p l e room_1 s m args below meth c H locs (34 + 84 * j) (61402 + 1764 * j) Qw (F0 m 556 ls []) := by
  have hbA : ¬ AL s b := Nat.not_le.mpr hbl
  have hi1 : vp_in (nI (5 * j) + 1) L := by rw [show (1 : Int32) = nI 1 from rfl, nI_add]; exact vp_in_nI (by omega) (by omega)
  have hi2 : vp_in (nI (5 * j) + 2) L := by rw [show (2 : Int32) = nI 2 from rfl, nI_add]; exact vp_in_nI (by omega) (by omega)
  have hi3 : vp_in (nI (5 * j) + 3) L := by rw [show (3 : Int32) = nI 3 from rfl, nI_add]; exact vp_in_nI (by omega) (by omega)
  have hi4 : vp_in (nI (5 * j) + 4) L := by rw [show (4 : Int32) = nI 4 from rfl, nI_add]; exact vp_in_nI (by omega) (by omega)
  have hq := hok σ μ j (xs (nI (5 * j) + 1).toNatClampNeg) (xs (nI (5 * j) + 2).toNatClampNeg) (xs (nI (5 * j) + 3).toNatClampNeg) (xs (nI (5 * j) + 4).toNatClampNeg) (by omega) hsim
  refine lv_aload_n hx hb dL_law_556 rfl (lv_at hl 2 rfl) ?_
  refine lv_aload_n hx hb dL_law_557 rfl (lv_at hl 3 rfl) ?_
  refine lv_iload_n hx hb dL_law_558 rfl (lv_at hl 0 rfl) ?_
  refine lv_iconst (v := 1) hx hb dL_law_559 (by decide) ?_
  refine lv_iadd hx hb dL_law_560 ?_
  refine va_sld hx hb hX hbl hbA hS hi1 dL_law_561 ?_
  refine lv_aload_n hx hb dL_law_562 rfl (lv_at hl 3 rfl) ?_
  refine lv_iload_n hx hb dL_law_563 rfl (lv_at hl 0 rfl) ?_
  refine lv_iconst (v := 2) hx hb dL_law_564 (by decide) ?_
  refine lv_iadd hx hb dL_law_565 ?_
  refine va_sld hx hb hX hbl hbA hS hi2 dL_law_566 ?_
  refine lv_aload_n hx hb dL_law_567 rfl (lv_at hl 3 rfl) ?_
  refine lv_iload_n hx hb dL_law_568 rfl (lv_at hl 0 rfl) ?_
  refine lv_iconst (v := 3) hx hb dL_law_569 (by decide) ?_
  refine lv_iadd hx hb dL_law_570 ?_
  refine va_sld hx hb hX hbl hbA hS hi3 dL_law_571 ?_
  refine lv_aload_n hx hb dL_law_572 rfl (lv_at hl 3 rfl) ?_
  refine lv_iload_n hx hb dL_law_573 rfl (lv_at hl 0 rfl) ?_
  refine lv_iconst (v := 4) hx hb dL_law_574 (by decide) ?_
  refine lv_iadd hx hb dL_law_575 ?_
  refine va_sld hx hb hX hbl hbA hS hi4 dL_law_576 ?_
  refine li_callC (own := RL) (index := 62) hx hb hml hown hts hK hI hS hl.1 (tX8_comb l D d cp (xs (nI (5 * j) + 1).toNatClampNeg) (xs (nI (5 * j) + 2).toNatClampNeg) (xs (nI (5 * j) + 3).toNatClampNeg) (xs (nI (5 * j) + 4).toNatClampNeg) σ hq) q_375 q_32 q_372 q_373 q_374 nmhX8_comb ⟨⟨(Nat.le_of_ble_eq_true rfl), (Nat.le_of_ble_eq_true rfl)⟩, ⟨by show 34 + 84 * j + 84 ≤ 600000; omega, by show 61402 + 1764 * j + 1764 ≤ 7302250; omega⟩⟩ rfl (Nat.le_of_ble_eq_true rfl) dL_law_577 (fun _ σ1 H locs hq hI hS => ?_)
  obtain ⟨r1, rfl, hq⟩ := hq
  refine W.eq (g2 := F0 m 580 ls [.int r1]) rfl ?_
  refine lv_aload_n hx hb dL_law_580 rfl (lv_at hl 1 rfl) ?_
  refine lv_aload_n hx hb dL_law_581 rfl (lv_at hl 3 rfl) ?_
  refine lv_iload_n hx hb dL_law_582 rfl (lv_at hl 0 rfl) ?_
  refine lv_iconst (v := 1) hx hb dL_law_583 (by decide) ?_
  refine lv_iadd hx hb dL_law_584 ?_
  refine va_sld hx hb hX hbl hbA hS hi1 dL_law_585 ?_
  refine lv_aload_n hx hb dL_law_586 rfl (lv_at hl 3 rfl) ?_
  refine lv_iload_n hx hb dL_law_587 rfl (lv_at hl 0 rfl) ?_
  refine lv_iconst (v := 2) hx hb dL_law_588 (by decide) ?_
  refine lv_iadd hx hb dL_law_589 ?_
  refine va_sld hx hb hX hbl hbA hS hi2 dL_law_590 ?_
  refine lv_aload_n hx hb dL_law_591 rfl (lv_at hl 3 rfl) ?_
  refine lv_iload_n hx hb dL_law_592 rfl (lv_at hl 0 rfl) ?_
  refine lv_iconst (v := 3) hx hb dL_law_593 (by decide) ?_
  refine lv_iadd hx hb dL_law_594 ?_
  refine va_sld hx hb hX hbl hbA hS hi3 dL_law_595 ?_
  refine lv_aload_n hx hb dL_law_596 rfl (lv_at hl 3 rfl) ?_
  refine lv_iload_n hx hb dL_law_597 rfl (lv_at hl 0 rfl) ?_
  refine lv_iconst (v := 4) hx hb dL_law_598 (by decide) ?_
  refine lv_iadd hx hb dL_law_599 ?_
  refine va_sld hx hb hX hbl hbA hS hi4 dL_law_600 ?_
  refine li_callM (own := RL) (index := 65) (rest := [.int r1]) hx hb hml hown hts hK hI hS hl.1 (tX9_comb l D d mp (xs (nI (5 * j) + 1).toNatClampNeg) (xs (nI (5 * j) + 2).toNatClampNeg) (xs (nI (5 * j) + 3).toNatClampNeg) (xs (nI (5 * j) + 4).toNatClampNeg) μ hq) q_628 q_34 q_625 q_626 q_627 nmhX9_comb ⟨⟨(Nat.le_of_ble_eq_true rfl), (Nat.le_of_ble_eq_true rfl)⟩, ⟨by show 34 + 84 * j + 84 + 0 ≤ 600000; omega, by show 61402 + 1764 * j + 1764 + 0 ≤ 7302250; omega⟩⟩ rfl (Nat.le_of_ble_eq_true rfl) dL_law_601 (fun _ μ1 H locs hq hI hS => ?_)
  obtain ⟨r2, rfl, hr, hsim⟩ := hq
  subst hr
  refine W.eq (g2 := F0 m 604 ls [.int r1, .int r1]) rfl ?_
  refine lv_icmp_eq (tgt := 946) hx hb dL_law_604 (by decide) (fun _ => ?_) (fun hc => absurd rfl hc)
  refine W.widen (k := 34 + 84 * (j + 1)) (n := 61402 + 1764 * (j + 1)) (by show 34 + 84 * j + 84 + 0 ≤ _; omega) (by show 61402 + 1764 * j + 1764 + 0 ≤ _; omega) ?_
  exact kk σ1 μ1 H locs hsim hI hS
set_option maxHeartbeats 4000000 in
set_option maxRecDepth 100000 in
theorem law_drop {Sim : CS → MS → Nat → Prop} (hok : OK_drop Sim) (hx : p.tables.exec = Jvm.exec) (hb : c.code = cL_law) (hml : c.maxLocals = 4) (hown : s.vm.findClass RL = some m.cls) (hts : ∀ w ∈ lw_ok, w.before args s = true) (hK : KK D d s) (hL : L ≤ 2560) (hX : va_X b L xs s s.heap) (hbl : b < s.heap.size) {j : Nat} (hj : 5 * j + 5 ≤ L) {σ : CS} {μ : MS} (hsim : Sim σ μ j) {H : Heap} {locs : List Loc} {ls : Array Slot} (hI : LI D d cp mp s.heap.size σ μ H) (hS : va_S (AL s) s.heap H locs) (hl : lv_has ls 4 [(3, .int (nI (5 * j))), (2, .ref (mp 0)), (1, .ref (aX cp)), (0, .ref b)]) (kk : ∀ (σ : CS) (μ : MS) (H : Heap) (locs : List Loc), Sim σ μ (j + 1) → LI D d cp mp s.heap.size σ μ H → va_S (AL s) s.heap H locs → W p l e room_1 s m args below meth c H locs (34 + 84 * (j + 1)) (61402 + 1764 * (j + 1)) Qw (F0 m 946 ls [])) : W p l e room_1 s m args below meth c H locs (34 + 84 * j) (61402 + 1764 * j) Qw (F0 m 609 ls []) := by
  have hbA : ¬ AL s b := Nat.not_le.mpr hbl
  have hi1 : vp_in (nI (5 * j) + 1) L := by rw [show (1 : Int32) = nI 1 from rfl, nI_add]; exact vp_in_nI (by omega) (by omega)
  have hq := hok σ μ j (xs (nI (5 * j) + 1).toNatClampNeg) (by omega) hsim
  refine lv_aload_n hx hb dL_law_609 rfl (lv_at hl 2 rfl) ?_
  refine lv_aload_n hx hb dL_law_610 rfl (lv_at hl 3 rfl) ?_
  refine lv_iload_n hx hb dL_law_611 rfl (lv_at hl 0 rfl) ?_
  refine lv_iconst (v := 1) hx hb dL_law_612 (by decide) ?_
  refine lv_iadd hx hb dL_law_613 ?_
  refine va_sld hx hb hX hbl hbA hS hi1 dL_law_614 ?_
  refine li_callC (own := RL) (index := 66) hx hb hml hown hts hK hI hS hl.1 (tX8_drop l D d cp (xs (nI (5 * j) + 1).toNatClampNeg) σ hq) q_397 q_32 q_394 q_395 q_396 nmhX8_drop ⟨⟨(Nat.le_of_ble_eq_true rfl), (Nat.le_of_ble_eq_true rfl)⟩, ⟨by show 34 + 84 * j + 0 ≤ 600000; omega, by show 61402 + 1764 * j + 0 ≤ 7302250; omega⟩⟩ rfl (Nat.le_of_ble_eq_true rfl) dL_law_615 (fun _ σ1 H locs hq hI hS => ?_)
  obtain ⟨r1, rfl, hq⟩ := hq
  refine W.eq (g2 := F0 m 618 ls [.int r1]) rfl ?_
  refine lv_aload_n hx hb dL_law_618 rfl (lv_at hl 1 rfl) ?_
  refine lv_aload_n hx hb dL_law_619 rfl (lv_at hl 3 rfl) ?_
  refine lv_iload_n hx hb dL_law_620 rfl (lv_at hl 0 rfl) ?_
  refine lv_iconst (v := 1) hx hb dL_law_621 (by decide) ?_
  refine lv_iadd hx hb dL_law_622 ?_
  refine va_sld hx hb hX hbl hbA hS hi1 dL_law_623 ?_
  refine li_callM (own := RL) (index := 69) (rest := [.int r1]) hx hb hml hown hts hK hI hS hl.1 (tX9_drop l D d mp (xs (nI (5 * j) + 1).toNatClampNeg) μ hq) q_640 q_34 q_637 q_638 q_639 nmhX9_drop ⟨⟨(Nat.le_of_ble_eq_true rfl), (Nat.le_of_ble_eq_true rfl)⟩, ⟨by show 34 + 84 * j + 0 + 0 ≤ 600000; omega, by show 61402 + 1764 * j + 0 + 0 ≤ 7302250; omega⟩⟩ rfl (Nat.le_of_ble_eq_true rfl) dL_law_624 (fun _ μ1 H locs hq hI hS => ?_)
  obtain ⟨r2, rfl, hr, hsim⟩ := hq
  subst hr
  refine W.eq (g2 := F0 m 627 ls [.int r1, .int r1]) rfl ?_
  refine lv_icmp_eq (tgt := 946) hx hb dL_law_627 (by decide) (fun _ => ?_) (fun hc => absurd rfl hc)
  refine W.widen (k := 34 + 84 * (j + 1)) (n := 61402 + 1764 * (j + 1)) (by show 34 + 84 * j + 0 + 0 ≤ _; omega) (by show 61402 + 1764 * j + 0 + 0 ≤ _; omega) ?_
  exact kk σ1 μ1 H locs hsim hI hS
set_option maxHeartbeats 4000000 in
set_option maxRecDepth 100000 in
theorem law_about {Sim : CS → MS → Nat → Prop} (hok : OK_about Sim) (hx : p.tables.exec = Jvm.exec) (hb : c.code = cL_law) (hml : c.maxLocals = 4) (hown : s.vm.findClass RL = some m.cls) (hts : ∀ w ∈ lw_ok, w.before args s = true) (hK : KK D d s) (hL : L ≤ 2560) (hX : va_X b L xs s s.heap) (hbl : b < s.heap.size) {j : Nat} (hj : 5 * j + 5 ≤ L) {σ : CS} {μ : MS} (hsim : Sim σ μ j) {H : Heap} {locs : List Loc} {ls : Array Slot} (hI : LI D d cp mp s.heap.size σ μ H) (hS : va_S (AL s) s.heap H locs) (hl : lv_has ls 4 [(3, .int (nI (5 * j))), (2, .ref (mp 0)), (1, .ref (aX cp)), (0, .ref b)]) (kk : ∀ (σ : CS) (μ : MS) (H : Heap) (locs : List Loc), Sim σ μ (j + 1) → LI D d cp mp s.heap.size σ μ H → va_S (AL s) s.heap H locs → W p l e room_1 s m args below meth c H locs (34 + 84 * (j + 1)) (61402 + 1764 * (j + 1)) Qw (F0 m 946 ls [])) : W p l e room_1 s m args below meth c H locs (34 + 84 * j) (61402 + 1764 * j) Qw (F0 m 632 ls []) := by
  have hbA : ¬ AL s b := Nat.not_le.mpr hbl
  have hi1 : vp_in (nI (5 * j) + 1) L := by rw [show (1 : Int32) = nI 1 from rfl, nI_add]; exact vp_in_nI (by omega) (by omega)
  have hi2 : vp_in (nI (5 * j) + 2) L := by rw [show (2 : Int32) = nI 2 from rfl, nI_add]; exact vp_in_nI (by omega) (by omega)
  have hq := hok σ μ j (xs (nI (5 * j) + 1).toNatClampNeg) (xs (nI (5 * j) + 2).toNatClampNeg) (by omega) hsim
  refine lv_aload_n hx hb dL_law_632 rfl (lv_at hl 2 rfl) ?_
  refine lv_aload_n hx hb dL_law_633 rfl (lv_at hl 3 rfl) ?_
  refine lv_iload_n hx hb dL_law_634 rfl (lv_at hl 0 rfl) ?_
  refine lv_iconst (v := 1) hx hb dL_law_635 (by decide) ?_
  refine lv_iadd hx hb dL_law_636 ?_
  refine va_sld hx hb hX hbl hbA hS hi1 dL_law_637 ?_
  refine lv_aload_n hx hb dL_law_638 rfl (lv_at hl 3 rfl) ?_
  refine lv_iload_n hx hb dL_law_639 rfl (lv_at hl 0 rfl) ?_
  refine lv_iconst (v := 2) hx hb dL_law_640 (by decide) ?_
  refine lv_iadd hx hb dL_law_641 ?_
  refine va_sld hx hb hX hbl hbA hS hi2 dL_law_642 ?_
  refine li_callC (own := RL) (index := 70) hx hb hml hown hts hK hI hS hl.1 (tX8_about l D d cp (xs (nI (5 * j) + 1).toNatClampNeg) (xs (nI (5 * j) + 2).toNatClampNeg) σ hq) q_405 q_32 q_402 q_403 q_404 nmhX8_about ⟨⟨(Nat.le_of_ble_eq_true rfl), (Nat.le_of_ble_eq_true rfl)⟩, ⟨by show 34 + 84 * j + 0 ≤ 600000; omega, by show 61402 + 1764 * j + 0 ≤ 7302250; omega⟩⟩ rfl (Nat.le_of_ble_eq_true rfl) dL_law_643 (fun _ σ1 H locs hq hI hS => ?_)
  obtain ⟨r1, rfl, hq⟩ := hq
  refine W.eq (g2 := F0 m 646 ls [.int r1]) rfl ?_
  refine lv_aload_n hx hb dL_law_646 rfl (lv_at hl 1 rfl) ?_
  refine lv_aload_n hx hb dL_law_647 rfl (lv_at hl 3 rfl) ?_
  refine lv_iload_n hx hb dL_law_648 rfl (lv_at hl 0 rfl) ?_
  refine lv_iconst (v := 1) hx hb dL_law_649 (by decide) ?_
  refine lv_iadd hx hb dL_law_650 ?_
  refine va_sld hx hb hX hbl hbA hS hi1 dL_law_651 ?_
  refine lv_aload_n hx hb dL_law_652 rfl (lv_at hl 3 rfl) ?_
  refine lv_iload_n hx hb dL_law_653 rfl (lv_at hl 0 rfl) ?_
  refine lv_iconst (v := 2) hx hb dL_law_654 (by decide) ?_
  refine lv_iadd hx hb dL_law_655 ?_
  refine va_sld hx hb hX hbl hbA hS hi2 dL_law_656 ?_
  refine li_callM (own := RL) (index := 73) (rest := [.int r1]) hx hb hml hown hts hK hI hS hl.1 (tX9_about l D d mp (xs (nI (5 * j) + 1).toNatClampNeg) (xs (nI (5 * j) + 2).toNatClampNeg) μ hq) q_648 q_34 q_645 q_646 q_647 nmhX9_about ⟨⟨(Nat.le_of_ble_eq_true rfl), (Nat.le_of_ble_eq_true rfl)⟩, ⟨by show 34 + 84 * j + 0 + 0 ≤ 600000; omega, by show 61402 + 1764 * j + 0 + 0 ≤ 7302250; omega⟩⟩ rfl (Nat.le_of_ble_eq_true rfl) dL_law_657 (fun _ μ1 H locs hq hI hS => ?_)
  obtain ⟨r2, rfl, hr, hsim⟩ := hq
  subst hr
  refine W.eq (g2 := F0 m 660 ls [.int r1, .int r1]) rfl ?_
  refine lv_icmp_eq (tgt := 946) hx hb dL_law_660 (by decide) (fun _ => ?_) (fun hc => absurd rfl hc)
  refine W.widen (k := 34 + 84 * (j + 1)) (n := 61402 + 1764 * (j + 1)) (by show 34 + 84 * j + 0 + 0 ≤ _; omega) (by show 61402 + 1764 * j + 0 + 0 ≤ _; omega) ?_
  exact kk σ1 μ1 H locs hsim hI hS
set_option maxHeartbeats 4000000 in
set_option maxRecDepth 100000 in
theorem law_loosen {Sim : CS → MS → Nat → Prop} (hok : OK_loosen Sim) (hx : p.tables.exec = Jvm.exec) (hb : c.code = cL_law) (hml : c.maxLocals = 4) (hown : s.vm.findClass RL = some m.cls) (hts : ∀ w ∈ lw_ok, w.before args s = true) (hK : KK D d s) (hL : L ≤ 2560) (hX : va_X b L xs s s.heap) (hbl : b < s.heap.size) {j : Nat} (hj : 5 * j + 5 ≤ L) {σ : CS} {μ : MS} (hsim : Sim σ μ j) {H : Heap} {locs : List Loc} {ls : Array Slot} (hI : LI D d cp mp s.heap.size σ μ H) (hS : va_S (AL s) s.heap H locs) (hl : lv_has ls 4 [(3, .int (nI (5 * j))), (2, .ref (mp 0)), (1, .ref (aX cp)), (0, .ref b)]) (kk : ∀ (σ : CS) (μ : MS) (H : Heap) (locs : List Loc), Sim σ μ (j + 1) → LI D d cp mp s.heap.size σ μ H → va_S (AL s) s.heap H locs → W p l e room_1 s m args below meth c H locs (34 + 84 * (j + 1)) (61402 + 1764 * (j + 1)) Qw (F0 m 946 ls [])) : W p l e room_1 s m args below meth c H locs (34 + 84 * j) (61402 + 1764 * j) Qw (F0 m 665 ls []) := by
  have hbA : ¬ AL s b := Nat.not_le.mpr hbl
  have hi1 : vp_in (nI (5 * j) + 1) L := by rw [show (1 : Int32) = nI 1 from rfl, nI_add]; exact vp_in_nI (by omega) (by omega)
  have hi2 : vp_in (nI (5 * j) + 2) L := by rw [show (2 : Int32) = nI 2 from rfl, nI_add]; exact vp_in_nI (by omega) (by omega)
  have hq := hok σ μ j (xs (nI (5 * j) + 1).toNatClampNeg) (xs (nI (5 * j) + 2).toNatClampNeg) (by omega) hsim
  refine lv_aload_n hx hb dL_law_665 rfl (lv_at hl 2 rfl) ?_
  refine lv_aload_n hx hb dL_law_666 rfl (lv_at hl 3 rfl) ?_
  refine lv_iload_n hx hb dL_law_667 rfl (lv_at hl 0 rfl) ?_
  refine lv_iconst (v := 1) hx hb dL_law_668 (by decide) ?_
  refine lv_iadd hx hb dL_law_669 ?_
  refine va_sld hx hb hX hbl hbA hS hi1 dL_law_670 ?_
  refine lv_aload_n hx hb dL_law_671 rfl (lv_at hl 3 rfl) ?_
  refine lv_iload_n hx hb dL_law_672 rfl (lv_at hl 0 rfl) ?_
  refine lv_iconst (v := 2) hx hb dL_law_673 (by decide) ?_
  refine lv_iadd hx hb dL_law_674 ?_
  refine va_sld hx hb hX hbl hbA hS hi2 dL_law_675 ?_
  refine li_callC (own := RL) (index := 74) hx hb hml hown hts hK hI hS hl.1 (tX8_loosen l D d cp (xs (nI (5 * j) + 1).toNatClampNeg) (xs (nI (5 * j) + 2).toNatClampNeg) σ hq) q_421 q_32 q_418 q_419 q_420 nmhX8_loosen ⟨⟨(Nat.le_of_ble_eq_true rfl), (Nat.le_of_ble_eq_true rfl)⟩, ⟨by show 34 + 84 * j + 0 ≤ 600000; omega, by show 61402 + 1764 * j + 0 ≤ 7302250; omega⟩⟩ rfl (Nat.le_of_ble_eq_true rfl) dL_law_676 (fun _ σ1 H locs hq hI hS => ?_)
  obtain ⟨r1, rfl, hq⟩ := hq
  refine W.eq (g2 := F0 m 679 ls [.int r1]) rfl ?_
  refine lv_aload_n hx hb dL_law_679 rfl (lv_at hl 1 rfl) ?_
  refine lv_aload_n hx hb dL_law_680 rfl (lv_at hl 3 rfl) ?_
  refine lv_iload_n hx hb dL_law_681 rfl (lv_at hl 0 rfl) ?_
  refine lv_iconst (v := 1) hx hb dL_law_682 (by decide) ?_
  refine lv_iadd hx hb dL_law_683 ?_
  refine va_sld hx hb hX hbl hbA hS hi1 dL_law_684 ?_
  refine lv_aload_n hx hb dL_law_685 rfl (lv_at hl 3 rfl) ?_
  refine lv_iload_n hx hb dL_law_686 rfl (lv_at hl 0 rfl) ?_
  refine lv_iconst (v := 2) hx hb dL_law_687 (by decide) ?_
  refine lv_iadd hx hb dL_law_688 ?_
  refine va_sld hx hb hX hbl hbA hS hi2 dL_law_689 ?_
  refine li_callM (own := RL) (index := 77) (rest := [.int r1]) hx hb hml hown hts hK hI hS hl.1 (tX9_loosen l D d mp (xs (nI (5 * j) + 1).toNatClampNeg) (xs (nI (5 * j) + 2).toNatClampNeg) μ hq) q_652 q_34 q_649 q_650 q_651 nmhX9_loosen ⟨⟨(Nat.le_of_ble_eq_true rfl), (Nat.le_of_ble_eq_true rfl)⟩, ⟨by show 34 + 84 * j + 0 + 0 ≤ 600000; omega, by show 61402 + 1764 * j + 0 + 0 ≤ 7302250; omega⟩⟩ rfl (Nat.le_of_ble_eq_true rfl) dL_law_690 (fun _ μ1 H locs hq hI hS => ?_)
  obtain ⟨r2, rfl, hr, hsim⟩ := hq
  subst hr
  refine W.eq (g2 := F0 m 693 ls [.int r1, .int r1]) rfl ?_
  refine lv_icmp_eq (tgt := 946) hx hb dL_law_693 (by decide) (fun _ => ?_) (fun hc => absurd rfl hc)
  refine W.widen (k := 34 + 84 * (j + 1)) (n := 61402 + 1764 * (j + 1)) (by show 34 + 84 * j + 0 + 0 ≤ _; omega) (by show 61402 + 1764 * j + 0 + 0 ≤ _; omega) ?_
  exact kk σ1 μ1 H locs hsim hI hS
set_option maxHeartbeats 4000000 in
set_option maxRecDepth 100000 in
theorem law_hang {Sim : CS → MS → Nat → Prop} (hok : OK_hang Sim) (hx : p.tables.exec = Jvm.exec) (hb : c.code = cL_law) (hml : c.maxLocals = 4) (hown : s.vm.findClass RL = some m.cls) (hts : ∀ w ∈ lw_ok, w.before args s = true) (hK : KK D d s) (hL : L ≤ 2560) (hX : va_X b L xs s s.heap) (hbl : b < s.heap.size) {j : Nat} (hj : 5 * j + 5 ≤ L) {σ : CS} {μ : MS} (hsim : Sim σ μ j) {H : Heap} {locs : List Loc} {ls : Array Slot} (hI : LI D d cp mp s.heap.size σ μ H) (hS : va_S (AL s) s.heap H locs) (hl : lv_has ls 4 [(3, .int (nI (5 * j))), (2, .ref (mp 0)), (1, .ref (aX cp)), (0, .ref b)]) (kk : ∀ (σ : CS) (μ : MS) (H : Heap) (locs : List Loc), Sim σ μ (j + 1) → LI D d cp mp s.heap.size σ μ H → va_S (AL s) s.heap H locs → W p l e room_1 s m args below meth c H locs (34 + 84 * (j + 1)) (61402 + 1764 * (j + 1)) Qw (F0 m 946 ls [])) : W p l e room_1 s m args below meth c H locs (34 + 84 * j) (61402 + 1764 * j) Qw (F0 m 698 ls []) := by
  have hbA : ¬ AL s b := Nat.not_le.mpr hbl
  have hi1 : vp_in (nI (5 * j) + 1) L := by rw [show (1 : Int32) = nI 1 from rfl, nI_add]; exact vp_in_nI (by omega) (by omega)
  have hi2 : vp_in (nI (5 * j) + 2) L := by rw [show (2 : Int32) = nI 2 from rfl, nI_add]; exact vp_in_nI (by omega) (by omega)
  have hi3 : vp_in (nI (5 * j) + 3) L := by rw [show (3 : Int32) = nI 3 from rfl, nI_add]; exact vp_in_nI (by omega) (by omega)
  have hq := hok σ μ j (xs (nI (5 * j) + 1).toNatClampNeg) (xs (nI (5 * j) + 2).toNatClampNeg) (xs (nI (5 * j) + 3).toNatClampNeg) (by omega) hsim
  refine lv_aload_n hx hb dL_law_698 rfl (lv_at hl 2 rfl) ?_
  refine lv_aload_n hx hb dL_law_699 rfl (lv_at hl 3 rfl) ?_
  refine lv_iload_n hx hb dL_law_700 rfl (lv_at hl 0 rfl) ?_
  refine lv_iconst (v := 1) hx hb dL_law_701 (by decide) ?_
  refine lv_iadd hx hb dL_law_702 ?_
  refine va_sld hx hb hX hbl hbA hS hi1 dL_law_703 ?_
  refine lv_aload_n hx hb dL_law_704 rfl (lv_at hl 3 rfl) ?_
  refine lv_iload_n hx hb dL_law_705 rfl (lv_at hl 0 rfl) ?_
  refine lv_iconst (v := 2) hx hb dL_law_706 (by decide) ?_
  refine lv_iadd hx hb dL_law_707 ?_
  refine va_sld hx hb hX hbl hbA hS hi2 dL_law_708 ?_
  refine lv_aload_n hx hb dL_law_709 rfl (lv_at hl 3 rfl) ?_
  refine lv_iload_n hx hb dL_law_710 rfl (lv_at hl 0 rfl) ?_
  refine lv_iconst (v := 3) hx hb dL_law_711 (by decide) ?_
  refine lv_iadd hx hb dL_law_712 ?_
  refine va_sld hx hb hX hbl hbA hS hi3 dL_law_713 ?_
  refine li_callC (own := RL) (index := 78) hx hb hml hown hts hK hI hS hl.1 (tX8_hang l D d cp (xs (nI (5 * j) + 1).toNatClampNeg) (xs (nI (5 * j) + 2).toNatClampNeg) (xs (nI (5 * j) + 3).toNatClampNeg) σ hq) q_429 q_32 q_426 q_427 q_428 nmhX8_hang ⟨⟨(Nat.le_of_ble_eq_true rfl), (Nat.le_of_ble_eq_true rfl)⟩, ⟨by show 34 + 84 * j + 0 ≤ 600000; omega, by show 61402 + 1764 * j + 0 ≤ 7302250; omega⟩⟩ rfl (Nat.le_of_ble_eq_true rfl) dL_law_714 (fun _ σ1 H locs hq hI hS => ?_)
  obtain ⟨r1, rfl, hq⟩ := hq
  refine W.eq (g2 := F0 m 717 ls [.int r1]) rfl ?_
  refine lv_aload_n hx hb dL_law_717 rfl (lv_at hl 1 rfl) ?_
  refine lv_aload_n hx hb dL_law_718 rfl (lv_at hl 3 rfl) ?_
  refine lv_iload_n hx hb dL_law_719 rfl (lv_at hl 0 rfl) ?_
  refine lv_iconst (v := 1) hx hb dL_law_720 (by decide) ?_
  refine lv_iadd hx hb dL_law_721 ?_
  refine va_sld hx hb hX hbl hbA hS hi1 dL_law_722 ?_
  refine lv_aload_n hx hb dL_law_723 rfl (lv_at hl 3 rfl) ?_
  refine lv_iload_n hx hb dL_law_724 rfl (lv_at hl 0 rfl) ?_
  refine lv_iconst (v := 2) hx hb dL_law_725 (by decide) ?_
  refine lv_iadd hx hb dL_law_726 ?_
  refine va_sld hx hb hX hbl hbA hS hi2 dL_law_727 ?_
  refine lv_aload_n hx hb dL_law_728 rfl (lv_at hl 3 rfl) ?_
  refine lv_iload_n hx hb dL_law_729 rfl (lv_at hl 0 rfl) ?_
  refine lv_iconst (v := 3) hx hb dL_law_730 (by decide) ?_
  refine lv_iadd hx hb dL_law_731 ?_
  refine va_sld hx hb hX hbl hbA hS hi3 dL_law_732 ?_
  refine li_callM (own := RL) (index := 81) (rest := [.int r1]) hx hb hml hown hts hK hI hS hl.1 (tX9_hang l D d mp (xs (nI (5 * j) + 1).toNatClampNeg) (xs (nI (5 * j) + 2).toNatClampNeg) (xs (nI (5 * j) + 3).toNatClampNeg) μ hq) q_660 q_34 q_657 q_658 q_659 nmhX9_hang ⟨⟨(Nat.le_of_ble_eq_true rfl), (Nat.le_of_ble_eq_true rfl)⟩, ⟨by show 34 + 84 * j + 0 + 0 ≤ 600000; omega, by show 61402 + 1764 * j + 0 + 0 ≤ 7302250; omega⟩⟩ rfl (Nat.le_of_ble_eq_true rfl) dL_law_733 (fun _ μ1 H locs hq hI hS => ?_)
  obtain ⟨r2, rfl, hr, hsim⟩ := hq
  subst hr
  refine W.eq (g2 := F0 m 736 ls [.int r1, .int r1]) rfl ?_
  refine lv_icmp_eq (tgt := 946) hx hb dL_law_736 (by decide) (fun _ => ?_) (fun hc => absurd rfl hc)
  refine W.widen (k := 34 + 84 * (j + 1)) (n := 61402 + 1764 * (j + 1)) (by show 34 + 84 * j + 0 + 0 ≤ _; omega) (by show 61402 + 1764 * j + 0 + 0 ≤ _; omega) ?_
  exact kk σ1 μ1 H locs hsim hI hS
set_option maxHeartbeats 4000000 in
set_option maxRecDepth 100000 in
theorem law_fit {Sim : CS → MS → Nat → Prop} (hok : OK_fit Sim) (hx : p.tables.exec = Jvm.exec) (hb : c.code = cL_law) (hml : c.maxLocals = 4) (hown : s.vm.findClass RL = some m.cls) (hts : ∀ w ∈ lw_ok, w.before args s = true) (hK : KK D d s) (hL : L ≤ 2560) (hX : va_X b L xs s s.heap) (hbl : b < s.heap.size) {j : Nat} (hj : 5 * j + 5 ≤ L) {σ : CS} {μ : MS} (hsim : Sim σ μ j) {H : Heap} {locs : List Loc} {ls : Array Slot} (hI : LI D d cp mp s.heap.size σ μ H) (hS : va_S (AL s) s.heap H locs) (hl : lv_has ls 4 [(3, .int (nI (5 * j))), (2, .ref (mp 0)), (1, .ref (aX cp)), (0, .ref b)]) (kk : ∀ (σ : CS) (μ : MS) (H : Heap) (locs : List Loc), Sim σ μ (j + 1) → LI D d cp mp s.heap.size σ μ H → va_S (AL s) s.heap H locs → W p l e room_1 s m args below meth c H locs (34 + 84 * (j + 1)) (61402 + 1764 * (j + 1)) Qw (F0 m 946 ls [])) : W p l e room_1 s m args below meth c H locs (34 + 84 * j) (61402 + 1764 * j) Qw (F0 m 741 ls []) := by
  have hbA : ¬ AL s b := Nat.not_le.mpr hbl
  have hi1 : vp_in (nI (5 * j) + 1) L := by rw [show (1 : Int32) = nI 1 from rfl, nI_add]; exact vp_in_nI (by omega) (by omega)
  have hi2 : vp_in (nI (5 * j) + 2) L := by rw [show (2 : Int32) = nI 2 from rfl, nI_add]; exact vp_in_nI (by omega) (by omega)
  have hi3 : vp_in (nI (5 * j) + 3) L := by rw [show (3 : Int32) = nI 3 from rfl, nI_add]; exact vp_in_nI (by omega) (by omega)
  have hq := hok σ μ j (xs (nI (5 * j) + 1).toNatClampNeg) (xs (nI (5 * j) + 2).toNatClampNeg) (xs (nI (5 * j) + 3).toNatClampNeg) (by omega) hsim
  refine lv_aload_n hx hb dL_law_741 rfl (lv_at hl 2 rfl) ?_
  refine lv_aload_n hx hb dL_law_742 rfl (lv_at hl 3 rfl) ?_
  refine lv_iload_n hx hb dL_law_743 rfl (lv_at hl 0 rfl) ?_
  refine lv_iconst (v := 1) hx hb dL_law_744 (by decide) ?_
  refine lv_iadd hx hb dL_law_745 ?_
  refine va_sld hx hb hX hbl hbA hS hi1 dL_law_746 ?_
  refine lv_aload_n hx hb dL_law_747 rfl (lv_at hl 3 rfl) ?_
  refine lv_iload_n hx hb dL_law_748 rfl (lv_at hl 0 rfl) ?_
  refine lv_iconst (v := 2) hx hb dL_law_749 (by decide) ?_
  refine lv_iadd hx hb dL_law_750 ?_
  refine va_sld hx hb hX hbl hbA hS hi2 dL_law_751 ?_
  refine lv_aload_n hx hb dL_law_752 rfl (lv_at hl 3 rfl) ?_
  refine lv_iload_n hx hb dL_law_753 rfl (lv_at hl 0 rfl) ?_
  refine lv_iconst (v := 3) hx hb dL_law_754 (by decide) ?_
  refine lv_iadd hx hb dL_law_755 ?_
  refine va_sld hx hb hX hbl hbA hS hi3 dL_law_756 ?_
  refine li_callC (own := RL) (index := 82) hx hb hml hown hts hK hI hS hl.1 (tX8_fit l D d cp (xs (nI (5 * j) + 1).toNatClampNeg) (xs (nI (5 * j) + 2).toNatClampNeg) (xs (nI (5 * j) + 3).toNatClampNeg) σ hq) q_433 q_32 q_430 q_431 q_432 nmhX8_fit ⟨⟨(Nat.le_of_ble_eq_true rfl), (Nat.le_of_ble_eq_true rfl)⟩, ⟨by show 34 + 84 * j + 0 ≤ 600000; omega, by show 61402 + 1764 * j + 0 ≤ 7302250; omega⟩⟩ rfl (Nat.le_of_ble_eq_true rfl) dL_law_757 (fun _ σ1 H locs hq hI hS => ?_)
  obtain ⟨r1, rfl, hq⟩ := hq
  refine W.eq (g2 := F0 m 760 ls [.int r1]) rfl ?_
  refine lv_aload_n hx hb dL_law_760 rfl (lv_at hl 1 rfl) ?_
  refine lv_aload_n hx hb dL_law_761 rfl (lv_at hl 3 rfl) ?_
  refine lv_iload_n hx hb dL_law_762 rfl (lv_at hl 0 rfl) ?_
  refine lv_iconst (v := 1) hx hb dL_law_763 (by decide) ?_
  refine lv_iadd hx hb dL_law_764 ?_
  refine va_sld hx hb hX hbl hbA hS hi1 dL_law_765 ?_
  refine lv_aload_n hx hb dL_law_766 rfl (lv_at hl 3 rfl) ?_
  refine lv_iload_n hx hb dL_law_767 rfl (lv_at hl 0 rfl) ?_
  refine lv_iconst (v := 2) hx hb dL_law_768 (by decide) ?_
  refine lv_iadd hx hb dL_law_769 ?_
  refine va_sld hx hb hX hbl hbA hS hi2 dL_law_770 ?_
  refine lv_aload_n hx hb dL_law_771 rfl (lv_at hl 3 rfl) ?_
  refine lv_iload_n hx hb dL_law_772 rfl (lv_at hl 0 rfl) ?_
  refine lv_iconst (v := 3) hx hb dL_law_773 (by decide) ?_
  refine lv_iadd hx hb dL_law_774 ?_
  refine va_sld hx hb hX hbl hbA hS hi3 dL_law_775 ?_
  refine li_callM (own := RL) (index := 85) (rest := [.int r1]) hx hb hml hown hts hK hI hS hl.1 (tX9_fit l D d mp (xs (nI (5 * j) + 1).toNatClampNeg) (xs (nI (5 * j) + 2).toNatClampNeg) (xs (nI (5 * j) + 3).toNatClampNeg) μ hq) q_664 q_34 q_661 q_662 q_663 nmhX9_fit ⟨⟨(Nat.le_of_ble_eq_true rfl), (Nat.le_of_ble_eq_true rfl)⟩, ⟨by show 34 + 84 * j + 0 + 0 ≤ 600000; omega, by show 61402 + 1764 * j + 0 + 0 ≤ 7302250; omega⟩⟩ rfl (Nat.le_of_ble_eq_true rfl) dL_law_776 (fun _ μ1 H locs hq hI hS => ?_)
  obtain ⟨r2, rfl, hr, hsim⟩ := hq
  subst hr
  refine W.eq (g2 := F0 m 779 ls [.int r1, .int r1]) rfl ?_
  refine lv_icmp_eq (tgt := 946) hx hb dL_law_779 (by decide) (fun _ => ?_) (fun hc => absurd rfl hc)
  refine W.widen (k := 34 + 84 * (j + 1)) (n := 61402 + 1764 * (j + 1)) (by show 34 + 84 * j + 0 + 0 ≤ _; omega) (by show 61402 + 1764 * j + 0 + 0 ≤ _; omega) ?_
  exact kk σ1 μ1 H locs hsim hI hS
set_option maxHeartbeats 4000000 in
set_option maxRecDepth 100000 in
theorem law_cell {Sim : CS → MS → Nat → Prop} (hok : OK_cell Sim) (hx : p.tables.exec = Jvm.exec) (hb : c.code = cL_law) (hml : c.maxLocals = 4) (hown : s.vm.findClass RL = some m.cls) (hts : ∀ w ∈ lw_ok, w.before args s = true) (hK : KK D d s) (hL : L ≤ 2560) (hX : va_X b L xs s s.heap) (hbl : b < s.heap.size) {j : Nat} (hj : 5 * j + 5 ≤ L) {σ : CS} {μ : MS} (hsim : Sim σ μ j) {H : Heap} {locs : List Loc} {ls : Array Slot} (hI : LI D d cp mp s.heap.size σ μ H) (hS : va_S (AL s) s.heap H locs) (hl : lv_has ls 4 [(3, .int (nI (5 * j))), (2, .ref (mp 0)), (1, .ref (aX cp)), (0, .ref b)]) (kk : ∀ (σ : CS) (μ : MS) (H : Heap) (locs : List Loc), Sim σ μ (j + 1) → LI D d cp mp s.heap.size σ μ H → va_S (AL s) s.heap H locs → W p l e room_1 s m args below meth c H locs (34 + 84 * (j + 1)) (61402 + 1764 * (j + 1)) Qw (F0 m 946 ls [])) : W p l e room_1 s m args below meth c H locs (34 + 84 * j) (61402 + 1764 * j) Qw (F0 m 784 ls []) := by
  have hbA : ¬ AL s b := Nat.not_le.mpr hbl
  have hi1 : vp_in (nI (5 * j) + 1) L := by rw [show (1 : Int32) = nI 1 from rfl, nI_add]; exact vp_in_nI (by omega) (by omega)
  have hi2 : vp_in (nI (5 * j) + 2) L := by rw [show (2 : Int32) = nI 2 from rfl, nI_add]; exact vp_in_nI (by omega) (by omega)
  have hi3 : vp_in (nI (5 * j) + 3) L := by rw [show (3 : Int32) = nI 3 from rfl, nI_add]; exact vp_in_nI (by omega) (by omega)
  have hq := hok σ μ j (xs (nI (5 * j) + 1).toNatClampNeg) (xs (nI (5 * j) + 2).toNatClampNeg) (xs (nI (5 * j) + 3).toNatClampNeg) (by omega) hsim
  refine lv_aload_n hx hb dL_law_784 rfl (lv_at hl 2 rfl) ?_
  refine lv_aload_n hx hb dL_law_785 rfl (lv_at hl 3 rfl) ?_
  refine lv_iload_n hx hb dL_law_786 rfl (lv_at hl 0 rfl) ?_
  refine lv_iconst (v := 1) hx hb dL_law_787 (by decide) ?_
  refine lv_iadd hx hb dL_law_788 ?_
  refine va_sld hx hb hX hbl hbA hS hi1 dL_law_789 ?_
  refine lv_aload_n hx hb dL_law_790 rfl (lv_at hl 3 rfl) ?_
  refine lv_iload_n hx hb dL_law_791 rfl (lv_at hl 0 rfl) ?_
  refine lv_iconst (v := 2) hx hb dL_law_792 (by decide) ?_
  refine lv_iadd hx hb dL_law_793 ?_
  refine va_sld hx hb hX hbl hbA hS hi2 dL_law_794 ?_
  refine lv_aload_n hx hb dL_law_795 rfl (lv_at hl 3 rfl) ?_
  refine lv_iload_n hx hb dL_law_796 rfl (lv_at hl 0 rfl) ?_
  refine lv_iconst (v := 3) hx hb dL_law_797 (by decide) ?_
  refine lv_iadd hx hb dL_law_798 ?_
  refine va_sld hx hb hX hbl hbA hS hi3 dL_law_799 ?_
  refine li_callC (own := RL) (index := 86) hx hb hml hown hts hK hI hS hl.1 (tX8_cell l D d cp (xs (nI (5 * j) + 1).toNatClampNeg) (xs (nI (5 * j) + 2).toNatClampNeg) (xs (nI (5 * j) + 3).toNatClampNeg) σ hq) q_437 q_32 q_434 q_435 q_436 nmhX8_cell ⟨⟨(Nat.le_of_ble_eq_true rfl), (Nat.le_of_ble_eq_true rfl)⟩, ⟨by show 34 + 84 * j + 0 ≤ 600000; omega, by show 61402 + 1764 * j + 0 ≤ 7302250; omega⟩⟩ rfl (Nat.le_of_ble_eq_true rfl) dL_law_800 (fun _ σ1 H locs hq hI hS => ?_)
  obtain ⟨r1, rfl, hq⟩ := hq
  refine W.eq (g2 := F0 m 803 ls [.int r1]) rfl ?_
  refine lv_aload_n hx hb dL_law_803 rfl (lv_at hl 1 rfl) ?_
  refine lv_aload_n hx hb dL_law_804 rfl (lv_at hl 3 rfl) ?_
  refine lv_iload_n hx hb dL_law_805 rfl (lv_at hl 0 rfl) ?_
  refine lv_iconst (v := 1) hx hb dL_law_806 (by decide) ?_
  refine lv_iadd hx hb dL_law_807 ?_
  refine va_sld hx hb hX hbl hbA hS hi1 dL_law_808 ?_
  refine lv_aload_n hx hb dL_law_809 rfl (lv_at hl 3 rfl) ?_
  refine lv_iload_n hx hb dL_law_810 rfl (lv_at hl 0 rfl) ?_
  refine lv_iconst (v := 2) hx hb dL_law_811 (by decide) ?_
  refine lv_iadd hx hb dL_law_812 ?_
  refine va_sld hx hb hX hbl hbA hS hi2 dL_law_813 ?_
  refine lv_aload_n hx hb dL_law_814 rfl (lv_at hl 3 rfl) ?_
  refine lv_iload_n hx hb dL_law_815 rfl (lv_at hl 0 rfl) ?_
  refine lv_iconst (v := 3) hx hb dL_law_816 (by decide) ?_
  refine lv_iadd hx hb dL_law_817 ?_
  refine va_sld hx hb hX hbl hbA hS hi3 dL_law_818 ?_
  refine li_callM (own := RL) (index := 89) (rest := [.int r1]) hx hb hml hown hts hK hI hS hl.1 (tX9_cell l D d mp (xs (nI (5 * j) + 1).toNatClampNeg) (xs (nI (5 * j) + 2).toNatClampNeg) (xs (nI (5 * j) + 3).toNatClampNeg) μ hq) q_668 q_34 q_665 q_666 q_667 nmhX9_cell ⟨⟨(Nat.le_of_ble_eq_true rfl), (Nat.le_of_ble_eq_true rfl)⟩, ⟨by show 34 + 84 * j + 0 + 0 ≤ 600000; omega, by show 61402 + 1764 * j + 0 + 0 ≤ 7302250; omega⟩⟩ rfl (Nat.le_of_ble_eq_true rfl) dL_law_819 (fun _ μ1 H locs hq hI hS => ?_)
  obtain ⟨r2, rfl, hr, hsim⟩ := hq
  subst hr
  refine W.eq (g2 := F0 m 822 ls [.int r1, .int r1]) rfl ?_
  refine lv_icmp_eq (tgt := 946) hx hb dL_law_822 (by decide) (fun _ => ?_) (fun hc => absurd rfl hc)
  refine W.widen (k := 34 + 84 * (j + 1)) (n := 61402 + 1764 * (j + 1)) (by show 34 + 84 * j + 0 + 0 ≤ _; omega) (by show 61402 + 1764 * j + 0 + 0 ≤ _; omega) ?_
  exact kk σ1 μ1 H locs hsim hI hS
set_option maxHeartbeats 4000000 in
set_option maxRecDepth 100000 in
theorem law_set {Sim : CS → MS → Nat → Prop} (hok : OK_set Sim) (hx : p.tables.exec = Jvm.exec) (hb : c.code = cL_law) (hml : c.maxLocals = 4) (hown : s.vm.findClass RL = some m.cls) (hts : ∀ w ∈ lw_ok, w.before args s = true) (hK : KK D d s) (hL : L ≤ 2560) (hX : va_X b L xs s s.heap) (hbl : b < s.heap.size) {j : Nat} (hj : 5 * j + 5 ≤ L) {σ : CS} {μ : MS} (hsim : Sim σ μ j) {H : Heap} {locs : List Loc} {ls : Array Slot} (hI : LI D d cp mp s.heap.size σ μ H) (hS : va_S (AL s) s.heap H locs) (hl : lv_has ls 4 [(3, .int (nI (5 * j))), (2, .ref (mp 0)), (1, .ref (aX cp)), (0, .ref b)]) (kk : ∀ (σ : CS) (μ : MS) (H : Heap) (locs : List Loc), Sim σ μ (j + 1) → LI D d cp mp s.heap.size σ μ H → va_S (AL s) s.heap H locs → W p l e room_1 s m args below meth c H locs (34 + 84 * (j + 1)) (61402 + 1764 * (j + 1)) Qw (F0 m 946 ls [])) : W p l e room_1 s m args below meth c H locs (34 + 84 * j) (61402 + 1764 * j) Qw (F0 m 827 ls []) := by
  have hbA : ¬ AL s b := Nat.not_le.mpr hbl
  have hi1 : vp_in (nI (5 * j) + 1) L := by rw [show (1 : Int32) = nI 1 from rfl, nI_add]; exact vp_in_nI (by omega) (by omega)
  have hi2 : vp_in (nI (5 * j) + 2) L := by rw [show (2 : Int32) = nI 2 from rfl, nI_add]; exact vp_in_nI (by omega) (by omega)
  have hi3 : vp_in (nI (5 * j) + 3) L := by rw [show (3 : Int32) = nI 3 from rfl, nI_add]; exact vp_in_nI (by omega) (by omega)
  have hi4 : vp_in (nI (5 * j) + 4) L := by rw [show (4 : Int32) = nI 4 from rfl, nI_add]; exact vp_in_nI (by omega) (by omega)
  have hq := hok σ μ j (xs (nI (5 * j) + 1).toNatClampNeg) (xs (nI (5 * j) + 2).toNatClampNeg) (xs (nI (5 * j) + 3).toNatClampNeg) (xs (nI (5 * j) + 4).toNatClampNeg) (by omega) hsim
  refine lv_aload_n hx hb dL_law_827 rfl (lv_at hl 2 rfl) ?_
  refine lv_aload_n hx hb dL_law_828 rfl (lv_at hl 3 rfl) ?_
  refine lv_iload_n hx hb dL_law_829 rfl (lv_at hl 0 rfl) ?_
  refine lv_iconst (v := 1) hx hb dL_law_830 (by decide) ?_
  refine lv_iadd hx hb dL_law_831 ?_
  refine va_sld hx hb hX hbl hbA hS hi1 dL_law_832 ?_
  refine lv_aload_n hx hb dL_law_833 rfl (lv_at hl 3 rfl) ?_
  refine lv_iload_n hx hb dL_law_834 rfl (lv_at hl 0 rfl) ?_
  refine lv_iconst (v := 2) hx hb dL_law_835 (by decide) ?_
  refine lv_iadd hx hb dL_law_836 ?_
  refine va_sld hx hb hX hbl hbA hS hi2 dL_law_837 ?_
  refine lv_aload_n hx hb dL_law_838 rfl (lv_at hl 3 rfl) ?_
  refine lv_iload_n hx hb dL_law_839 rfl (lv_at hl 0 rfl) ?_
  refine lv_iconst (v := 3) hx hb dL_law_840 (by decide) ?_
  refine lv_iadd hx hb dL_law_841 ?_
  refine va_sld hx hb hX hbl hbA hS hi3 dL_law_842 ?_
  refine lv_aload_n hx hb dL_law_843 rfl (lv_at hl 3 rfl) ?_
  refine lv_iload_n hx hb dL_law_844 rfl (lv_at hl 0 rfl) ?_
  refine lv_iconst (v := 4) hx hb dL_law_845 (by decide) ?_
  refine lv_iadd hx hb dL_law_846 ?_
  refine va_sld hx hb hX hbl hbA hS hi4 dL_law_847 ?_
  refine li_callC (own := RL) (index := 90) hx hb hml hown hts hK hI hS hl.1 (tX8_set l D d cp (xs (nI (5 * j) + 1).toNatClampNeg) (xs (nI (5 * j) + 2).toNatClampNeg) (xs (nI (5 * j) + 3).toNatClampNeg) (xs (nI (5 * j) + 4).toNatClampNeg) σ hq) q_445 q_32 q_442 q_443 q_444 nmhX8_set ⟨⟨(Nat.le_of_ble_eq_true rfl), (Nat.le_of_ble_eq_true rfl)⟩, ⟨by show 34 + 84 * j + 0 ≤ 600000; omega, by show 61402 + 1764 * j + 0 ≤ 7302250; omega⟩⟩ rfl (Nat.le_of_ble_eq_true rfl) dL_law_848 (fun _ σ1 H locs hq hI hS => ?_)
  obtain ⟨r1, rfl, hq⟩ := hq
  refine W.eq (g2 := F0 m 851 ls [.int r1]) rfl ?_
  refine lv_aload_n hx hb dL_law_851 rfl (lv_at hl 1 rfl) ?_
  refine lv_aload_n hx hb dL_law_852 rfl (lv_at hl 3 rfl) ?_
  refine lv_iload_n hx hb dL_law_853 rfl (lv_at hl 0 rfl) ?_
  refine lv_iconst (v := 1) hx hb dL_law_854 (by decide) ?_
  refine lv_iadd hx hb dL_law_855 ?_
  refine va_sld hx hb hX hbl hbA hS hi1 dL_law_856 ?_
  refine lv_aload_n hx hb dL_law_857 rfl (lv_at hl 3 rfl) ?_
  refine lv_iload_n hx hb dL_law_858 rfl (lv_at hl 0 rfl) ?_
  refine lv_iconst (v := 2) hx hb dL_law_859 (by decide) ?_
  refine lv_iadd hx hb dL_law_860 ?_
  refine va_sld hx hb hX hbl hbA hS hi2 dL_law_861 ?_
  refine lv_aload_n hx hb dL_law_862 rfl (lv_at hl 3 rfl) ?_
  refine lv_iload_n hx hb dL_law_863 rfl (lv_at hl 0 rfl) ?_
  refine lv_iconst (v := 3) hx hb dL_law_864 (by decide) ?_
  refine lv_iadd hx hb dL_law_865 ?_
  refine va_sld hx hb hX hbl hbA hS hi3 dL_law_866 ?_
  refine lv_aload_n hx hb dL_law_867 rfl (lv_at hl 3 rfl) ?_
  refine lv_iload_n hx hb dL_law_868 rfl (lv_at hl 0 rfl) ?_
  refine lv_iconst (v := 4) hx hb dL_law_869 (by decide) ?_
  refine lv_iadd hx hb dL_law_870 ?_
  refine va_sld hx hb hX hbl hbA hS hi4 dL_law_871 ?_
  refine li_callM (own := RL) (index := 93) (rest := [.int r1]) hx hb hml hown hts hK hI hS hl.1 (tX9_set l D d mp (xs (nI (5 * j) + 1).toNatClampNeg) (xs (nI (5 * j) + 2).toNatClampNeg) (xs (nI (5 * j) + 3).toNatClampNeg) (xs (nI (5 * j) + 4).toNatClampNeg) μ hq) q_672 q_34 q_669 q_670 q_671 nmhX9_set ⟨⟨(Nat.le_of_ble_eq_true rfl), (Nat.le_of_ble_eq_true rfl)⟩, ⟨by show 34 + 84 * j + 0 + 0 ≤ 600000; omega, by show 61402 + 1764 * j + 0 + 0 ≤ 7302250; omega⟩⟩ rfl (Nat.le_of_ble_eq_true rfl) dL_law_872 (fun _ μ1 H locs hq hI hS => ?_)
  obtain ⟨r2, rfl, hr, hsim⟩ := hq
  subst hr
  refine W.eq (g2 := F0 m 875 ls [.int r1, .int r1]) rfl ?_
  refine lv_icmp_eq (tgt := 946) hx hb dL_law_875 (by decide) (fun _ => ?_) (fun hc => absurd rfl hc)
  refine W.widen (k := 34 + 84 * (j + 1)) (n := 61402 + 1764 * (j + 1)) (by show 34 + 84 * j + 0 + 0 ≤ _; omega) (by show 61402 + 1764 * j + 0 + 0 ≤ _; omega) ?_
  exact kk σ1 μ1 H locs hsim hI hS
set_option maxHeartbeats 4000000 in
set_option maxRecDepth 100000 in
theorem law_twist {Sim : CS → MS → Nat → Prop} (hok : OK_twist Sim) (hx : p.tables.exec = Jvm.exec) (hb : c.code = cL_law) (hml : c.maxLocals = 4) (hown : s.vm.findClass RL = some m.cls) (hts : ∀ w ∈ lw_ok, w.before args s = true) (hK : KK D d s) (hL : L ≤ 2560) (hX : va_X b L xs s s.heap) (hbl : b < s.heap.size) {j : Nat} (hj : 5 * j + 5 ≤ L) {σ : CS} {μ : MS} (hsim : Sim σ μ j) {H : Heap} {locs : List Loc} {ls : Array Slot} (hI : LI D d cp mp s.heap.size σ μ H) (hS : va_S (AL s) s.heap H locs) (hl : lv_has ls 4 [(3, .int (nI (5 * j))), (2, .ref (mp 0)), (1, .ref (aX cp)), (0, .ref b)]) (kk : ∀ (σ : CS) (μ : MS) (H : Heap) (locs : List Loc), Sim σ μ (j + 1) → LI D d cp mp s.heap.size σ μ H → va_S (AL s) s.heap H locs → W p l e room_1 s m args below meth c H locs (34 + 84 * (j + 1)) (61402 + 1764 * (j + 1)) Qw (F0 m 946 ls [])) : W p l e room_1 s m args below meth c H locs (34 + 84 * j) (61402 + 1764 * j) Qw (F0 m 880 ls []) := by
  have hbA : ¬ AL s b := Nat.not_le.mpr hbl
  have hi1 : vp_in (nI (5 * j) + 1) L := by rw [show (1 : Int32) = nI 1 from rfl, nI_add]; exact vp_in_nI (by omega) (by omega)
  have hi2 : vp_in (nI (5 * j) + 2) L := by rw [show (2 : Int32) = nI 2 from rfl, nI_add]; exact vp_in_nI (by omega) (by omega)
  have hi3 : vp_in (nI (5 * j) + 3) L := by rw [show (3 : Int32) = nI 3 from rfl, nI_add]; exact vp_in_nI (by omega) (by omega)
  have hi4 : vp_in (nI (5 * j) + 4) L := by rw [show (4 : Int32) = nI 4 from rfl, nI_add]; exact vp_in_nI (by omega) (by omega)
  have hq := hok σ μ j (xs (nI (5 * j) + 1).toNatClampNeg) (xs (nI (5 * j) + 2).toNatClampNeg) (xs (nI (5 * j) + 3).toNatClampNeg) (xs (nI (5 * j) + 4).toNatClampNeg) (by omega) hsim
  refine lv_aload_n hx hb dL_law_880 rfl (lv_at hl 2 rfl) ?_
  refine lv_aload_n hx hb dL_law_881 rfl (lv_at hl 3 rfl) ?_
  refine lv_iload_n hx hb dL_law_882 rfl (lv_at hl 0 rfl) ?_
  refine lv_iconst (v := 1) hx hb dL_law_883 (by decide) ?_
  refine lv_iadd hx hb dL_law_884 ?_
  refine va_sld hx hb hX hbl hbA hS hi1 dL_law_885 ?_
  refine lv_aload_n hx hb dL_law_886 rfl (lv_at hl 3 rfl) ?_
  refine lv_iload_n hx hb dL_law_887 rfl (lv_at hl 0 rfl) ?_
  refine lv_iconst (v := 2) hx hb dL_law_888 (by decide) ?_
  refine lv_iadd hx hb dL_law_889 ?_
  refine va_sld hx hb hX hbl hbA hS hi2 dL_law_890 ?_
  refine lv_aload_n hx hb dL_law_891 rfl (lv_at hl 3 rfl) ?_
  refine lv_iload_n hx hb dL_law_892 rfl (lv_at hl 0 rfl) ?_
  refine lv_iconst (v := 3) hx hb dL_law_893 (by decide) ?_
  refine lv_iadd hx hb dL_law_894 ?_
  refine va_sld hx hb hX hbl hbA hS hi3 dL_law_895 ?_
  refine lv_aload_n hx hb dL_law_896 rfl (lv_at hl 3 rfl) ?_
  refine lv_iload_n hx hb dL_law_897 rfl (lv_at hl 0 rfl) ?_
  refine lv_iconst (v := 4) hx hb dL_law_898 (by decide) ?_
  refine lv_iadd hx hb dL_law_899 ?_
  refine va_sld hx hb hX hbl hbA hS hi4 dL_law_900 ?_
  refine li_callC (own := RL) (index := 94) hx hb hml hown hts hK hI hS hl.1 (tX8_twist l D d cp (xs (nI (5 * j) + 1).toNatClampNeg) (xs (nI (5 * j) + 2).toNatClampNeg) (xs (nI (5 * j) + 3).toNatClampNeg) (xs (nI (5 * j) + 4).toNatClampNeg) σ hq) q_449 q_32 q_446 q_447 q_448 nmhX8_twist ⟨⟨(Nat.le_of_ble_eq_true rfl), (Nat.le_of_ble_eq_true rfl)⟩, ⟨by show 34 + 84 * j + 0 ≤ 600000; omega, by show 61402 + 1764 * j + 0 ≤ 7302250; omega⟩⟩ rfl (Nat.le_of_ble_eq_true rfl) dL_law_901 (fun _ σ1 H locs hq hI hS => ?_)
  obtain ⟨r1, rfl, hq⟩ := hq
  refine W.eq (g2 := F0 m 904 ls [.int r1]) rfl ?_
  refine lv_aload_n hx hb dL_law_904 rfl (lv_at hl 1 rfl) ?_
  refine lv_aload_n hx hb dL_law_905 rfl (lv_at hl 3 rfl) ?_
  refine lv_iload_n hx hb dL_law_906 rfl (lv_at hl 0 rfl) ?_
  refine lv_iconst (v := 1) hx hb dL_law_907 (by decide) ?_
  refine lv_iadd hx hb dL_law_908 ?_
  refine va_sld hx hb hX hbl hbA hS hi1 dL_law_909 ?_
  refine lv_aload_n hx hb dL_law_910 rfl (lv_at hl 3 rfl) ?_
  refine lv_iload_n hx hb dL_law_911 rfl (lv_at hl 0 rfl) ?_
  refine lv_iconst (v := 2) hx hb dL_law_912 (by decide) ?_
  refine lv_iadd hx hb dL_law_913 ?_
  refine va_sld hx hb hX hbl hbA hS hi2 dL_law_914 ?_
  refine lv_aload_n hx hb dL_law_915 rfl (lv_at hl 3 rfl) ?_
  refine lv_iload_n hx hb dL_law_916 rfl (lv_at hl 0 rfl) ?_
  refine lv_iconst (v := 3) hx hb dL_law_917 (by decide) ?_
  refine lv_iadd hx hb dL_law_918 ?_
  refine va_sld hx hb hX hbl hbA hS hi3 dL_law_919 ?_
  refine lv_aload_n hx hb dL_law_920 rfl (lv_at hl 3 rfl) ?_
  refine lv_iload_n hx hb dL_law_921 rfl (lv_at hl 0 rfl) ?_
  refine lv_iconst (v := 4) hx hb dL_law_922 (by decide) ?_
  refine lv_iadd hx hb dL_law_923 ?_
  refine va_sld hx hb hX hbl hbA hS hi4 dL_law_924 ?_
  refine li_callM (own := RL) (index := 97) (rest := [.int r1]) hx hb hml hown hts hK hI hS hl.1 (tX9_twist l D d mp (xs (nI (5 * j) + 1).toNatClampNeg) (xs (nI (5 * j) + 2).toNatClampNeg) (xs (nI (5 * j) + 3).toNatClampNeg) (xs (nI (5 * j) + 4).toNatClampNeg) μ hq) q_676 q_34 q_673 q_674 q_675 nmhX9_twist ⟨⟨(Nat.le_of_ble_eq_true rfl), (Nat.le_of_ble_eq_true rfl)⟩, ⟨by show 34 + 84 * j + 0 + 0 ≤ 600000; omega, by show 61402 + 1764 * j + 0 + 0 ≤ 7302250; omega⟩⟩ rfl (Nat.le_of_ble_eq_true rfl) dL_law_925 (fun _ μ1 H locs hq hI hS => ?_)
  obtain ⟨r2, rfl, hr, hsim⟩ := hq
  subst hr
  refine W.eq (g2 := F0 m 928 ls [.int r1, .int r1]) rfl ?_
  refine lv_icmp_eq (tgt := 946) hx hb dL_law_928 (by decide) (fun _ => ?_) (fun hc => absurd rfl hc)
  refine W.widen (k := 34 + 84 * (j + 1)) (n := 61402 + 1764 * (j + 1)) (by show 34 + 84 * j + 0 + 0 ≤ _; omega) (by show 61402 + 1764 * j + 0 + 0 ≤ _; omega) ?_
  exact kk σ1 μ1 H locs hsim hI hS
set_option maxHeartbeats 4000000 in
set_option maxRecDepth 100000 in
theorem law_state {Sim : CS → MS → Nat → Prop} (hok : OK_state Sim) (hx : p.tables.exec = Jvm.exec) (hb : c.code = cL_law) (hml : c.maxLocals = 4) (hown : s.vm.findClass RL = some m.cls) (hts : ∀ w ∈ lw_ok, w.before args s = true) (hK : KK D d s) (hL : L ≤ 2560) (hX : va_X b L xs s s.heap) (hbl : b < s.heap.size) {j : Nat} (hj : 5 * j + 5 ≤ L) {σ : CS} {μ : MS} (hsim : Sim σ μ j) {H : Heap} {locs : List Loc} {ls : Array Slot} (hI : LI D d cp mp s.heap.size σ μ H) (hS : va_S (AL s) s.heap H locs) (hl : lv_has ls 4 [(3, .int (nI (5 * j))), (2, .ref (mp 0)), (1, .ref (aX cp)), (0, .ref b)]) (kk : ∀ (σ : CS) (μ : MS) (H : Heap) (locs : List Loc), Sim σ μ (j + 1) → LI D d cp mp s.heap.size σ μ H → va_S (AL s) s.heap H locs → W p l e room_1 s m args below meth c H locs (34 + 84 * (j + 1)) (61402 + 1764 * (j + 1)) Qw (F0 m 946 ls [])) : W p l e room_1 s m args below meth c H locs (34 + 84 * j) (61402 + 1764 * j) Qw (F0 m 933 ls []) := by
  have hbA : ¬ AL s b := Nat.not_le.mpr hbl
  have hq := hok σ μ j  (by omega) hsim
  refine lv_aload_n hx hb dL_law_933 rfl (lv_at hl 2 rfl) ?_
  refine li_callC (own := RL) (index := 98) hx hb hml hown hts hK hI hS hl.1 (tX8_state l D d cp  σ hq) q_453 q_32 q_450 q_451 q_452 nmhX8_state ⟨⟨(Nat.le_of_ble_eq_true rfl), (Nat.le_of_ble_eq_true rfl)⟩, ⟨by show 34 + 84 * j + 0 ≤ 600000; omega, by show 61402 + 1764 * j + 0 ≤ 7302250; omega⟩⟩ rfl (Nat.le_of_ble_eq_true rfl) dL_law_934 (fun _ σ1 H locs hq hI hS => ?_)
  obtain ⟨r1, rfl, hq⟩ := hq
  refine W.eq (g2 := F0 m 937 ls [.int r1]) rfl ?_
  refine lv_aload_n hx hb dL_law_937 rfl (lv_at hl 1 rfl) ?_
  refine li_callM (own := RL) (index := 102) (rest := [.int r1]) hx hb hml hown hts hK hI hS hl.1 (tX9_state l D d mp  μ hq) q_680 q_34 q_677 q_678 q_679 nmhX9_state ⟨⟨(Nat.le_of_ble_eq_true rfl), (Nat.le_of_ble_eq_true rfl)⟩, ⟨by show 34 + 84 * j + 0 + 0 ≤ 600000; omega, by show 61402 + 1764 * j + 0 + 0 ≤ 7302250; omega⟩⟩ rfl (Nat.le_of_ble_eq_true rfl) dL_law_938 (fun _ μ1 H locs hq hI hS => ?_)
  obtain ⟨r2, rfl, hr, hsim⟩ := hq
  subst hr
  refine W.eq (g2 := F0 m 941 ls [.int r1, .int r1]) rfl ?_
  refine lv_icmp_eq (tgt := 946) hx hb dL_law_941 (by decide) (fun _ => ?_) (fun hc => absurd rfl hc)
  refine W.widen (k := 34 + 84 * (j + 1)) (n := 61402 + 1764 * (j + 1)) (by show 34 + 84 * j + 0 + 0 ≤ _; omega) (by show 61402 + 1764 * j + 0 + 0 ≤ _; omega) ?_
  exact kk σ1 μ1 H locs hsim hI hS
set_option maxHeartbeats 4000000 in
set_option maxRecDepth 100000 in
theorem law_loop {Sim : CS → MS → Nat → Prop} (hok : OK_all Sim) (hmo : ∀ σ μ j, Sim σ μ j → Sim σ μ (j + 1)) (hx : p.tables.exec = Jvm.exec) (hb : c.code = cL_law) (hml : c.maxLocals = 4) (hown : s.vm.findClass RL = some m.cls) (hts : ∀ w ∈ lw_ok, w.before args s = true) (hK : KK D d s) (hL : L ≤ 2560) (hX : va_X b L xs s s.heap) (hbl : b < s.heap.size) (hend : ∀ (H : Heap) (ls : Array Slot), W p l e room_1 s m args below meth c H [] 600000 7302250 Qw (F0 m 953 ls [.int 1])) : ∀ (n j : Nat) (σ : CS) (μ : MS) (H : Heap) (locs : List Loc) (ls : Array Slot), j ≤ 512 → 513 ≤ j + n → Sim σ μ j → LI D d cp mp s.heap.size σ μ H → va_S (AL s) s.heap H locs → lv_has ls 4 [(3, .int (nI (5 * j))), (2, .ref (mp 0)), (1, .ref (aX cp)), (0, .ref b)] → W p l e room_1 s m args below meth c H locs (34 + 84 * j) (61402 + 1764 * j) Qw (F0 m 18 ls []) := by
  have hbA : ¬ AL s b := Nat.not_le.mpr hbl
  obtain ⟨k0, k1, k2, k3, k4, k5, k6, k7, k8, k9, k10, k11, k12, k13, k14, k15, k16, k17, k18, k19, k20⟩ := hok
  intro n
  induction n with
  | zero => intro j σ μ H locs ls h1 h2; exact absurd h2 (by omega)
  | succ n ih =>
    intro j σ μ H locs ls h1 h2 hsim hI hS hl
    refine lv_iload_n hx hb dL_law_18 rfl (lv_at hl 0 rfl) ?_
    refine lv_aload_n hx hb dL_law_19 rfl (lv_at hl 3 rfl) ?_
    refine va_slen hx hb hX hbl hbA hS dL_law_20 ?_
    refine lv_iconst (v := 5) hx hb dL_law_21 (by decide) ?_
    refine lv_isub hx hb dL_law_22 ?_
    refine lv_icmp_gt (tgt := 952) hx hb dL_law_23 (by decide) (fun _ => ?_) (fun hc => ?_)
    · refine lv_iconst (v := 1) hx hb dL_law_952 (by decide) ?_
      refine va_forget (fun q hq => hS.2.2 q hq) ?_
      refine W.widen (k := 600000) (n := 7302250) (by omega) (by omega) ?_
      exact hend _ _
    · have hj := law_go hL (by omega) hc
      have back : ∀ (σ : CS) (μ : MS) (H : Heap) (locs : List Loc), Sim σ μ (j + 1) → LI D d cp mp s.heap.size σ μ H → va_S (AL s) s.heap H locs → W p l e room_1 s m args below meth c H locs (34 + 84 * (j + 1)) (61402 + 1764 * (j + 1)) Qw (F0 m 946 ls []) := by
        intro σ μ H locs hsim hI hS
        refine lv_iinc (v := nI (5 * (j + 1))) (lv' := [(3, .int (nI (5 * (j + 1)))), (2, .ref (mp 0)), (1, .ref (aX cp)), (0, .ref b)]) hx hb dL_law_946 hl (k := 0) rfl (by show nI (5 * j) + nI 5 = _; rw [nI_add]; rfl) (by decide) rfl (fun ls hl => ?_)
        refine lv_goto (tgt := 18) hx hb dL_law_949 (by decide) ?_
        exact ih (j + 1) σ μ H locs ls (by omega) (by omega) hsim hI hS hl
      have hi0 : vp_in (nI (5 * j)) L := vp_in_nI (by omega) (by omega)
      refine lv_aload_n hx hb dL_law_26 rfl (lv_at hl 3 rfl) ?_
      refine lv_iload_n hx hb dL_law_27 rfl (lv_at hl 0 rfl) ?_
      refine va_sld hx hb hX hbl hbA hS hi0 dL_law_28 ?_
      refine lv_bipush (v := 31) hx hb dL_law_29 (by decide) ?_
      refine lv_iand hx hb dL_law_31 ?_
      refine lv_topi (fun x ex => ?_)
      rcases sw21 x with hc | hc | hc | hc | hc | hc | hc | hc | hc | hc | hc | hc | hc | hc | hc | hc | hc | hc | hc | hc | hc | hc
      · refine lv_tableOut (tgt := 946) hx hb dL_law_32 hc (by decide) ?_
        refine W.widen (k := 34 + 84 * (j + 1)) (n := 61402 + 1764 * (j + 1)) (by omega) (by omega) ?_
        exact back σ μ H locs (hmo _ _ _ hsim) hI hS
      · refine lv_tableIn (tgt := 132) hx hb dL_law_32 (by rw [hc]; decide) (by rw [hc]; decide) (by rw [hc]; rfl) (by decide) ?_
        exact law_cut k0 hx hb hml hown hts hK hL hX hbl hj hsim hI hS hl back
      · refine lv_tableIn (tgt := 175) hx hb dL_law_32 (by rw [hc]; decide) (by rw [hc]; decide) (by rw [hc]; rfl) (by decide) ?_
        exact law_strip k1 hx hb hml hown hts hK hL hX hbl hj hsim hI hS hl back
      · refine lv_tableIn (tgt := 208) hx hb dL_law_32 (by rw [hc]; decide) (by rw [hc]; decide) (by rw [hc]; rfl) (by decide) ?_
        exact law_share k2 hx hb hml hown hts hK hL hX hbl hj hsim hI hS hl back
      · refine lv_tableIn (tgt := 251) hx hb dL_law_32 (by rw [hc]; decide) (by rw [hc]; decide) (by rw [hc]; rfl) (by decide) ?_
        exact law_places k3 hx hb hml hown hts hK hL hX hbl hj hsim hI hS hl back
      · refine lv_tableIn (tgt := 284) hx hb dL_law_32 (by rw [hc]; decide) (by rw [hc]; decide) (by rw [hc]; rfl) (by decide) ?_
        exact law_read k4 hx hb hml hown hts hK hL hX hbl hj hsim hI hS hl back
      · refine lv_tableIn (tgt := 327) hx hb dL_law_32 (by rw [hc]; decide) (by rw [hc]; decide) (by rw [hc]; rfl) (by decide) ?_
        exact law_write k5 hx hb hml hown hts hK hL hX hbl hj hsim hI hS hl back
      · refine lv_tableIn (tgt := 380) hx hb dL_law_32 (by rw [hc]; decide) (by rw [hc]; decide) (by rw [hc]; rfl) (by decide) ?_
        exact law_turn k6 hx hb hml hown hts hK hL hX hbl hj hsim hI hS hl back
      · refine lv_tableIn (tgt := 433) hx hb dL_law_32 (by rw [hc]; decide) (by rw [hc]; decide) (by rw [hc]; rfl) (by decide) ?_
        exact law_head k7 hx hb hml hown hts hK hL hX hbl hj hsim hI hS hl back
      · refine lv_tableIn (tgt := 466) hx hb dL_law_32 (by rw [hc]; decide) (by rw [hc]; decide) (by rw [hc]; rfl) (by decide) ?_
        exact law_play k8 hx hb hml hown hts hK hL hX hbl hj hsim hI hS hl back
      · refine lv_tableIn (tgt := 499) hx hb dL_law_32 (by rw [hc]; decide) (by rw [hc]; decide) (by rw [hc]; rfl) (by decide) ?_
        exact law_heard k9 hx hb hml hown hts hK hL hX hbl hj hsim hI hS hl back
      · refine lv_tableIn (tgt := 533) hx hb dL_law_32 (by rw [hc]; decide) (by rw [hc]; decide) (by rw [hc]; rfl) (by decide) ?_
        exact law_quiet k10 hx hb hml hown hts hK hL hX hbl hj hsim hI hS hl back
      · refine lv_tableIn (tgt := 556) hx hb dL_law_32 (by rw [hc]; decide) (by rw [hc]; decide) (by rw [hc]; rfl) (by decide) ?_
        exact law_comb k11 hx hb hml hown hts hK hL hX hbl hj hsim hI hS hl back
      · refine lv_tableIn (tgt := 609) hx hb dL_law_32 (by rw [hc]; decide) (by rw [hc]; decide) (by rw [hc]; rfl) (by decide) ?_
        exact law_drop k12 hx hb hml hown hts hK hL hX hbl hj hsim hI hS hl back
      · refine lv_tableIn (tgt := 632) hx hb dL_law_32 (by rw [hc]; decide) (by rw [hc]; decide) (by rw [hc]; rfl) (by decide) ?_
        exact law_about k13 hx hb hml hown hts hK hL hX hbl hj hsim hI hS hl back
      · refine lv_tableIn (tgt := 665) hx hb dL_law_32 (by rw [hc]; decide) (by rw [hc]; decide) (by rw [hc]; rfl) (by decide) ?_
        exact law_loosen k14 hx hb hml hown hts hK hL hX hbl hj hsim hI hS hl back
      · refine lv_tableIn (tgt := 698) hx hb dL_law_32 (by rw [hc]; decide) (by rw [hc]; decide) (by rw [hc]; rfl) (by decide) ?_
        exact law_hang k15 hx hb hml hown hts hK hL hX hbl hj hsim hI hS hl back
      · refine lv_tableIn (tgt := 741) hx hb dL_law_32 (by rw [hc]; decide) (by rw [hc]; decide) (by rw [hc]; rfl) (by decide) ?_
        exact law_fit k16 hx hb hml hown hts hK hL hX hbl hj hsim hI hS hl back
      · refine lv_tableIn (tgt := 784) hx hb dL_law_32 (by rw [hc]; decide) (by rw [hc]; decide) (by rw [hc]; rfl) (by decide) ?_
        exact law_cell k17 hx hb hml hown hts hK hL hX hbl hj hsim hI hS hl back
      · refine lv_tableIn (tgt := 827) hx hb dL_law_32 (by rw [hc]; decide) (by rw [hc]; decide) (by rw [hc]; rfl) (by decide) ?_
        exact law_set k18 hx hb hml hown hts hK hL hX hbl hj hsim hI hS hl back
      · refine lv_tableIn (tgt := 880) hx hb dL_law_32 (by rw [hc]; decide) (by rw [hc]; decide) (by rw [hc]; rfl) (by decide) ?_
        exact law_twist k19 hx hb hml hown hts hK hL hX hbl hj hsim hI hS hl back
      · refine lv_tableIn (tgt := 933) hx hb dL_law_32 (by rw [hc]; decide) (by rw [hc]; decide) (by rw [hc]; rfl) (by decide) ?_
        exact law_state k20 hx hb hml hown hts hK hL hX hbl hj hsim hI hS hl back
set_option maxHeartbeats 4000000 in
set_option maxRecDepth 100000 in
theorem law_start {Sim : CS → MS → Nat → Prop} (hok : OK_all Sim) (hmo : ∀ σ μ j, Sim σ μ j → Sim σ μ (j + 1)) (hini : ∀ P : MS → Prop, (∀ μ, Sim σ0 μ 0 → P μ) → wX9_init μ0 P) (hx : p.tables.exec = Jvm.exec) (hb : c.code = cL_law) (hml : c.maxLocals = 4) (hown : s.vm.findClass RL = some m.cls) (hts : ∀ w ∈ lw_ok, w.before args s = true) (hK : KK D d s) (hL : L ≤ 2560) (hX : va_X b L xs s s.heap) (hbl : b < s.heap.size) (hend : ∀ (H : Heap) (ls : Array Slot), W p l e room_1 s m args below meth c H [] 600000 7302250 Qw (F0 m 953 ls [.int 1])) {ls : Array Slot} (hl : lv_has ls 4 [(0, .ref b)]) : W p l e room_1 s m args below meth c s.heap [] 0 0 Qw (F0 m 0 ls []) := by
  have hA : ∀ q, s.heap.size ≤ q → AL s q := fun _ h => h
  have hG : ΩG D (AL s) (fun _ => none) s.heap := ⟨fun a e h => (by cases h), fun a e h => (by cases h)⟩
  have hS : va_S (AL s) s.heap s.heap [] := va_S.rf
  refine g_new (ci := 7) (fs := [.null, .null, .int 0]) (C := RX8) (T := TX8) (N := 3) hx hb hts inX8 tyX8 tyX8_ok hown (hts _ q_43) (hts _ q_44) (hts _ q_32) hK hG hS hA rfl (fun j hj => by rcases (show j = 0 ∨ j = 1 ∨ j = 2 by omega) with rfl | rfl | rfl <;> rfl) (Nat.le_of_ble_eq_true rfl) (Nat.le_of_ble_eq_true rfl) dL_law_0 (fun x H hqn hG hS => ?_)
  refine lv_dup hx hb dL_law_3 rfl ?_
  refine mt_callI (index := 9) hx hb hml hown hts hK (ΩG.mono D) hA hG hS hl.1 (tX8_init l D d x _ (Q := fun G1 => ∃ cp : CP, aX cp = x ∧ CRep d cp σ0 G1) pset_self (fun cp G1 h1 h2 => ⟨cp, h1, h2⟩)) q_47 q_32 q_45 q_46 rfl nmhX8_init ⟨⟨(Nat.le_of_ble_eq_true rfl), (Nat.le_of_ble_eq_true rfl)⟩, ⟨(Nat.le_of_ble_eq_true rfl), (Nat.le_of_ble_eq_true rfl)⟩⟩ rfl (Nat.le_of_ble_eq_true rfl) dL_law_4 (fun _ G1 H locs hu hGb hS => ?_)
  obtain ⟨rfl, cp, rfl, hR⟩ := hu
  refine W.eq (g2 := F0 m 7 ls [.ref (aX cp)]) rfl ?_
  refine lv_astore_n (lv' := [(1, .ref (aX cp)), (0, .ref b)]) hx hb dL_law_7 rfl hl (by decide) rfl (fun ls hl => ?_)
  refine g_new (ci := 8) (fs := [.null, .null, .null, .null, .null, .null, .null, .null, .null, .null, .null, .null, .null, .null, .int 0]) (C := RX9) (T := TX9) (N := 15) hx hb hts inX9 tyX9 tyX9_ok hown (hts _ q_454) (hts _ q_455) (hts _ q_34) hK hGb hS hA rfl (fun j hj => by rcases (show j = 0 ∨ j = 1 ∨ j = 2 ∨ j = 3 ∨ j = 4 ∨ j = 5 ∨ j = 6 ∨ j = 7 ∨ j = 8 ∨ j = 9 ∨ j = 10 ∨ j = 11 ∨ j = 12 ∨ j = 13 ∨ j = 14 by omega) with rfl | rfl | rfl | rfl | rfl | rfl | rfl | rfl | rfl | rfl | rfl | rfl | rfl | rfl | rfl <;> rfl) (Nat.le_of_ble_eq_true rfl) (Nat.le_of_ble_eq_true rfl) dL_law_8 (fun q H hqn hG3 hS => ?_)
  refine lv_dup hx hb dL_law_11 rfl ?_
  have hne : ∀ {z : Nat} {e : va_E}, G1 z = some e → z ≠ q := fun {z} {e} hz h => by rw [h, hqn] at hz; cases hz
  have hO : ΩC D d cp (fun z => ∃ e, G1 z = some e) σ0 H := ⟨G1, ⟨fun a e ha => hG3.1 a e (by rw [pset_ne (hne ha)]; exact ha), fun a e ha => ⟨e, ha⟩⟩, hR⟩
  have hF : ∀ z, (∃ e, G1 z = some e) → s.heap.size ≤ z ∧ z < H.size := fun z ⟨e, he⟩ => ⟨hG3.2 z e (by rw [pset_ne (hne he)]; exact he), hG3.1.lt (a := z) (e := e) (by rw [pset_ne (hne he)]; exact he)⟩
  have hm : ΩI D d (fun z => z = q) (.inl (pset (fun _ => none) q (.inr (8, [.null, .null, .null, .null, .null, .null, .null, .null, .null, .null, .null, .null, .null, .null, .int 0])))) H := by
    refine ⟨fun a e ha => ?_, fun a e ha => ?_⟩
    · by_cases h : a = q
      · subst h; rw [pset_self] at ha; cases ha; exact hG3.1 _ _ pset_self
      · rw [pset_ne h] at ha; cases ha
    · by_cases h : a = q
      · exact h
      · rw [pset_ne h] at ha; cases ha
  have hqs : s.heap.size ≤ q ∧ q < H.size := ⟨hG3.2 q _ pset_self, hG3.1.lt pset_self⟩
  refine mt_go2 (Ω := ΩI D d) (F := fun z => z = q) (fun z h => by subst h; exact hqs.1) (va_runI (b := q) (As := []) (rest := [.ref q]) (mc := 14) (ms := 61268) ⟨hx, hb, hml, hown, hts⟩ (tX9_init l D d q _ (QQ := fun u => ∃ (mp : Nat → Nat) (μ : MS), u = .inr (mp, μ) ∧ mp 0 = q ∧ Sim σ0 μ 0) pset_self (fun mp h0 => hini _ (fun μ hs => ⟨mp, μ, rfl, h0, hs⟩)) (fun z => z = q) H.size) ⟨callB_of 0 hts (ws_good q_458) rfl rfl rfl (hts _ q_34) (hts _ q_456) nmhX9_init ⟨(Nat.le_of_ble_eq_true rfl), (Nat.le_of_ble_eq_true rfl)⟩, rfl, hts _ q_457⟩ ⟨mt_blind, fun U hU hW => ⟨rfl, by rw [hU], hK.moved hW, by rw [hU]; exact hm⟩⟩ rfl rfl hl.1 rfl (lv_room (Nat.le_of_ble_eq_true rfl)) dL_law_12 ⟨(Nat.le_of_ble_eq_true rfl), (Nat.le_of_ble_eq_true rfl)⟩) hS (fun r u H1 locs hQ hO1 hz hk hS => ?_)
  obtain ⟨rfl, mp, μ, rfl, h0, hs⟩ := hQ
  have hO1 : ΩM D d mp (AF (fun z => z = q) H.size) μ H1 := hO1
  have hI : LI D d cp mp s.heap.size σ0 μ H1 := ⟨_, _, hO.kept (fun z hz => hk z (hF z hz).2 (fun h => by obtain ⟨e, he⟩ := hz; exact hne he h)), hO1.bnd, fun z hz => ⟨(hF z hz).1, Nat.lt_of_lt_of_le (hF z hz).2 (by assumption)⟩, fun z hz => ⟨hz.1.elim (fun h => by subst h; exact hqs.1) (fun h => Nat.le_trans (Nat.le_trans hqs.1 (Nat.le_of_lt hqs.2)) h), hz.2⟩, fun z hz hm => hm.1.elim (fun h => by obtain ⟨e, he⟩ := hz; exact hne he h) (fun h => by have := (hF z hz).2; omega)⟩
  refine W.eq (g2 := F0 m 15 ls [.ref (mp 0)]) (by rw [h0]; rfl) ?_
  refine lv_astore_n (lv' := [(2, .ref (mp 0)), (1, .ref (aX cp)), (0, .ref b)]) hx hb dL_law_15 rfl hl (by decide) rfl (fun ls hl => ?_)
  refine lv_iconst (v := 0) hx hb dL_law_16 (by decide) ?_
  refine lv_istore_n (lv' := [(3, .int 0), (2, .ref (mp 0)), (1, .ref (aX cp)), (0, .ref b)]) hx hb dL_law_17 rfl hl (by decide) rfl (fun ls hl => ?_)
  refine W.widen (k := 34 + 84 * 0) (n := 61402 + 1764 * 0) (Nat.le_of_ble_eq_true rfl) (Nat.le_of_ble_eq_true rfl) ?_
  exact law_loop hok hmo hx hb hml hown hts hK hL hX hbl hend 513 0 σ0 μ _ _ ls (by omega) (by omega) hs hI hS hl
end LAWLOOP
