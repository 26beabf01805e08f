/-! ===== the base: words, worlds, contracts, calls ===== -/
set_option maxRecDepth 20000 in
theorem inX0 : ∀ w ∈ u_ws RX0 TX0 2, w ∈ lw_ok := by decide +kernel
set_option maxRecDepth 20000 in
theorem inX1 : ∀ w ∈ u_ws RX1 TX1 2, w ∈ lw_ok := by decide +kernel
set_option maxRecDepth 20000 in
theorem inX2 : ∀ w ∈ u_ws RX2 TX2 8, w ∈ lw_ok := by decide +kernel
set_option maxRecDepth 20000 in
theorem inX3 : ∀ w ∈ u_ws RX3 TX3 2, w ∈ lw_ok := by decide +kernel
set_option maxRecDepth 20000 in
theorem inX4 : ∀ w ∈ u_ws RX4 TX4 2, w ∈ lw_ok := by decide +kernel
set_option maxRecDepth 20000 in
theorem inX5 : ∀ w ∈ u_ws RX5 TX5 2, w ∈ lw_ok := by decide +kernel
set_option maxRecDepth 20000 in
theorem inX6 : ∀ w ∈ u_ws RX6 TX6 2, w ∈ lw_ok := by decide +kernel
set_option maxRecDepth 20000 in
theorem inX8 : ∀ w ∈ u_ws RX8 TX8 3, w ∈ lw_ok := by decide +kernel
set_option maxRecDepth 20000 in
theorem inX9 : ∀ w ∈ u_ws RX9 TX9 15, w ∈ lw_ok := by decide +kernel
abbrev WS (y : MethodName) (c : ByteArray) (n : Nat) (r : Option FieldType) : List Cond := Cond.code y c n r :: lw_ok
theorem ws_good {y : MethodName} {c : ByteArray} {n : Nat} {r : Option FieldType} (h : Cond.code y c n r ∈ lw_ok) : GoodIn lw_ok (WS y c n r) := fun w hw => by
  rcases List.mem_cons.mp hw with rfl | hw
  · exact ⟨h, lw_good _ h⟩
  · exact ⟨hw, lw_good _ hw⟩
/-- the classes of the arrays, by number -/
abbrev AC : Type := Nat → ClassId
abbrev tysOf (d : AC) : List (ClassId × FieldType) := [(d 0, .boolean), (d 1, .char), (d 2, .short), (d 3, .float), (d 4, .byte), (d 5, .object "MusicBoxes$Track"), (d 6, .object "MusicBoxes$Drum"), (d 7, .object "MusicBoxes$Comb"), (d 8, .int), (d 9, .long)]
/-- what the tables say, in the form that goes along -/
def KK (D : va_G) (d : AC) (U : State) : Prop :=
  va_K D vwCl (tysOf d) U ∧ (va_AO "MusicBoxes$Track" U ∧ va_AO "MusicBoxes$Drum" U ∧ va_AO "MusicBoxes$Comb" U) ∧
  (va_Nw (.castable RX5 "MusicBoxes$Track") U ∧ va_Nw (.castable RX6 "MusicBoxes$Track") U ∧ va_Nw (.castable RX3 "MusicBoxes$Track") U ∧ va_Nw (.castable RX4 "MusicBoxes$Track") U ∧ va_Nw (.castable RX0 "MusicBoxes$Track") U) ∧
  (va_Nw (.declares ⟨"MusicBoxes$Track", "valueAt", "(I)I"⟩) U ∧ va_Nw (.declares ⟨"MusicBoxes$Track", "put", "(II)Z"⟩) U ∧ va_Nw (.declares ⟨"MusicBoxes$Track", "alter", "(II)Z"⟩) U ∧ va_Nw (.declares ⟨"MusicBoxes$Track", "hasPlace", "(I)Z"⟩) U)
theorem KK.moved {D : va_G} {d : AC} {s U : State} (hW : s.WarmedH U.vm) (h : KK D d s) : KK D d U := by
  obtain ⟨h1, ⟨a1, a2, a3⟩, ⟨b1, b2, b3, b4, b5⟩, ⟨c1, c2, c3, c4⟩⟩ := h
  exact ⟨va_K.moved hW.alike h1, ⟨va_AO.moved hW.alike a1, va_AO.moved hW.alike a2, va_AO.moved hW.alike a3⟩, ⟨va_Nw.warmC hW b1, va_Nw.warmC hW b2, va_Nw.warmC hW b3, va_Nw.warmC hW b4, va_Nw.warmC hW b5⟩, ⟨va_Nw.warmD hW c1, va_Nw.warmD hW c2, va_Nw.warmD hW c3, va_Nw.warmD hW c4⟩⟩
theorem KK.calling {D : va_G} {d : AC} {U : State} (g : JFrame) (mk : MethodId) (a : Array Value) (h : KK D d U) : KK D d (U.calling g mk a) := by
  obtain ⟨h1, ⟨a1, a2, a3⟩, ⟨b1, b2, b3, b4, b5⟩, ⟨c1, c2, c3, c4⟩⟩ := h
  exact ⟨va_K.moved (u := U) (U := U.calling g mk a) (Vm.Alike.refl U.vm) h1, ⟨va_AO.moved (u := U) (U := U.calling g mk a) (Vm.Alike.refl U.vm) a1, va_AO.moved (u := U) (U := U.calling g mk a) (Vm.Alike.refl U.vm) a2, va_AO.moved (u := U) (U := U.calling g mk a) (Vm.Alike.refl U.vm) a3⟩, ⟨va_Nw.same (u := U) rfl rfl b1, va_Nw.same (u := U) rfl rfl b2, va_Nw.same (u := U) rfl rfl b3, va_Nw.same (u := U) rfl rfl b4, va_Nw.same (u := U) rfl rfl b5⟩, ⟨va_Nw.same (u := U) rfl rfl c1, va_Nw.same (u := U) rfl rfl c2, va_Nw.same (u := U) rfl rfl c3, va_Nw.same (u := U) rfl rfl c4⟩⟩
/-- which cells a method may change: F's, and those that it makes -/
def AF (F : Nat → Prop) (sz : Nat) : Nat → Prop := fun q => F q ∨ sz ≤ q
def Qo {S : Type} (post : Option Value → S → Prop) (B : S → State → Prop) (A : Nat → Prop) : Array Value → State → Outcome → State → Prop := fun _ st oc t => (∃ (r : Option Value) (u : S), oc = .returned r ∧ post r u ∧ B u t) ∧ va_F A st t
abbrev Wld (S : Type) : Type := (Nat → Prop) → S → Heap → Prop
/-- a world stays one if its cells may be more -/
def Mono {S : Type} (Ω : Wld S) : Prop := ∀ (F F' : Nat → Prop) (v : S) (H : Heap), (∀ q, F q → F' q) → Ω F v H → Ω F' v H
/-- THE CONTRACT: from the world u, whatever lies beside it, y returns r and the world u', as Q says; nothing changes but F's cells and new ones -/
def MT {S : Type} (D : va_G) (d : AC) (Ω : Wld S) (l : Launch) (y : MethodName) (ws : List Cond) (rm : Room) (av : List Value) (u : S) (Q : Option Value → S → Prop) : Prop :=
  ∀ (F : Nat → Prop) (sz : Nat), Met l y ws rm (va_Pc av (fun U => U.heap.size = sz ∧ KK D d U ∧ Ω F u U.heap)) (Qo Q (fun u' t => Ω (AF F sz) u' t.heap) (AF F sz)) rm.cells rm.slots (AF F sz)
theorem mt_of {S : Type} {D : va_G} {d : AC} {Ω : Wld S} {l : Launch} {y : MethodName} {rm : Room} {av : List Value} {u : S} {Q : Option Value → S → Prop} {cc : ByteArray} {maxL : Nat} {ret : Option FieldType}
    (hΩ : Mono Ω) (hy : plainName y.cls = true) (hn : (lg_sl av).length ≤ maxL)
    (body : ∀ (p : Program) (e : Env) (s : State) (m : MethodId) (below : List Frame) (meth : Method) (c : Code) (A : Nat → Prop) (ls : Array Slot), p.tables.exec = Jvm.exec → c.code = cc → meth.sig.returnType = ret → c.maxLocals = maxL → s.vm.findClass y.cls = some m.cls → (∀ w ∈ lw_ok, w.before av.toArray s = true) → meth.locks = false → meth.name = y.name → KK D d s → (∀ q, s.heap.size ≤ q → A q) → Ω A u s.heap → va_S A s.heap s.heap [] → lv_has ls maxL (lv_args 0 av) →
      W p l e rm s m av.toArray below meth c s.heap [] 0 0 (MQ below (Qo Q (fun u' t => Ω A u' t.heap) A) av.toArray s rm.cells rm.slots A) (F0 m 0 ls [])) : MT D d Ω l y (WS y cc maxL ret) rm av u Q := by
  intro F sz
  refine Met.ofW (cc := cc) (maxL := maxL) (ret := ret) hy rfl ?_
  intro p e s m args below meth c s₁ B hml hv
  obtain ⟨rfl, hsz, hK, hw⟩ := hv
  subst hsz
  have hts := atoms_spec (ws := WS y cc maxL ret) B.pre
  rw [lg_entry_eq]
  exact body p e s m below meth c (AF F s.heap.size) _ B.exec B.bytes B.returns hml (findClass_of_methodNamed B.named) (fun w h => hts w (List.mem_cons_of_mem _ h)) B.notSynchronized (name_of_methodNamed B.named B.method).1 hK (fun q h => Or.inr h) (hΩ _ _ _ _ (fun q h => Or.inl h) hw) va_S.rf (lv_entry av hn)
section BASE
variable {p : Program} {l : Launch} {e : Env} {R : Room} {s : State} {m : MethodId} {args : Array Value} {below : List Frame} {meth : Method} {c : Code} {H : Heap} {locs : List Loc} {cells slots : Nat} {Qw : State → Prop}
variable {cc : ByteArray} {pc : Nat} {ls : Array Slot} {rest st0 : List Value} {D : va_G} {d : AC} {A : Nat → Prop} {mc ms : Nat}
theorem mt_reti {S : Type} {Ω : Wld S} {u : S} {Q : Option Value → S → Prop} {v : Int32} (hx : p.tables.exec = Jvm.exec) (hb : c.code = cc) (hr : meth.sig.returnType = some .int) (hlocks : meth.locks = false) (hw : Ω A u H) (hS : va_S A s.heap H locs) (h1 : cells ≤ mc) (h2 : slots ≤ ms) (hdg : decode cc pc = .ok (.ireturn, 1)) (hq : Q (some (.int v)) u) : W p l e R s m args below meth c H locs cells slots (MQ below (Qo Q (fun u' t => Ω A u' t.heap) A) args s mc ms A) (F0 m pc ls [.int v]) :=
  W.widen h1 h2 (W.iret (v := v) hx hb hr (fun t ht hW => ⟨⟨_, u, rfl, hq, (by show Ω A u t.heap; rw [ht]; exact hw)⟩, hS.F ht⟩) hS.2.2 hdg hlocks)
theorem mt_retz {S : Type} {Ω : Wld S} {u : S} {Q : Option Value → S → Prop} {v : Int32} (hx : p.tables.exec = Jvm.exec) (hb : c.code = cc) (hr : meth.sig.returnType = some .boolean) (hlocks : meth.locks = false) (hw : Ω A u H) (hS : va_S A s.heap H locs) (h1 : cells ≤ mc) (h2 : slots ≤ ms) (hdg : decode cc pc = .ok (.ireturn, 1)) (hn : narrow .boolean (.int v) = .int v) (hq : Q (some (.int v)) u) : W p l e R s m args below meth c H locs cells slots (MQ below (Qo Q (fun u' t => Ω A u' t.heap) A) args s mc ms A) (F0 m pc ls [.int v]) :=
  W.widen h1 h2 (W.zret (v := v) hx hb hr hn (fun t ht hW => ⟨⟨_, u, rfl, hq, (by show Ω A u t.heap; rw [ht]; exact hw)⟩, hS.F ht⟩) hS.2.2 hdg hlocks)
theorem mt_retl {S : Type} {Ω : Wld S} {u : S} {Q : Option Value → S → Prop} {v : Int64} (hx : p.tables.exec = Jvm.exec) (hb : c.code = cc) (hr : meth.sig.returnType = some .long) (hlocks : meth.locks = false) (hw : Ω A u H) (hS : va_S A s.heap H locs) (h1 : cells ≤ mc) (h2 : slots ≤ ms) (hdg : decode cc pc = .ok (.lreturn, 1)) (hq : Q (some (.long v)) u) : W p l e R s m args below meth c H locs cells slots (MQ below (Qo Q (fun u' t => Ω A u' t.heap) A) args s mc ms A) (F0 m pc ls [.long v]) :=
  W.widen h1 h2 (W.lret (v := v) hx hb hr (fun t ht hW => ⟨⟨_, u, rfl, hq, (by show Ω A u t.heap; rw [ht]; exact hw)⟩, hS.F ht⟩) hS.2.2 hdg)
theorem mt_retf {S : Type} {Ω : Wld S} {u : S} {Q : Option Value → S → Prop} {v : UInt32} (hx : p.tables.exec = Jvm.exec) (hb : c.code = cc) (hr : meth.sig.returnType = some .float) (hlocks : meth.locks = false) (hw : Ω A u H) (hS : va_S A s.heap H locs) (h1 : cells ≤ mc) (h2 : slots ≤ ms) (hdg : decode cc pc = .ok (.freturn, 1)) (hq : Q (some (.float v)) u) : W p l e R s m args below meth c H locs cells slots (MQ below (Qo Q (fun u' t => Ω A u' t.heap) A) args s mc ms A) (F0 m pc ls [.float v]) :=
  W.widen h1 h2 (W.fret (v := v) hx hb hr (fun t ht hW => ⟨⟨_, u, rfl, hq, (by show Ω A u t.heap; rw [ht]; exact hw)⟩, hS.F ht⟩) hS.2.2 hdg hlocks)
theorem mt_retv {S : Type} {Ω : Wld S} {u : S} {Q : Option Value → S → Prop} (hx : p.tables.exec = Jvm.exec) (hb : c.code = cc) (hr : meth.sig.returnType = none) (hlocks : meth.locks = false) (hw : Ω A u H) (hS : va_S A s.heap H locs) (h1 : cells ≤ mc) (h2 : slots ≤ ms) (hdg : decode cc pc = .ok (.return_, 1)) (hq : Q none u) : W p l e R s m args below meth c H locs cells slots (MQ below (Qo Q (fun u' t => Ω A u' t.heap) A) args s mc ms A) (F0 m pc ls []) :=
  W.widen h1 h2 (W.vret hx hb hr (fun t ht hW => ⟨⟨_, u, rfl, hq, (by show Ω A u t.heap; rw [ht]; exact hw)⟩, hS.F ht⟩) hS.2.2 hdg hlocks)
theorem mt_reta {S : Type} {Ω : Wld S} {u : S} {Q : Option Value → S → Prop} {o : Option Nat} {rt : String} (hx : p.tables.exec = Jvm.exec) (hb : c.code = cc) (hr : meth.sig.returnType = some (.object rt)) (hlocks : meth.locks = false) (hw : Ω A u H) (hS : va_S A s.heap H locs) (h1 : cells ≤ mc) (h2 : slots ≤ ms) (hdg : decode cc pc = .ok (.areturn, 1)) (hq : Q (some (va_rf o)) u) : W p l e R s m args below meth c H locs cells slots (MQ below (Qo Q (fun u' t => Ω A u' t.heap) A) args s mc ms A) (F0 m pc ls [va_rf o]) :=
  W.widen h1 h2 (W.aret (v := va_rf o) hx hb hr (Or.inl ⟨rt, rfl⟩) (va_rf_or o) (fun t ht hW => ⟨⟨_, u, rfl, hq, (by show Ω A u t.heap; rw [ht]; exact hw)⟩, hS.F ht⟩) hS.2.2 hdg hlocks)
theorem mt_go {S : Type} {Ω : Wld S} {Q : Option Value → S → Prop} {a : Array Value} (hΩ : Mono Ω) (hr : va_Run p l e R s m args below meth c H locs cells slots mc ms (F0 m pc ls st0) rest (Qo Q (fun u' t => Ω (AF A H.size) u' t.heap) (AF A H.size) a) (AF A H.size)) (hA : ∀ q, s.heap.size ≤ q → A q) (hS : va_S A s.heap H locs)
    (kk : ∀ (r : Option Value) (u' : S) (H1 : Heap) (locs1 : List Loc), Q r u' → Ω A u' H1 → va_S A s.heap H1 locs1 → W p l e R s m args below meth c H1 locs1 (cells + mc) (slots + ms) Qw (F0 m (pc + 3) ls (r.toList ++ rest))) : W p l e R s m args below meth c H locs cells slots Qw (F0 m pc ls st0) := by
  have hAA : ∀ q, AF A H.size q → A q := fun q h => h.elim id (fun h => hA q (Nat.le_trans hS.1 h))
  intro T hT X
  obtain ⟨v, st₀, t, T', L, h0, X', hL, e1, e2, ⟨⟨r, u, hv, hp, hb⟩, hz, hk⟩, st⟩ := hr T hT X
  cases hv
  rw [h0] at hz hk
  obtain ⟨t2, a1, b1⟩ := kk v u T'.heap (locs ++ L) hp (by rw [e1]; exact hΩ _ _ _ _ hAA hb)
    ⟨Nat.le_trans hS.1 (by rw [e1]; exact hz), fun q h1 h2 => by rw [e1, hk q (Nat.lt_of_lt_of_le h1 hS.1) (fun z => h2 (hAA q z))]; exact hS.2.1 q h1 h2, fun q hq => by
      rcases List.mem_append.mp hq with h | h
      · exact hS.2.2 q h
      · exact hAA _ (hL q h)⟩ T' rfl X'
  exact ⟨t2, st t2 a1, b1⟩
theorem mt_blind {S : Type} {Ω : Wld S} {F : Nat → Prop} {sz : Nat} {u : S} {av : List Value} : FrameBlind (va_Pc av (fun U => U.heap.size = sz ∧ KK D d U ∧ Ω F u U.heap)) := fun a U g mk q => by
  obtain ⟨q0, q1, qK, qW⟩ := q
  exact ⟨q0, q1, qK.calling g mk a, qW⟩
variable {y : MethodName} {bytes : ByteArray} {maxL nL index : Nat} {ret : Option FieldType} {rm : Room} {As : List Value} {own C : String} {b : Nat}
abbrev NoMH (y : MethodName) (n : Nat) : Prop := y.cls ≠ "java/lang/invoke/MethodHandle" ∧ y.cls ≠ "java/lang/invoke/VarHandle" ∧ (parseMethodDescriptor y.desc).map (fun d => d.parameters.length) = some n
abbrev Fits (rm R : Room) (maxL cells slots : Nat) : Prop := (rm.frames + 1 ≤ R.frames ∧ 8 + (maxL + 11) + rm.locals ≤ R.locals) ∧ (cells + rm.cells ≤ R.cells ∧ slots + rm.slots ≤ R.slots)
theorem mt_callS {S : Type} {Ω : Wld S} {u : S} {Q : Option Value → S → Prop} (hx : p.tables.exec = Jvm.exec) (hb : c.code = cc) (hml : c.maxLocals = nL) (hown : s.vm.findClass own = some m.cls) (hts : ∀ w ∈ lw_ok, w.before args s = true) (hK : KK D d s) (hΩ : Mono Ω) (hA : ∀ q, s.heap.size ≤ q → A q) (hw : Ω A u H) (hS : va_S A s.heap H locs) (hlz : ls.size = nL)
    (hM : MT D d Ω l y (WS y bytes maxL ret) rm As u Q) (hc : Cond.code y bytes maxL ret ∈ lw_ok) (hi : Cond.initialized y.cls ∈ lw_ok) (hl : Cond.methodLink own index y ∈ lw_ok) (hst : Cond.static y ∈ lw_ok) (hd : NoMH y As.length) (hf : Fits rm R maxL cells slots) (hstack : st0 = As.reverse ++ rest) (hW : (rest.map fun v => v.category).sum ≤ 8) (hdg : decode cc pc = .ok (.invokestatic index, 3))
    (kk : ∀ (r : Option Value) (u' : S) (H1 : Heap) (locs1 : List Loc), Q r u' → Ω A u' H1 → va_S A s.heap H1 locs1 → W p l e R s m args below meth c H1 locs1 (cells + rm.cells) (slots + rm.slots) Qw (F0 m (pc + 3) ls (r.toList ++ rest))) : W p l e R s m args below meth c H locs cells slots Qw (F0 m pc ls st0) :=
  mt_go hΩ (va_runS (As := As) (rest := rest) ⟨hx, hb, hml, hown, hts⟩ (hM A H.size) ⟨callB_of As.length hts (ws_good hc) rfl rfl rfl (hts _ hi) (hts _ hl) hd hf.1, hts _ hst⟩ ⟨mt_blind, fun U hU hW => ⟨rfl, by rw [hU], hK.moved hW, by rw [hU]; exact hw⟩⟩ rfl rfl hlz hstack (lv_room hW) hdg hf.2) hA hS kk
theorem mt_callV {S : Type} {Ω : Wld S} {u : S} {Q : Option Value → S → Prop} (hx : p.tables.exec = Jvm.exec) (hb : c.code = cc) (hml : c.maxLocals = nL) (hown : s.vm.findClass own = some m.cls) (hts : ∀ w ∈ lw_ok, w.before args s = true) (hK : KK D d s) (hΩ : Mono Ω) (hA : ∀ q, s.heap.size ≤ q → A q) (hw : Ω A u H) (hS : va_S A s.heap H locs) (hlz : ls.size = nL)
    (hM : MT D d Ω l y (WS y bytes maxL ret) rm (.ref b :: As) u Q) (hrc : ∃ cellB : Cell, H[b]? = some cellB ∧ cellB.vm.isStatics = false ∧ s.vm.findClass C = some cellB.cls) (hc : Cond.code y bytes maxL ret ∈ lw_ok) (hi : Cond.initialized y.cls ∈ lw_ok) (hl : Cond.methodLink own index y ∈ lw_ok) (hin : Cond.instanceMethod y ∈ lw_ok) (hse : Cond.selects C y y ∈ lw_ok) (hd : NoMH y As.length) (hf : Fits rm R maxL cells slots) (hstack : st0 = As.reverse ++ .ref b :: rest) (hW : (rest.map fun v => v.category).sum ≤ 8) (hdg : decode cc pc = .ok (.invokevirtual index, 3))
    (kk : ∀ (r : Option Value) (u' : S) (H1 : Heap) (locs1 : List Loc), Q r u' → Ω A u' H1 → va_S A s.heap H1 locs1 → W p l e R s m args below meth c H1 locs1 (cells + rm.cells) (slots + rm.slots) Qw (F0 m (pc + 3) ls (r.toList ++ rest))) : W p l e R s m args below meth c H locs cells slots Qw (F0 m pc ls st0) :=
  mt_go hΩ (va_runV (As := As) (rest := rest) ⟨hx, hb, hml, hown, hts⟩ (hM A H.size) ⟨callB_of As.length hts (ws_good hc) rfl rfl rfl (hts _ hi) (hts _ hl) hd hf.1, hts _ hin, hts _ hse⟩ ⟨mt_blind, hrc, fun U hU hW => ⟨rfl, by rw [hU], hK.moved hW, by rw [hU]; exact hw⟩⟩ rfl rfl hlz hstack (lv_room hW) hdg hf.2) hA hS kk
theorem mt_callI {S : Type} {Ω : Wld S} {u : S} {Q : Option Value → S → Prop} (hx : p.tables.exec = Jvm.exec) (hb : c.code = cc) (hml : c.maxLocals = nL) (hown : s.vm.findClass own = some m.cls) (hts : ∀ w ∈ lw_ok, w.before args s = true) (hK : KK D d s) (hΩ : Mono Ω) (hA : ∀ q, s.heap.size ≤ q → A q) (hw : Ω A u H) (hS : va_S A s.heap H locs) (hlz : ls.size = nL)
    (hM : MT D d Ω l y (WS y bytes maxL none) rm (.ref b :: As) u Q) (hc : Cond.code y bytes maxL none ∈ lw_ok) (hi : Cond.initialized y.cls ∈ lw_ok) (hl : Cond.methodLink own index y ∈ lw_ok) (hin : Cond.instanceMethod y ∈ lw_ok) (hy1 : y.name = "<init>") (hd : NoMH y As.length) (hf : Fits rm R maxL cells slots) (hstack : st0 = As.reverse ++ .ref b :: rest) (hW : (rest.map fun v => v.category).sum ≤ 8) (hdg : decode cc pc = .ok (.invokespecial index, 3))
    (kk : ∀ (r : Option Value) (u' : S) (H1 : Heap) (locs1 : List Loc), Q r u' → Ω A u' H1 → va_S A s.heap H1 locs1 → W p l e R s m args below meth c H1 locs1 (cells + rm.cells) (slots + rm.slots) Qw (F0 m (pc + 3) ls (r.toList ++ rest))) : W p l e R s m args below meth c H locs cells slots Qw (F0 m pc ls st0) :=
  mt_go hΩ (va_runI (As := As) (rest := rest) ⟨hx, hb, hml, hown, hts⟩ (hM A H.size) ⟨callB_of As.length hts (ws_good hc) rfl rfl rfl (hts _ hi) (hts _ hl) hd hf.1, hy1, hts _ hin⟩ ⟨mt_blind, fun U hU hW => ⟨rfl, by rw [hU], hK.moved hW, by rw [hU]; exact hw⟩⟩ rfl rfl hlz hstack (lv_room hW) hdg hf.2) hA hS kk
/-- a method that is declared in owner, named x there or below, and found as y in the class C of the receiver -/
theorem mt_callA {S : Type} {Ω : Wld S} {u : S} {Q : Option Value → S → Prop} {owner : String} {x : MethodName} (hx : p.tables.exec = Jvm.exec) (hb : c.code = cc) (hml : c.maxLocals = nL) (hown : s.vm.findClass own = some m.cls) (hts : ∀ w ∈ lw_ok, w.before args s = true) (hK : KK D d s) (hΩ : Mono Ω) (hA : ∀ q, s.heap.size ≤ q → A q) (hw : Ω A u H) (hS : va_S A s.heap H locs) (hlz : ls.size = nL)
    (hM : MT D d Ω l y (WS y bytes maxL ret) rm (.ref b :: As) u Q) (hrc : ∃ cellB : Cell, H[b]? = some cellB ∧ cellB.vm.isStatics = false ∧ s.vm.findClass C = some cellB.cls) (hc : Cond.code y bytes maxL ret ∈ lw_ok) (hi : Cond.initialized y.cls ∈ lw_ok) (hl : Cond.methodLink own index x ∈ lw_ok) (hsm : Cond.sameMethod x.cls owner x.name x.desc ∈ lw_ok) (hin : Cond.instanceMethod y ∈ lw_ok) (hse : Cond.selects C x y ∈ lw_ok) (hz : va_Nw (.declares ⟨owner, x.name, x.desc⟩) s) (hd : owner ≠ "java/lang/invoke/MethodHandle" ∧ owner ≠ "java/lang/invoke/VarHandle" ∧ (parseMethodDescriptor x.desc).map (fun d => d.parameters.length) = some As.length) (hf : Fits rm R maxL cells slots) (hstack : st0 = As.reverse ++ .ref b :: rest) (hW : (rest.map fun v => v.category).sum ≤ 8) (hdg : decode cc pc = .ok (.invokevirtual index, 3))
    (kk : ∀ (r : Option Value) (u' : S) (H1 : Heap) (locs1 : List Loc), Q r u' → Ω A u' H1 → va_S A s.heap H1 locs1 → W p l e R s m args below meth c H1 locs1 (cells + rm.cells) (slots + rm.slots) Qw (F0 m (pc + 3) ls (r.toList ++ rest))) : W p l e R s m args below meth c H locs cells slots Qw (F0 m pc ls st0) := by
  have h2 : ∀ sig, parseMethodDescriptor x.desc = some sig → As.length = sig.parameters.length := fun sig h => by
    have h2 := hd.2.2
    rw [h] at h2
    exact (Option.some.inj h2).symm
  exact mt_go hΩ (va_runU (As := As) (rest := rest) (C := C) (owner := owner) (x := x) ⟨hx, hb, hml, hown, hts⟩ (hM A H.size) ⟨⟨rfl, rfl, hf.1.1, hf.1.2, pay_in hts (ws_good hc), List.mem_cons_self⟩, hts _ hc, hts _ hi, ⟨hd.1, hd.2.1⟩, h2, hts _ hl, hts _ hsm, va_Decl.abs hz, hts _ hse, hts _ hin⟩ ⟨mt_blind, hrc, fun U hU hW => ⟨rfl, by rw [hU], hK.moved hW, by rw [hU]; exact hw⟩⟩ rfl rfl hlz hstack (lv_room hW) hdg hf.2) hA hS kk
end BASE
