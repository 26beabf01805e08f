/-! ===== the rules of the class's world ===== -/
theorem vwCl_get (kd : Nat) (h : kd < 5) : ∃ q : vw_C, vwCl[tci kd]? = some q := by
  rcases kd with _ | _ | _ | _ | _ | _
  · exact ⟨_, rfl⟩
  · exact ⟨_, rfl⟩
  · exact ⟨_, rfl⟩
  · exact ⟨_, rfl⟩
  · exact ⟨_, rfl⟩
  · omega
section RULESC
variable {p : Program} {l : Launch} {e : Env} {R : Room} {s : State} {m : MethodId} {args : Array Value} {below : List Frame} {meth : Method} {c : Code} {H : Heap} {locs : List Loc} {cells slots : Nat} {Q : State → Prop}
variable {cc : ByteArray} {pc : Nat} {ls : Array Slot} {rest : List Value} {D : va_G} {d : AC} {cp : CP} {A : Nat → Prop} {σ : CS} {own ref : String} {index : Nat}
theorem c_recvX (hK : KK D d s) (hw : ΩC D d cp A σ H) : ∃ cell : Cell, H[aX cp]? = some cell ∧ cell.vm.isStatics = false ∧ s.vm.findClass RX8 = some cell.cls := by
  obtain ⟨G, hG, hR⟩ := hw
  exact g_recv hK hG (ci := 7) (q := (RX8, TX8, 3)) rfl hR.1
theorem c_recvD (hK : KK D d s) (hw : ΩC D d cp A σ H) {i : Nat} (hi : i < 8) : ∃ cell : Cell, H[aDr cp i]? = some cell ∧ cell.vm.isStatics = false ∧ s.vm.findClass RX2 = some cell.cls := by
  obtain ⟨G, hG, hR⟩ := hw
  exact g_recv hK hG (ci := 2) (q := (RX2, TX2, 8)) rfl (hR.2.2.2.1 i hi)
theorem c_recvB (hK : KK D d s) (hw : ΩC D d cp A σ H) {b : Nat} {mm : CM} (hb : sCm σ b = some mm) : ∃ cell : Cell, H[b]? = some cell ∧ cell.vm.isStatics = false ∧ s.vm.findClass RX1 = some cell.cls := by
  obtain ⟨G, hG, hR⟩ := hw
  exact g_recv hK hG (ci := 1) (q := (RX1, TX1, 2)) rfl (hR.2.2.2.2.2.1 b mm hb).1
theorem c_recvT (hK : KK D d s) (hw : ΩC D d cp A σ H) {a : Nat} {t : TK} (ha : sTk σ a = some t) {q : vw_C} (hq : vwCl[tci t.1]? = some q) : ∃ cell : Cell, H[a]? = some cell ∧ cell.vm.isStatics = false ∧ s.vm.findClass q.1 = some cell.cls := by
  obtain ⟨G, hG, hR⟩ := hw
  exact g_recv hK hG hq (hR.2.2.2.2.2.2.1 a t ha).2.1
theorem c_getx (hx : p.tables.exec = Jvm.exec) (hb : c.code = cc) (hts : ∀ w ∈ lw_ok, w.before args s = true) (hown : s.vm.findClass own = some m.cls) (hK : KK D d s) (hw : ΩC D d cp A σ H) (k : Nat) (hk : k < 3) (hlink : (Cond.fieldLink own index ref (TX8 k).2.1 (TX8 k).2.2.1).before args s = true) (hsame : ∀ x, s.fieldFound? (TX8 k).1 (TX8 k).2.1 (TX8 k).2.2.1 = some x → s.fieldFound? ref (TX8 k).2.1 (TX8 k).2.2.1 = some x) {v : Value} (hv : ([.ref (aD cp), .ref (aC cp), .int (sRf σ)] : List Value)[k]? = some v) (hdg : decode cc pc = .ok (.getfield index, 3)) (kk : W p l e R s m args below meth c H locs cells slots Q (F0 m (pc + 3) ls (v :: rest))) : W p l e R s m args below meth c H locs cells slots Q (F0 m pc ls (.ref (aX cp) :: rest)) := by
  obtain ⟨G, hG, hR⟩ := hw
  exact g_get hx hb hts inX8 hown hK hG (ci := 7) hR.1 rfl k hk hlink hsame hv hdg kk
theorem c_putx (hx : p.tables.exec = Jvm.exec) (hb : c.code = cc) (hts : ∀ w ∈ lw_ok, w.before args s = true) (hown : s.vm.findClass own = some m.cls) (hK : KK D d s) (hw : ΩC D d cp A σ H) (hS : va_S A s.heap H locs) (hlink : (Cond.fieldLink own index ref (TX8 2).2.1 (TX8 2).2.2.1).before args s = true) (hsame : ∀ x, s.fieldFound? (TX8 2).1 (TX8 2).2.1 (TX8 2).2.2.1 = some x → s.fieldFound? ref (TX8 2).2.1 (TX8 2).2.2.1 = some x) {v : Int32} (hdg : decode cc pc = .ok (.putfield index, 3)) (kk : ∀ (H1 : Heap) (locs1 : List Loc), ΩC D d cp A (pRf σ v) H1 → va_S A s.heap H1 locs1 → W p l e R s m args below meth c H1 locs1 cells slots Q (F0 m (pc + 3) ls rest)) : W p l e R s m args below meth c H locs cells slots Q (F0 m pc ls (.int v :: .ref (aX cp) :: rest)) := by
  obtain ⟨G, hG, hR⟩ := hw
  exact g_put hx hb hts inX8 tyX8 tyX8_ok nmX8 hown hK hG hS (ci := 7) hR.1 rfl 2 (by decide) hlink hsame rfl (ty := .int) (by decide +kernel) rfl rfl (Nat.le_of_ble_eq_true rfl) hdg (fun H1 locs1 hG1 hS1 => kk H1 locs1 ⟨_, hG1, hR.rf v⟩ hS1)
theorem c_getd (hx : p.tables.exec = Jvm.exec) (hb : c.code = cc) (hts : ∀ w ∈ lw_ok, w.before args s = true) (hown : s.vm.findClass own = some m.cls) (hK : KK D d s) (hw : ΩC D d cp A σ H) {i : Nat} (hi : i < 8) (k : Nat) (hk : k < 8) (hlink : (Cond.fieldLink own index ref (TX2 k).2.1 (TX2 k).2.2.1).before args s = true) (hsame : ∀ x, s.fieldFound? (TX2 k).1 (TX2 k).2.1 (TX2 k).2.2.1 = some x → s.fieldFound? ref (TX2 k).2.1 (TX2 k).2.2.1 = some x) {v : Value} (hv : ([.ref (aDt cp i), .int (sDf σ i).1, .int (sDf σ i).2.1, .int (sDf σ i).2.2.1, .int (sDf σ i).2.2.2.1, .long (sDf σ i).2.2.2.2.1, .int (sDf σ i).2.2.2.2.2.1, .float (sDf σ i).2.2.2.2.2.2] : List Value)[k]? = some v) (hdg : decode cc pc = .ok (.getfield index, 3)) (kk : W p l e R s m args below meth c H locs cells slots Q (F0 m (pc + 3) ls (v :: rest))) : W p l e R s m args below meth c H locs cells slots Q (F0 m pc ls (.ref (aDr cp i) :: rest)) := by
  obtain ⟨G, hG, hR⟩ := hw
  exact g_get hx hb hts inX2 hown hK hG (ci := 2) (hR.2.2.2.1 i hi) rfl k hk hlink hsame hv hdg kk
theorem c_putd (hx : p.tables.exec = Jvm.exec) (hb : c.code = cc) (hts : ∀ w ∈ lw_ok, w.before args s = true) (hown : s.vm.findClass own = some m.cls) (hK : KK D d s) (hw : ΩC D d cp A σ H) (hS : va_S A s.heap H locs) {i : Nat} (hi : i < 8) (k : Nat) (hk : k < 8) (hlink : (Cond.fieldLink own index ref (TX2 k).2.1 (TX2 k).2.2.1).before args s = true) (hsame : ∀ x, s.fieldFound? (TX2 k).1 (TX2 k).2.1 (TX2 k).2.2.1 = some x → s.fieldFound? ref (TX2 k).2.1 (TX2 k).2.2.1 = some x) (hfin : (TX2 k).2.2.2 = false) {ty : FieldType} {v : Value} (v2 : DF) (hset : ([.ref (aDt cp i), .int (sDf σ i).1, .int (sDf σ i).2.1, .int (sDf σ i).2.2.1, .int (sDf σ i).2.2.2.1, .long (sDf σ i).2.2.2.2.1, .int (sDf σ i).2.2.2.2.2.1, .float (sDf σ i).2.2.2.2.2.2] : List Value).set k v = ([.ref (aDt cp i), .int v2.1, .int v2.2.1, .int v2.2.2.1, .int v2.2.2.2.1, .long v2.2.2.2.2.1, .int v2.2.2.2.2.2.1, .float v2.2.2.2.2.2.2] : List Value)) (hd : parseFieldDescriptor (TX2 k).2.2.1 = some ty) (hn : narrow ty v = v) (hfit : fits ty v = true) (hdg : decode cc pc = .ok (.putfield index, 3)) (kk : ∀ (H1 : Heap) (locs1 : List Loc), ΩC D d cp A (pDf σ i v2) H1 → va_S A s.heap H1 locs1 → W p l e R s m args below meth c H1 locs1 cells slots Q (F0 m (pc + 3) ls rest)) : W p l e R s m args below meth c H locs cells slots Q (F0 m pc ls (v :: .ref (aDr cp i) :: rest)) := by
  obtain ⟨G, hG, hR⟩ := hw
  refine g_put hx hb hts inX2 tyX2 tyX2_ok nmX2 hown hK hG hS (ci := 2) (hR.2.2.2.1 i hi) rfl k hk hlink hsame hfin hd hn hfit hk hdg (fun H1 locs1 hG1 hS1 => kk H1 locs1 ⟨_, hG1, ?_⟩ hS1)
  rw [hset]
  exact hR.df hi v2
theorem c_ldda (hx : p.tables.exec = Jvm.exec) (hb : c.code = cc) (hK : KK D d s) (hw : ΩC D d cp A σ H) {i : Int32} (hin : vp_in i 8) (hdg : decode cc pc = .ok (.aaload, 1)) (kk : W p l e R s m args below meth c H locs cells slots Q (F0 m (pc + 1) ls (.ref (aDr cp i.toNatClampNeg) :: rest))) : W p l e R s m args below meth c H locs cells slots Q (F0 m pc ls (.int i :: .ref (aD cp) :: rest)) := by
  obtain ⟨G, hG, hR⟩ := hw
  obtain ⟨f, h2, h2'⟩ := hR.2.1
  have hlt : i.toNatClampNeg < 8 := Nat.not_le.mp fun q => hin (Or.inr q)
  refine g_aldq hx hb hK hG 6 h2 rfl hin hdg ?_
  rw [h2' _ hlt]
  exact kk
theorem c_lddt (hx : p.tables.exec = Jvm.exec) (hb : c.code = cc) (hK : KK D d s) (hw : ΩC D d cp A σ H) {j : Nat} (hj : j < 8) {i : Int32} (hin : vp_in i 5) (hdg : decode cc pc = .ok (.aaload, 1)) (kk : W p l e R s m args below meth c H locs cells slots Q (F0 m (pc + 1) ls (va_rf (sSl σ j i.toNatClampNeg) :: rest))) : W p l e R s m args below meth c H locs cells slots Q (F0 m pc ls (.int i :: .ref (aDt cp j) :: rest)) := by
  obtain ⟨G, hG, hR⟩ := hw
  exact g_aldq hx hb hK hG 5 (hR.2.2.2.2.1 j hj) rfl hin hdg kk
theorem c_ldca (hx : p.tables.exec = Jvm.exec) (hb : c.code = cc) (hK : KK D d s) (hw : ΩC D d cp A σ H) {i : Int32} (hin : vp_in i 4) (hdg : decode cc pc = .ok (.aaload, 1)) (kk : W p l e R s m args below meth c H locs cells slots Q (F0 m (pc + 1) ls (va_rf (sCb σ i.toNatClampNeg) :: rest))) : W p l e R s m args below meth c H locs cells slots Q (F0 m pc ls (.int i :: .ref (aC cp) :: rest)) := by
  obtain ⟨G, hG, hR⟩ := hw
  exact g_aldq hx hb hK hG 7 hR.2.2.1 rfl hin hdg kk
theorem c_ldte (hx : p.tables.exec = Jvm.exec) (hb : c.code = cc) (hK : KK D d s) (hw : ΩC D d cp A σ H) {b te n : Nat} {k0 : Int32} {tt : Nat → Option Nat} (hcm : sCm σ b = some (k0, n, te, tt)) {i : Int32} (hin : vp_in i n) (hdg : decode cc pc = .ok (.aaload, 1)) (kk : W p l e R s m args below meth c H locs cells slots Q (F0 m (pc + 1) ls (va_rf (tt i.toNatClampNeg) :: rest))) : W p l e R s m args below meth c H locs cells slots Q (F0 m pc ls (.int i :: .ref te :: rest)) := by
  obtain ⟨G, hG, hR⟩ := hw
  exact g_aldq hx hb hK hG 5 (hR.2.2.2.2.2.1 b _ hcm).2 rfl hin hdg kk
theorem c_lente (hx : p.tables.exec = Jvm.exec) (hb : c.code = cc) (hK : KK D d s) (hw : ΩC D d cp A σ H) {b te n : Nat} {k0 : Int32} {tt : Nat → Option Nat} (hcm : sCm σ b = some (k0, n, te, tt)) (hdg : decode cc pc = .ok (.arraylength, 1)) (kk : W p l e R s m args below meth c H locs cells slots Q (F0 m (pc + 1) ls (.int (nI n) :: rest))) : W p l e R s m args below meth c H locs cells slots Q (F0 m pc ls (.ref te :: rest)) := by
  obtain ⟨G, hG, hR⟩ := hw
  exact va_alen hx hb hK.1 (hG.1.one (hR.2.2.2.2.2.1 b _ hcm).2) 0 5 rfl rfl rfl hdg kk
theorem c_getc (hx : p.tables.exec = Jvm.exec) (hb : c.code = cc) (hts : ∀ w ∈ lw_ok, w.before args s = true) (hown : s.vm.findClass own = some m.cls) (hK : KK D d s) (hw : ΩC D d cp A σ H) {b te n : Nat} {k0 : Int32} {tt : Nat → Option Nat} (hcm : sCm σ b = some (k0, n, te, tt)) (k : Nat) (hk : k < 2) (hlink : (Cond.fieldLink own index ref (TX1 k).2.1 (TX1 k).2.2.1).before args s = true) (hsame : ∀ x, s.fieldFound? (TX1 k).1 (TX1 k).2.1 (TX1 k).2.2.1 = some x → s.fieldFound? ref (TX1 k).2.1 (TX1 k).2.2.1 = some x) {v : Value} (hv : ([.int k0, .ref te] : List Value)[k]? = some v) (hdg : decode cc pc = .ok (.getfield index, 3)) (kk : W p l e R s m args below meth c H locs cells slots Q (F0 m (pc + 3) ls (v :: rest))) : W p l e R s m args below meth c H locs cells slots Q (F0 m pc ls (.ref b :: rest)) := by
  obtain ⟨G, hG, hR⟩ := hw
  exact g_get hx hb hts inX1 hown hK hG (ci := 1) (hR.2.2.2.2.2.1 b _ hcm).1 rfl k hk hlink hsame hv hdg kk
theorem c_stdtN (hx : p.tables.exec = Jvm.exec) (hb : c.code = cc) (hK : KK D d s) (hw : ΩC D d cp A σ H) (hS : va_S A s.heap H locs) {j : Nat} (hj : j < 8) {i : Int32} (hin : vp_in i 5) (hdg : decode cc pc = .ok (.aastore, 1)) (kk : ∀ (H1 : Heap) (locs1 : List Loc), ΩC D d cp A (pSl σ j i.toNatClampNeg none) H1 → va_S A s.heap H1 locs1 → W p l e R s m args below meth c H1 locs1 cells slots Q (F0 m (pc + 1) ls rest)) : W p l e R s m args below meth c H locs cells slots Q (F0 m pc ls (.null :: .int i :: .ref (aDt cp j) :: rest)) := by
  obtain ⟨G, hG, hR⟩ := hw
  exact g_astqN hx hb hK hG hS 5 (hR.2.2.2.2.1 j hj) rfl hin hdg (fun H1 locs1 hG1 hS1 => kk H1 locs1 ⟨_, hG1, hR.sl hj i.toNatClampNeg none⟩ hS1)
theorem c_stdtT (hx : p.tables.exec = Jvm.exec) (hb : c.code = cc) (hK : KK D d s) (hw : ΩC D d cp A σ H) (hS : va_S A s.heap H locs) {j : Nat} (hj : j < 8) {a : Nat} {t : TK} (ha : sTk σ a = some t) {i : Int32} (hin : vp_in i 5) (hdg : decode cc pc = .ok (.aastore, 1)) (kk : ∀ (H1 : Heap) (locs1 : List Loc), ΩC D d cp A (pSl σ j i.toNatClampNeg (some a)) H1 → va_S A s.heap H1 locs1 → W p l e R s m args below meth c H1 locs1 cells slots Q (F0 m (pc + 1) ls rest)) : W p l e R s m args below meth c H locs cells slots Q (F0 m pc ls (.ref a :: .int i :: .ref (aDt cp j) :: rest)) := by
  obtain ⟨G, hG, hR⟩ := hw
  obtain ⟨kd, n0, c0, f0⟩ := t
  obtain ⟨h1, h2, -⟩ := hR.2.2.2.2.2.2.1 a _ ha
  have kk := fun H1 locs1 hG1 hS1 => kk H1 locs1 ⟨_, hG1, hR.sl hj i.toNatClampNeg (some a)⟩ hS1
  rcases kd with _ | _ | _ | _ | _ | _
  · exact g_astqO hx hb hK hG hS 5 (hR.2.2.2.2.1 j hj) rfl (r := (RX5, TX5, 2)) hK.2.2.1.1 h2 rfl hin hdg kk
  · exact g_astqO hx hb hK hG hS 5 (hR.2.2.2.2.1 j hj) rfl (r := (RX6, TX6, 2)) hK.2.2.1.2.1 h2 rfl hin hdg kk
  · exact g_astqO hx hb hK hG hS 5 (hR.2.2.2.2.1 j hj) rfl (r := (RX3, TX3, 2)) hK.2.2.1.2.2.1 h2 rfl hin hdg kk
  · exact g_astqO hx hb hK hG hS 5 (hR.2.2.2.2.1 j hj) rfl (r := (RX4, TX4, 2)) hK.2.2.1.2.2.2.1 h2 rfl hin hdg kk
  · exact g_astqO hx hb hK hG hS 5 (hR.2.2.2.2.1 j hj) rfl (r := (RX0, TX0, 2)) hK.2.2.1.2.2.2.2 h2 rfl hin hdg kk
  · exact absurd h1 (by show ¬ _ + 5 < 5; omega)
theorem c_stteN (hx : p.tables.exec = Jvm.exec) (hb : c.code = cc) (hK : KK D d s) (hw : ΩC D d cp A σ H) (hS : va_S A s.heap H locs) {b te n : Nat} {k0 : Int32} {tt : Nat → Option Nat} (hcm : sCm σ b = some (k0, n, te, tt)) {i : Int32} (hin : vp_in i n) (hdg : decode cc pc = .ok (.aastore, 1)) (kk : ∀ (H1 : Heap) (locs1 : List Loc), ΩC D d cp A (pCm σ b (k0, n, te, va_up tt i.toNatClampNeg none)) H1 → va_S A s.heap H1 locs1 → W p l e R s m args below meth c H1 locs1 cells slots Q (F0 m (pc + 1) ls rest)) : W p l e R s m args below meth c H locs cells slots Q (F0 m pc ls (.null :: .int i :: .ref te :: rest)) := by
  obtain ⟨G, hG, hR⟩ := hw
  exact g_astqN hx hb hK hG hS 5 (hR.2.2.2.2.2.1 b _ hcm).2 rfl hin hdg (fun H1 locs1 hG1 hS1 => kk H1 locs1 ⟨_, hG1, hR.cm hcm i.toNatClampNeg none⟩ hS1)
theorem c_stteT (hx : p.tables.exec = Jvm.exec) (hb : c.code = cc) (hK : KK D d s) (hw : ΩC D d cp A σ H) (hS : va_S A s.heap H locs) {b te n : Nat} {k0 : Int32} {tt : Nat → Option Nat} (hcm : sCm σ b = some (k0, n, te, tt)) {a : Nat} {t : TK} (ha : sTk σ a = some t) {i : Int32} (hin : vp_in i n) (hdg : decode cc pc = .ok (.aastore, 1)) (kk : ∀ (H1 : Heap) (locs1 : List Loc), ΩC D d cp A (pCm σ b (k0, n, te, va_up tt i.toNatClampNeg (some a))) H1 → va_S A s.heap H1 locs1 → W p l e R s m args below meth c H1 locs1 cells slots Q (F0 m (pc + 1) ls rest)) : W p l e R s m args below meth c H locs cells slots Q (F0 m pc ls (.ref a :: .int i :: .ref te :: rest)) := by
  obtain ⟨G, hG, hR⟩ := hw
  obtain ⟨kd, n0, c0, f0⟩ := t
  obtain ⟨h1, h2, -⟩ := hR.2.2.2.2.2.2.1 a _ ha
  have kk := fun H1 locs1 hG1 hS1 => kk H1 locs1 ⟨_, hG1, hR.cm hcm i.toNatClampNeg (some a)⟩ hS1
  rcases kd with _ | _ | _ | _ | _ | _
  · exact g_astqO hx hb hK hG hS 5 (hR.2.2.2.2.2.1 b _ hcm).2 rfl (r := (RX5, TX5, 2)) hK.2.2.1.1 h2 rfl hin hdg kk
  · exact g_astqO hx hb hK hG hS 5 (hR.2.2.2.2.2.1 b _ hcm).2 rfl (r := (RX6, TX6, 2)) hK.2.2.1.2.1 h2 rfl hin hdg kk
  · exact g_astqO hx hb hK hG hS 5 (hR.2.2.2.2.2.1 b _ hcm).2 rfl (r := (RX3, TX3, 2)) hK.2.2.1.2.2.1 h2 rfl hin hdg kk
  · exact g_astqO hx hb hK hG hS 5 (hR.2.2.2.2.2.1 b _ hcm).2 rfl (r := (RX4, TX4, 2)) hK.2.2.1.2.2.2.1 h2 rfl hin hdg kk
  · exact g_astqO hx hb hK hG hS 5 (hR.2.2.2.2.2.1 b _ hcm).2 rfl (r := (RX0, TX0, 2)) hK.2.2.1.2.2.2.2 h2 rfl hin hdg kk
  · exact absurd h1 (by show ¬ _ + 5 < 5; omega)
theorem c_stcaN (hx : p.tables.exec = Jvm.exec) (hb : c.code = cc) (hK : KK D d s) (hw : ΩC D d cp A σ H) (hS : va_S A s.heap H locs)  {i : Int32} (hin : vp_in i 4) (hdg : decode cc pc = .ok (.aastore, 1)) (kk : ∀ (H1 : Heap) (locs1 : List Loc), ΩC D d cp A (pCb σ i.toNatClampNeg none) H1 → va_S A s.heap H1 locs1 → W p l e R s m args below meth c H1 locs1 cells slots Q (F0 m (pc + 1) ls rest)) : W p l e R s m args below meth c H locs cells slots Q (F0 m pc ls (.null :: .int i :: .ref (aC cp) :: rest)) := by
  obtain ⟨G, hG, hR⟩ := hw
  exact g_astqN hx hb hK hG hS 7 hR.2.2.1 rfl hin hdg (fun H1 locs1 hG1 hS1 => kk H1 locs1 ⟨_, hG1, hR.cb i.toNatClampNeg none⟩ hS1)
theorem c_stcaB (hx : p.tables.exec = Jvm.exec) (hb : c.code = cc) (hK : KK D d s) (hw : ΩC D d cp A σ H) (hS : va_S A s.heap H locs) {b : Nat} {mm : CM} (hcm : sCm σ b = some mm) {i : Int32} (hin : vp_in i 4) (hdg : decode cc pc = .ok (.aastore, 1)) (kk : ∀ (H1 : Heap) (locs1 : List Loc), ΩC D d cp A (pCb σ i.toNatClampNeg (some b)) H1 → va_S A s.heap H1 locs1 → W p l e R s m args below meth c H1 locs1 cells slots Q (F0 m (pc + 1) ls rest)) : W p l e R s m args below meth c H locs cells slots Q (F0 m pc ls (.ref b :: .int i :: .ref (aC cp) :: rest)) := by
  obtain ⟨G, hG, hR⟩ := hw
  exact g_astq hx hb hK hG hS 7 hR.2.2.1 (r := (RX1, TX1, 2)) rfl (hR.2.2.2.2.2.1 b mm hcm).1 rfl hin hdg (fun H1 locs1 hG1 hS1 => kk H1 locs1 ⟨_, hG1, hR.cb i.toNatClampNeg (some b)⟩ hS1)
theorem c_gete (hx : p.tables.exec = Jvm.exec) (hb : c.code = cc) (hts : ∀ w ∈ lw_ok, w.before args s = true) (hown : s.vm.findClass own = some m.cls) (hK : KK D d s) (hw : ΩC D d cp A σ H) {a kd n c0 : Nat} {f : Nat → Int32} (ha : sTk σ a = some (kd, n, c0, f)) (hlink : (Cond.fieldLink own index "MusicBoxes$Track" "extent" "I").before args s = true) (hdg : decode cc pc = .ok (.getfield index, 3)) (kk : W p l e R s m args below meth c H locs cells slots Q (F0 m (pc + 3) ls (.int (nI n) :: rest))) : W p l e R s m args below meth c H locs cells slots Q (F0 m pc ls (.ref a :: rest)) := by
  obtain ⟨G, hG, hR⟩ := hw
  obtain ⟨h1, h2, -⟩ := hR.2.2.2.2.2.2.1 a _ ha
  rcases kd with _ | _ | _ | _ | _ | _
  · exact g_get hx hb hts inX5 hown hK hG (C := RX5) (T := TX5) (N := 2) h2 rfl 0 (by decide) hlink (fun _ h => h) rfl hdg kk
  · exact g_get hx hb hts inX6 hown hK hG (C := RX6) (T := TX6) (N := 2) h2 rfl 0 (by decide) hlink (fun _ h => h) rfl hdg kk
  · exact g_get hx hb hts inX3 hown hK hG (C := RX3) (T := TX3) (N := 2) h2 rfl 0 (by decide) hlink (fun _ h => h) rfl hdg kk
  · exact g_get hx hb hts inX4 hown hK hG (C := RX4) (T := TX4) (N := 2) h2 rfl 0 (by decide) hlink (fun _ h => h) rfl hdg kk
  · exact g_get hx hb hts inX0 hown hK hG (C := RX0) (T := TX0) (N := 2) h2 rfl 0 (by decide) hlink (fun _ h => h) rfl hdg kk
  · exact absurd h1 (by show ¬ _ + 5 < 5; omega)
theorem c_cells0 (hx : p.tables.exec = Jvm.exec) (hb : c.code = cc) (hts : ∀ w ∈ lw_ok, w.before args s = true) (hown : s.vm.findClass own = some m.cls) (hK : KK D d s) (hw : ΩC D d cp A σ H) {a n c0 : Nat} {f : Nat → Int32} (ha : sTk σ a = some (0, n, c0, f)) (hlink : (Cond.fieldLink own index ref (TX5 1).2.1 (TX5 1).2.2.1).before args s = true) (hsame : ∀ x, s.fieldFound? (TX5 1).1 (TX5 1).2.1 (TX5 1).2.2.1 = some x → s.fieldFound? ref (TX5 1).2.1 (TX5 1).2.2.1 = some x) (hdg : decode cc pc = .ok (.getfield index, 3)) (kk : W p l e R s m args below meth c H locs cells slots Q (F0 m (pc + 3) ls (.ref c0 :: rest))) : W p l e R s m args below meth c H locs cells slots Q (F0 m pc ls (.ref a :: rest)) := by
  obtain ⟨G, hG, hR⟩ := hw
  exact g_get hx hb hts inX5 hown hK hG (C := RX5) (T := TX5) (N := 2) (hR.2.2.2.2.2.2.1 a _ ha).2.1 rfl 1 (by decide) hlink hsame rfl hdg kk
theorem c_ld0 (hx : p.tables.exec = Jvm.exec) (hb : c.code = cc) (hK : KK D d s) (hw : ΩC D d cp A σ H) {a n c0 : Nat} {f : Nat → Int32} (ha : sTk σ a = some (0, n, c0, f)) {i : Int32} (hin : vp_in i n) (hdg : decode cc pc = .ok (.baload, 1)) (kk : W p l e R s m args below meth c H locs cells slots Q (F0 m (pc + 1) ls (.int (f i.toNatClampNeg) :: rest))) : W p l e R s m args below meth c H locs cells slots Q (F0 m pc ls (.int i :: .ref c0 :: rest)) := by
  obtain ⟨G, hG, hR⟩ := hw
  exact va_zald hx hb hK.1 (hG.1.one (hR.2.2.2.2.2.2.1 a _ ha).2.2) 0 0 rfl rfl hin hdg kk
theorem c_st0 (hx : p.tables.exec = Jvm.exec) (hb : c.code = cc) (hK : KK D d s) (hw : ΩC D d cp A σ H) (hS : va_S A s.heap H locs) {a n c0 : Nat} {f : Nat → Int32} (ha : sTk σ a = some (0, n, c0, f)) {i x : Int32} (hin : vp_in i n) (hdg : decode cc pc = .ok (.bastore, 1)) (kk : ∀ (H1 : Heap) (locs1 : List Loc), ΩC D d cp A (pTk σ a (0, n, c0, upd f i.toNatClampNeg (vp_nar .boolean x))) H1 → va_S A s.heap H1 locs1 → W p l e R s m args below meth c H1 locs1 cells slots Q (F0 m (pc + 1) ls rest)) : W p l e R s m args below meth c H locs cells slots Q (F0 m pc ls (.int x :: .int i :: .ref c0 :: rest)) := by
  obtain ⟨G, hG, hR⟩ := hw
  obtain ⟨ws, hP, hD, hws⟩ := gp_ws hG.1 hG.2
  have he := (hR.2.2.2.2.2.2.1 a _ ha).2.2
  obtain ⟨q0, hq⟩ := hws _ _ he
  exact va_zast hx hb hK.1 hP hD hS q0 0 hq rfl hin hdg (fun H1 locs1 hP1 _ hS1 => kk H1 locs1 ⟨_, ⟨gp_set hws hq hP1, dom_set hG.2 (hG.2 _ _ he)⟩, hR.tk ha (upd f i.toNatClampNeg (vp_nar .boolean x))⟩ hS1)
theorem c_cells1 (hx : p.tables.exec = Jvm.exec) (hb : c.code = cc) (hts : ∀ w ∈ lw_ok, w.before args s = true) (hown : s.vm.findClass own = some m.cls) (hK : KK D d s) (hw : ΩC D d cp A σ H) {a n c0 : Nat} {f : Nat → Int32} (ha : sTk σ a = some (1, n, c0, f)) (hlink : (Cond.fieldLink own index ref (TX6 1).2.1 (TX6 1).2.2.1).before args s = true) (hsame : ∀ x, s.fieldFound? (TX6 1).1 (TX6 1).2.1 (TX6 1).2.2.1 = some x → s.fieldFound? ref (TX6 1).2.1 (TX6 1).2.2.1 = some x) (hdg : decode cc pc = .ok (.getfield index, 3)) (kk : W p l e R s m args below meth c H locs cells slots Q (F0 m (pc + 3) ls (.ref c0 :: rest))) : W p l e R s m args below meth c H locs cells slots Q (F0 m pc ls (.ref a :: rest)) := by
  obtain ⟨G, hG, hR⟩ := hw
  exact g_get hx hb hts inX6 hown hK hG (C := RX6) (T := TX6) (N := 2) (hR.2.2.2.2.2.2.1 a _ ha).2.1 rfl 1 (by decide) hlink hsame rfl hdg kk
theorem c_ld1 (hx : p.tables.exec = Jvm.exec) (hb : c.code = cc) (hK : KK D d s) (hw : ΩC D d cp A σ H) {a n c0 : Nat} {f : Nat → Int32} (ha : sTk σ a = some (1, n, c0, f)) {i : Int32} (hin : vp_in i n) (hdg : decode cc pc = .ok (.caload, 1)) (kk : W p l e R s m args below meth c H locs cells slots Q (F0 m (pc + 1) ls (.int (f i.toNatClampNeg) :: rest))) : W p l e R s m args below meth c H locs cells slots Q (F0 m pc ls (.int i :: .ref c0 :: rest)) := by
  obtain ⟨G, hG, hR⟩ := hw
  exact va_cald hx hb hK.1 (hG.1.one (hR.2.2.2.2.2.2.1 a _ ha).2.2) 0 1 rfl rfl hin hdg kk
theorem c_st1 (hx : p.tables.exec = Jvm.exec) (hb : c.code = cc) (hK : KK D d s) (hw : ΩC D d cp A σ H) (hS : va_S A s.heap H locs) {a n c0 : Nat} {f : Nat → Int32} (ha : sTk σ a = some (1, n, c0, f)) {i x : Int32} (hin : vp_in i n) (hdg : decode cc pc = .ok (.castore, 1)) (kk : ∀ (H1 : Heap) (locs1 : List Loc), ΩC D d cp A (pTk σ a (1, n, c0, upd f i.toNatClampNeg (vp_nar .char x))) H1 → va_S A s.heap H1 locs1 → W p l e R s m args below meth c H1 locs1 cells slots Q (F0 m (pc + 1) ls rest)) : W p l e R s m args below meth c H locs cells slots Q (F0 m pc ls (.int x :: .int i :: .ref c0 :: rest)) := by
  obtain ⟨G, hG, hR⟩ := hw
  obtain ⟨ws, hP, hD, hws⟩ := gp_ws hG.1 hG.2
  have he := (hR.2.2.2.2.2.2.1 a _ ha).2.2
  obtain ⟨q0, hq⟩ := hws _ _ he
  exact va_cast hx hb hK.1 hP hD hS q0 1 hq rfl hin hdg (fun H1 locs1 hP1 _ hS1 => kk H1 locs1 ⟨_, ⟨gp_set hws hq hP1, dom_set hG.2 (hG.2 _ _ he)⟩, hR.tk ha (upd f i.toNatClampNeg (vp_nar .char x))⟩ hS1)
theorem c_cells2 (hx : p.tables.exec = Jvm.exec) (hb : c.code = cc) (hts : ∀ w ∈ lw_ok, w.before args s = true) (hown : s.vm.findClass own = some m.cls) (hK : KK D d s) (hw : ΩC D d cp A σ H) {a n c0 : Nat} {f : Nat → Int32} (ha : sTk σ a = some (2, n, c0, f)) (hlink : (Cond.fieldLink own index ref (TX3 1).2.1 (TX3 1).2.2.1).before args s = true) (hsame : ∀ x, s.fieldFound? (TX3 1).1 (TX3 1).2.1 (TX3 1).2.2.1 = some x → s.fieldFound? ref (TX3 1).2.1 (TX3 1).2.2.1 = some x) (hdg : decode cc pc = .ok (.getfield index, 3)) (kk : W p l e R s m args below meth c H locs cells slots Q (F0 m (pc + 3) ls (.ref c0 :: rest))) : W p l e R s m args below meth c H locs cells slots Q (F0 m pc ls (.ref a :: rest)) := by
  obtain ⟨G, hG, hR⟩ := hw
  exact g_get hx hb hts inX3 hown hK hG (C := RX3) (T := TX3) (N := 2) (hR.2.2.2.2.2.2.1 a _ ha).2.1 rfl 1 (by decide) hlink hsame rfl hdg kk
theorem c_ld2 (hx : p.tables.exec = Jvm.exec) (hb : c.code = cc) (hK : KK D d s) (hw : ΩC D d cp A σ H) {a n c0 : Nat} {f : Nat → Int32} (ha : sTk σ a = some (2, n, c0, f)) {i : Int32} (hin : vp_in i n) (hdg : decode cc pc = .ok (.saload, 1)) (kk : W p l e R s m args below meth c H locs cells slots Q (F0 m (pc + 1) ls (.int (f i.toNatClampNeg) :: rest))) : W p l e R s m args below meth c H locs cells slots Q (F0 m pc ls (.int i :: .ref c0 :: rest)) := by
  obtain ⟨G, hG, hR⟩ := hw
  exact va_sald hx hb hK.1 (hG.1.one (hR.2.2.2.2.2.2.1 a _ ha).2.2) 0 2 rfl rfl hin hdg kk
theorem c_st2 (hx : p.tables.exec = Jvm.exec) (hb : c.code = cc) (hK : KK D d s) (hw : ΩC D d cp A σ H) (hS : va_S A s.heap H locs) {a n c0 : Nat} {f : Nat → Int32} (ha : sTk σ a = some (2, n, c0, f)) {i x : Int32} (hin : vp_in i n) (hdg : decode cc pc = .ok (.sastore, 1)) (kk : ∀ (H1 : Heap) (locs1 : List Loc), ΩC D d cp A (pTk σ a (2, n, c0, upd f i.toNatClampNeg (vp_nar .short x))) H1 → va_S A s.heap H1 locs1 → W p l e R s m args below meth c H1 locs1 cells slots Q (F0 m (pc + 1) ls rest)) : W p l e R s m args below meth c H locs cells slots Q (F0 m pc ls (.int x :: .int i :: .ref c0 :: rest)) := by
  obtain ⟨G, hG, hR⟩ := hw
  obtain ⟨ws, hP, hD, hws⟩ := gp_ws hG.1 hG.2
  have he := (hR.2.2.2.2.2.2.1 a _ ha).2.2
  obtain ⟨q0, hq⟩ := hws _ _ he
  exact va_sast hx hb hK.1 hP hD hS q0 2 hq rfl hin hdg (fun H1 locs1 hP1 _ hS1 => kk H1 locs1 ⟨_, ⟨gp_set hws hq hP1, dom_set hG.2 (hG.2 _ _ he)⟩, hR.tk ha (upd f i.toNatClampNeg (vp_nar .short x))⟩ hS1)
theorem c_cells3 (hx : p.tables.exec = Jvm.exec) (hb : c.code = cc) (hts : ∀ w ∈ lw_ok, w.before args s = true) (hown : s.vm.findClass own = some m.cls) (hK : KK D d s) (hw : ΩC D d cp A σ H) {a n c0 : Nat} {f : Nat → Int32} (ha : sTk σ a = some (3, n, c0, f)) (hlink : (Cond.fieldLink own index ref (TX4 1).2.1 (TX4 1).2.2.1).before args s = true) (hsame : ∀ x, s.fieldFound? (TX4 1).1 (TX4 1).2.1 (TX4 1).2.2.1 = some x → s.fieldFound? ref (TX4 1).2.1 (TX4 1).2.2.1 = some x) (hdg : decode cc pc = .ok (.getfield index, 3)) (kk : W p l e R s m args below meth c H locs cells slots Q (F0 m (pc + 3) ls (.ref c0 :: rest))) : W p l e R s m args below meth c H locs cells slots Q (F0 m pc ls (.ref a :: rest)) := by
  obtain ⟨G, hG, hR⟩ := hw
  exact g_get hx hb hts inX4 hown hK hG (C := RX4) (T := TX4) (N := 2) (hR.2.2.2.2.2.2.1 a _ ha).2.1 rfl 1 (by decide) hlink hsame rfl hdg kk
theorem c_ld3 (hx : p.tables.exec = Jvm.exec) (hb : c.code = cc) (hK : KK D d s) (hw : ΩC D d cp A σ H) {a n c0 : Nat} {f : Nat → Int32} (ha : sTk σ a = some (3, n, c0, f)) {i : Int32} (hin : vp_in i n) (hdg : decode cc pc = .ok (.faload, 1)) (kk : W p l e R s m args below meth c H locs cells slots Q (F0 m (pc + 1) ls (.float (f i.toNatClampNeg).toUInt32 :: rest))) : W p l e R s m args below meth c H locs cells slots Q (F0 m pc ls (.int i :: .ref c0 :: rest)) := by
  obtain ⟨G, hG, hR⟩ := hw
  exact va_fald hx hb hK.1 (hG.1.one (hR.2.2.2.2.2.2.1 a _ ha).2.2) 0 3 rfl rfl hin hdg kk
theorem fl_upd (f : Nat → Int32) (i : Nat) (x : UInt32) : vf_upd (fun k => (f k).toUInt32) i x = fun k => (upd f i x.toInt32 k).toUInt32 := by
  funext k
  by_cases h : k = i
  · simp [vf_upd, upd, h]
  · simp [vf_upd, upd, h]
theorem c_st3 (hx : p.tables.exec = Jvm.exec) (hb : c.code = cc) (hK : KK D d s) (hw : ΩC D d cp A σ H) (hS : va_S A s.heap H locs) {a n c0 : Nat} {f : Nat → Int32} (ha : sTk σ a = some (3, n, c0, f)) {i : Int32} {x : UInt32} (hin : vp_in i n) (hdg : decode cc pc = .ok (.fastore, 1)) (kk : ∀ (H1 : Heap) (locs1 : List Loc), ΩC D d cp A (pTk σ a (3, n, c0, upd f i.toNatClampNeg x.toInt32)) H1 → va_S A s.heap H1 locs1 → W p l e R s m args below meth c H1 locs1 cells slots Q (F0 m (pc + 1) ls rest)) : W p l e R s m args below meth c H locs cells slots Q (F0 m pc ls (.float x :: .int i :: .ref c0 :: rest)) := by
  obtain ⟨G, hG, hR⟩ := hw
  obtain ⟨ws, hP, hD, hws⟩ := gp_ws hG.1 hG.2
  have he := (hR.2.2.2.2.2.2.1 a _ ha).2.2
  obtain ⟨q0, hq⟩ := hws _ _ he
  refine va_fast hx hb hK.1 hP hD hS q0 3 hq rfl hin hdg (fun H1 locs1 hP1 _ hS1 => kk H1 locs1 ⟨_, ⟨gp_set hws hq hP1, dom_set hG.2 (hG.2 _ _ he)⟩, ?_⟩ hS1)
  rw [fl_upd]
  exact hR.tk ha (upd f i.toNatClampNeg x.toInt32)
theorem c_cells4 (hx : p.tables.exec = Jvm.exec) (hb : c.code = cc) (hts : ∀ w ∈ lw_ok, w.before args s = true) (hown : s.vm.findClass own = some m.cls) (hK : KK D d s) (hw : ΩC D d cp A σ H) {a n c0 : Nat} {f : Nat → Int32} (ha : sTk σ a = some (4, n, c0, f)) (hlink : (Cond.fieldLink own index ref (TX0 1).2.1 (TX0 1).2.2.1).before args s = true) (hsame : ∀ x, s.fieldFound? (TX0 1).1 (TX0 1).2.1 (TX0 1).2.2.1 = some x → s.fieldFound? ref (TX0 1).2.1 (TX0 1).2.2.1 = some x) (hdg : decode cc pc = .ok (.getfield index, 3)) (kk : W p l e R s m args below meth c H locs cells slots Q (F0 m (pc + 3) ls (.ref c0 :: rest))) : W p l e R s m args below meth c H locs cells slots Q (F0 m pc ls (.ref a :: rest)) := by
  obtain ⟨G, hG, hR⟩ := hw
  exact g_get hx hb hts inX0 hown hK hG (C := RX0) (T := TX0) (N := 2) (hR.2.2.2.2.2.2.1 a _ ha).2.1 rfl 1 (by decide) hlink hsame rfl hdg kk
theorem c_ld4 (hx : p.tables.exec = Jvm.exec) (hb : c.code = cc) (hK : KK D d s) (hw : ΩC D d cp A σ H) {a n c0 : Nat} {f : Nat → Int32} (ha : sTk σ a = some (4, n, c0, f)) {i : Int32} (hin : vp_in i n) (hdg : decode cc pc = .ok (.baload, 1)) (kk : W p l e R s m args below meth c H locs cells slots Q (F0 m (pc + 1) ls (.int (f i.toNatClampNeg) :: rest))) : W p l e R s m args below meth c H locs cells slots Q (F0 m pc ls (.int i :: .ref c0 :: rest)) := by
  obtain ⟨G, hG, hR⟩ := hw
  exact va_bald hx hb hK.1 (hG.1.one (hR.2.2.2.2.2.2.1 a _ ha).2.2) 0 4 rfl rfl hin hdg kk
theorem c_st4 (hx : p.tables.exec = Jvm.exec) (hb : c.code = cc) (hK : KK D d s) (hw : ΩC D d cp A σ H) (hS : va_S A s.heap H locs) {a n c0 : Nat} {f : Nat → Int32} (ha : sTk σ a = some (4, n, c0, f)) {i x : Int32} (hin : vp_in i n) (hdg : decode cc pc = .ok (.bastore, 1)) (kk : ∀ (H1 : Heap) (locs1 : List Loc), ΩC D d cp A (pTk σ a (4, n, c0, upd f i.toNatClampNeg (vp_nar .byte x))) H1 → va_S A s.heap H1 locs1 → W p l e R s m args below meth c H1 locs1 cells slots Q (F0 m (pc + 1) ls rest)) : W p l e R s m args below meth c H locs cells slots Q (F0 m pc ls (.int x :: .int i :: .ref c0 :: rest)) := by
  obtain ⟨G, hG, hR⟩ := hw
  obtain ⟨ws, hP, hD, hws⟩ := gp_ws hG.1 hG.2
  have he := (hR.2.2.2.2.2.2.1 a _ ha).2.2
  obtain ⟨q0, hq⟩ := hws _ _ he
  exact va_bast hx hb hK.1 hP hD hS q0 4 hq rfl hin hdg (fun H1 locs1 hP1 _ hS1 => kk H1 locs1 ⟨_, ⟨gp_set hws hq hP1, dom_set hG.2 (hG.2 _ _ he)⟩, hR.tk ha (upd f i.toNatClampNeg (vp_nar .byte x))⟩ hS1)
end RULESC
