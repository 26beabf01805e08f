/-! ===== pictures: what lies at each address; the rules of the heap over them ===== -/
abbrev Pic : Type := Nat → Option va_E
def pset (G : Pic) (a : Nat) (e : va_E) : Pic := fun b => if b = a then some e else G b
theorem pset_self {G : Pic} {a : Nat} {e : va_E} : pset G a e a = some e := by simp [pset]
theorem pset_ne {G : Pic} {a b : Nat} {e : va_E} (h : b ≠ a) : pset G a e b = G b := by simp [pset, h]
def GP (D : va_G) (G : Pic) (H : Heap) : Prop := ∀ (a : Nat) (e : va_E), G a = some e → va_at D vwCl (a, e) H
theorem GP.lt {D : va_G} {G : Pic} {H : Heap} (h : GP D G H) {a : Nat} {e : va_E} (ha : G a = some e) : a < H.size := (h a e ha).lt
theorem GP.fresh {D : va_G} {G : Pic} {H : Heap} (h : GP D G H) {q : Nat} (hq : H.size ≤ q) : G q = none := by
  cases hg : G q with
  | none => rfl
  | some e => have := h.lt hg; omega
theorem GP.one {D : va_G} {G : Pic} {H : Heap} (h : GP D G H) {a : Nat} {e : va_E} (ha : G a = some e) : va_P D vwCl [(a, e)] H := fun k q hk => by
  match k, hk with
  | 0, hk => cases hk; exact h a e ha
  | k + 1, hk => simp at hk
/-- the picture as a list of cells -/
theorem gp_ws {D : va_G} {G : Pic} {H : Heap} {A : Nat → Prop} (hG : GP D G H) (hA : ∀ (a : Nat) (e : va_E), G a = some e → A a) : ∃ ws : va_W, va_P D vwCl ws H ∧ va_D A ws ∧ ∀ (a : Nat) (e : va_E), G a = some e → ∃ k : Nat, ws[k]? = some (a, e) := by
  have mem : ∀ q : Nat × va_E, q ∈ (List.range H.size).filterMap (fun a => (G a).map (fun e => (a, e))) ↔ G q.1 = some q.2 := by
    intro q
    rw [List.mem_filterMap]
    constructor
    · rintro ⟨a, -, h⟩
      cases hg : G a with
      | none => rw [hg] at h; cases h
      | some e => rw [hg] at h; cases h; exact hg
    · intro h
      exact ⟨q.1, List.mem_range.mpr (hG.lt h), by rw [h]; rfl⟩
  have pw : List.Pairwise (fun p q : Nat × va_E => p.1 ≠ q.1) ((List.range H.size).filterMap (fun a => (G a).map (fun e => (a, e)))) := by
    have h0 : List.Pairwise (fun a b : Nat => a ≠ b) (List.range H.size) := List.nodup_range
    refine List.Pairwise.filterMap _ ?_ h0
    intro a a' hne b hb b' hb'
    cases hg : G a with
    | none => simp [hg] at hb
    | some e =>
      cases hg' : G a' with
      | none => simp [hg'] at hb'
      | some e' =>
        simp [hg] at hb
        simp [hg'] at hb'
        subst hb
        subst hb'
        exact hne
  refine ⟨_, fun k q hk => hG q.1 q.2 ((mem q).mp (List.mem_of_getElem? hk)), ⟨fun i j x y hi hj hxy => ?_, fun k q hk => hA q.1 q.2 ((mem q).mp (List.mem_of_getElem? hk))⟩, fun a e h => List.getElem?_of_mem ((mem (a, e)).mpr h)⟩
  obtain ⟨li, ei⟩ := List.getElem?_eq_some_iff.mp hi
  obtain ⟨lj, ej⟩ := List.getElem?_eq_some_iff.mp hj
  rcases Nat.lt_trichotomy i j with h | h | h
  · exact absurd (by rw [ei, ej]; exact hxy) (List.pairwise_iff_getElem.mp pw i j li lj h)
  · exact h
  · exact absurd (by rw [ei, ej]; exact hxy.symm) (List.pairwise_iff_getElem.mp pw j i lj li h)
theorem gp_set {D : va_G} {G : Pic} {H1 : Heap} {ws : va_W} {k a : Nat} {e0 e : va_E} (hws : ∀ (a : Nat) (e : va_E), G a = some e → ∃ k : Nat, ws[k]? = some (a, e)) (hk : ws[k]? = some (a, e0)) (h : va_P D vwCl (ws.set k (a, e)) H1) : GP D (pset G a e) H1 := by
  intro b eb hb
  have hl := (List.getElem?_eq_some_iff.mp hk).1
  by_cases hba : b = a
  · subst hba
    rw [pset_self] at hb
    cases hb
    exact h k _ (List.getElem?_set_self hl)
  · rw [pset_ne hba] at hb
    obtain ⟨j, hj⟩ := hws b eb hb
    refine h j _ ?_
    rw [List.getElem?_set_ne (fun e => ?_)]
    · exact hj
    · subst e
      rw [hk] at hj
      cases hj
      exact hba rfl
theorem gp_push {D : va_G} {G : Pic} {H1 : Heap} {ws : va_W} {q : Nat} {e : va_E} (hws : ∀ (a : Nat) (e : va_E), G a = some e → ∃ k : Nat, ws[k]? = some (a, e)) (h : va_P D vwCl (ws ++ [(q, e)]) H1) : GP D (pset G q e) H1 := by
  intro b eb hb
  by_cases hba : b = q
  · subst hba
    rw [pset_self] at hb
    cases hb
    exact h ws.length _ (by simp)
  · rw [pset_ne hba] at hb
    obtain ⟨j, hj⟩ := hws b eb hb
    exact h j _ (by rw [List.getElem?_append_left (List.getElem?_eq_some_iff.mp hj).1]; exact hj)
/-- the world of a picture -/
def ΩG (D : va_G) : Wld Pic := fun F G H => GP D G H ∧ ∀ (a : Nat) (e : va_E), G a = some e → F a
theorem ΩG.mono (D : va_G) : Mono (ΩG D) := fun _ _ _ _ h hw => ⟨hw.1, fun a e ha => h a (hw.2 a e ha)⟩
theorem dom_set {G : Pic} {A : Nat → Prop} {a : Nat} {e : va_E} (h : ∀ (a : Nat) (e : va_E), G a = some e → A a) (ha : A a) : ∀ (b : Nat) (e' : va_E), pset G a e b = some e' → A b := fun b e' hb => by
  by_cases hba : b = a
  · rw [hba]; exact ha
  · rw [pset_ne hba] at hb; exact h b e' hb
section PICS
variable {p : Program} {l : Launch} {e : Env} {R : Room} {s : State} {m : MethodId} {args : Array Value} {below : List Frame} {meth : Method} {c : Code} {H : Heap} {locs : List Loc} {cells slots : Nat} {Q : State → Prop}
variable {cc : ByteArray} {pc : Nat} {ls : Array Slot} {rest : List Value} {D : va_G} {d : AC} {A : Nat → Prop} {a : Nat} {G : Pic}
theorem g_recv (hK : KK D d s) (hw : ΩG D A G H) {ci : Nat} {q : vw_C} {fs : List Value} (hc : vwCl[ci]? = some q) (he : G a = some (.inr (ci, fs))) : ∃ cell : Cell, H[a]? = some cell ∧ cell.vm.isStatics = false ∧ s.vm.findClass q.1 = some cell.cls := va_recv hK.1 (hw.1.one he) hc (q0 := 0) rfl
theorem g_get (hx : p.tables.exec = Jvm.exec) (hb : c.code = cc) {own ref C : String} {T : u_T} {N ci index : Nat} (hts : ∀ w ∈ lw_ok, w.before args s = true) (hin : ∀ w ∈ u_ws C T N, w ∈ lw_ok) (hown : s.vm.findClass own = some m.cls) (hK : KK D d s) (hw : ΩG D A G H) {fs : List Value} (he : G a = some (.inr (ci, fs))) (hc : vwCl[ci]? = some (C, T, N)) (k : Nat) (hk : k < N) (hlink : (Cond.fieldLink own index ref (T k).2.1 (T k).2.2.1).before args s = true) (hsame : ∀ x, s.fieldFound? (T k).1 (T k).2.1 (T k).2.2.1 = some x → s.fieldFound? ref (T k).2.1 (T k).2.2.1 = some x) {v : Value} (hv : fs[k]? = some v) (hdg : decode cc pc = .ok (.getfield index, 3))
    (kk : W p l e R s m args below meth c H locs cells slots Q (F0 m (pc + 3) ls (v :: rest))) : W p l e R s m args below meth c H locs cells slots Q (F0 m pc ls (.ref a :: rest)) :=
  va_get hx hb hts hin hown hK.1 (hw.1.one he) 0 rfl hc k hk hlink hsame hv hdg kk
theorem g_put (hx : p.tables.exec = Jvm.exec) (hb : c.code = cc) {own ref C : String} {T : u_T} {N ci index : Nat} (hts : ∀ w ∈ lw_ok, w.before args s = true) (hin : ∀ w ∈ u_ws C T N, w ∈ lw_ok) (ty0 : Nat → FieldType) (hty : ∀ k, k < N → parseFieldDescriptor (T k).2.2.1 = some (ty0 k)) (hnm : ∀ a, a < N → ∀ b, b < N → a ≠ b → (T a).2.1 ≠ (T b).2.1) (hown : s.vm.findClass own = some m.cls) (hK : KK D d s) (hw : ΩG D A G H) (hS : va_S A s.heap H locs) {fs : List Value} (he : G a = some (.inr (ci, fs))) (hc : vwCl[ci]? = some (C, T, N)) (k : Nat) (hk : k < N) (hlink : (Cond.fieldLink own index ref (T k).2.1 (T k).2.2.1).before args s = true) (hsame : ∀ x, s.fieldFound? (T k).1 (T k).2.1 (T k).2.2.1 = some x → s.fieldFound? ref (T k).2.1 (T k).2.2.1 = some x) (hfin : (T k).2.2.2 = false) {ty : FieldType} {v : Value} (hd : parseFieldDescriptor (T k).2.2.1 = some ty) (hn : narrow ty v = v) (hfit : fits ty v = true) (hl : k < fs.length)
    (hdg : decode cc pc = .ok (.putfield index, 3)) (kk : ∀ (H1 : Heap) (locs1 : List Loc), ΩG D A (pset G a (.inr (ci, fs.set k v))) H1 → va_S A s.heap H1 locs1 → W p l e R s m args below meth c H1 locs1 cells slots Q (F0 m (pc + 3) ls rest)) : W p l e R s m args below meth c H locs cells slots Q (F0 m pc ls (v :: .ref a :: rest)) := by
  obtain ⟨ws, hP, hD, hws⟩ := gp_ws hw.1 hw.2
  obtain ⟨q0, hq⟩ := hws _ _ he
  exact va_put hx hb hts hin ty0 hty hnm hown hK.1 hP hD hS q0 hq hc k hk hlink hsame hfin hd hn hfit hl hdg (fun H1 locs1 hP1 _ hS1 => kk H1 locs1 ⟨gp_set hws hq hP1, dom_set hw.2 (hw.2 _ _ he)⟩ hS1)
theorem g_putF (hx : p.tables.exec = Jvm.exec) (hb : c.code = cc) {own ref C : String} {T : u_T} {N ci index : Nat} (hts : ∀ w ∈ lw_ok, w.before args s = true) (hin : ∀ w ∈ u_ws C T N, w ∈ lw_ok) (ty0 : Nat → FieldType) (hty : ∀ k, k < N → parseFieldDescriptor (T k).2.2.1 = some (ty0 k)) (hnm : ∀ a, a < N → ∀ b, b < N → a ≠ b → (T a).2.1 ≠ (T b).2.1) (hown : s.vm.findClass own = some m.cls) (hK : KK D d s) (hw : ΩG D A G H) (hS : va_S A s.heap H locs) {fs : List Value} (he : G a = some (.inr (ci, fs))) (hc : vwCl[ci]? = some (C, T, N)) (k : Nat) (hk : k < N) (hlink : (Cond.fieldLink own index ref (T k).2.1 (T k).2.2.1).before args s = true) (hsame : ∀ x, s.fieldFound? (T k).1 (T k).2.1 (T k).2.2.1 = some x → s.fieldFound? ref (T k).2.1 (T k).2.2.1 = some x) (hfin : (T k).2.2.2 = true) (hin2 : meth.name = "<init>") (hdecl : (T k).1 = own) {ty : FieldType} {v : Value} (hd : parseFieldDescriptor (T k).2.2.1 = some ty) (hn : narrow ty v = v) (hfit : fits ty v = true) (hl : k < fs.length)
    (hdg : decode cc pc = .ok (.putfield index, 3)) (kk : ∀ (H1 : Heap) (locs1 : List Loc), ΩG D A (pset G a (.inr (ci, fs.set k v))) H1 → va_S A s.heap H1 locs1 → W p l e R s m args below meth c H1 locs1 cells slots Q (F0 m (pc + 3) ls rest)) : W p l e R s m args below meth c H locs cells slots Q (F0 m pc ls (v :: .ref a :: rest)) := by
  obtain ⟨ws, hP, hD, hws⟩ := gp_ws hw.1 hw.2
  obtain ⟨q0, hq⟩ := hws _ _ he
  exact va_putF hx hb hts hin ty0 hty hnm hown hK.1 hP hD hS q0 hq hc k hk hlink hsame hfin hin2 hdecl hd hn hfit hl hdg (fun H1 locs1 hP1 _ hS1 => kk H1 locs1 ⟨gp_set hws hq hP1, dom_set hw.2 (hw.2 _ _ he)⟩ hS1)
theorem g_new (hx : p.tables.exec = Jvm.exec) (hb : c.code = cc) {own C : String} {T : u_T} {N ci index : Nat} (hts : ∀ w ∈ lw_ok, w.before args s = true) (hin : ∀ w ∈ u_ws C T N, w ∈ lw_ok) (ty : Nat → FieldType) (hty : ∀ k, k < N → parseFieldDescriptor (T k).2.2.1 = some (ty k)) (hown : s.vm.findClass own = some m.cls) (hcl : (Cond.classLink own index C).before args s = true) (hinst : (Cond.instantiable C N).before args s = true) (hini : (Cond.initialized C).before args s = true)
    (hK : KK D d s) (hw : ΩG D A G H) (hS : va_S A s.heap H locs) (hA : ∀ q, s.heap.size ≤ q → A q) (hc : vwCl[ci]? = some (C, T, N)) {fs : List Value} (hfs : ∀ j, j < N → defaultValue (ty j) = vp_V fs j) (hcells : cells + 1 ≤ R.cells) (hslots : slots + N ≤ R.slots) (hdg : decode cc pc = .ok (.new index, 3))
    (kk : ∀ (q : Nat) (H1 : Heap), G q = none → ΩG D A (pset G q (.inr (ci, fs))) H1 → va_S A s.heap H1 locs →
      W p l e R s m args below meth c H1 locs (cells + 1) (slots + N) Q (F0 m (pc + 3) ls (.ref q :: rest))) : W p l e R s m args below meth c H locs cells slots Q (F0 m pc ls rest) := by
  obtain ⟨ws, hP, hD, hws⟩ := gp_ws hw.1 hw.2
  refine va_new hx hb hts hin ty hty hown hcl hinst hini hK.1 hP hD hS hA hc hfs hcells hslots hdg (fun q H1 hP1 hD1 hS1 => ?_)
  have hqn : G q = none := by
    cases hg : G q with
    | none => rfl
    | some e0 =>
      obtain ⟨k, hk⟩ := hws _ _ hg
      have hl := (List.getElem?_eq_some_iff.mp hk).1
      have := hD1.1 k ws.length (q, e0) (q, .inr (ci, fs)) (by rw [List.getElem?_append_left hl]; exact hk) (by simp) rfl
      omega
  exact kk q H1 hqn ⟨gp_push hws hP1, dom_set hw.2 (hD1.2 ws.length (q, .inr (ci, fs)) (by simp))⟩ hS1
theorem va_K.uniq {tys : List (ClassId × FieldType)} {ty : FieldType} {cA cB : ClassId} {t0 : Nat} (h : va_K D vwCl (tys ++ [(cA, ty)]) s) (ht : tys[t0]? = some (cB, ty)) : cA = cB := by
  have h1 := (h.2 tys.length (cA, ty) (by simp)).2
  have h2 := (h.2 t0 (cB, ty) (by rw [List.getElem?_append_left (List.getElem?_eq_some_iff.mp ht).1]; exact ht)).2
  cases ty with
  | object C =>
    obtain ⟨_, _, -, -, -, e1⟩ := h1
    obtain ⟨_, _, -, -, -, e2⟩ := h2
    exact Option.some.inj (e1.symm.trans e2)
  | _ => exact Option.some.inj (h1.symm.trans h2)
theorem g_newa (hx : p.tables.exec = Jvm.exec) (hb : c.code = cc) {atype : ArrayType} (harr : (Cond.arrayClass (newarray.typeOf atype)).before args s = true) {ty : FieldType} (hty : newarray.typeOf atype = ty) (hK : KK D d s) (hw : ΩG D A G H) (hS : va_S A s.heap H locs) (hA : ∀ q, s.heap.size ≤ q → A q) {cA : ClassId} (t0 : Nat) (ht : (tysOf d)[t0]? = some (cA, ty))
    {n : Int32} {N' : Nat} {a0 : vp_A} (ha : ∀ cA : ClassId, vp_cell cA a0 = arrV cA N' (fun _ => defaultValue ty)) (hn : ¬ n < 0) (hN : n.toNatClampNeg = N') (hbytes : N' * componentBytes ty ≤ 536870912) (hcells : cells + 1 ≤ R.cells) (hslots : slots + N' ≤ R.slots) (hdg : decode cc pc = .ok (.newarray atype, 2))
    (kk : ∀ (q : Nat) (H1 : Heap), G q = none → ΩG D A (pset G q (.inl (cA, a0))) H1 → va_S A s.heap H1 locs →
      W p l e R s m args below meth c H1 locs (cells + 1) (slots + N') Q (F0 m (pc + 2) ls (.ref q :: rest))) : W p l e R s m args below meth c H locs cells slots Q (F0 m pc ls (.int n :: rest)) := by
  obtain ⟨ws, hP, hD, hws⟩ := gp_ws hw.1 hw.2
  refine va_newa hx hb harr hty hK.1 hP hD hS hA ha hn hN hbytes hcells hslots hdg (fun q cB H1 hK1 hP1 hD1 hS1 => ?_)
  cases va_K.uniq hK1 ht
  have hqn : G q = none := by
    cases hg : G q with
    | none => rfl
    | some e0 =>
      obtain ⟨k, hk⟩ := hws _ _ hg
      have hl := (List.getElem?_eq_some_iff.mp hk).1
      have := hD1.1 k ws.length (q, e0) (q, .inl (cA, a0)) (by rw [List.getElem?_append_left hl]; exact hk) (by simp) rfl
      omega
  exact kk q H1 hqn ⟨gp_push hws hP1, dom_set hw.2 (hD1.2 ws.length (q, .inl (cA, a0)) (by simp))⟩ hS1
theorem g_newq (hx : p.tables.exec = Jvm.exec) (hb : c.code = cc) {own C : String} {index : Nat} (hown : s.vm.findClass own = some m.cls) (hclink : (Cond.classLink own index C).before args s = true) (hover : va_AO C s) (hK : KK D d s) (hw : ΩG D A G H) (hS : va_S A s.heap H locs) (hA : ∀ q, s.heap.size ≤ q → A q) {cA : ClassId} (t0 : Nat) (ht : (tysOf d)[t0]? = some (cA, .object C))
    {n : Int32} {N' : Nat} (hn : ¬ n < 0) (hN : n.toNatClampNeg = N') (hbytes : N' * 4 ≤ 536870912) (hcells : cells + 1 ≤ R.cells) (hslots : slots + N' ≤ R.slots) (hdg : decode cc pc = .ok (.anewarray index, 3))
    (kk : ∀ (q : Nat) (H1 : Heap), G q = none → ΩG D A (pset G q (.inl (cA, N', .inr (.inr (.inr (.inr (fun _ => none))))))) H1 → va_S A s.heap H1 locs →
      W p l e R s m args below meth c H1 locs (cells + 1) (slots + N') Q (F0 m (pc + 3) ls (.ref q :: rest))) : W p l e R s m args below meth c H locs cells slots Q (F0 m pc ls (.int n :: rest)) := by
  obtain ⟨ws, hP, hD, hws⟩ := gp_ws hw.1 hw.2
  refine va_newq hx hb hown hclink hover hK.1 hP hD hS hA hn hN hbytes hcells hslots hdg (fun q cB H1 hK1 hP1 hD1 hS1 => ?_)
  cases va_K.uniq hK1 ht
  have hqn : G q = none := by
    cases hg : G q with
    | none => rfl
    | some e0 =>
      obtain ⟨k, hk⟩ := hws _ _ hg
      have hl := (List.getElem?_eq_some_iff.mp hk).1
      have := hD1.1 k ws.length (q, e0) (q, .inl (cA, N', .inr (.inr (.inr (.inr (fun _ => none)))))) (by rw [List.getElem?_append_left hl]; exact hk) (by simp) rfl
      omega
  exact kk q H1 hqn ⟨gp_push hws hP1, dom_set hw.2 (hD1.2 ws.length (q, .inl (cA, N', .inr (.inr (.inr (.inr (fun _ => none)))))) (by simp))⟩ hS1
theorem g_aldq (hx : p.tables.exec = Jvm.exec) (hb : c.code = cc) (hK : KK D d s) (hw : ΩG D A G H) (t0 : Nat) {cA : ClassId} {C : String} {n : Nat} {f : Nat → Option Nat} (ha : G a = some (.inl (cA, n, .inr (.inr (.inr (.inr f)))))) (ht : (tysOf d)[t0]? = some (cA, .object C)) {i : Int32} (hin : vp_in i n) (hdg : decode cc pc = .ok (.aaload, 1))
    (kk : W p l e R s m args below meth c H locs cells slots Q (F0 m (pc + 1) ls (va_rf (f i.toNatClampNeg) :: rest))) : W p l e R s m args below meth c H locs cells slots Q (F0 m pc ls (.int i :: .ref a :: rest)) :=
  va_aldq hx hb hK.1 (hw.1.one ha) 0 t0 rfl ht hin hdg kk
theorem g_astqN (hx : p.tables.exec = Jvm.exec) (hb : c.code = cc) (hK : KK D d s) (hw : ΩG D A G H) (hS : va_S A s.heap H locs) (t0 : Nat) {cA : ClassId} {C : String} {n : Nat} {f : Nat → Option Nat} (ha : G a = some (.inl (cA, n, .inr (.inr (.inr (.inr f)))))) (ht : (tysOf d)[t0]? = some (cA, .object C)) {i : Int32} (hin : vp_in i n) (hdg : decode cc pc = .ok (.aastore, 1))
    (kk : ∀ (H1 : Heap) (locs1 : List Loc), ΩG D A (pset G a (.inl (cA, n, .inr (.inr (.inr (.inr (va_up f i.toNatClampNeg none))))))) H1 → va_S A s.heap H1 locs1 → W p l e R s m args below meth c H1 locs1 cells slots Q (F0 m (pc + 1) ls rest)) : W p l e R s m args below meth c H locs cells slots Q (F0 m pc ls (.null :: .int i :: .ref a :: rest)) := by
  obtain ⟨ws, hP, hD, hws⟩ := gp_ws hw.1 hw.2
  obtain ⟨q0, hq⟩ := hws _ _ ha
  exact va_astqN hx hb hK.1 hP hD hS q0 t0 hq ht hin hdg (fun H1 locs1 hP1 _ hS1 => kk H1 locs1 ⟨gp_set hws hq hP1, dom_set hw.2 (hw.2 _ _ ha)⟩ hS1)
theorem g_astqO (hx : p.tables.exec = Jvm.exec) (hb : c.code = cc) (hK : KK D d s) (hw : ΩG D A G H) (hS : va_S A s.heap H locs) (t0 : Nat) {cA : ClassId} {E : String} {n v ci : Nat} {vs : List Value} {r : vw_C} {f : Nat → Option Nat} (ha : G a = some (.inl (cA, n, .inr (.inr (.inr (.inr f)))))) (ht : (tysOf d)[t0]? = some (cA, .object E)) (hca : va_Nw (.castable r.1 E) s) (hv : G v = some (.inr (ci, vs))) (hc : vwCl[ci]? = some r) {i : Int32} (hin : vp_in i n) (hdg : decode cc pc = .ok (.aastore, 1))
    (kk : ∀ (H1 : Heap) (locs1 : List Loc), ΩG D A (pset G a (.inl (cA, n, .inr (.inr (.inr (.inr (va_up f i.toNatClampNeg (some v)))))))) H1 → va_S A s.heap H1 locs1 → W p l e R s m args below meth c H1 locs1 cells slots Q (F0 m (pc + 1) ls rest)) : W p l e R s m args below meth c H locs cells slots Q (F0 m pc ls (.ref v :: .int i :: .ref a :: rest)) := by
  obtain ⟨ws, hP, hD, hws⟩ := gp_ws hw.1 hw.2
  obtain ⟨q0, hq⟩ := hws _ _ ha
  obtain ⟨q1, hq1⟩ := hws _ _ hv
  exact va_astqO hx hb hK.1 hP hD hS q0 t0 q1 ci hq ht hca hq1 hc hin hdg (fun H1 locs1 hP1 _ hS1 => kk H1 locs1 ⟨gp_set hws hq hP1, dom_set hw.2 (hw.2 _ _ ha)⟩ hS1)
theorem g_astq (hx : p.tables.exec = Jvm.exec) (hb : c.code = cc) (hK : KK D d s) (hw : ΩG D A G H) (hS : va_S A s.heap H locs) (t0 : Nat) {cA : ClassId} {n v ci : Nat} {vs : List Value} {r : vw_C} {f : Nat → Option Nat} (ha : G a = some (.inl (cA, n, .inr (.inr (.inr (.inr f)))))) (ht : (tysOf d)[t0]? = some (cA, .object r.1)) (hv : G v = some (.inr (ci, vs))) (hc : vwCl[ci]? = some r) {i : Int32} (hin : vp_in i n) (hdg : decode cc pc = .ok (.aastore, 1))
    (kk : ∀ (H1 : Heap) (locs1 : List Loc), ΩG D A (pset G a (.inl (cA, n, .inr (.inr (.inr (.inr (va_up f i.toNatClampNeg (some v)))))))) H1 → va_S A s.heap H1 locs1 → W p l e R s m args below meth c H1 locs1 cells slots Q (F0 m (pc + 1) ls rest)) : W p l e R s m args below meth c H locs cells slots Q (F0 m pc ls (.ref v :: .int i :: .ref a :: rest)) := by
  obtain ⟨ws, hP, hD, hws⟩ := gp_ws hw.1 hw.2
  obtain ⟨q0, hq⟩ := hws _ _ ha
  obtain ⟨q1, hq1⟩ := hws _ _ hv
  exact va_astq hx hb hK.1 hP hD hS q0 t0 q1 ci hq ht hq1 hc hin hdg (fun H1 locs1 hP1 _ hS1 => kk H1 locs1 ⟨gp_set hws hq hP1, dom_set hw.2 (hw.2 _ _ ha)⟩ hS1)
/-! references that may be null, in locals and on the stack -/
theorem lv_aloadq_n (hx : p.tables.exec = Jvm.exec) (hb : c.code = cc) {k : Fin 4} {i : Nat} {o : Option Nat} (hdg : decode cc pc = .ok (.aload_n k, 1)) (hi : (k : Nat) = i) (hl : ls[i]? = some (.val (va_rf o)))
    (kk : W p l e R s m args below meth c H locs cells slots Q (F0 m (pc + 1) ls (va_rf o :: rest))) : W p l e R s m args below meth c H locs cells slots Q (F0 m pc ls rest) := by
  cases o with
  | none => exact lv_aload_nN hx hb hdg hi hl kk
  | some a => exact lv_aload_n hx hb hdg hi hl kk
theorem lv_aloadq (hx : p.tables.exec = Jvm.exec) (hb : c.code = cc) {i : Nat} {o : Option Nat} (hdg : decode cc pc = .ok (.aload i, 2)) (hl : ls[i]? = some (.val (va_rf o)))
    (kk : W p l e R s m args below meth c H locs cells slots Q (F0 m (pc + 2) ls (va_rf o :: rest))) : W p l e R s m args below meth c H locs cells slots Q (F0 m pc ls rest) := by
  cases o with
  | none => exact lv_aloadN hx hb hdg hl kk
  | some a => exact lv_aload hx hb hdg hl kk
theorem lv_astoreq_n (hx : p.tables.exec = Jvm.exec) (hb : c.code = cc) {k : Fin 4} {i nL : Nat} {o : Option Nat} {lv lv' : List (Nat × Value)} (hdg : decode cc pc = .ok (.astore_n k, 1)) (hi : (k : Nat) = i) (h : lv_has ls nL lv) (hn : i < nL) (hl : (i, va_rf o) :: lv.filter (fun q => !(q.1 == i) && !(q.1 + 1 == i && q.2.category == 2)) = lv')
    (kk : ∀ ls' : Array Slot, lv_has ls' nL lv' → W p l e R s m args below meth c H locs cells slots Q (F0 m (pc + 1) ls' rest)) : W p l e R s m args below meth c H locs cells slots Q (F0 m pc ls (va_rf o :: rest)) := by
  cases o with
  | none => exact lv_astore_nN hx hb hdg hi h hn hl kk
  | some a => exact lv_astore_n hx hb hdg hi h hn hl kk
theorem lv_astoreq (hx : p.tables.exec = Jvm.exec) (hb : c.code = cc) {i nL : Nat} {o : Option Nat} {lv lv' : List (Nat × Value)} (hdg : decode cc pc = .ok (.astore i, 2)) (h : lv_has ls nL lv) (hn : i < nL) (hl : (i, va_rf o) :: lv.filter (fun q => !(q.1 == i) && !(q.1 + 1 == i && q.2.category == 2)) = lv')
    (kk : ∀ ls' : Array Slot, lv_has ls' nL lv' → W p l e R s m args below meth c H locs cells slots Q (F0 m (pc + 2) ls' rest)) : W p l e R s m args below meth c H locs cells slots Q (F0 m pc ls (va_rf o :: rest)) := by
  cases o with
  | none => exact lv_astoreN hx hb hdg h hn hl kk
  | some a => exact lv_astore hx hb hdg h hn hl kk
theorem lv_topq {o : Option Nat} (kk : ∀ y : Option Nat, y = o → W p l e R s m args below meth c H locs cells slots Q (F0 m pc ls (va_rf y :: rest))) : W p l e R s m args below meth c H locs cells slots Q (F0 m pc ls (va_rf o :: rest)) := kk o rfl
theorem lv_ifnullq (hx : p.tables.exec = Jvm.exec) (hb : c.code = cc) {off : Int} {tgt : Nat} {o : Option Nat} (hdg : decode cc pc = .ok (.ifnull off, 3)) (ht : (pc : Int) + off = (tgt : Int)) (kt : o = none → W p l e R s m args below meth c H locs cells slots Q (F0 m tgt ls rest)) (kf : ∀ a : Nat, o = some a → W p l e R s m args below meth c H locs cells slots Q (F0 m (pc + 3) ls rest)) : W p l e R s m args below meth c H locs cells slots Q (F0 m pc ls (va_rf o :: rest)) := by
  cases o with
  | none => exact lv_ifnullN hx hb hdg ht (kt rfl)
  | some a => exact lv_ifnull hx hb hdg (kf a rfl)
theorem lv_ifnonnullq (hx : p.tables.exec = Jvm.exec) (hb : c.code = cc) {off : Int} {tgt : Nat} {o : Option Nat} (hdg : decode cc pc = .ok (.ifnonnull off, 3)) (ht : (pc : Int) + off = (tgt : Int)) (kt : ∀ a : Nat, o = some a → W p l e R s m args below meth c H locs cells slots Q (F0 m tgt ls rest)) (kf : o = none → W p l e R s m args below meth c H locs cells slots Q (F0 m (pc + 3) ls rest)) : W p l e R s m args below meth c H locs cells slots Q (F0 m pc ls (va_rf o :: rest)) := by
  cases o with
  | none => exact lv_ifnonnullN hx hb hdg (kf rfl)
  | some a => exact lv_ifnonnull hx hb hdg ht (kt a rfl)
theorem va_rf_cat (o : Option Nat) : (va_rf o).category = 1 := by cases o <;> rfl
end PICS
