/-! ===== the world of the reference: its object and its fourteen arrays ===== -/
abbrev MS : Type := (Nat → Int32) × (Nat → Int32) × (Nat → Int32) × (Nat → Int32) × (Nat → Int32) × (Nat → Int32) × (Nat → Int32) × (Nat → Int32) × (Nat → Int32) × (Nat → Int32) × (Nat → Int32) × (Nat → Int64) × (Nat → Int32) × (Nat → Int32) × Int32
abbrev mCell (μ : MS) : (Nat → Int32) := μ.1
abbrev mSize (μ : MS) : (Nat → Int32) := μ.2.1
abbrev mUses (μ : MS) : (Nat → Int32) := μ.2.2.1
abbrev mDrums (μ : MS) : (Nat → Int32) := μ.2.2.2.1
abbrev mTeeth (μ : MS) : (Nat → Int32) := μ.2.2.2.2.1
abbrev mCK (μ : MS) : (Nat → Int32) := μ.2.2.2.2.2.1
abbrev mCT (μ : MS) : (Nat → Int32) := μ.2.2.2.2.2.2.1
abbrev mHeads (μ : MS) : (Nat → Int32) := μ.2.2.2.2.2.2.2.1
abbrev mNotes (μ : MS) : (Nat → Int32) := μ.2.2.2.2.2.2.2.2.1
abbrev mPlayed (μ : MS) : (Nat → Int32) := μ.2.2.2.2.2.2.2.2.2.1
abbrev mGaps (μ : MS) : (Nat → Int32) := μ.2.2.2.2.2.2.2.2.2.2.1
abbrev mWts (μ : MS) : (Nat → Int64) := μ.2.2.2.2.2.2.2.2.2.2.2.1
abbrev mHigh (μ : MS) : (Nat → Int32) := μ.2.2.2.2.2.2.2.2.2.2.2.2.1
abbrev mLoud (μ : MS) : (Nat → Int32) := μ.2.2.2.2.2.2.2.2.2.2.2.2.2.1
abbrev mState (μ : MS) : Int32 := μ.2.2.2.2.2.2.2.2.2.2.2.2.2.2
abbrev nCell (μ : MS) (v : (Nat → Int32)) : MS := (v, μ.2)
abbrev nSize (μ : MS) (v : (Nat → Int32)) : MS := (μ.1, v, μ.2.2)
abbrev nUses (μ : MS) (v : (Nat → Int32)) : MS := (μ.1, μ.2.1, v, μ.2.2.2)
abbrev nDrums (μ : MS) (v : (Nat → Int32)) : MS := (μ.1, μ.2.1, μ.2.2.1, v, μ.2.2.2.2)
abbrev nTeeth (μ : MS) (v : (Nat → Int32)) : MS := (μ.1, μ.2.1, μ.2.2.1, μ.2.2.2.1, v, μ.2.2.2.2.2)
abbrev nCK (μ : MS) (v : (Nat → Int32)) : MS := (μ.1, μ.2.1, μ.2.2.1, μ.2.2.2.1, μ.2.2.2.2.1, v, μ.2.2.2.2.2.2)
abbrev nCT (μ : MS) (v : (Nat → Int32)) : MS := (μ.1, μ.2.1, μ.2.2.1, μ.2.2.2.1, μ.2.2.2.2.1, μ.2.2.2.2.2.1, v, μ.2.2.2.2.2.2.2)
abbrev nHeads (μ : MS) (v : (Nat → Int32)) : MS := (μ.1, μ.2.1, μ.2.2.1, μ.2.2.2.1, μ.2.2.2.2.1, μ.2.2.2.2.2.1, μ.2.2.2.2.2.2.1, v, μ.2.2.2.2.2.2.2.2)
abbrev nNotes (μ : MS) (v : (Nat → Int32)) : MS := (μ.1, μ.2.1, μ.2.2.1, μ.2.2.2.1, μ.2.2.2.2.1, μ.2.2.2.2.2.1, μ.2.2.2.2.2.2.1, μ.2.2.2.2.2.2.2.1, v, μ.2.2.2.2.2.2.2.2.2)
abbrev nPlayed (μ : MS) (v : (Nat → Int32)) : MS := (μ.1, μ.2.1, μ.2.2.1, μ.2.2.2.1, μ.2.2.2.2.1, μ.2.2.2.2.2.1, μ.2.2.2.2.2.2.1, μ.2.2.2.2.2.2.2.1, μ.2.2.2.2.2.2.2.2.1, v, μ.2.2.2.2.2.2.2.2.2.2)
abbrev nGaps (μ : MS) (v : (Nat → Int32)) : MS := (μ.1, μ.2.1, μ.2.2.1, μ.2.2.2.1, μ.2.2.2.2.1, μ.2.2.2.2.2.1, μ.2.2.2.2.2.2.1, μ.2.2.2.2.2.2.2.1, μ.2.2.2.2.2.2.2.2.1, μ.2.2.2.2.2.2.2.2.2.1, v, μ.2.2.2.2.2.2.2.2.2.2.2)
abbrev nWts (μ : MS) (v : (Nat → Int64)) : MS := (μ.1, μ.2.1, μ.2.2.1, μ.2.2.2.1, μ.2.2.2.2.1, μ.2.2.2.2.2.1, μ.2.2.2.2.2.2.1, μ.2.2.2.2.2.2.2.1, μ.2.2.2.2.2.2.2.2.1, μ.2.2.2.2.2.2.2.2.2.1, μ.2.2.2.2.2.2.2.2.2.2.1, v, μ.2.2.2.2.2.2.2.2.2.2.2.2)
abbrev nHigh (μ : MS) (v : (Nat → Int32)) : MS := (μ.1, μ.2.1, μ.2.2.1, μ.2.2.2.1, μ.2.2.2.2.1, μ.2.2.2.2.2.1, μ.2.2.2.2.2.2.1, μ.2.2.2.2.2.2.2.1, μ.2.2.2.2.2.2.2.2.1, μ.2.2.2.2.2.2.2.2.2.1, μ.2.2.2.2.2.2.2.2.2.2.1, μ.2.2.2.2.2.2.2.2.2.2.2.1, v, μ.2.2.2.2.2.2.2.2.2.2.2.2.2)
abbrev nLoud (μ : MS) (v : (Nat → Int32)) : MS := (μ.1, μ.2.1, μ.2.2.1, μ.2.2.2.1, μ.2.2.2.2.1, μ.2.2.2.2.2.1, μ.2.2.2.2.2.2.1, μ.2.2.2.2.2.2.2.1, μ.2.2.2.2.2.2.2.2.1, μ.2.2.2.2.2.2.2.2.2.1, μ.2.2.2.2.2.2.2.2.2.2.1, μ.2.2.2.2.2.2.2.2.2.2.2.1, μ.2.2.2.2.2.2.2.2.2.2.2.2.1, v, μ.2.2.2.2.2.2.2.2.2.2.2.2.2.2)
abbrev nState (μ : MS) (v : Int32) : MS := (μ.1, μ.2.1, μ.2.2.1, μ.2.2.2.1, μ.2.2.2.2.1, μ.2.2.2.2.2.1, μ.2.2.2.2.2.2.1, μ.2.2.2.2.2.2.2.1, μ.2.2.2.2.2.2.2.2.1, μ.2.2.2.2.2.2.2.2.2.1, μ.2.2.2.2.2.2.2.2.2.2.1, μ.2.2.2.2.2.2.2.2.2.2.2.1, μ.2.2.2.2.2.2.2.2.2.2.2.2.1, μ.2.2.2.2.2.2.2.2.2.2.2.2.2.1, v)
abbrev mw (d : AC) (mp : Nat → Nat) (μ : MS) : va_W := [(mp 0, .inr (8, [.ref (mp 1), .ref (mp 2), .ref (mp 3), .ref (mp 4), .ref (mp 5), .ref (mp 6), .ref (mp 7), .ref (mp 8), .ref (mp 9), .ref (mp 10), .ref (mp 11), .ref (mp 12), .ref (mp 13), .ref (mp 14), .int (mState μ)])), (mp 1, .inl (d 8, 60600, .inl (mCell μ))), (mp 2, .inl (d 8, 202, .inl (mSize μ))), (mp 3, .inl (d 8, 202, .inl (mUses μ))), (mp 4, .inl (d 8, 40, .inl (mDrums μ))), (mp 5, .inl (d 8, 160, .inl (mTeeth μ))), (mp 6, .inl (d 8, 4, .inl (mCK μ))), (mp 7, .inl (d 8, 4, .inl (mCT μ))), (mp 8, .inl (d 8, 8, .inl (mHeads μ))), (mp 9, .inl (d 8, 8, .inl (mNotes μ))), (mp 10, .inl (d 8, 8, .inl (mPlayed μ))), (mp 11, .inl (d 8, 8, .inl (mGaps μ))), (mp 12, .inl (d 9, 8, .inr (.inl (mWts μ)))), (mp 13, .inl (d 8, 8, .inl (mHigh μ))), (mp 14, .inl (d 8, 8, .inl (mLoud μ)))]
def ΩM (D : va_G) (d : AC) (mp : Nat → Nat) : Wld MS := fun F μ H => va_P D vwCl (mw d mp μ) H ∧ va_D F (mw d mp μ)
theorem ΩM.mono (D : va_G) (d : AC) (mp : Nat → Nat) : Mono (ΩM D d mp) := fun _ _ _ _ h hw => ⟨hw.1, hw.2.weaken (fun _ q _ hq => h q.1 hq)⟩
theorem ΩM.recv {D : va_G} {d : AC} {mp : Nat → Nat} {A : Nat → Prop} {μ : MS} {H : Heap} {s : State} (hK : KK D d s) (hw : ΩM D d mp A μ H) : ∃ cell : Cell, H[mp 0]? = some cell ∧ cell.vm.isStatics = false ∧ s.vm.findClass RX9 = some cell.cls := va_recv hK.1 hw.1 (ci := 8) (q := (RX9, TX9, 15)) (q0 := 0) rfl rfl
/-- the answers of a contract, by their types -/
abbrev qI {S : Type} (Q : Int32 → S → Prop) : Option Value → S → Prop := fun o u => ∃ r : Int32, o = some (.int r) ∧ Q r u
abbrev qZ {S : Type} (Q : Int32 → S → Prop) : Option Value → S → Prop := fun o u => ∃ r : Int32, o = some (.int r) ∧ (r = 0 ∨ r = 1) ∧ Q r u
abbrev qL {S : Type} (Q : Int64 → S → Prop) : Option Value → S → Prop := fun o u => ∃ r : Int64, o = some (.long r) ∧ Q r u
abbrev qF {S : Type} (Q : UInt32 → S → Prop) : Option Value → S → Prop := fun o u => ∃ r : UInt32, o = some (.float r) ∧ Q r u
abbrev qA {S : Type} (Q : Option Nat → S → Prop) : Option Value → S → Prop := fun o u => ∃ r : Option Nat, o = some (va_rf r) ∧ Q r u
abbrev qV {S : Type} (Q : S → Prop) : Option Value → S → Prop := fun o u => o = none ∧ Q u
theorem mt_ofF {S : Type} {D : va_G} {d : AC} {Ω : Wld S} {l : Launch} {y : MethodName} {rm : Room} {av : List Value} {u : S} {Q : Option Value → S → Prop} {cc : ByteArray} {maxL : Nat} {ret : Option FieldType}
    (hΩ : Mono Ω) (hy : plainFor y = true) (hn : (lg_sl av).length ≤ maxL)
    (body : ∀ (p : Program) (e : Env) (s : State) (m : MethodId) (below : List Frame) (meth : Method) (c : Code) (A : Nat → Prop) (ls : Array Slot), p.tables.exec = Jvm.exec → c.code = cc → meth.sig.returnType = ret → c.maxLocals = maxL → s.vm.findClass y.cls = some m.cls → (∀ w ∈ lw_ok, w.before av.toArray s = true) → meth.locks = false → meth.name = y.name → KK D d s → (∀ q, s.heap.size ≤ q → A q) → Ω A u s.heap → va_S A s.heap s.heap [] → lv_has ls maxL (lv_args 0 av) →
      W p l e rm s m av.toArray below meth c s.heap [] 0 0 (MQ below (Qo Q (fun u' t => Ω A u' t.heap) A) av.toArray s rm.cells rm.slots A) (F0 m 0 ls [])) : MT D d Ω l y (WS y cc maxL ret) rm av u Q := by
  intro F sz
  refine va_MetF (cc := cc) (maxL := maxL) (ret := ret) hy rfl ?_
  intro p e s m args below meth c s₁ B hml hv
  obtain ⟨rfl, hsz, hK, hw⟩ := hv
  subst hsz
  have hts := atoms_spec (ws := WS y cc maxL ret) B.pre
  rw [lg_entry_eq]
  exact body p e s m below meth c (AF F s.heap.size) _ B.exec B.bytes B.returns hml (findClass_of_methodNamed B.named) (fun w h => hts w (List.mem_cons_of_mem _ h)) B.notSynchronized (name_of_methodNamed B.named B.method).1 hK (fun q h => Or.inr h) (hΩ _ _ _ _ (fun q h => Or.inl h) hw) va_S.rf (lv_entry av hn)
