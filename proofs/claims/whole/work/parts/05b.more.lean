/-! the same for members of the JDK's classes that the machine has no entry of its own for -/
section METF
variable {l : Launch} {y : MethodName} {cc : ByteArray} {maxL : Nat} {rm : Room} {g : GG} {A : Nat → Prop} {ws ws' : va_W} {av : List Value} {own : String}
theorem MetIF {res : Int32} (hy : plainFor y = true) (hcls : y.cls = own) (hav : (lg_sl av).length ≤ maxL)
    (body : ∀ (p : Program) (e : Env) (s : State) (m : MethodId) (args : Array Value) (below : List Frame) (meth : Method) (c : Code) (Q : State → Prop) (F : CallFix p m c cc maxL s args BIG own) (E : EV g A s)
      (ret : ∀ (H : Heap) (locs : List Loc) (pc : Nat) (ls : Array Slot), VJ g A s.heap ws' H locs → decode cc pc = .ok (.ireturn, 1) → W p l e rm s m args below meth c H locs 0 0 Q (F0 m pc ls [.int res])) (ls : Array Slot) (J : VJ g A s.heap ws s.heap []) (hl : lv_has ls maxL (lv_args 0 av)),
      W p l e rm s m args below meth c s.heap [] 0 0 Q (F0 m 0 ls [])) : Met l y (wS y cc maxL (some .int)) rm (va_Pc av (VB g A ws)) (va_Qi (fun r (_ : Unit) => r = res) (fun _ => VB g A ws') A) 0 0 A := by
  refine va_MetF (cc := cc) (maxL := maxL) (ret := some .int) hy rfl ?_
  intro p e s m args below meth c s₁ B hml hv
  obtain ⟨rfl, hP, hD, E⟩ := hv
  have F := met_in hcls B hml
  have hr := B.returns
  have hlocks := B.notSynchronized
  rw [lg_entry_eq]
  exact body p e s m _ below meth c _ F E (fun H locs pc ls J hd => W.iret F.1 F.2.1 hr (fun t ht hW => ⟨⟨res, (), rfl, rfl, J.out E ht hW⟩, J.2.2.F ht⟩) J.2.2.2.2 hd) _ ⟨hP, hD, va_S.rf⟩ (lv_entry av hav)
theorem MetLF {res : Int64} (hy : plainFor y = true) (hcls : y.cls = own) (hav : (lg_sl av).length ≤ maxL)
    (body : ∀ (p : Program) (e : Env) (s : State) (m : MethodId) (args : Array Value) (below : List Frame) (meth : Method) (c : Code) (Q : State → Prop) (F : CallFix p m c cc maxL s args BIG own) (E : EV g A s)
      (ret : ∀ (H : Heap) (locs : List Loc) (pc : Nat) (ls : Array Slot), VJ g A s.heap ws' H locs → decode cc pc = .ok (.lreturn, 1) → W p l e rm s m args below meth c H locs 0 0 Q (F0 m pc ls [.long res])) (ls : Array Slot) (J : VJ g A s.heap ws s.heap []) (hl : lv_has ls maxL (lv_args 0 av)),
      W p l e rm s m args below meth c s.heap [] 0 0 Q (F0 m 0 ls [])) : Met l y (wS y cc maxL (some .long)) rm (va_Pc av (VB g A ws)) (va_Ql (fun r (_ : Unit) => r = res) (fun _ => VB g A ws') A) 0 0 A := by
  refine va_MetF (cc := cc) (maxL := maxL) (ret := some .long) hy rfl ?_
  intro p e s m args below meth c s₁ B hml hv
  obtain ⟨rfl, hP, hD, E⟩ := hv
  have F := met_in hcls B hml
  have hr := B.returns
  have hlocks := B.notSynchronized
  rw [lg_entry_eq]
  exact body p e s m _ below meth c _ F E (fun H locs pc ls J hd => W.lret F.1 F.2.1 hr (fun t ht hW => ⟨⟨res, (), rfl, rfl, J.out E ht hW⟩, J.2.2.F ht⟩) J.2.2.2.2 hd) _ ⟨hP, hD, va_S.rf⟩ (lv_entry av hav)
end METF
