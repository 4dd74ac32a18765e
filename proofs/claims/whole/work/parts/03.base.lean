/-- fields of nest mates that are touched: own class, pool place, class, name, kind, host -/
def nsF : List (String × Nat × String × String × String × String) := [(RX6, 74, RX3, "places", "I", RX7), (RX0, 47, RX3, "places", "I", RX7), (RX7, 118, RX3, "places", "I", RX7), (RX7, 170, RX6, "size", "I", RX7), (RX7, 128, RX5, "length", "I", RX7), (RX2, 46, RX5, "token", "I", RX7), (RX7, 135, RX5, "from", "I", RX7), (RX2, 57, RX5, "value", "I", RX7), (RX7, 145, RX1, "size", "I", RX7)]
def nsM : List (String × Nat × MethodName × String) := [(RX7, 45, yX5_init, RX7), (RX7, 61, yX1_init, RX7), (RX4, 11, yX7_outside, RX7), (RX1, 39, yX7_outside, RX7), (RX5, 75, yX7_outside, RX7), (RX6, 81, yX7_outside, RX7), (RX0, 30, yX7_outside, RX7)]
def sIxs : List Nat := [54, 60, 62, 64]
def sTxs : List String := ["see", "near", "far", "stay"]
def sLens : List Nat := [3, 4, 3, 4]
def sByts : List (List Int32) := [[115, 101, 101], [110, 101, 97, 114], [102, 97, 114], [115, 116, 97, 121]]
/-! one word list for all methods -/
def BIG : List Cond := lw_tbl.filter goodWord
theorem bigI {w : Cond} (i : Nat) (h : lw_tbl[i]? = some w) (g : goodWord w = true) : w ∈ BIG := List.mem_filter.mpr ⟨List.mem_of_getElem? h, g⟩
theorem bigL (ws : List Cond) (ps : List Nat) (hp : ws = ps.filterMap (fun i => lw_tbl[i]?)) (h : ws.all goodWord = true) : ∀ w ∈ ws, w ∈ BIG := by
  intro w hw
  have h1 := List.all_eq_true.mp h w hw
  rw [hp] at hw
  obtain ⟨i, -, hi⟩ := List.mem_filterMap.mp hw
  exact bigI i hi h1
theorem big_good : GoodIn BIG BIG := fun w h => ⟨h, good_of_word (List.mem_filter.mp h).2⟩
def wS (y : MethodName) (b : ByteArray) (n : Nat) (r : Option FieldType) : List Cond := .code y b n r :: BIG
theorem wS_good {y : MethodName} {b : ByteArray} {n : Nat} {r : Option FieldType} (h : Cond.code y b n r ∈ BIG) : GoodIn BIG (wS y b n r) := fun w hw => (List.mem_cons.mp hw).elim (fun e => by rw [e]; exact big_good _ h) (fun h => big_good w h)
abbrev vCl : List vw_C := [(RX0, TX0, 3), (RX1, TX1, 3), (RX2, TX2, 5), (RX3, TX3, 2), (RX5, TX5, 6), (RX6, TX6, 11), (RX7, TX7, 9), (RX8, TX8, 41)]
/-! what nest mates may touch, and the four texts: these ride beside the words -/
def NW (U : State) : Prop := (∀ a ∈ nsF, va_Nw (.fieldLinkNest a.1 a.2.1 a.2.2.1 a.2.2.2.1 a.2.2.2.2.1 a.2.2.2.2.2) U) ∧ (∀ a ∈ nsM, va_Nw (.methodLinkNest a.1 a.2.1 a.2.2.1 a.2.2.2) U)
theorem NW.warm {s U : State} (hW : s.WarmedH U.vm) (h : NW s) : NW U := ⟨fun a ha => va_Nw.warmF hW (h.1 a ha), fun a ha => va_Nw.warmM hW (h.2 a ha)⟩
theorem NW.same {u U : State} (hv : u.vm = U.vm) (h : NW u) : NW U := ⟨fun a ha => va_Nw.same rfl hv (h.1 a ha), fun a ha => va_Nw.same rfl hv (h.2 a ha)⟩
abbrev GG : Type := va_G × (ClassId × ClassId × ClassId) × (Nat → Nat) × (Nat → Nat)
def tyG (g : GG) : List (ClassId × FieldType) := [(g.2.1.1, .int), (g.2.1.2.1, .long), (g.2.1.2.2, .boolean)]
def sIx (i : Nat) : Nat := sIxs.getD i 0
def sTx (i : Nat) : String := sTxs.getD i ""
def EV (g : GG) (A : Nat → Prop) (U : State) : Prop := va_K g.1 vCl (tyG g) U ∧ NW U ∧ vk_S 4 sLens sByts g.2.2.1 g.2.2.2 A U U.heap ∧ (∀ i, i < 4 → vk_R RX5 (sIx i) (sTx i) (g.2.2.1 i) U) ∧ va_Z RJ0 "COMPACT_STRINGS" "Z" (.int 1) A U U.heap ∧ va_Zq RJ3 "SIOOBE_FORMATTER" "Ljava/util/function/BiFunction;" A U U.heap
theorem EV.to {g : GG} {A : Nat → Prop} {s U : State} {H : Heap} {locs : List Loc} (h : EV g A s) (hS : va_S A s.heap H locs) (hU : U.heap = H) (hW : s.WarmedH U.vm) : EV g A U := by
  obtain ⟨h1, h2, h3, h4, h5, h6⟩ := h
  rw [EV, hU]
  exact ⟨va_K.moved hW.alike h1, h2.warm hW, vk_S.moved hW.alike (h3.kept hS.2.1), fun i hi => vk_R.warm hW (h4 i hi), va_Z.moved hW.alike (h5.kept hS.2.1), va_Zq.moved hW.alike (h6.kept hS.2.1)⟩
theorem EV.same {g : GG} {A : Nat → Prop} {u U : State} (hv : u.vm = U.vm) (hH : u.heap = U.heap) (h : EV g A u) : EV g A U := by
  obtain ⟨h1, h2, h3, h4, h5, h6⟩ := h
  have hal : u.vm.Alike U.vm := by rw [hv]; exact Vm.Alike.refl U.vm
  rw [EV, ← hH]
  exact ⟨va_K.moved hal h1, h2.same hv, vk_S.moved hal h3, fun i hi => vk_R.same hv.symm (h4 i hi), va_Z.moved hal h5, va_Zq.moved hal h6⟩
/-! a world at a method's ends (VB) and within it (VJ) -/
def VB (g : GG) (A : Nat → Prop) (ws : va_W) (U : State) : Prop := va_P g.1 vCl ws U.heap ∧ va_D A ws ∧ EV g A U
def VJ (g : GG) (A : Nat → Prop) (H0 : Heap) (ws : va_W) (H : Heap) (locs : List Loc) : Prop := va_P g.1 vCl ws H ∧ va_D A ws ∧ va_S A H0 H locs
theorem VB.same {g : GG} {A : Nat → Prop} {ws : va_W} {u U : State} (hv : u.vm = U.vm) (hH : u.heap = U.heap) (h : VB g A ws u) : VB g A ws U := ⟨by rw [← hH]; exact h.1, h.2.1, h.2.2.same hv hH⟩
theorem VJ.out {g : GG} {A : Nat → Prop} {ws : va_W} {s U : State} {H : Heap} {locs : List Loc} (J : VJ g A s.heap ws H locs) (E : EV g A s) (hU : U.heap = H) (hW : s.WarmedH U.vm) : VB g A ws U := ⟨by rw [hU]; exact J.1, J.2.1, E.to J.2.2 hU hW⟩
theorem VB.blind {g : GG} {A : Nat → Prop} {ws : va_W} {av : List Value} : FrameBlind (va_Pc av (VB g A ws)) := fun a U f mk h => ⟨h.1, h.2.same rfl rfl⟩
/-! small steps on the mirror's side -/
theorem ob {α β : Type} {o : Option α} {f : α → Option β} {r : β} (h : Option.bind o f = some r) : ∃ a, o = some a ∧ f a = some r := Option.bind_eq_some_iff.mp h
theorem obs {α β : Type} {x : α} {f : α → Option β} {r : β} (h : Option.bind (some x) f = some r) : ∃ a, x = a ∧ f a = some r := ⟨x, rfl, h⟩
theorem itp {α : Type} {c : Prop} [i : Decidable c] {a b : Option α} {r : α} (hc : c) (h : (if c then a else b) = some r) : a = some r := by rw [if_pos hc] at h; exact h
theorem itn {α : Type} {c : Prop} [i : Decidable c] {a b : Option α} {r : α} (hc : ¬ c) (h : (if c then a else b) = some r) : b = some r := by rw [if_neg hc] at h; exact h
def gd {α : Type} (b : Bool) (e : Option α) : Option α := match b with
  | true => e
  | false => none
theorem gdt {α : Type} {b : Bool} {e : Option α} {r : α} (h : gd b e = some r) : b = true ∧ e = some r := by
  cases b with
  | true => exact ⟨rfl, h⟩
  | false => cases h
def inb (i : Int32) (n : Nat) : Bool := decide (¬ (i < 0 ∨ n ≤ i.toNatClampNeg))
theorem inbt {i : Int32} {n : Nat} (h : inb i n = true) : vp_in i n := by
  show ¬ (i < 0 ∨ n ≤ i.toNatClampNeg)
  exact of_decide_eq_true h
def nz (y : Int32) : Bool := decide (¬ y = 0)
theorem nzt {y : Int32} (h : nz y = true) : ¬ y = 0 := of_decide_eq_true h
abbrev jrem (x y : Int32) : Int32 := x - x / y * y
abbrev jshl (x y : Int32) : Int32 := x <<< (y &&& 31)
abbrev jshr (x y : Int32) : Int32 := x >>> (y &&& 31)
abbrev jushr (x y : Int32) : Int32 := (x.toUInt32 >>> (y.toUInt32 &&& Int32.toUInt32 31)).toInt32
abbrev jlshl (x : Int64) (y : Int32) : Int64 := x <<< (y.toInt64 &&& 63)
abbrev jlshr (x : Int64) (y : Int32) : Int64 := x >>> (y.toInt64 &&& 63)
abbrev jlushr (x : Int64) (y : Int32) : Int64 := (x.toUInt64 >>> (y.toInt64.toUInt64 &&& Int64.toUInt64 63)).toInt64
def FU : Nat := 1000000
def zB (r : Int32) : Prop := r = 0 ∨ r = 1
theorem zB0 : zB 0 := Or.inl rfl
theorem zB1 : zB 1 := Or.inr rfl
theorem zB.nar {r : Int32} (h : zB r) : narrow .boolean (.int r) = .int r := by
  rcases h with h | h <;> subst h <;> rfl
/-! contracts from walks -/
section MET
variable {l : Launch} {y : MethodName} {cc : ByteArray} {maxL : Nat} {rm : Room} {g : GG} {A : Nat → Prop} {ws ws' : va_W} {av : List Value} {own : String}
theorem met_in {p : Program} {e : Env} {s : State} {m : MethodId} {args : Array Value} {below : List Frame} {meth : Method} {c : Code} {s₁ : State} {ret : Option FieldType} (hcls : y.cls = own) (B : BodyLoose p l y (headSpec (wS y cc maxL ret) rm) cc maxL ret e s m args below meth c s₁) (hml : c.maxLocals = maxL) : CallFix p m c cc maxL s args BIG own := by
  subst hcls
  exact ⟨B.exec, B.bytes, hml, findClass_of_methodNamed B.named, fun w hw => atoms_spec (ws := wS y cc maxL ret) B.pre w (List.mem_cons_of_mem _ hw)⟩
theorem MetI {res : Int32} (hy : plainName y.cls = true) (hcls : y.cls = own) (hav : (lg_sl av).length ≤ maxL)
    (body : ∀ (p : Program) (e : Env) (s : State) (m : MethodId) (args : Array Value) (below : List Frame) (meth : Method) (c : Code) (Q : State → Prop) (F : CallFix p m c cc maxL s args BIG own) (E : EV g A s)
      (ret : ∀ (H : Heap) (locs : List Loc) (pc : Nat) (ls : Array Slot), VJ g A s.heap ws' H locs → decode cc pc = .ok (.ireturn, 1) → W p l e rm s m args below meth c H locs 0 0 Q (F0 m pc ls [.int res])) (ls : Array Slot) (J : VJ g A s.heap ws s.heap []) (hl : lv_has ls maxL (lv_args 0 av)),
      W p l e rm s m args below meth c s.heap [] 0 0 Q (F0 m 0 ls [])) : Met l y (wS y cc maxL (some .int)) rm (va_Pc av (VB g A ws)) (va_Qi (fun r (_ : Unit) => r = res) (fun _ => VB g A ws') A) 0 0 A := by
  refine Met.ofW (cc := cc) (maxL := maxL) (ret := some .int) hy rfl ?_
  intro p e s m args below meth c s₁ B hml hv
  obtain ⟨rfl, hP, hD, E⟩ := hv
  have F := met_in hcls B hml
  have hr := B.returns
  have hlocks := B.notSynchronized
  rw [lg_entry_eq]
  exact body p e s m _ below meth c _ F E (fun H locs pc ls J hd => W.iret F.1 F.2.1 hr (fun t ht hW => ⟨⟨res, (), rfl, rfl, J.out E ht hW⟩, J.2.2.F ht⟩) J.2.2.2.2 hd) _ ⟨hP, hD, va_S.rf⟩ (lv_entry av hav)
theorem MetZ {res : Int32} (hy : plainName y.cls = true) (hcls : y.cls = own) (hav : (lg_sl av).length ≤ maxL)
    (body : ∀ (p : Program) (e : Env) (s : State) (m : MethodId) (args : Array Value) (below : List Frame) (meth : Method) (c : Code) (Q : State → Prop) (F : CallFix p m c cc maxL s args BIG own) (E : EV g A s)
      (ret : ∀ (H : Heap) (locs : List Loc) (pc : Nat) (ls : Array Slot), zB res → VJ g A s.heap ws' H locs → decode cc pc = .ok (.ireturn, 1) → W p l e rm s m args below meth c H locs 0 0 Q (F0 m pc ls [.int res])) (ls : Array Slot) (J : VJ g A s.heap ws s.heap []) (hl : lv_has ls maxL (lv_args 0 av)),
      W p l e rm s m args below meth c s.heap [] 0 0 Q (F0 m 0 ls [])) : Met l y (wS y cc maxL (some .boolean)) rm (va_Pc av (VB g A ws)) (va_Qi (fun r (_ : Unit) => r = res ∧ zB r) (fun _ => VB g A ws') A) 0 0 A := by
  refine Met.ofW (cc := cc) (maxL := maxL) (ret := some .boolean) hy rfl ?_
  intro p e s m args below meth c s₁ B hml hv
  obtain ⟨rfl, hP, hD, E⟩ := hv
  have F := met_in hcls B hml
  have hr := B.returns
  have hlocks := B.notSynchronized
  rw [lg_entry_eq]
  exact body p e s m _ below meth c _ F E (fun H locs pc ls hz J hd => W.zret F.1 F.2.1 hr hz.nar (fun t ht hW => ⟨⟨res, (), rfl, ⟨rfl, hz⟩, J.out E ht hW⟩, J.2.2.F ht⟩) J.2.2.2.2 hd) _ ⟨hP, hD, va_S.rf⟩ (lv_entry av hav)
theorem MetL {res : Int64} (hy : plainName y.cls = true) (hcls : y.cls = own) (hav : (lg_sl av).length ≤ maxL)
    (body : ∀ (p : Program) (e : Env) (s : State) (m : MethodId) (args : Array Value) (below : List Frame) (meth : Method) (c : Code) (Q : State → Prop) (F : CallFix p m c cc maxL s args BIG own) (E : EV g A s)
      (ret : ∀ (H : Heap) (locs : List Loc) (pc : Nat) (ls : Array Slot), VJ g A s.heap ws' H locs → decode cc pc = .ok (.lreturn, 1) → W p l e rm s m args below meth c H locs 0 0 Q (F0 m pc ls [.long res])) (ls : Array Slot) (J : VJ g A s.heap ws s.heap []) (hl : lv_has ls maxL (lv_args 0 av)),
      W p l e rm s m args below meth c s.heap [] 0 0 Q (F0 m 0 ls [])) : Met l y (wS y cc maxL (some .long)) rm (va_Pc av (VB g A ws)) (va_Ql (fun r (_ : Unit) => r = res) (fun _ => VB g A ws') A) 0 0 A := by
  refine Met.ofW (cc := cc) (maxL := maxL) (ret := some .long) hy rfl ?_
  intro p e s m args below meth c s₁ B hml hv
  obtain ⟨rfl, hP, hD, E⟩ := hv
  have F := met_in hcls B hml
  have hr := B.returns
  have hlocks := B.notSynchronized
  rw [lg_entry_eq]
  exact body p e s m _ below meth c _ F E (fun H locs pc ls J hd => W.lret F.1 F.2.1 hr (fun t ht hW => ⟨⟨res, (), rfl, rfl, J.out E ht hW⟩, J.2.2.F ht⟩) J.2.2.2.2 hd) _ ⟨hP, hD, va_S.rf⟩ (lv_entry av hav)
theorem MetV (hy : plainName y.cls = true) (hcls : y.cls = own) (hav : (lg_sl av).length ≤ maxL)
    (body : ∀ (p : Program) (e : Env) (s : State) (m : MethodId) (args : Array Value) (below : List Frame) (meth : Method) (c : Code) (Q : State → Prop) (F : CallFix p m c cc maxL s args BIG own) (E : EV g A s)
      (ret : ∀ (H : Heap) (locs : List Loc) (pc : Nat) (ls : Array Slot), VJ g A s.heap ws' H locs → decode cc pc = .ok (.return_, 1) → W p l e rm s m args below meth c H locs 0 0 Q (F0 m pc ls [])) (ls : Array Slot) (J : VJ g A s.heap ws s.heap []) (hl : lv_has ls maxL (lv_args 0 av)),
      W p l e rm s m args below meth c s.heap [] 0 0 Q (F0 m 0 ls [])) : Met l y (wS y cc maxL none) rm (va_Pc av (VB g A ws)) (va_Qv (fun (_ : Unit) => True) (fun _ => VB g A ws') A) 0 0 A := by
  refine Met.ofW (cc := cc) (maxL := maxL) (ret := none) hy rfl ?_
  intro p e s m args below meth c s₁ B hml hv
  obtain ⟨rfl, hP, hD, E⟩ := hv
  have F := met_in hcls B hml
  have hr := B.returns
  have hlocks := B.notSynchronized
  rw [lg_entry_eq]
  exact body p e s m _ below meth c _ F E (fun H locs pc ls J hd => W.vret F.1 F.2.1 hr (fun t ht hW => ⟨⟨(), rfl, trivial, J.out E ht hW⟩, J.2.2.F ht⟩) J.2.2.2.2 hd) _ ⟨hP, hD, va_S.rf⟩ (lv_entry av hav)
end MET
theorem elimR {α β γ : Type} {f : α → Option γ} {k : β → Option γ} {b : β} {r : γ} (h : Sum.elim f k (.inr b) = some r) : k b = some r := h
theorem elimL {α β γ : Type} {f : α → Option γ} {k : β → Option γ} {b : α} {r : γ} (h : Sum.elim f k (.inl b) = some r) : f b = some r := h
/-! calls -/
def CWH (y : MethodName) (n : Nat) : Prop := y.cls ≠ "java/lang/invoke/MethodHandle" ∧ y.cls ≠ "java/lang/invoke/VarHandle" ∧ (parseMethodDescriptor y.desc).map (fun d => d.parameters.length) = some n
def CWV (own : String) (index : Nat) (y : MethodName) (bytes : ByteArray) (maxL : Nat) (ret : Option FieldType) (n : Nat) : Prop := Cond.methodLink own index y ∈ BIG ∧ Cond.instanceMethod y ∈ BIG ∧ Cond.selects y.cls y y ∈ BIG ∧ Cond.initialized y.cls ∈ BIG ∧ Cond.code y bytes maxL ret ∈ BIG ∧ CWH y n
def CWS (own : String) (index : Nat) (y : MethodName) (bytes : ByteArray) (maxL : Nat) (ret : Option FieldType) (n : Nat) : Prop := Cond.methodLink own index y ∈ BIG ∧ Cond.static y ∈ BIG ∧ Cond.initialized y.cls ∈ BIG ∧ Cond.code y bytes maxL ret ∈ BIG ∧ CWH y n
def CWN (own : String) (index : Nat) (y : MethodName) (host : String) (bytes : ByteArray) (maxL : Nat) (ret : Option FieldType) (n : Nat) : Prop := (own, index, y, host) ∈ nsM ∧ Cond.static y ∈ BIG ∧ Cond.initialized y.cls ∈ BIG ∧ Cond.code y bytes maxL ret ∈ BIG ∧ CWH y n
def RC (ws : va_W) (o : Nat) (C : String) : Prop := ∃ (q0 ci : Nat) (fs : List Value) (r : vw_C), vCl[ci]? = some r ∧ r.1 = C ∧ ws[q0]? = some (o, .inr (ci, fs))
def RMo (rm R : Room) (maxL : Nat) : Prop := rm.cells = 0 ∧ rm.slots = 0 ∧ rm.frames + 1 ≤ R.frames ∧ 8 + (maxL + 11) + rm.locals ≤ R.locals
section CALLS
variable {p : Program} {l : Launch} {e : Env} {R : Room} {s : State} {m : MethodId} {args : Array Value} {below : List Frame} {meth : Method} {c : Code} {H : Heap} {locs : List Loc} {Q : State → Prop}
variable {g : GG} {A : Nat → Prop} {ws ws' : va_W} {cc bytes : ByteArray} {nL maxL n index pc : Nat} {own host : String} {y : MethodName} {rm : Room} {ls : Array Slot} {st0 As rest : List Value} {o : Nat} {ret : Option FieldType}
theorem runV {Qc : Array Value → State → Outcome → State → Prop} (F : CallFix p m c cc nL s args BIG own) (E : EV g A s) (J : VJ g A s.heap ws H locs) (M : Met l y (wS y bytes maxL ret) rm (va_Pc (.ref o :: As) (VB g A ws)) Qc 0 0 A) (cw : CWV own index y bytes maxL ret n) (hR : RMo rm R maxL) (hrc : RC ws o y.cls)
    (hn : As.length = n) (hl : ls.size = nL) (hst : st0 = As.reverse ++ .ref o :: rest) (hW : (rest.map fun v => v.category).sum ≤ 8) (hdg : decode cc pc = .ok (.invokevirtual index, 3)) :
    va_Run p l e R s m args below meth c H locs 0 0 0 0 (F0 m pc ls st0) rest (Qc (Value.ref o :: As).toArray) A := by
  have ht := F.2.2.2.2
  obtain ⟨w1, w2, w3, w4, w5, w6⟩ := cw
  obtain ⟨q0, ci, fs, r, r1, r2, r3⟩ := hrc
  refine va_runV (C := y.cls) (bytes := bytes) (maxL := maxL) (ret := ret) (n := n) F M ⟨callB_of n ht (wS_good w5) rfl hR.1 hR.2.1 (ht _ w4) (ht _ w1) w6 hR.2.2, ht _ w2, ht _ w3⟩ ⟨VB.blind, by rw [← r2]; exact va_recv E.1 J.1 r1 r3, fun U hU hWm => ⟨rfl, J.out E hU hWm⟩⟩ rfl hn hl hst (lv_room hW) hdg ⟨Nat.zero_le _, Nat.zero_le _⟩
theorem runS {Qc : Array Value → State → Outcome → State → Prop} (F : CallFix p m c cc nL s args BIG own) (E : EV g A s) (J : VJ g A s.heap ws H locs) (M : Met l y (wS y bytes maxL ret) rm (va_Pc As (VB g A ws)) Qc 0 0 A) (cw : CWS own index y bytes maxL ret n) (hR : RMo rm R maxL)
    (hn : As.length = n) (hl : ls.size = nL) (hst : st0 = As.reverse ++ rest) (hW : (rest.map fun v => v.category).sum ≤ 8) (hdg : decode cc pc = .ok (.invokestatic index, 3)) :
    va_Run p l e R s m args below meth c H locs 0 0 0 0 (F0 m pc ls st0) rest (Qc As.toArray) A := by
  have ht := F.2.2.2.2
  obtain ⟨w1, w2, w4, w5, w6⟩ := cw
  refine va_runS (bytes := bytes) (maxL := maxL) (ret := ret) (n := n) F M ⟨callB_of n ht (wS_good w5) rfl hR.1 hR.2.1 (ht _ w4) (ht _ w1) w6 hR.2.2, ht _ w2⟩ ⟨VB.blind, fun U hU hWm => ⟨rfl, J.out E hU hWm⟩⟩ rfl hn hl hst (lv_room hW) hdg ⟨Nat.zero_le _, Nat.zero_le _⟩
theorem runN {Qc : Array Value → State → Outcome → State → Prop} (F : CallFix p m c cc nL s args BIG own) (E : EV g A s) (J : VJ g A s.heap ws H locs) (M : Met l y (wS y bytes maxL ret) rm (va_Pc As (VB g A ws)) Qc 0 0 A) (cw : CWN own index y host bytes maxL ret n) (hR : RMo rm R maxL)
    (hn : As.length = n) (hl : ls.size = nL) (hst : st0 = As.reverse ++ rest) (hW : (rest.map fun v => v.category).sum ≤ 8) (hdg : decode cc pc = .ok (.invokestatic index, 3)) :
    va_Run p l e R s m args below meth c H locs 0 0 0 0 (F0 m pc ls st0) rest (Qc As.toArray) A := by
  have ht := F.2.2.2.2
  obtain ⟨w1, w2, w4, w5, w6⟩ := cw
  refine va_runSN (host := host) (bytes := bytes) (maxL := maxL) (ret := ret) (n := n) F M ⟨va_cnB n ht (wS_good w5) rfl hR.1 hR.2.1 (E.2.1.2 _ w1) (ht _ w4) w6 hR.2.2, ht _ w2, trivial⟩ ⟨VB.blind, fun U hU hWm => ⟨rfl, J.out E hU hWm⟩⟩ rfl hn hl hst (lv_room hW) hdg ⟨Nat.zero_le _, Nat.zero_le _⟩
theorem onI {res : Int32} {a : Array Value} (hr : va_Run p l e R s m args below meth c H locs 0 0 0 0 (F0 m pc ls st0) rest (va_Qi (fun r (_ : Unit) => r = res) (fun _ => VB g A ws') A a) A) (J : VJ g A s.heap ws H locs)
    (kk : ∀ (H1 : Heap) (locs1 : List Loc), VJ g A s.heap ws' H1 locs1 → W p l e R s m args below meth c H1 locs1 0 0 Q (F0 m (pc + 3) ls (.int res :: rest))) : W p l e R s m args below meth c H locs 0 0 Q (F0 m pc ls st0) :=
  va_calli hr J.2.2 (fun _ _ h => h) (fun _ h => h) (fun r u t H1 locs1 ht hvm hw hB _ _ hS => by
    subst hw
    exact kk H1 locs1 ⟨by rw [← ht]; exact hB.1, hB.2.1, hS⟩)
theorem onZ {res : Int32} {a : Array Value} (hr : va_Run p l e R s m args below meth c H locs 0 0 0 0 (F0 m pc ls st0) rest (va_Qi (fun r (_ : Unit) => r = res ∧ zB r) (fun _ => VB g A ws') A a) A) (J : VJ g A s.heap ws H locs)
    (kk : ∀ (_ : zB res) (H1 : Heap) (locs1 : List Loc), VJ g A s.heap ws' H1 locs1 → W p l e R s m args below meth c H1 locs1 0 0 Q (F0 m (pc + 3) ls (.int res :: rest))) : W p l e R s m args below meth c H locs 0 0 Q (F0 m pc ls st0) :=
  va_calli hr J.2.2 (fun _ _ h => h) (fun _ h => h) (fun r u t H1 locs1 ht hvm hw hB _ _ hS => by
    obtain ⟨hw, hz⟩ := hw
    subst hw
    exact kk hz H1 locs1 ⟨by rw [← ht]; exact hB.1, hB.2.1, hS⟩)
theorem onL {res : Int64} {a : Array Value} (hr : va_Run p l e R s m args below meth c H locs 0 0 0 0 (F0 m pc ls st0) rest (va_Ql (fun r (_ : Unit) => r = res) (fun _ => VB g A ws') A a) A) (J : VJ g A s.heap ws H locs)
    (kk : ∀ (H1 : Heap) (locs1 : List Loc), VJ g A s.heap ws' H1 locs1 → W p l e R s m args below meth c H1 locs1 0 0 Q (F0 m (pc + 3) ls (.long res :: rest))) : W p l e R s m args below meth c H locs 0 0 Q (F0 m pc ls st0) :=
  va_calll hr J.2.2 (fun _ _ h => h) (fun _ h => h) (fun r u t H1 locs1 ht hvm hw hB _ _ hS => by
    subst hw
    exact kk H1 locs1 ⟨by rw [← ht]; exact hB.1, hB.2.1, hS⟩)
theorem onV {a : Array Value} (hr : va_Run p l e R s m args below meth c H locs 0 0 0 0 (F0 m pc ls st0) rest (va_Qv (fun (_ : Unit) => True) (fun _ => VB g A ws') A a) A) (J : VJ g A s.heap ws H locs)
    (kk : ∀ (H1 : Heap) (locs1 : List Loc), VJ g A s.heap ws' H1 locs1 → W p l e R s m args below meth c H1 locs1 0 0 Q (F0 m (pc + 3) ls rest)) : W p l e R s m args below meth c H locs 0 0 Q (F0 m pc ls st0) :=
  va_callv hr J.2.2 (fun _ _ h => h) (fun _ h => h) (fun u t H1 locs1 ht hvm hw hB _ _ hS =>
    kk H1 locs1 ⟨by rw [← ht]; exact hB.1, hB.2.1, hS⟩)
/-! a name for what stands on top -/
theorem nmI {x v : Int32} (h : x = v) (k : W p l e R s m args below meth c H locs 0 0 Q (F0 m pc ls (.int v :: rest))) : W p l e R s m args below meth c H locs 0 0 Q (F0 m pc ls (.int x :: rest)) := by rw [h]; exact k
theorem nmL {x v : Int64} (h : x = v) (k : W p l e R s m args below meth c H locs 0 0 Q (F0 m pc ls (.long v :: rest))) : W p l e R s m args below meth c H locs 0 0 Q (F0 m pc ls (.long x :: rest)) := by rw [h]; exact k
end CALLS
/-! fields and arrays of a world, by their places: the rows for each cell are made of these -/
section CELLS
variable {p : Program} {l : Launch} {e : Env} {R : Room} {s : State} {m : MethodId} {args : Array Value} {below : List Frame} {meth : Method} {c : Code} {H : Heap} {locs : List Loc} {Q : State → Prop}
variable {g : GG} {A : Nat → Prop} {ws ws' : va_W} {cc : ByteArray} {nL n index pc : Nat} {own : String} {ls : Array Slot} {rest : List Value} {a : Nat} {C fn fd ref host : String} {T : u_T} {N ci : Nat}
theorem cGet (hin : ∀ w ∈ u_ws C T N, w ∈ BIG) (q0 : Nat) {fs : List Value} (he : ws[q0]? = some (a, .inr (ci, fs))) (hc : vCl[ci]? = some (C, T, N)) (k : Nat) (hk : k < N) {v : Value} (hv : fs[k]? = some v) (hT : T k = (C, fn, fd, (T k).2.2.2))
    (F : CallFix p m c cc nL s args BIG own) (E : EV g A s) (J : VJ g A s.heap ws H locs) (hl : Cond.fieldLink own index C fn fd ∈ BIG) (hdg : decode cc pc = .ok (.getfield index, 3))
    (kk : W p l e R s m args below meth c H locs 0 0 Q (F0 m (pc + 3) ls (v :: rest))) : W p l e R s m args below meth c H locs 0 0 Q (F0 m pc ls (.ref a :: rest)) := by
  have e1 : (T k).1 = C := by rw [hT]
  have e2 : (T k).2.1 = fn := by rw [hT]
  have e3 : (T k).2.2.1 = fd := by rw [hT]
  refine va_get (D := g.1) (ref := C) (C := C) (T := T) (N := N) F.1 F.2.1 F.2.2.2.2 hin F.2.2.2.1 E.1 J.1 q0 he hc k hk ?_ (fun _ h => ?_) hv hdg kk
  · rw [e2, e3]; exact F.2.2.2.2 _ hl
  · rw [e1] at h; exact h
theorem cGetN (hin : ∀ w ∈ u_ws C T N, w ∈ BIG) (q0 : Nat) {fs : List Value} (he : ws[q0]? = some (a, .inr (ci, fs))) (hc : vCl[ci]? = some (C, T, N)) (k : Nat) (hk : k < N) {v : Value} (hv : fs[k]? = some v) (hT : T k = (C, fn, fd, (T k).2.2.2))
    (F : CallFix p m c cc nL s args BIG own) (E : EV g A s) (J : VJ g A s.heap ws H locs) (hl : (own, index, C, fn, fd, host) ∈ nsF) (hdg : decode cc pc = .ok (.getfield index, 3))
    (kk : W p l e R s m args below meth c H locs 0 0 Q (F0 m (pc + 3) ls (v :: rest))) : W p l e R s m args below meth c H locs 0 0 Q (F0 m pc ls (.ref a :: rest)) := by
  have e1 : (T k).1 = C := by rw [hT]
  have e2 : (T k).2.1 = fn := by rw [hT]
  have e3 : (T k).2.2.1 = fd := by rw [hT]
  refine va_getN (host := host) (D := g.1) (ref := C) (C := C) (T := T) (N := N) F.1 F.2.1 F.2.2.2.2 hin F.2.2.2.1 E.1 J.1 q0 he hc k hk ?_ (fun _ h => ?_) hv hdg kk
  · rw [e2, e3]; exact va_Nw.use rfl (E.2.1.1 _ hl)
  · rw [e1] at h; exact h
theorem cPut (hin : ∀ w ∈ u_ws C T N, w ∈ BIG) (ty0 : Nat → FieldType) (hty : ∀ k, k < N → parseFieldDescriptor (T k).2.2.1 = some (ty0 k)) (hnm : ∀ a, a < N → ∀ b, b < N → a ≠ b → (T a).2.1 ≠ (T b).2.1) (q0 : Nat) {fs : List Value} (he : ws[q0]? = some (a, .inr (ci, fs))) (hc : vCl[ci]? = some (C, T, N)) (k : Nat) (hk : k < N) {ty : FieldType} {v : Value} (hT : T k = (C, fn, fd, false)) (hd : parseFieldDescriptor fd = some ty) (hn : narrow ty v = v) (hfit : fits ty v = true) (hlen : k < fs.length)
    (hws : ws.set q0 (a, .inr (ci, fs.set k v)) = ws')
    (F : CallFix p m c cc nL s args BIG own) (E : EV g A s) (J : VJ g A s.heap ws H locs) (hl : Cond.fieldLink own index C fn fd ∈ BIG) (hdg : decode cc pc = .ok (.putfield index, 3))
    (kk : ∀ (H1 : Heap) (locs1 : List Loc), VJ g A s.heap ws' H1 locs1 → W p l e R s m args below meth c H1 locs1 0 0 Q (F0 m (pc + 3) ls rest)) : W p l e R s m args below meth c H locs 0 0 Q (F0 m pc ls (v :: .ref a :: rest)) := by
  subst hws
  have e1 : (T k).1 = C := by rw [hT]
  have e2 : (T k).2.1 = fn := by rw [hT]
  have e3 : (T k).2.2.1 = fd := by rw [hT]
  refine va_put (D := g.1) (ref := C) (C := C) (T := T) (N := N) (ty := ty) F.1 F.2.1 F.2.2.2.2 hin ty0 hty hnm F.2.2.2.1 E.1 J.1 J.2.1 J.2.2 q0 he hc k hk ?_ (fun _ h => ?_) (by rw [hT]) (by rw [e3]; exact hd) hn hfit hlen hdg (fun H1 locs1 h1 h2 h3 => kk H1 locs1 ⟨h1, h2, h3⟩)
  · rw [e2, e3]; exact F.2.2.2.2 _ hl
  · rw [e1] at h; exact h
end CELLS
