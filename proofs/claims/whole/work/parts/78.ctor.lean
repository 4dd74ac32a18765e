theorem ow_inst : Cond.instanceMethod Lib.objectInit ∈ BIG := bigI 83 (by decide +kernel) rfl
theorem ow_code : Cond.code Lib.objectInit ⟨#[0xb1]⟩ 1 none ∈ BIG := bigI 84 (by decide +kernel) rfl
theorem iz_X7 : Cond.initialized RX7 ∈ BIG := bigI 62 (by decide +kernel) rfl
theorem iz_X3 : Cond.initialized RX3 ∈ BIG := bigI 63 (by decide +kernel) rfl
theorem iz_X6 : Cond.initialized RX6 ∈ BIG := bigI 65 (by decide +kernel) rfl
theorem iz_X0 : Cond.initialized RX0 ∈ BIG := bigI 66 (by decide +kernel) rfl
theorem iz_X5 : Cond.initialized RX5 ∈ BIG := bigI 67 (by decide +kernel) rfl
theorem iz_X2 : Cond.initialized RX2 ∈ BIG := bigI 68 (by decide +kernel) rfl
theorem iz_X1 : Cond.initialized RX1 ∈ BIG := bigI 69 (by decide +kernel) rfl
theorem iz_X8 : Cond.initialized RX8 ∈ BIG := bigI 70 (by decide +kernel) rfl
theorem iz_X4 : Cond.initialized RX4 ∈ BIG := bigI 71 (by decide +kernel) rfl
theorem cl_L_7 : Cond.classLink RL 7 RX7 ∈ BIG := bigI 77 (by decide +kernel) rfl
theorem in_X7 : Cond.instantiable RX7 9 ∈ BIG := bigI 78 (by decide +kernel) rfl
theorem il_L_15 : Cond.methodLink RL 15 yX7_init ∈ BIG := bigI 79 (by decide +kernel) rfl
theorem ol_X7 : Cond.methodLink RX7 1 Lib.objectInit ∈ BIG := bigI 82 (by decide +kernel) rfl
theorem cl_X7_7 : Cond.classLink RX7 7 RX3 ∈ BIG := bigI 85 (by decide +kernel) rfl
theorem in_X3 : Cond.instantiable RX3 2 ∈ BIG := bigI 86 (by decide +kernel) rfl
theorem il_X7_20 : Cond.methodLink RX7 20 yX3_init ∈ BIG := bigI 93 (by decide +kernel) rfl
theorem ol_X3 : Cond.methodLink RX3 3 Lib.objectInit ∈ BIG := bigI 96 (by decide +kernel) rfl
theorem cl_X7_27 : Cond.classLink RX7 27 RX6 ∈ BIG := bigI 107 (by decide +kernel) rfl
theorem in_X6 : Cond.instantiable RX6 11 ∈ BIG := bigI 108 (by decide +kernel) rfl
theorem il_X7_29 : Cond.methodLink RX7 29 yX6_init ∈ BIG := bigI 109 (by decide +kernel) rfl
theorem ol_X6 : Cond.methodLink RX6 3 Lib.objectInit ∈ BIG := bigI 112 (by decide +kernel) rfl
theorem ac_int : Cond.arrayClass (.int) ∈ BIG := bigI 148 (by decide +kernel) rfl
theorem ac_long : Cond.arrayClass (.long) ∈ BIG := bigI 149 (by decide +kernel) rfl
theorem ac_boolean : Cond.arrayClass (.boolean) ∈ BIG := bigI 150 (by decide +kernel) rfl
theorem cl_X7_36 : Cond.classLink RX7 36 RX0 ∈ BIG := bigI 151 (by decide +kernel) rfl
theorem in_X0 : Cond.instantiable RX0 3 ∈ BIG := bigI 152 (by decide +kernel) rfl
theorem il_X7_38 : Cond.methodLink RX7 38 yX0_init ∈ BIG := bigI 153 (by decide +kernel) rfl
theorem ol_X0 : Cond.methodLink RX0 3 Lib.objectInit ∈ BIG := bigI 156 (by decide +kernel) rfl
theorem cl_X7_43 : Cond.classLink RX7 43 RX5 ∈ BIG := bigI 167 (by decide +kernel) rfl
theorem in_X5 : Cond.instantiable RX5 6 ∈ BIG := bigI 168 (by decide +kernel) rfl
theorem ol_X5 : Cond.methodLink RX5 3 Lib.objectInit ∈ BIG := bigI 172 (by decide +kernel) rfl
theorem cl_X7_50 : Cond.classLink RX7 50 RX2 ∈ BIG := bigI 196 (by decide +kernel) rfl
theorem in_X2 : Cond.instantiable RX2 5 ∈ BIG := bigI 197 (by decide +kernel) rfl
theorem il_X7_52 : Cond.methodLink RX7 52 yX2_init ∈ BIG := bigI 198 (by decide +kernel) rfl
theorem ol_X2 : Cond.methodLink RX2 3 Lib.objectInit ∈ BIG := bigI 201 (by decide +kernel) rfl
theorem cl_X7_59 : Cond.classLink RX7 59 RX1 ∈ BIG := bigI 218 (by decide +kernel) rfl
theorem in_X1 : Cond.instantiable RX1 3 ∈ BIG := bigI 219 (by decide +kernel) rfl
theorem ol_X1 : Cond.methodLink RX1 3 Lib.objectInit ∈ BIG := bigI 223 (by decide +kernel) rfl
theorem ac_byte : Cond.arrayClass (.byte) ∈ BIG := bigI 541 (by decide +kernel) rfl
theorem cl_L_18 : Cond.classLink RL 18 RX8 ∈ BIG := bigI 734 (by decide +kernel) rfl
theorem in_X8 : Cond.instantiable RX8 41 ∈ BIG := bigI 735 (by decide +kernel) rfl
theorem il_L_20 : Cond.methodLink RL 20 yX8_init ∈ BIG := bigI 736 (by decide +kernel) rfl
theorem ol_X8 : Cond.methodLink RX8 7 Lib.objectInit ∈ BIG := bigI 739 (by decide +kernel) rfl
theorem im_X0 : Cond.code yX0_init cX0_init 2 none ∈ BIG ∧ Cond.initialized yX0_init.cls ∈ BIG ∧ Cond.instanceMethod yX0_init ∈ BIG ∧ CWH yX0_init 1 := ⟨bigI 155 (by decide +kernel) rfl, bigI 66 (by decide +kernel) rfl, bigI 154 (by decide +kernel) rfl, ⟨by decide +kernel, by decide +kernel, by decide +kernel⟩⟩
theorem im_X1 : Cond.code yX1_init cX1_init 1 none ∈ BIG ∧ Cond.initialized yX1_init.cls ∈ BIG ∧ Cond.instanceMethod yX1_init ∈ BIG ∧ CWH yX1_init 0 := ⟨bigI 222 (by decide +kernel) rfl, bigI 69 (by decide +kernel) rfl, bigI 221 (by decide +kernel) rfl, ⟨by decide +kernel, by decide +kernel, by decide +kernel⟩⟩
theorem im_X2 : Cond.code yX2_init cX2_init 2 none ∈ BIG ∧ Cond.initialized yX2_init.cls ∈ BIG ∧ Cond.instanceMethod yX2_init ∈ BIG ∧ CWH yX2_init 1 := ⟨bigI 200 (by decide +kernel) rfl, bigI 68 (by decide +kernel) rfl, bigI 199 (by decide +kernel) rfl, ⟨by decide +kernel, by decide +kernel, by decide +kernel⟩⟩
theorem im_X3 : Cond.code yX3_init cX3_init 2 none ∈ BIG ∧ Cond.initialized yX3_init.cls ∈ BIG ∧ Cond.instanceMethod yX3_init ∈ BIG ∧ CWH yX3_init 1 := ⟨bigI 95 (by decide +kernel) rfl, bigI 63 (by decide +kernel) rfl, bigI 94 (by decide +kernel) rfl, ⟨by decide +kernel, by decide +kernel, by decide +kernel⟩⟩
theorem im_X5 : Cond.code yX5_init cX5_init 1 none ∈ BIG ∧ Cond.initialized yX5_init.cls ∈ BIG ∧ Cond.instanceMethod yX5_init ∈ BIG ∧ CWH yX5_init 0 := ⟨bigI 171 (by decide +kernel) rfl, bigI 67 (by decide +kernel) rfl, bigI 170 (by decide +kernel) rfl, ⟨by decide +kernel, by decide +kernel, by decide +kernel⟩⟩
theorem im_X6 : Cond.code yX6_init cX6_init 2 none ∈ BIG ∧ Cond.initialized yX6_init.cls ∈ BIG ∧ Cond.instanceMethod yX6_init ∈ BIG ∧ CWH yX6_init 1 := ⟨bigI 111 (by decide +kernel) rfl, bigI 65 (by decide +kernel) rfl, bigI 110 (by decide +kernel) rfl, ⟨by decide +kernel, by decide +kernel, by decide +kernel⟩⟩
theorem im_X7 : Cond.code yX7_init cX7_init 2 none ∈ BIG ∧ Cond.initialized yX7_init.cls ∈ BIG ∧ Cond.instanceMethod yX7_init ∈ BIG ∧ CWH yX7_init 1 := ⟨bigI 81 (by decide +kernel) rfl, bigI 62 (by decide +kernel) rfl, bigI 80 (by decide +kernel) rfl, ⟨by decide +kernel, by decide +kernel, by decide +kernel⟩⟩
theorem im_X8 : Cond.code yX8_init cX8_init 2 none ∈ BIG ∧ Cond.initialized yX8_init.cls ∈ BIG ∧ Cond.instanceMethod yX8_init ∈ BIG ∧ CWH yX8_init 1 := ⟨bigI 738 (by decide +kernel) rfl, bigI 70 (by decide +kernel) rfl, bigI 737 (by decide +kernel) rfl, ⟨by decide +kernel, by decide +kernel, by decide +kernel⟩⟩
theorem mj_max : Cond.static Lib.Math.max.name ∈ BIG ∧ Cond.initialized "java/lang/Math" ∈ BIG ∧ Cond.code Lib.Math.max.name Lib.Math.max.code 2 (some .int) ∈ BIG := ⟨bigI 91 (by decide +kernel) rfl, bigI 64 (by decide +kernel) rfl, bigI 92 (by decide +kernel) rfl⟩
theorem mj_min : Cond.static Lib.Math.min.name ∈ BIG ∧ Cond.initialized "java/lang/Math" ∈ BIG ∧ Cond.code Lib.Math.min.name Lib.Math.min.code 2 (some .int) ∈ BIG := ⟨bigI 88 (by decide +kernel) rfl, bigI 64 (by decide +kernel) rfl, bigI 89 (by decide +kernel) rfl⟩
theorem ml_X7_11 : Cond.methodLink RX7 11 Lib.Math.min.name ∈ BIG := bigI 87 (by decide +kernel) rfl
theorem ml_X7_17 : Cond.methodLink RX7 17 Lib.Math.max.name ∈ BIG := bigI 90 (by decide +kernel) rfl
/-! constructors: cells are made -/
def CPre (g : GG) (wc : va_W) (sz : Nat) (U : State) : Prop := U.heap.size = sz ∧ va_P g.1 vCl wc U.heap ∧ va_D (fun _ => True) wc ∧ va_K g.1 vCl (tyG g) U ∧ NW U
def CPost (g : GG) (A : Nat → Prop) (ws : va_W) (U : State) : Prop := va_P g.1 vCl ws U.heap ∧ va_D A ws
theorem CPre.blind {g : GG} {wc : va_W} {sz : Nat} {av : List Value} : FrameBlind (va_Pc av (CPre g wc sz)) := fun a U f mk h => ⟨h.1, h.2.1, h.2.2.1, h.2.2.2.1, va_K.moved (Vm.Alike.refl U.vm) h.2.2.2.2.1, h.2.2.2.2.2.same rfl⟩
theorem MetC {l : Launch} {y : MethodName} {cc : ByteArray} {maxL : Nat} {rm : Room} {g : GG} {wc : va_W} {av : List Value} {own : String} {sz mc ms : Nat} {S : Type} {ws' : S → va_W} (hy : plainName y.cls = true) (hcls : y.cls = own) (hav : (lg_sl av).length ≤ maxL) (hyn : y.name = "<init>")
    (body : ∀ (p : Program) (e : Env) (s : State) (m : MethodId) (args : Array Value) (below : List Frame) (meth : Method) (c : Code) (Q : State → Prop) (F : CallFix p m c cc maxL s args BIG own) (hin : meth.name = "<init>") (hK : va_K g.1 vCl (tyG g) s) (hN : NW s) (hA : ∀ q, s.heap.size ≤ q → va_A wc sz q)
      (ret : ∀ (u : S) (H : Heap) (locs : List Loc) (pc : Nat) (ls : Array Slot), VJ g (va_A wc sz) s.heap (ws' u) H locs → decode cc pc = .ok (.return_, 1) → W p l e rm s m args below meth c H locs mc ms Q (F0 m pc ls [])) (ls : Array Slot) (J : VJ g (va_A wc sz) s.heap wc s.heap []) (hl : lv_has ls maxL (lv_args 0 av)),
      W p l e rm s m args below meth c s.heap [] 0 0 Q (F0 m 0 ls [])) : Met l y (wS y cc maxL none) rm (va_Pc av (CPre g wc sz)) (va_Qv (fun (_ : S) => True) (fun u => CPost g (va_A wc sz) (ws' u)) (va_A wc sz)) mc ms (va_A wc sz) := by
  refine Met.ofW (cc := cc) (maxL := maxL) (ret := none) hy rfl ?_
  intro p e s m args below meth c s₁ B hml hv
  obtain ⟨rfl, hsz, hP, hD, hK, hN⟩ := hv
  have F := met_in hcls B hml
  have hr := B.returns
  have hlocks := B.notSynchronized
  have hin : meth.name = "<init>" := (name_of_methodNamed B.named B.method).1.trans hyn
  rw [lg_entry_eq]
  subst hsz
  exact body p e s m _ below meth c _ F hin hK hN (fun q h => Or.inr h) (fun u H locs pc ls J hd => W.vret F.1 F.2.1 hr (fun t ht hW => ⟨⟨u, rfl, trivial, ⟨by rw [ht]; exact J.1, J.2.1⟩⟩, J.2.2.F ht⟩) J.2.2.2.2 hd) _ ⟨hP, hD.self, va_S.rf⟩ (lv_entry av hav)
section CT
variable {p : Program} {l : Launch} {e : Env} {R : Room} {s : State} {m : MethodId} {args : Array Value} {below : List Frame} {meth : Method} {c : Code} {H : Heap} {locs : List Loc} {cells slots : Nat} {Q : State → Prop}
variable {g : GG} {A : Nat → Prop} {ws ws' : va_W} {cc bytes : ByteArray} {nL n index pc maxL mc ms : Nat} {own : String} {ls : Array Slot} {st0 As rest : List Value} {a o : Nat} {C fn fd ref host : String} {T : u_T} {N ci : Nat} {y : MethodName} {rm : Room}
theorem kPutF (hin : ∀ w ∈ u_ws C T N, w ∈ BIG) (ty0 : Nat → FieldType) (hty : ∀ k, k < N → parseFieldDescriptor (T k).2.2.1 = some (ty0 k)) (hnm : ∀ a, a < N → ∀ b, b < N → a ≠ b → (T a).2.1 ≠ (T b).2.1) (q0 : Nat) {fs : List Value} (he : ws[q0]? = some (a, .inr (ci, fs))) (hc : vCl[ci]? = some (C, T, N)) (k : Nat) (hk : k < N) {ty : FieldType} {v : Value} (hT : T k = (C, fn, fd, true)) (hd : parseFieldDescriptor fd = some ty) (hn : narrow ty v = v) (hfit : fits ty v = true) (hlen : k < fs.length)
    (hws : ws.set q0 (a, .inr (ci, fs.set k v)) = ws')
    (F : CallFix p m c cc nL s args BIG own) (hK : va_K g.1 vCl (tyG g) s) (J : VJ g A s.heap ws H locs) (hin2 : meth.name = "<init>") (hCo : C = own) (hl : Cond.fieldLink own index C fn fd ∈ BIG) (hdg : decode cc pc = .ok (.putfield index, 3))
    (kk : ∀ (H1 : Heap) (locs1 : List Loc), VJ g A s.heap ws' H1 locs1 → W p l e R s m args below meth c H1 locs1 cells slots Q (F0 m (pc + 3) ls rest)) : W p l e R s m args below meth c H locs cells slots Q (F0 m pc ls (v :: .ref a :: rest)) := by
  subst hws
  have e1 : (T k).1 = C := by rw [hT]
  have e2 : (T k).2.1 = fn := by rw [hT]
  have e3 : (T k).2.2.1 = fd := by rw [hT]
  refine va_putF (D := g.1) (ref := C) (C := C) (T := T) (N := N) (ty := ty) F.1 F.2.1 F.2.2.2.2 hin ty0 hty hnm F.2.2.2.1 hK J.1 J.2.1 J.2.2 q0 he hc k hk ?_ (fun _ h => ?_) (by rw [hT]) hin2 (e1.trans hCo) (by rw [e3]; exact hd) hn hfit hlen hdg (fun H1 locs1 h1 h2 h3 => kk H1 locs1 ⟨h1, h2, h3⟩)
  · rw [e2, e3]; exact F.2.2.2.2 _ hl
  · rw [e1] at h; exact h
theorem kPut (hin : ∀ w ∈ u_ws C T N, w ∈ BIG) (ty0 : Nat → FieldType) (hty : ∀ k, k < N → parseFieldDescriptor (T k).2.2.1 = some (ty0 k)) (hnm : ∀ a, a < N → ∀ b, b < N → a ≠ b → (T a).2.1 ≠ (T b).2.1) (q0 : Nat) {fs : List Value} (he : ws[q0]? = some (a, .inr (ci, fs))) (hc : vCl[ci]? = some (C, T, N)) (k : Nat) (hk : k < N) {ty : FieldType} {v : Value} (hT : T k = (C, fn, fd, false)) (hd : parseFieldDescriptor fd = some ty) (hn : narrow ty v = v) (hfit : fits ty v = true) (hlen : k < fs.length)
    (hws : ws.set q0 (a, .inr (ci, fs.set k v)) = ws')
    (F : CallFix p m c cc nL s args BIG own) (hK : va_K g.1 vCl (tyG g) s) (J : VJ g A s.heap ws H locs) (hl : Cond.fieldLink own index C fn fd ∈ BIG) (hdg : decode cc pc = .ok (.putfield index, 3))
    (kk : ∀ (H1 : Heap) (locs1 : List Loc), VJ g A s.heap ws' H1 locs1 → W p l e R s m args below meth c H1 locs1 cells slots Q (F0 m (pc + 3) ls rest)) : W p l e R s m args below meth c H locs cells slots Q (F0 m pc ls (v :: .ref a :: rest)) := by
  subst hws
  have e1 : (T k).1 = C := by rw [hT]
  have e2 : (T k).2.1 = fn := by rw [hT]
  have e3 : (T k).2.2.1 = fd := by rw [hT]
  refine va_put (D := g.1) (ref := C) (C := C) (T := T) (N := N) (ty := ty) F.1 F.2.1 F.2.2.2.2 hin ty0 hty hnm F.2.2.2.1 hK J.1 J.2.1 J.2.2 q0 he hc k hk ?_ (fun _ h => ?_) (by rw [hT]) (by rw [e3]; exact hd) hn hfit hlen hdg (fun H1 locs1 h1 h2 h3 => kk H1 locs1 ⟨h1, h2, h3⟩)
  · rw [e2, e3]; exact F.2.2.2.2 _ hl
  · rw [e1] at h; exact h
theorem kGet (hin : ∀ w ∈ u_ws C T N, w ∈ BIG) (q0 : Nat) {fs : List Value} (he : ws[q0]? = some (a, .inr (ci, fs))) (hc : vCl[ci]? = some (C, T, N)) (k : Nat) (hk : k < N) {v : Value} (hv : fs[k]? = some v) (hT : T k = (C, fn, fd, (T k).2.2.2))
    (F : CallFix p m c cc nL s args BIG own) (hK : va_K g.1 vCl (tyG g) s) (J : VJ g A s.heap ws H locs) (hl : Cond.fieldLink own index C fn fd ∈ BIG) (hdg : decode cc pc = .ok (.getfield index, 3))
    (kk : W p l e R s m args below meth c H locs cells slots Q (F0 m (pc + 3) ls (v :: rest))) : W p l e R s m args below meth c H locs cells slots Q (F0 m pc ls (.ref a :: rest)) := by
  have e1 : (T k).1 = C := by rw [hT]
  have e2 : (T k).2.1 = fn := by rw [hT]
  have e3 : (T k).2.2.1 = fd := by rw [hT]
  refine va_get (D := g.1) (ref := C) (C := C) (T := T) (N := N) F.1 F.2.1 F.2.2.2.2 hin F.2.2.2.1 hK J.1 q0 he hc k hk ?_ (fun _ h => ?_) hv hdg kk
  · rw [e2, e3]; exact F.2.2.2.2 _ hl
  · rw [e1] at h; exact h
theorem kNewA {atype : ArrayType} {ty : FieldType} {z : Int32} {N' : Nat} {a0 : vp_A} {cA0 : ClassId} (t0 : Nat) (ht0 : (tyG g)[t0]? = some (cA0, ty)) (hra : ∀ (U : State) (cA : ClassId), va_RA U cA ty → U.vm.findClass ("[" ++ ty.toString) = some cA) (harr : Cond.arrayClass (newarray.typeOf atype) ∈ BIG) (hty : newarray.typeOf atype = ty) (ha : ∀ cA : ClassId, vp_cell cA a0 = arrV cA N' (fun _ => defaultValue ty)) (hn : ¬ z < 0) (hN : z.toNatClampNeg = N') (hbytes : N' * componentBytes ty ≤ 536870912)
    (F : CallFix p m c cc nL s args BIG own) (hK : va_K g.1 vCl (tyG g) s) (hA : ∀ q, s.heap.size ≤ q → A q) (J : VJ g A s.heap ws H locs) (hcells : cells + 1 ≤ R.cells) (hslots : slots + N' ≤ R.slots) (hdg : decode cc pc = .ok (.newarray atype, 2))
    (kk : ∀ (q : Nat) (H1 : Heap), VJ g A s.heap (ws ++ [(q, .inl (cA0, a0))]) H1 locs → W p l e R s m args below meth c H1 locs (cells + 1) (slots + N') Q (F0 m (pc + 2) ls (.ref q :: rest))) : W p l e R s m args below meth c H locs cells slots Q (F0 m pc ls (.int z :: rest)) := by
  refine va_newa (D := g.1) (a0 := a0) F.1 F.2.1 (F.2.2.2.2 _ harr) hty hK J.1 J.2.1 J.2.2 hA ha hn hN hbytes hcells hslots hdg (fun q cA H1 hK1 h1 h2 h3 => ?_)
  have e1 := hra s cA (hK1.2 (tyG g).length (cA, ty) (by simp)).2
  have e2 := hra s cA0 (hK.2 t0 _ ht0).2
  have e3 : cA = cA0 := Option.some.inj (e1.symm.trans e2)
  subst e3
  exact kk q H1 ⟨h1, h2, h3⟩
theorem kNew (hin : ∀ w ∈ u_ws C T N, w ∈ BIG) (ty0 : Nat → FieldType) (hty : ∀ k, k < N → parseFieldDescriptor (T k).2.2.1 = some (ty0 k)) (hcl : Cond.classLink own index C ∈ BIG) (hinst : Cond.instantiable C N ∈ BIG) (hini : Cond.initialized C ∈ BIG) (hc : vCl[ci]? = some (C, T, N)) {fs : List Value} (hfs : ∀ j, j < N → defaultValue (ty0 j) = vp_V fs j)
    (F : CallFix p m c cc nL s args BIG own) (hK : va_K g.1 vCl (tyG g) s) (hA : ∀ q, s.heap.size ≤ q → A q) (J : VJ g A s.heap ws H locs) (hcells : cells + 1 ≤ R.cells) (hslots : slots + N ≤ R.slots) (hdg : decode cc pc = .ok (.new index, 3))
    (kk : ∀ (q : Nat) (H1 : Heap), VJ g A s.heap (ws ++ [(q, .inr (ci, fs))]) H1 locs → W p l e R s m args below meth c H1 locs (cells + 1) (slots + N) Q (F0 m (pc + 3) ls (.ref q :: rest))) : W p l e R s m args below meth c H locs cells slots Q (F0 m pc ls rest) :=
  va_new (D := g.1) (ci := ci) (fs := fs) (C := C) (T := T) (N := N) F.1 F.2.1 F.2.2.2.2 hin ty0 hty F.2.2.2.1 (F.2.2.2.2 _ hcl) (F.2.2.2.2 _ hinst) (F.2.2.2.2 _ hini) hK J.1 J.2.1 J.2.2 hA hc hfs hcells hslots hdg (fun q H1 h1 h2 h3 => kk q H1 ⟨h1, h2, h3⟩)
theorem kObj (hlink : Cond.methodLink own index Lib.objectInit ∈ BIG) (F : CallFix p m c cc nL s args BIG own) (hl : ls.size = nL) (hd : decode cc pc = .ok (.invokespecial index, 3)) (hframes : 1 ≤ R.frames) (hlocals : 12 ≤ R.locals) (kk : W p l e R s m args below meth c H locs cells slots Q (F0 m (pc + 3) ls [])) : W p l e R s m args below meth c H locs cells slots Q (F0 m pc ls [.ref a]) := by
  refine W.objInit F.1 F.2.1 F.2.2.2.1 (F.2.2.2.2 _ hlink) (F.2.2.2.2 _ ow_inst) (F.2.2.2.2 _ ow_code) rfl (by rw [F.2.2.1]; exact hl) rfl hd hframes (by show 2 * 0 + 0 + 12 ≤ _; omega) ?_
  exact kk
theorem kCall {S : Type} {ws1 : S → va_W} {wc wr : va_W} (N0 : NW s) (F : CallFix p m c cc nL s args BIG own) (hK : va_K g.1 vCl (tyG g) s) (hA : ∀ q, s.heap.size ≤ q → A q) (J : VJ g A s.heap ws H locs) (M : Met l y (wS y bytes maxL none) rm (va_Pc (.ref o :: As) (CPre g wc H.size)) (va_Qv (fun (_ : S) => True) (fun u => CPost g (va_A wc H.size) (ws1 u)) (va_A wc H.size)) mc ms (va_A wc H.size))
    (isC isR : List Nat) (hC1 : isC.filterMap (fun i => ws[i]?) = wc) (hC : isC.map (fun i => ws[i]?) = wc.map some) (hnC : va_nd isC = true) (hRr : isR.map (fun i => ws[i]?) = wr.map some) (hnR : va_nd isR = true) (hdis : ∀ i ∈ isR, i ∉ isC)
    (hcw : va_Run p l e R s m args below meth c H locs cells slots mc ms (F0 m pc ls st0) rest ((va_Qv (fun (_ : S) => True) (fun u => CPost g (va_A wc H.size) (ws1 u)) (va_A wc H.size)) (Value.ref o :: As).toArray) (va_A wc H.size))
    (kk : ∀ (u : S) (H1 : Heap) (locs1 : List Loc), VJ g A s.heap (wr ++ ws1 u) H1 locs1 → W p l e R s m args below meth c H1 locs1 (cells + mc) (slots + ms) Q (F0 m (pc + 3) ls rest)) : W p l e R s m args below meth c H locs cells slots Q (F0 m pc ls st0) := by
  have hFc := va_free (wc := wc) J.2.1 J.2.2 hA isC hC
  refine va_callv hcw J.2.2 (fun q _ h => hFc q h) hFc (fun u t H1 locs1 ht hvm hw hB hz1 hk1 hS => ?_)
  obtain ⟨hP1, hD1⟩ := hB
  rw [ht] at hP1
  obtain ⟨hP, hD⟩ := va_join (wr := wr) (w1 := ws1 u) J.1 J.2.1 isC isR hC hRr hnR hdis hk1 hFc hP1 hD1
  exact kk u H1 locs1 ⟨hP, hD, hS⟩
theorem kRunI {S : Type} {ws1 : S → va_W} {wc : va_W} (N0 : NW s) (F : CallFix p m c cc nL s args BIG own) (hK : va_K g.1 vCl (tyG g) s) (J : VJ g A s.heap ws H locs) (M : Met l y (wS y bytes maxL none) rm (va_Pc (.ref o :: As) (CPre g wc H.size)) (va_Qv (fun (_ : S) => True) (fun u => CPost g (va_A wc H.size) (ws1 u)) (va_A wc H.size)) mc ms (va_A wc H.size))
    (isC : List Nat) (hC1 : isC.filterMap (fun i => ws[i]?) = wc) (hC : isC.map (fun i => ws[i]?) = wc.map some) (hnC : va_nd isC = true) (hlk : Cond.methodLink own index y ∈ BIG) (hco : Cond.code y bytes maxL none ∈ BIG) (hini : Cond.initialized y.cls ∈ BIG) (hins : Cond.instanceMethod y ∈ BIG) (hyn : y.name = "<init>") (hcw : CWH y n)
    (hR : rm.cells = mc ∧ rm.slots = ms ∧ rm.frames + 1 ≤ R.frames ∧ 8 + (maxL + 11) + rm.locals ≤ R.locals) (hn : As.length = n) (hl : ls.size = nL) (hst : st0 = As.reverse ++ .ref o :: rest) (hW : (rest.map fun v => v.category).sum ≤ 8) (hdg : decode cc pc = .ok (.invokespecial index, 3)) (hf : cells + mc ≤ R.cells ∧ slots + ms ≤ R.slots) :
    va_Run p l e R s m args below meth c H locs cells slots mc ms (F0 m pc ls st0) rest ((va_Qv (fun (_ : S) => True) (fun u => CPost g (va_A wc H.size) (ws1 u)) (va_A wc H.size)) (Value.ref o :: As).toArray) (va_A wc H.size) := by
  have ht := F.2.2.2.2
  refine va_runI (bytes := bytes) (maxL := maxL) (n := n) F M ⟨callB_of n ht (wS_good hco) rfl hR.1 hR.2.1 (ht _ hini) (ht _ hlk) hcw hR.2.2, hyn, ht _ hins⟩ ⟨CPre.blind, fun U hU hWm => ⟨rfl, by rw [hU], by rw [hU]; exact J.1.sub isC hC1, (J.2.1.sub isC hnC hC).weaken (fun _ _ _ _ => trivial), va_K.moved hWm.alike hK, N0.warm hWm⟩⟩ rfl hn hl hst (lv_room hW) hdg hf
theorem kRunN {S : Type} {ws1 : S → va_W} {wc : va_W} (N0 : NW s) (F : CallFix p m c cc nL s args BIG own) (hK : va_K g.1 vCl (tyG g) s) (J : VJ g A s.heap ws H locs) (M : Met l y (wS y bytes maxL none) rm (va_Pc (.ref o :: As) (CPre g wc H.size)) (va_Qv (fun (_ : S) => True) (fun u => CPost g (va_A wc H.size) (ws1 u)) (va_A wc H.size)) mc ms (va_A wc H.size))
    (isC : List Nat) (hC1 : isC.filterMap (fun i => ws[i]?) = wc) (hC : isC.map (fun i => ws[i]?) = wc.map some) (hnC : va_nd isC = true) (hlk : (own, index, y, host) ∈ nsM) (hco : Cond.code y bytes maxL none ∈ BIG) (hini : Cond.initialized y.cls ∈ BIG) (hins : Cond.instanceMethod y ∈ BIG) (hyn : y.name = "<init>") (hcw : CWH y n)
    (hR : rm.cells = mc ∧ rm.slots = ms ∧ rm.frames + 1 ≤ R.frames ∧ 8 + (maxL + 11) + rm.locals ≤ R.locals) (hn : As.length = n) (hl : ls.size = nL) (hst : st0 = As.reverse ++ .ref o :: rest) (hW : (rest.map fun v => v.category).sum ≤ 8) (hdg : decode cc pc = .ok (.invokespecial index, 3)) (hf : cells + mc ≤ R.cells ∧ slots + ms ≤ R.slots) :
    va_Run p l e R s m args below meth c H locs cells slots mc ms (F0 m pc ls st0) rest ((va_Qv (fun (_ : S) => True) (fun u => CPost g (va_A wc H.size) (ws1 u)) (va_A wc H.size)) (Value.ref o :: As).toArray) (va_A wc H.size) := by
  have ht := F.2.2.2.2
  refine va_runIN (host := host) (bytes := bytes) (maxL := maxL) (n := n) F M ⟨va_cnB n ht (wS_good hco) rfl hR.1 hR.2.1 (N0.2 _ hlk) (ht _ hini) hcw hR.2.2, hyn, ht _ hins⟩ ⟨CPre.blind, fun U hU hWm => ⟨rfl, by rw [hU], by rw [hU]; exact J.1.sub isC hC1, (J.2.1.sub isC hnC hC).weaken (fun _ _ _ _ => trivial), va_K.moved hWm.alike hK, N0.warm hWm⟩⟩ rfl hn hl hst (lv_room hW) hdg hf
end CT
