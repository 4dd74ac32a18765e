/-! the four texts: length and charAt -/
section METG
variable {l : Launch} {y : MethodName} {cc : ByteArray} {maxL : Nat} {rm : Room} {g : GG} {A : Nat → Prop} {ws ws' : va_W} {av : List Value} {own : String}
theorem MetGF {res : Int32} {ty : FieldType} (hy : plainFor y = true) (hcls : y.cls = own) (hav : (lg_sl av).length ≤ maxL) (hn : narrow ty (.int res) = .int res)
    (body : ∀ (p : Program) (e : Env) (s : State) (m : MethodId) (args : Array Value) (below : List Frame) (meth : Method) (c : Code) (Q : State → Prop) (F : CallFix p m c cc maxL s args BIG own) (E : EV g A s)
      (ret : ∀ (H : Heap) (locs : List Loc) (pc : Nat) (ls : Array Slot), VJ g A s.heap ws' H locs → decode cc pc = .ok (.ireturn, 1) → W p l e rm s m args below meth c H locs 0 0 Q (F0 m pc ls [.int res])) (ls : Array Slot) (J : VJ g A s.heap ws s.heap []) (hl : lv_has ls maxL (lv_args 0 av)),
      W p l e rm s m args below meth c s.heap [] 0 0 Q (F0 m 0 ls [])) : Met l y (wS y cc maxL (some ty)) rm (va_Pc av (VB g A ws)) (va_Qi (fun r (_ : Unit) => r = res) (fun _ => VB g A ws') A) 0 0 A := by
  refine va_MetF (cc := cc) (maxL := maxL) (ret := some ty) hy rfl ?_
  intro p e s m args below meth c s₁ B hml hv
  obtain ⟨rfl, hP, hD, E⟩ := hv
  have F := met_in hcls B hml
  have hr := B.returns
  have hlocks := B.notSynchronized
  rw [lg_entry_eq]
  exact body p e s m _ below meth c _ F E (fun H locs pc ls J hd => W.zret F.1 F.2.1 hr hn (fun t ht hW => ⟨⟨res, (), rfl, rfl, J.out E ht hW⟩, J.2.2.F ht⟩) J.2.2.2.2 hd) _ ⟨hP, hD, va_S.rf⟩ (lv_entry av hav)
theorem MetVF (hy : plainFor y = true) (hcls : y.cls = own) (hav : (lg_sl av).length ≤ maxL)
    (body : ∀ (p : Program) (e : Env) (s : State) (m : MethodId) (args : Array Value) (below : List Frame) (meth : Method) (c : Code) (Q : State → Prop) (F : CallFix p m c cc maxL s args BIG own) (E : EV g A s)
      (ret : ∀ (H : Heap) (locs : List Loc) (pc : Nat) (ls : Array Slot), VJ g A s.heap ws' H locs → decode cc pc = .ok (.return_, 1) → W p l e rm s m args below meth c H locs 0 0 Q (F0 m pc ls [])) (ls : Array Slot) (J : VJ g A s.heap ws s.heap []) (hl : lv_has ls maxL (lv_args 0 av)),
      W p l e rm s m args below meth c s.heap [] 0 0 Q (F0 m 0 ls [])) : Met l y (wS y cc maxL none) rm (va_Pc av (VB g A ws)) (va_Qv (fun (_ : Unit) => True) (fun _ => VB g A ws') A) 0 0 A := by
  refine va_MetF (cc := cc) (maxL := maxL) (ret := none) hy rfl ?_
  intro p e s m args below meth c s₁ B hml hv
  obtain ⟨rfl, hP, hD, E⟩ := hv
  have F := met_in hcls B hml
  have hr := B.returns
  have hlocks := B.notSynchronized
  rw [lg_entry_eq]
  exact body p e s m _ below meth c _ F E (fun H locs pc ls J hd => W.vret F.1 F.2.1 hr (fun t ht hW => ⟨⟨(), rfl, trivial, J.out E ht hW⟩, J.2.2.F ht⟩) J.2.2.2.2 hd) _ ⟨hP, hD, va_S.rf⟩ (lv_entry av hav)
end METG
section RUNT
variable {p : Program} {l : Launch} {e : Env} {R : Room} {s : State} {m : MethodId} {args : Array Value} {below : List Frame} {meth : Method} {c : Code} {H : Heap} {locs : List Loc} {Q : State → Prop}
variable {g : GG} {A : Nat → Prop} {ws ws' : va_W} {cc bytes : ByteArray} {nL maxL n index pc : Nat} {own host : String} {y : MethodName} {rm : Room} {ls : Array Slot} {st0 As rest : List Value} {o : Nat} {ret : Option FieldType}
/-- a call on one of the texts -/
theorem runT {Qc : Array Value → State → Outcome → State → Prop} {i : Nat} (hi : i < 4) (F : CallFix p m c cc nL s args BIG own) (E : EV g A s) (J : VJ g A s.heap ws H locs) (M : Met l y (wS y bytes maxL ret) rm (va_Pc (.ref (g.2.2.1 i) :: As) (VB g A ws)) Qc 0 0 A) (cw : CWV own index y bytes maxL ret n) (hR : RMo rm R maxL) (hc : y.cls = "java/lang/String")
    (hn : As.length = n) (hl : ls.size = nL) (hst : st0 = As.reverse ++ .ref (g.2.2.1 i) :: rest) (hW : (rest.map fun v => v.category).sum ≤ 8) (hdg : decode cc pc = .ok (.invokevirtual index, 3)) :
    va_Run p l e R s m args below meth c H locs 0 0 0 0 (F0 m pc ls st0) rest (Qc (Value.ref (g.2.2.1 i) :: As).toArray) A := by
  have ht := F.2.2.2.2
  obtain ⟨w1, w2, w3, w4, w5, w6⟩ := cw
  refine va_runV (C := y.cls) (bytes := bytes) (maxL := maxL) (ret := ret) (n := n) F M ⟨callB_of n ht (wS_good w5) rfl hR.1 hR.2.1 (ht _ w4) (ht _ w1) w6 hR.2.2, ht _ w2, ht _ w3⟩ ⟨VB.blind, by rw [hc]; exact vk_recv E.2.2.1 hi J.2.2, fun U hU hWm => ⟨rfl, J.out E hU hWm⟩⟩ rfl hn hl hst (lv_room hW) hdg ⟨Nat.zero_le _, Nat.zero_le _⟩
end RUNT
def rm_T0 : Room := { frames := 0, cells := 0, slots := 0, locals := 0 }
def rm_T1 : Room := { frames := 1, cells := 0, slots := 0, locals := 22 }
def rm_T2 : Room := { frames := 2, cells := 0, slots := 0, locals := 43 }
def rm_T3 : Room := { frames := 3, cells := 0, slots := 0, locals := 64 }
set_option maxRecDepth 100000 in
theorem c_coder {l : Launch} {g : GG} {A : Nat → Prop} {ws : va_W} {i : Nat} (hi : i < 4) : Met l yJ0_coder_7d493 (wS yJ0_coder_7d493 cJ0_coder_7d493 1 (some .byte)) rm_T0 (va_Pc [.ref (g.2.2.1 i)] (VB g A ws)) (va_Qi (fun r (_ : Unit) => r = 0) (fun _ => VB g A ws) A) 0 0 A := by
  refine MetGF (res := 0) (own := RJ0) (ws' := ws) (by decide +kernel) rfl (Nat.le_of_ble_eq_true rfl) rfl ?_
  intro p e s m args below meth c Q F E ret ls J hl
  have hx := F.1
  have hb := F.2.1
  have hl : lv_has ls 1 [(0, .ref (g.2.2.1 i))] := hl
  refine va_gets hx hb E.2.2.2.2.1 J.2.2 F.2.2.2.1 (F.2.2.2.2 _ fl_J0_38) (fun _ h => h) dJ0_coder_7d493_0 ?_
  refine lv_if_eq (tgt := 13) hx hb dJ0_coder_7d493_3 (by decide) (fun c => absurd c (by decide)) (fun c => ?_)
  refine lv_aload_n hx hb dJ0_coder_7d493_6 rfl (lv_at hl 0 rfl) ?_
  refine vk_getf hx hb (E.2.2.1.1 i hi).2.1 J.2.2 F.2.2.2.1 (F.2.2.2.2 _ fl_J0_15) (fun _ h => h) dJ0_coder_7d493_7 ?_
  refine lv_goto (tgt := 14) hx hb dJ0_coder_7d493_10 (by decide) ?_
  exact ret _ _ _ _ J dJ0_coder_7d493_14
set_option maxRecDepth 100000 in
theorem c_isLatin1 {l : Launch} {g : GG} {A : Nat → Prop} {ws : va_W} {i : Nat} (hi : i < 4) : Met l yJ0_isLatin1_aae02 (wS yJ0_isLatin1_aae02 cJ0_isLatin1_aae02 1 (some .boolean)) rm_T0 (va_Pc [.ref (g.2.2.1 i)] (VB g A ws)) (va_Qi (fun r (_ : Unit) => r = 1) (fun _ => VB g A ws) A) 0 0 A := by
  refine MetGF (res := 1) (own := RJ0) (ws' := ws) (by decide +kernel) rfl (Nat.le_of_ble_eq_true rfl) rfl ?_
  intro p e s m args below meth c Q F E ret ls J hl
  have hx := F.1
  have hb := F.2.1
  have hl : lv_has ls 1 [(0, .ref (g.2.2.1 i))] := hl
  refine va_gets hx hb E.2.2.2.2.1 J.2.2 F.2.2.2.1 (F.2.2.2.2 _ fl_J0_38) (fun _ h => h) dJ0_isLatin1_aae02_0 ?_
  refine lv_if_eq (tgt := 17) hx hb dJ0_isLatin1_aae02_3 (by decide) (fun c => absurd c (by decide)) (fun c => ?_)
  refine lv_aload_n hx hb dJ0_isLatin1_aae02_6 rfl (lv_at hl 0 rfl) ?_
  refine vk_getf hx hb (E.2.2.1.1 i hi).2.1 J.2.2 F.2.2.2.1 (F.2.2.2.2 _ fl_J0_15) (fun _ h => h) dJ0_isLatin1_aae02_7 ?_
  refine lv_if_ne (tgt := 17) hx hb dJ0_isLatin1_aae02_10 (by decide) (fun c => absurd rfl c) (fun c => ?_)
  refine lv_iconst (v := 1) hx hb dJ0_isLatin1_aae02_13 (by decide) ?_
  refine lv_goto (tgt := 18) hx hb dJ0_isLatin1_aae02_14 (by decide) ?_
  exact ret _ _ _ _ J dJ0_isLatin1_aae02_18
set_option maxRecDepth 100000 in
theorem c_strLen {l : Launch} {g : GG} {A : Nat → Prop} {ws : va_W} {i : Nat} (hi : i < 4) : Met l yJ0_length_8abf5 (wS yJ0_length_8abf5 cJ0_length_8abf5 1 (some .int)) rm_T1 (va_Pc [.ref (g.2.2.1 i)] (VB g A ws)) (va_Qi (fun r (_ : Unit) => r = Int32.ofNat (sLens.getD i 0) >>> ((0 : Int32) &&& 31)) (fun _ => VB g A ws) A) 0 0 A := by
  refine MetGF (res := Int32.ofNat (sLens.getD i 0) >>> ((0 : Int32) &&& 31)) (own := RJ0) (ws' := ws) (by decide +kernel) rfl (Nat.le_of_ble_eq_true rfl) rfl ?_
  intro p e s m args below meth c Q F E ret ls J hl
  have hx := F.1
  have hb := F.2.1
  have hl : lv_has ls 1 [(0, .ref (g.2.2.1 i))] := hl
  refine lv_aload_n hx hb dJ0_length_8abf5_0 rfl (lv_at hl 0 rfl) ?_
  refine vk_getf hx hb (E.2.2.1.1 i hi).2.2.1 J.2.2 F.2.2.2.1 (F.2.2.2.2 _ fl_J0_9) (fun _ h => h) dJ0_length_8abf5_1 ?_
  refine va_tlen hx hb (E.2.2.1.1 i hi).2.2.2 J.2.2 rfl dJ0_length_8abf5_4 ?_
  refine lv_aload_n hx hb dJ0_length_8abf5_5 rfl (lv_at hl 0 rfl) ?_
  refine onI (runT (As := []) (rest := [.int (Int32.ofNat (sLens.getD i 0))]) hi F E J (c_coder hi) cw_J0_335 ⟨rfl, rfl, Nat.le_of_ble_eq_true rfl, Nat.le_of_ble_eq_true rfl⟩ rfl rfl hl.1 rfl (Nat.le_of_ble_eq_true rfl) dJ0_length_8abf5_6) J (fun H locs J => ?_)
  refine lv_ishr hx hb dJ0_length_8abf5_9 ?_
  exact ret _ _ _ _ J dJ0_length_8abf5_10
set_option maxRecDepth 100000 in
theorem c_preCheck {l : Launch} {g : GG} {A : Nat → Prop} {ws : va_W} {k n : Int32} {v : Value} (h0 : ¬ k < 0) (h1 : k < n) (hv : v = .null ∨ ∃ t, v = .ref t) : Met l yJ3_checkIndex_8e157 (wS yJ3_checkIndex_8e157 cJ3_checkIndex_8e157 3 (some .int)) rm_T0 (va_Pc [.int k, .int n, v] (VB g A ws)) (va_Qi (fun r (_ : Unit) => r = k) (fun _ => VB g A ws) A) 0 0 A := by
  refine MetGF (res := k) (own := RJ3) (ws' := ws) (by decide +kernel) rfl (by rcases hv with rfl | ⟨t, rfl⟩ <;> exact Nat.le_of_ble_eq_true rfl) rfl ?_
  intro p e s m args below meth c Q F E ret ls J hl
  have hx := F.1
  have hb := F.2.1
  have hl : lv_has ls 3 [(0, .int k), (1, .int n)] := ⟨hl.1, hl.2.1, fun q hq => hl.2.2 q (by
    rcases List.mem_cons.mp hq with h | h
    · rw [h]; exact List.mem_cons_self
    · rcases List.mem_cons.mp h with h | h
      · rw [h]; exact List.mem_cons_of_mem _ List.mem_cons_self
      · cases h)⟩
  refine lv_iload_n hx hb dJ3_checkIndex_8e157_0 rfl (lv_at hl 0 rfl) ?_
  refine lv_if_lt (tgt := 9) hx hb dJ3_checkIndex_8e157_1 (by decide) (fun c => absurd c h0) (fun c => ?_)
  refine lv_iload_n hx hb dJ3_checkIndex_8e157_4 rfl (lv_at hl 0 rfl) ?_
  refine lv_iload_n hx hb dJ3_checkIndex_8e157_5 rfl (lv_at hl 1 rfl) ?_
  refine lv_icmp_lt (tgt := 16) hx hb dJ3_checkIndex_8e157_6 (by decide) (fun c => ?_) (fun c => absurd h1 c)
  refine lv_iload_n hx hb dJ3_checkIndex_8e157_16 rfl (lv_at hl 0 rfl) ?_
  exact ret _ _ _ _ J dJ3_checkIndex_8e157_17
set_option maxRecDepth 100000 in
theorem c_strCheck {l : Launch} {g : GG} {A : Nat → Prop} {ws : va_W} {k n : Int32} (h0 : ¬ k < 0) (h1 : k < n) : Met l yJ0_checkIndex_df160 (wS yJ0_checkIndex_df160 cJ0_checkIndex_df160 2 none) rm_T1 (va_Pc [.int k, .int n] (VB g A ws)) (va_Qv (fun (_ : Unit) => True) (fun _ => VB g A ws) A) 0 0 A := by
  refine MetVF (own := RJ0) (ws' := ws) (by decide +kernel) rfl (Nat.le_of_ble_eq_true rfl) ?_
  intro p e s m args below meth c Q F E ret ls J hl
  have hx := F.1
  have hb := F.2.1
  have hl : lv_has ls 2 [(0, .int k), (1, .int n)] := hl
  refine lv_iload_n hx hb dJ0_checkIndex_df160_0 rfl (lv_at hl 0 rfl) ?_
  refine lv_iload_n hx hb dJ0_checkIndex_df160_1 rfl (lv_at hl 1 rfl) ?_
  rcases E.2.2.2.2.2 with hZ | ⟨t, hZ⟩
  · refine va_gets hx hb hZ J.2.2 F.2.2.2.1 (F.2.2.2.2 _ fl_J0_1053) (fun _ h => h) dJ0_checkIndex_df160_2 ?_
    refine onI (runS (As := [.int k, .int n, .null]) (rest := []) F E J (c_preCheck h0 h1 (Or.inl rfl)) cw_J0_1059 ⟨rfl, rfl, Nat.le_of_ble_eq_true rfl, Nat.le_of_ble_eq_true rfl⟩ rfl hl.1 rfl (Nat.le_of_ble_eq_true rfl) dJ0_checkIndex_df160_5) J (fun H locs J => ?_)
    refine lv_pop hx hb dJ0_checkIndex_df160_8 rfl ?_
    exact ret _ _ _ _ J dJ0_checkIndex_df160_9
  · refine va_gets hx hb hZ J.2.2 F.2.2.2.1 (F.2.2.2.2 _ fl_J0_1053) (fun _ h => h) dJ0_checkIndex_df160_2 ?_
    refine onI (runS (As := [.int k, .int n, .ref t]) (rest := []) F E J (c_preCheck h0 h1 (Or.inr ⟨t, rfl⟩)) cw_J0_1059 ⟨rfl, rfl, Nat.le_of_ble_eq_true rfl, Nat.le_of_ble_eq_true rfl⟩ rfl hl.1 rfl (Nat.le_of_ble_eq_true rfl) dJ0_checkIndex_df160_5) J (fun H locs J => ?_)
    refine lv_pop hx hb dJ0_checkIndex_df160_8 rfl ?_
    exact ret _ _ _ _ J dJ0_checkIndex_df160_9
def sRw (i : Nat) (k : Int32) : Int32 := ((((sByts.getD i []).getD k.toNatClampNeg 0) &&& 255).toUInt32 % 65536).toInt32
set_option maxRecDepth 100000 in
theorem c_latinCharAt {l : Launch} {g : GG} {A : Nat → Prop} {ws : va_W} {i : Nat} (hi : i < 4) {k : Int32} (h0 : ¬ k < 0) (h1 : k < Int32.ofNat (sLens.getD i 0)) (h2 : vp_in k (sLens.getD i 0)) : Met l yJ1_charAt_3b067 (wS yJ1_charAt_3b067 cJ1_charAt_3b067 2 (some .char)) rm_T2 (va_Pc [.ref (g.2.2.2 i), .int k] (VB g A ws)) (va_Qi (fun r (_ : Unit) => r = sRw i k) (fun _ => VB g A ws) A) 0 0 A := by
  refine MetGF (res := sRw i k) (own := RJ1) (ws' := ws) (by decide +kernel) rfl (Nat.le_of_ble_eq_true rfl) (pk_nc _) ?_
  intro p e s m args below meth c Q F E ret ls J hl
  have hx := F.1
  have hb := F.2.1
  have hl : lv_has ls 2 [(0, .ref (g.2.2.2 i)), (1, .int k)] := hl
  refine lv_iload_n hx hb dJ1_charAt_3b067_0 rfl (lv_at hl 1 rfl) ?_
  refine lv_aload_n hx hb dJ1_charAt_3b067_1 rfl (lv_at hl 0 rfl) ?_
  refine va_tlen hx hb (E.2.2.1.1 i hi).2.2.2 J.2.2 rfl dJ1_charAt_3b067_2 ?_
  refine onV (runS (As := [.int k, .int (Int32.ofNat (sLens.getD i 0))]) (rest := []) F E J (c_strCheck h0 h1) cw_J1_9 ⟨rfl, rfl, Nat.le_of_ble_eq_true rfl, Nat.le_of_ble_eq_true rfl⟩ rfl hl.1 rfl (Nat.le_of_ble_eq_true rfl) dJ1_charAt_3b067_3) J (fun H locs J => ?_)
  refine lv_aload_n hx hb dJ1_charAt_3b067_6 rfl (lv_at hl 0 rfl) ?_
  refine lv_iload_n hx hb dJ1_charAt_3b067_7 rfl (lv_at hl 1 rfl) ?_
  refine va_tb hx hb (E.2.2.1.1 i hi).2.2.2 J.2.2 h2 rfl dJ1_charAt_3b067_8 ?_
  refine lv_sipush (v := 255) hx hb dJ1_charAt_3b067_9 (by decide) ?_
  refine lv_iand hx hb dJ1_charAt_3b067_12 ?_
  refine lv_i2c (v := sRw i k) hx hb dJ1_charAt_3b067_13 rfl ?_
  exact ret _ _ _ _ J dJ1_charAt_3b067_14
set_option maxRecDepth 100000 in
theorem c_strChar {l : Launch} {g : GG} {A : Nat → Prop} {ws : va_W} {i : Nat} (hi : i < 4) {k : Int32} (h0 : ¬ k < 0) (h1 : k < Int32.ofNat (sLens.getD i 0)) (h2 : vp_in k (sLens.getD i 0)) : Met l yJ0_charAt_5068e (wS yJ0_charAt_5068e cJ0_charAt_5068e 2 (some .char)) rm_T3 (va_Pc [.ref (g.2.2.1 i), .int k] (VB g A ws)) (va_Qi (fun r (_ : Unit) => r = sRw i k) (fun _ => VB g A ws) A) 0 0 A := by
  refine MetGF (res := sRw i k) (own := RJ0) (ws' := ws) (by decide +kernel) rfl (Nat.le_of_ble_eq_true rfl) (pk_nc _) ?_
  intro p e s m args below meth c Q F E ret ls J hl
  have hx := F.1
  have hb := F.2.1
  have hl : lv_has ls 2 [(0, .ref (g.2.2.1 i)), (1, .int k)] := hl
  refine lv_aload_n hx hb dJ0_charAt_5068e_0 rfl (lv_at hl 0 rfl) ?_
  refine onI (runT (As := []) (rest := []) hi F E J (c_isLatin1 hi) cw_J0_492 ⟨rfl, rfl, Nat.le_of_ble_eq_true rfl, Nat.le_of_ble_eq_true rfl⟩ rfl rfl hl.1 rfl (Nat.le_of_ble_eq_true rfl) dJ0_charAt_5068e_1) J (fun H locs J => ?_)
  refine lv_if_eq (tgt := 16) hx hb dJ0_charAt_5068e_4 (by decide) (fun c => absurd c (by decide)) (fun c => ?_)
  refine lv_aload_n hx hb dJ0_charAt_5068e_7 rfl (lv_at hl 0 rfl) ?_
  refine vk_getf hx hb (E.2.2.1.1 i hi).2.2.1 J.2.2 F.2.2.2.1 (F.2.2.2.2 _ fl_J0_9) (fun _ h => h) dJ0_charAt_5068e_8 ?_
  refine lv_iload_n hx hb dJ0_charAt_5068e_11 rfl (lv_at hl 1 rfl) ?_
  refine onI (runS (As := [.ref (g.2.2.2 i), .int k]) (rest := []) F E J (c_latinCharAt hi h0 h1 h2) cw_J0_495 ⟨rfl, rfl, Nat.le_of_ble_eq_true rfl, Nat.le_of_ble_eq_true rfl⟩ rfl hl.1 rfl (Nat.le_of_ble_eq_true rfl) dJ0_charAt_5068e_12) J (fun H locs J => ?_)
  exact ret _ _ _ _ J dJ0_charAt_5068e_15
theorem sCh_ok : ∀ i, i < 4 → ∀ j, j < sLens.getD i 0 → (((((sByts.getD i []).getD j 0) &&& 255).toUInt32 % 65536).toInt32 = (sByts.getD i []).getD j 0) := by decide +kernel
section STRC
variable {p : Program} {l : Launch} {e : Env} {R : Room} {s : State} {m : MethodId} {args : Array Value} {below : List Frame} {meth : Method} {c : Code} {H : Heap} {locs : List Loc} {Q : State → Prop}
variable {g : GG} {A : Nat → Prop} {ws : va_W} {cc : ByteArray} {nL pc : Nat} {ls : Array Slot} {rest : List Value}
theorem strLen (i : Nat) (hi : i < 4) {v : Int32} (F : CallFix p m c cc nL s args BIG RX5) (E : EV g A s) (J : VJ g A s.heap ws H locs) (hl : ls.size = nL) (hW : (rest.map fun v => v.category).sum ≤ 8) (hR : RMo rm_T1 R 1) (hv : Int32.ofNat (sLens.getD i 0) >>> ((0 : Int32) &&& 31) = v) (hdg : decode cc pc = .ok (.invokevirtual 66, 3))
    (kk : ∀ (H1 : Heap) (locs1 : List Loc), VJ g A s.heap ws H1 locs1 → W p l e R s m args below meth c H1 locs1 0 0 Q (F0 m (pc + 3) ls (.int v :: rest))) : W p l e R s m args below meth c H locs 0 0 Q (F0 m pc ls (.ref (g.2.2.1 i) :: rest)) := by
  refine onI (runT (As := []) hi F E J (c_strLen hi) cw_X5_66 hR rfl rfl hl rfl hW hdg) J (fun H locs J => ?_)
  rw [hv]
  exact kk H locs J
theorem strChar (i : Nat) (hi : i < 4) {k : Int32} (F : CallFix p m c cc nL s args BIG RX5) (E : EV g A s) (J : VJ g A s.heap ws H locs) (hl : ls.size = nL) (hW : (rest.map fun v => v.category).sum ≤ 8) (hR : RMo rm_T3 R 2) (hin : vp_in k (sLens.getD i 0)) (hdg : decode cc pc = .ok (.invokevirtual 71, 3))
    (kk : ∀ (H1 : Heap) (locs1 : List Loc), VJ g A s.heap ws H1 locs1 → W p l e R s m args below meth c H1 locs1 0 0 Q (F0 m (pc + 3) ls (.int (sCh i k) :: rest))) : W p l e R s m args below meth c H locs 0 0 Q (F0 m pc ls (.int k :: .ref (g.2.2.1 i) :: rest)) := by
  have hs : sLens.getD i 0 < 2 ^ 31 := by
    have : ∀ i, i < 4 → sLens.getD i 0 < 2 ^ 31 := by decide
    exact this i hi
  obtain ⟨j, hj, rfl⟩ := vp_in_of hin hs
  have hR2 : sRw i (nI j) = sCh i (nI j) := by
    unfold sRw sCh
    rw [nI_clamp (by omega)]
    exact sCh_ok i hi j hj
  refine onI (runT (As := [.int (nI j)]) hi F E J (c_strChar hi (nI_pos (by omega)) (nI_lt hj hs) hin) cw_X5_71 hR rfl rfl hl rfl hW hdg) J (fun H locs J => ?_)
  rw [hR2]
  exact kk H locs J
end STRC
set_option maxHeartbeats 4000000 in
set_option maxRecDepth 100000 in
theorem c_X5_spells_0 {l : Launch} {g : GG} {A : Nat → Prop} {q : Nat → Nat} {x_crowd x_latestFault x_places x_mask x_w_robots x_w_size x_w_nexts x_a_length x_t_length x_t_token x_t_from x_t_value x_t_behind x_r_wants x_r_pairs x_r_sees : Int32} {x_r_row : Int64} {x_b_size x_s_size : Int32} {x_w_names : Nat → Int32} {x_w_goals x_w_links : Nat → Int64} {x_w_linked x_w_ups x_w_downs x_w_next x_a_begun x_t_bytes : Nat → Int32} {x_b_rows : Nat → Int64} {x_b_acts : Nat → Int32} {x_s_rows : Nat → Int64} {x_s_acts : Nat → Int32} (res : Int32) (h : F_X5_spells_0 x_t_length x_t_from x_t_behind x_t_bytes = some res) : Met l yX5_spells (wS yX5_spells cX5_spells 3 (some .boolean)) rm_X5_spells_0 (va_Pc [.ref (q 4), .ref (g.2.2.1 0)] (VB g A (XW g q x_crowd x_latestFault x_places x_mask x_w_robots x_w_size x_w_nexts x_a_length x_t_length x_t_token x_t_from x_t_value x_t_behind x_r_wants x_r_pairs x_r_sees x_r_row x_b_size x_s_size x_w_names x_w_goals x_w_links x_w_linked x_w_ups x_w_downs x_w_next x_a_begun x_t_bytes x_b_rows x_b_acts x_s_rows x_s_acts))) (va_Qi (fun r (_ : Unit) => r = res ∧ zB r) (fun _ => VB g A (XW g q x_crowd x_latestFault x_places x_mask x_w_robots x_w_size x_w_nexts x_a_length x_t_length x_t_token x_t_from x_t_value x_t_behind x_r_wants x_r_pairs x_r_sees x_r_row x_b_size x_s_size x_w_names x_w_goals x_w_links x_w_linked x_w_ups x_w_downs x_w_next x_a_begun x_t_bytes x_b_rows x_b_acts x_s_rows x_s_acts)) A) 0 0 A := by
  unfold F_X5_spells_0 at h
  refine MetZ (res := res) (own := RX5) (ws' := (XW g q x_crowd x_latestFault x_places x_mask x_w_robots x_w_size x_w_nexts x_a_length x_t_length x_t_token x_t_from x_t_value x_t_behind x_r_wants x_r_pairs x_r_sees x_r_row x_b_size x_s_size x_w_names x_w_goals x_w_links x_w_linked x_w_ups x_w_downs x_w_next x_a_begun x_t_bytes x_b_rows x_b_acts x_s_rows x_s_acts)) (by decide) rfl (Nat.le_of_ble_eq_true rfl) ?_
  intro p e s m args below meth c Q F E ret ls J hl
  have hx := F.1
  have hb := F.2.1
  have hl : lv_has ls 3 [(0, .ref (q 4)), (1, .ref (g.2.2.1 0))] := hl
  refine lv_aload_n hx hb dX5_spells_0 rfl (lv_at hl 0 rfl) ?_
  refine xg_4_5 F E J fl_X5_28 dX5_spells_1 ?_
  refine lv_aload_n hx hb dX5_spells_4 rfl (lv_at hl 0 rfl) ?_
  refine xg_4_3 F E J fl_X5_22 dX5_spells_5 ?_
  refine lv_isub hx hb dX5_spells_8 ?_
  refine lv_aload_n hx hb dX5_spells_9 rfl (lv_at hl 1 rfl) ?_
  refine strLen 0 (by decide) (v := 3) F E J (rest := [.int (x_t_behind - x_t_from)]) hl.1 (Nat.le_of_ble_eq_true rfl) ⟨rfl, rfl, Nat.le_of_ble_eq_true rfl, Nat.le_of_ble_eq_true rfl⟩ (by decide +kernel) dX5_spells_10 (fun H locs J => ?_)
  refine lv_icmp_eq (tgt := 18) hx hb dX5_spells_13 (by decide) (fun c1 => ?_) (fun c1 => ?_)
  · have h := itp c1 h
    refine lv_iconst (v := 0) hx hb dX5_spells_18 (by decide) ?_
    refine lv_istore_n (lv' := [(2, .int 0), (0, .ref (q 4)), (1, .ref (g.2.2.1 0))]) hx hb dX5_spells_19 rfl hl (by decide) rfl (fun ls hl => ?_)
    obtain ⟨o_L2s, ho_L2, h⟩ := ob h
    have T_L2 : ∀ (f : Nat) (l2_L2 : Int32) (o_L2s : Sum (Int32) (Unit)), F_X5_spells_0_L2 x_t_length x_t_from x_t_bytes f l2_L2 = some o_L2s → ∀ (H : Heap) (locs : List Loc) (ls : Array Slot), VJ g A s.heap (XW g q x_crowd x_latestFault x_places x_mask x_w_robots x_w_size x_w_nexts x_a_length x_t_length x_t_token x_t_from x_t_value x_t_behind x_r_wants x_r_pairs x_r_sees x_r_row x_b_size x_s_size x_w_names x_w_goals x_w_links x_w_linked x_w_ups x_w_downs x_w_next x_a_begun x_t_bytes x_b_rows x_b_acts x_s_rows x_s_acts) H locs → lv_has ls 3 [(0, .ref (q 4)), (1, .ref (g.2.2.1 0)), (2, .int l2_L2)] → (∀ (o_L2 : Unit), o_L2s = .inr o_L2 → ∀ (H : Heap) (locs : List Loc) (ls : Array Slot), VJ g A s.heap (XW g q x_crowd x_latestFault x_places x_mask x_w_robots x_w_size x_w_nexts x_a_length x_t_length x_t_token x_t_from x_t_value x_t_behind x_r_wants x_r_pairs x_r_sees x_r_row x_b_size x_s_size x_w_names x_w_goals x_w_links x_w_linked x_w_ups x_w_downs x_w_next x_a_begun x_t_bytes x_b_rows x_b_acts x_s_rows x_s_acts) H locs → lv_has ls 3 [] → W p l e rm_X5_spells_0 s m args below meth c H locs 0 0 Q (F0 m 54 ls [])) → (∀ x, o_L2s = .inl x → x = res) → W p l e rm_X5_spells_0 s m args below meth c H locs 0 0 Q (F0 m 20 ls []) := by
      clear h ho_L2 hl J
      intro f
      induction f with
      | zero => intro l2_L2 o_L2s h; exact absurd h (by simp [F_X5_spells_0_L2])
      | succ f ih =>
        intro l2_L2 o_L2s h H locs ls J hl K_L2 kr_L2
        rw [F_X5_spells_0_L2.eq_2] at h
        refine lv_iload_n hx hb dX5_spells_20 rfl (lv_at hl 2 rfl) ?_
        refine lv_aload_n hx hb dX5_spells_21 rfl (lv_at hl 1 rfl) ?_
        refine strLen 0 (by decide) (v := 3) F E J (rest := [.int l2_L2]) hl.1 (Nat.le_of_ble_eq_true rfl) ⟨rfl, rfl, Nat.le_of_ble_eq_true rfl, Nat.le_of_ble_eq_true rfl⟩ (by decide +kernel) dX5_spells_22 (fun H locs J => ?_)
        refine lv_icmp_ge (tgt := 54) hx hb dX5_spells_25 (by decide) (fun c3 => ?_) (fun c3 => ?_)
        · have h := itp c3 h
          obtain rfl := Option.some.inj h
          exact K_L2 _ rfl _ _ _ J (lv_sub hl [] rfl)
        · have h := itn c3 h
          refine lv_aload_n hx hb dX5_spells_28 rfl (lv_at hl 0 rfl) ?_
          refine lv_aload_n hx hb dX5_spells_29 rfl (lv_at hl 0 rfl) ?_
          refine xg_4_3 F E J fl_X5_22 dX5_spells_30 ?_
          refine lv_iload_n hx hb dX5_spells_33 rfl (lv_at hl 2 rfl) ?_
          refine lv_iadd hx hb dX5_spells_34 ?_
          obtain ⟨p4, hp4, h⟩ := ob h
          refine onI (runV (As := [.int (x_t_from + l2_L2)]) (rest := []) F E J (c_X5_byteAt (x_t_from + l2_L2) p4 hp4) cw_X5_34 ⟨rfl, rfl, Nat.le_of_ble_eq_true rfl, Nat.le_of_ble_eq_true rfl⟩ rcX4 rfl hl.1 rfl (Nat.le_of_ble_eq_true rfl) dX5_spells_35) J (fun H locs J => ?_)
          refine lv_aload_n hx hb dX5_spells_38 rfl (lv_at hl 1 rfl) ?_
          refine lv_iload_n hx hb dX5_spells_39 rfl (lv_at hl 2 rfl) ?_
          obtain ⟨hi, h⟩ := gdt h
          refine strChar 0 (by decide) F E J (rest := [.int p4]) hl.1 (Nat.le_of_ble_eq_true rfl) ⟨rfl, rfl, Nat.le_of_ble_eq_true rfl, Nat.le_of_ble_eq_true rfl⟩ (inbt hi) dX5_spells_40 (fun H locs J => ?_)
          refine lv_icmp_eq (tgt := 48) hx hb dX5_spells_43 (by decide) (fun c5 => ?_) (fun c5 => ?_)
          · have h := itp c5 h
            obtain ⟨v6, hv6, h⟩ := obs h
            refine lv_iinc (v := v6) (lv' := [(2, .int v6), (0, .ref (q 4)), (1, .ref (g.2.2.1 0))]) hx hb dX5_spells_48 hl (k := 2) rfl (by rw [← hv6]; rfl) (by decide) rfl (fun ls hl => ?_)
            refine lv_goto (tgt := 20) hx hb dX5_spells_51 (by decide) ?_
            exact ih _ _ h _ _ _ J (lv_sub hl [1, 2, 0] rfl) K_L2 kr_L2
          · have h := itn c5 h
            refine lv_iconst (v := 0) hx hb dX5_spells_46 (by decide) ?_
            obtain rfl := Option.some.inj h
            obtain rfl := kr_L2 _ rfl
            exact ret _ _ _ _ zB0 J dX5_spells_47
    refine T_L2 FU 0 o_L2s ho_L2 _ _ _ J (lv_sub hl [1, 2, 0] rfl) (fun o_L2 eo H locs ls J hl => ?_) (fun x ex => ?_)
    · subst eo
      have h := elimR h
      refine lv_iconst (v := 1) hx hb dX5_spells_54 (by decide) ?_
      obtain rfl := Option.some.inj h
      exact ret _ _ _ _ zB1 J dX5_spells_55
    · subst ex
      exact Option.some.inj (elimL h)
  · have h := itn c1 h
    refine lv_iconst (v := 0) hx hb dX5_spells_16 (by decide) ?_
    obtain rfl := Option.some.inj h
    exact ret _ _ _ _ zB0 J dX5_spells_17
set_option maxHeartbeats 4000000 in
set_option maxRecDepth 100000 in
theorem c_X5_spells_1 {l : Launch} {g : GG} {A : Nat → Prop} {q : Nat → Nat} {x_crowd x_latestFault x_places x_mask x_w_robots x_w_size x_w_nexts x_a_length x_t_length x_t_token x_t_from x_t_value x_t_behind x_r_wants x_r_pairs x_r_sees : Int32} {x_r_row : Int64} {x_b_size x_s_size : Int32} {x_w_names : Nat → Int32} {x_w_goals x_w_links : Nat → Int64} {x_w_linked x_w_ups x_w_downs x_w_next x_a_begun x_t_bytes : Nat → Int32} {x_b_rows : Nat → Int64} {x_b_acts : Nat → Int32} {x_s_rows : Nat → Int64} {x_s_acts : Nat → Int32} (res : Int32) (h : F_X5_spells_1 x_t_length x_t_from x_t_behind x_t_bytes = some res) : Met l yX5_spells (wS yX5_spells cX5_spells 3 (some .boolean)) rm_X5_spells_1 (va_Pc [.ref (q 4), .ref (g.2.2.1 1)] (VB g A (XW g q x_crowd x_latestFault x_places x_mask x_w_robots x_w_size x_w_nexts x_a_length x_t_length x_t_token x_t_from x_t_value x_t_behind x_r_wants x_r_pairs x_r_sees x_r_row x_b_size x_s_size x_w_names x_w_goals x_w_links x_w_linked x_w_ups x_w_downs x_w_next x_a_begun x_t_bytes x_b_rows x_b_acts x_s_rows x_s_acts))) (va_Qi (fun r (_ : Unit) => r = res ∧ zB r) (fun _ => VB g A (XW g q x_crowd x_latestFault x_places x_mask x_w_robots x_w_size x_w_nexts x_a_length x_t_length x_t_token x_t_from x_t_value x_t_behind x_r_wants x_r_pairs x_r_sees x_r_row x_b_size x_s_size x_w_names x_w_goals x_w_links x_w_linked x_w_ups x_w_downs x_w_next x_a_begun x_t_bytes x_b_rows x_b_acts x_s_rows x_s_acts)) A) 0 0 A := by
  unfold F_X5_spells_1 at h
  refine MetZ (res := res) (own := RX5) (ws' := (XW g q x_crowd x_latestFault x_places x_mask x_w_robots x_w_size x_w_nexts x_a_length x_t_length x_t_token x_t_from x_t_value x_t_behind x_r_wants x_r_pairs x_r_sees x_r_row x_b_size x_s_size x_w_names x_w_goals x_w_links x_w_linked x_w_ups x_w_downs x_w_next x_a_begun x_t_bytes x_b_rows x_b_acts x_s_rows x_s_acts)) (by decide) rfl (Nat.le_of_ble_eq_true rfl) ?_
  intro p e s m args below meth c Q F E ret ls J hl
  have hx := F.1
  have hb := F.2.1
  have hl : lv_has ls 3 [(0, .ref (q 4)), (1, .ref (g.2.2.1 1))] := hl
  refine lv_aload_n hx hb dX5_spells_0 rfl (lv_at hl 0 rfl) ?_
  refine xg_4_5 F E J fl_X5_28 dX5_spells_1 ?_
  refine lv_aload_n hx hb dX5_spells_4 rfl (lv_at hl 0 rfl) ?_
  refine xg_4_3 F E J fl_X5_22 dX5_spells_5 ?_
  refine lv_isub hx hb dX5_spells_8 ?_
  refine lv_aload_n hx hb dX5_spells_9 rfl (lv_at hl 1 rfl) ?_
  refine strLen 1 (by decide) (v := 4) F E J (rest := [.int (x_t_behind - x_t_from)]) hl.1 (Nat.le_of_ble_eq_true rfl) ⟨rfl, rfl, Nat.le_of_ble_eq_true rfl, Nat.le_of_ble_eq_true rfl⟩ (by decide +kernel) dX5_spells_10 (fun H locs J => ?_)
  refine lv_icmp_eq (tgt := 18) hx hb dX5_spells_13 (by decide) (fun c1 => ?_) (fun c1 => ?_)
  · have h := itp c1 h
    refine lv_iconst (v := 0) hx hb dX5_spells_18 (by decide) ?_
    refine lv_istore_n (lv' := [(2, .int 0), (0, .ref (q 4)), (1, .ref (g.2.2.1 1))]) hx hb dX5_spells_19 rfl hl (by decide) rfl (fun ls hl => ?_)
    obtain ⟨o_L2s, ho_L2, h⟩ := ob h
    have T_L2 : ∀ (f : Nat) (l2_L2 : Int32) (o_L2s : Sum (Int32) (Unit)), F_X5_spells_1_L2 x_t_length x_t_from x_t_bytes f l2_L2 = some o_L2s → ∀ (H : Heap) (locs : List Loc) (ls : Array Slot), VJ g A s.heap (XW g q x_crowd x_latestFault x_places x_mask x_w_robots x_w_size x_w_nexts x_a_length x_t_length x_t_token x_t_from x_t_value x_t_behind x_r_wants x_r_pairs x_r_sees x_r_row x_b_size x_s_size x_w_names x_w_goals x_w_links x_w_linked x_w_ups x_w_downs x_w_next x_a_begun x_t_bytes x_b_rows x_b_acts x_s_rows x_s_acts) H locs → lv_has ls 3 [(0, .ref (q 4)), (1, .ref (g.2.2.1 1)), (2, .int l2_L2)] → (∀ (o_L2 : Unit), o_L2s = .inr o_L2 → ∀ (H : Heap) (locs : List Loc) (ls : Array Slot), VJ g A s.heap (XW g q x_crowd x_latestFault x_places x_mask x_w_robots x_w_size x_w_nexts x_a_length x_t_length x_t_token x_t_from x_t_value x_t_behind x_r_wants x_r_pairs x_r_sees x_r_row x_b_size x_s_size x_w_names x_w_goals x_w_links x_w_linked x_w_ups x_w_downs x_w_next x_a_begun x_t_bytes x_b_rows x_b_acts x_s_rows x_s_acts) H locs → lv_has ls 3 [] → W p l e rm_X5_spells_1 s m args below meth c H locs 0 0 Q (F0 m 54 ls [])) → (∀ x, o_L2s = .inl x → x = res) → W p l e rm_X5_spells_1 s m args below meth c H locs 0 0 Q (F0 m 20 ls []) := by
      clear h ho_L2 hl J
      intro f
      induction f with
      | zero => intro l2_L2 o_L2s h; exact absurd h (by simp [F_X5_spells_1_L2])
      | succ f ih =>
        intro l2_L2 o_L2s h H locs ls J hl K_L2 kr_L2
        rw [F_X5_spells_1_L2.eq_2] at h
        refine lv_iload_n hx hb dX5_spells_20 rfl (lv_at hl 2 rfl) ?_
        refine lv_aload_n hx hb dX5_spells_21 rfl (lv_at hl 1 rfl) ?_
        refine strLen 1 (by decide) (v := 4) F E J (rest := [.int l2_L2]) hl.1 (Nat.le_of_ble_eq_true rfl) ⟨rfl, rfl, Nat.le_of_ble_eq_true rfl, Nat.le_of_ble_eq_true rfl⟩ (by decide +kernel) dX5_spells_22 (fun H locs J => ?_)
        refine lv_icmp_ge (tgt := 54) hx hb dX5_spells_25 (by decide) (fun c3 => ?_) (fun c3 => ?_)
        · have h := itp c3 h
          obtain rfl := Option.some.inj h
          exact K_L2 _ rfl _ _ _ J (lv_sub hl [] rfl)
        · have h := itn c3 h
          refine lv_aload_n hx hb dX5_spells_28 rfl (lv_at hl 0 rfl) ?_
          refine lv_aload_n hx hb dX5_spells_29 rfl (lv_at hl 0 rfl) ?_
          refine xg_4_3 F E J fl_X5_22 dX5_spells_30 ?_
          refine lv_iload_n hx hb dX5_spells_33 rfl (lv_at hl 2 rfl) ?_
          refine lv_iadd hx hb dX5_spells_34 ?_
          obtain ⟨p4, hp4, h⟩ := ob h
          refine onI (runV (As := [.int (x_t_from + l2_L2)]) (rest := []) F E J (c_X5_byteAt (x_t_from + l2_L2) p4 hp4) cw_X5_34 ⟨rfl, rfl, Nat.le_of_ble_eq_true rfl, Nat.le_of_ble_eq_true rfl⟩ rcX4 rfl hl.1 rfl (Nat.le_of_ble_eq_true rfl) dX5_spells_35) J (fun H locs J => ?_)
          refine lv_aload_n hx hb dX5_spells_38 rfl (lv_at hl 1 rfl) ?_
          refine lv_iload_n hx hb dX5_spells_39 rfl (lv_at hl 2 rfl) ?_
          obtain ⟨hi, h⟩ := gdt h
          refine strChar 1 (by decide) F E J (rest := [.int p4]) hl.1 (Nat.le_of_ble_eq_true rfl) ⟨rfl, rfl, Nat.le_of_ble_eq_true rfl, Nat.le_of_ble_eq_true rfl⟩ (inbt hi) dX5_spells_40 (fun H locs J => ?_)
          refine lv_icmp_eq (tgt := 48) hx hb dX5_spells_43 (by decide) (fun c5 => ?_) (fun c5 => ?_)
          · have h := itp c5 h
            obtain ⟨v6, hv6, h⟩ := obs h
            refine lv_iinc (v := v6) (lv' := [(2, .int v6), (0, .ref (q 4)), (1, .ref (g.2.2.1 1))]) hx hb dX5_spells_48 hl (k := 2) rfl (by rw [← hv6]; rfl) (by decide) rfl (fun ls hl => ?_)
            refine lv_goto (tgt := 20) hx hb dX5_spells_51 (by decide) ?_
            exact ih _ _ h _ _ _ J (lv_sub hl [1, 2, 0] rfl) K_L2 kr_L2
          · have h := itn c5 h
            refine lv_iconst (v := 0) hx hb dX5_spells_46 (by decide) ?_
            obtain rfl := Option.some.inj h
            obtain rfl := kr_L2 _ rfl
            exact ret _ _ _ _ zB0 J dX5_spells_47
    refine T_L2 FU 0 o_L2s ho_L2 _ _ _ J (lv_sub hl [1, 2, 0] rfl) (fun o_L2 eo H locs ls J hl => ?_) (fun x ex => ?_)
    · subst eo
      have h := elimR h
      refine lv_iconst (v := 1) hx hb dX5_spells_54 (by decide) ?_
      obtain rfl := Option.some.inj h
      exact ret _ _ _ _ zB1 J dX5_spells_55
    · subst ex
      exact Option.some.inj (elimL h)
  · have h := itn c1 h
    refine lv_iconst (v := 0) hx hb dX5_spells_16 (by decide) ?_
    obtain rfl := Option.some.inj h
    exact ret _ _ _ _ zB0 J dX5_spells_17
set_option maxHeartbeats 4000000 in
set_option maxRecDepth 100000 in
theorem c_X5_spells_2 {l : Launch} {g : GG} {A : Nat → Prop} {q : Nat → Nat} {x_crowd x_latestFault x_places x_mask x_w_robots x_w_size x_w_nexts x_a_length x_t_length x_t_token x_t_from x_t_value x_t_behind x_r_wants x_r_pairs x_r_sees : Int32} {x_r_row : Int64} {x_b_size x_s_size : Int32} {x_w_names : Nat → Int32} {x_w_goals x_w_links : Nat → Int64} {x_w_linked x_w_ups x_w_downs x_w_next x_a_begun x_t_bytes : Nat → Int32} {x_b_rows : Nat → Int64} {x_b_acts : Nat → Int32} {x_s_rows : Nat → Int64} {x_s_acts : Nat → Int32} (res : Int32) (h : F_X5_spells_2 x_t_length x_t_from x_t_behind x_t_bytes = some res) : Met l yX5_spells (wS yX5_spells cX5_spells 3 (some .boolean)) rm_X5_spells_2 (va_Pc [.ref (q 4), .ref (g.2.2.1 2)] (VB g A (XW g q x_crowd x_latestFault x_places x_mask x_w_robots x_w_size x_w_nexts x_a_length x_t_length x_t_token x_t_from x_t_value x_t_behind x_r_wants x_r_pairs x_r_sees x_r_row x_b_size x_s_size x_w_names x_w_goals x_w_links x_w_linked x_w_ups x_w_downs x_w_next x_a_begun x_t_bytes x_b_rows x_b_acts x_s_rows x_s_acts))) (va_Qi (fun r (_ : Unit) => r = res ∧ zB r) (fun _ => VB g A (XW g q x_crowd x_latestFault x_places x_mask x_w_robots x_w_size x_w_nexts x_a_length x_t_length x_t_token x_t_from x_t_value x_t_behind x_r_wants x_r_pairs x_r_sees x_r_row x_b_size x_s_size x_w_names x_w_goals x_w_links x_w_linked x_w_ups x_w_downs x_w_next x_a_begun x_t_bytes x_b_rows x_b_acts x_s_rows x_s_acts)) A) 0 0 A := by
  unfold F_X5_spells_2 at h
  refine MetZ (res := res) (own := RX5) (ws' := (XW g q x_crowd x_latestFault x_places x_mask x_w_robots x_w_size x_w_nexts x_a_length x_t_length x_t_token x_t_from x_t_value x_t_behind x_r_wants x_r_pairs x_r_sees x_r_row x_b_size x_s_size x_w_names x_w_goals x_w_links x_w_linked x_w_ups x_w_downs x_w_next x_a_begun x_t_bytes x_b_rows x_b_acts x_s_rows x_s_acts)) (by decide) rfl (Nat.le_of_ble_eq_true rfl) ?_
  intro p e s m args below meth c Q F E ret ls J hl
  have hx := F.1
  have hb := F.2.1
  have hl : lv_has ls 3 [(0, .ref (q 4)), (1, .ref (g.2.2.1 2))] := hl
  refine lv_aload_n hx hb dX5_spells_0 rfl (lv_at hl 0 rfl) ?_
  refine xg_4_5 F E J fl_X5_28 dX5_spells_1 ?_
  refine lv_aload_n hx hb dX5_spells_4 rfl (lv_at hl 0 rfl) ?_
  refine xg_4_3 F E J fl_X5_22 dX5_spells_5 ?_
  refine lv_isub hx hb dX5_spells_8 ?_
  refine lv_aload_n hx hb dX5_spells_9 rfl (lv_at hl 1 rfl) ?_
  refine strLen 2 (by decide) (v := 3) F E J (rest := [.int (x_t_behind - x_t_from)]) hl.1 (Nat.le_of_ble_eq_true rfl) ⟨rfl, rfl, Nat.le_of_ble_eq_true rfl, Nat.le_of_ble_eq_true rfl⟩ (by decide +kernel) dX5_spells_10 (fun H locs J => ?_)
  refine lv_icmp_eq (tgt := 18) hx hb dX5_spells_13 (by decide) (fun c1 => ?_) (fun c1 => ?_)
  · have h := itp c1 h
    refine lv_iconst (v := 0) hx hb dX5_spells_18 (by decide) ?_
    refine lv_istore_n (lv' := [(2, .int 0), (0, .ref (q 4)), (1, .ref (g.2.2.1 2))]) hx hb dX5_spells_19 rfl hl (by decide) rfl (fun ls hl => ?_)
    obtain ⟨o_L2s, ho_L2, h⟩ := ob h
    have T_L2 : ∀ (f : Nat) (l2_L2 : Int32) (o_L2s : Sum (Int32) (Unit)), F_X5_spells_2_L2 x_t_length x_t_from x_t_bytes f l2_L2 = some o_L2s → ∀ (H : Heap) (locs : List Loc) (ls : Array Slot), VJ g A s.heap (XW g q x_crowd x_latestFault x_places x_mask x_w_robots x_w_size x_w_nexts x_a_length x_t_length x_t_token x_t_from x_t_value x_t_behind x_r_wants x_r_pairs x_r_sees x_r_row x_b_size x_s_size x_w_names x_w_goals x_w_links x_w_linked x_w_ups x_w_downs x_w_next x_a_begun x_t_bytes x_b_rows x_b_acts x_s_rows x_s_acts) H locs → lv_has ls 3 [(0, .ref (q 4)), (1, .ref (g.2.2.1 2)), (2, .int l2_L2)] → (∀ (o_L2 : Unit), o_L2s = .inr o_L2 → ∀ (H : Heap) (locs : List Loc) (ls : Array Slot), VJ g A s.heap (XW g q x_crowd x_latestFault x_places x_mask x_w_robots x_w_size x_w_nexts x_a_length x_t_length x_t_token x_t_from x_t_value x_t_behind x_r_wants x_r_pairs x_r_sees x_r_row x_b_size x_s_size x_w_names x_w_goals x_w_links x_w_linked x_w_ups x_w_downs x_w_next x_a_begun x_t_bytes x_b_rows x_b_acts x_s_rows x_s_acts) H locs → lv_has ls 3 [] → W p l e rm_X5_spells_2 s m args below meth c H locs 0 0 Q (F0 m 54 ls [])) → (∀ x, o_L2s = .inl x → x = res) → W p l e rm_X5_spells_2 s m args below meth c H locs 0 0 Q (F0 m 20 ls []) := by
      clear h ho_L2 hl J
      intro f
      induction f with
      | zero => intro l2_L2 o_L2s h; exact absurd h (by simp [F_X5_spells_2_L2])
      | succ f ih =>
        intro l2_L2 o_L2s h H locs ls J hl K_L2 kr_L2
        rw [F_X5_spells_2_L2.eq_2] at h
        refine lv_iload_n hx hb dX5_spells_20 rfl (lv_at hl 2 rfl) ?_
        refine lv_aload_n hx hb dX5_spells_21 rfl (lv_at hl 1 rfl) ?_
        refine strLen 2 (by decide) (v := 3) F E J (rest := [.int l2_L2]) hl.1 (Nat.le_of_ble_eq_true rfl) ⟨rfl, rfl, Nat.le_of_ble_eq_true rfl, Nat.le_of_ble_eq_true rfl⟩ (by decide +kernel) dX5_spells_22 (fun H locs J => ?_)
        refine lv_icmp_ge (tgt := 54) hx hb dX5_spells_25 (by decide) (fun c3 => ?_) (fun c3 => ?_)
        · have h := itp c3 h
          obtain rfl := Option.some.inj h
          exact K_L2 _ rfl _ _ _ J (lv_sub hl [] rfl)
        · have h := itn c3 h
          refine lv_aload_n hx hb dX5_spells_28 rfl (lv_at hl 0 rfl) ?_
          refine lv_aload_n hx hb dX5_spells_29 rfl (lv_at hl 0 rfl) ?_
          refine xg_4_3 F E J fl_X5_22 dX5_spells_30 ?_
          refine lv_iload_n hx hb dX5_spells_33 rfl (lv_at hl 2 rfl) ?_
          refine lv_iadd hx hb dX5_spells_34 ?_
          obtain ⟨p4, hp4, h⟩ := ob h
          refine onI (runV (As := [.int (x_t_from + l2_L2)]) (rest := []) F E J (c_X5_byteAt (x_t_from + l2_L2) p4 hp4) cw_X5_34 ⟨rfl, rfl, Nat.le_of_ble_eq_true rfl, Nat.le_of_ble_eq_true rfl⟩ rcX4 rfl hl.1 rfl (Nat.le_of_ble_eq_true rfl) dX5_spells_35) J (fun H locs J => ?_)
          refine lv_aload_n hx hb dX5_spells_38 rfl (lv_at hl 1 rfl) ?_
          refine lv_iload_n hx hb dX5_spells_39 rfl (lv_at hl 2 rfl) ?_
          obtain ⟨hi, h⟩ := gdt h
          refine strChar 2 (by decide) F E J (rest := [.int p4]) hl.1 (Nat.le_of_ble_eq_true rfl) ⟨rfl, rfl, Nat.le_of_ble_eq_true rfl, Nat.le_of_ble_eq_true rfl⟩ (inbt hi) dX5_spells_40 (fun H locs J => ?_)
          refine lv_icmp_eq (tgt := 48) hx hb dX5_spells_43 (by decide) (fun c5 => ?_) (fun c5 => ?_)
          · have h := itp c5 h
            obtain ⟨v6, hv6, h⟩ := obs h
            refine lv_iinc (v := v6) (lv' := [(2, .int v6), (0, .ref (q 4)), (1, .ref (g.2.2.1 2))]) hx hb dX5_spells_48 hl (k := 2) rfl (by rw [← hv6]; rfl) (by decide) rfl (fun ls hl => ?_)
            refine lv_goto (tgt := 20) hx hb dX5_spells_51 (by decide) ?_
            exact ih _ _ h _ _ _ J (lv_sub hl [1, 2, 0] rfl) K_L2 kr_L2
          · have h := itn c5 h
            refine lv_iconst (v := 0) hx hb dX5_spells_46 (by decide) ?_
            obtain rfl := Option.some.inj h
            obtain rfl := kr_L2 _ rfl
            exact ret _ _ _ _ zB0 J dX5_spells_47
    refine T_L2 FU 0 o_L2s ho_L2 _ _ _ J (lv_sub hl [1, 2, 0] rfl) (fun o_L2 eo H locs ls J hl => ?_) (fun x ex => ?_)
    · subst eo
      have h := elimR h
      refine lv_iconst (v := 1) hx hb dX5_spells_54 (by decide) ?_
      obtain rfl := Option.some.inj h
      exact ret _ _ _ _ zB1 J dX5_spells_55
    · subst ex
      exact Option.some.inj (elimL h)
  · have h := itn c1 h
    refine lv_iconst (v := 0) hx hb dX5_spells_16 (by decide) ?_
    obtain rfl := Option.some.inj h
    exact ret _ _ _ _ zB0 J dX5_spells_17
set_option maxHeartbeats 4000000 in
set_option maxRecDepth 100000 in
theorem c_X5_spells_3 {l : Launch} {g : GG} {A : Nat → Prop} {q : Nat → Nat} {x_crowd x_latestFault x_places x_mask x_w_robots x_w_size x_w_nexts x_a_length x_t_length x_t_token x_t_from x_t_value x_t_behind x_r_wants x_r_pairs x_r_sees : Int32} {x_r_row : Int64} {x_b_size x_s_size : Int32} {x_w_names : Nat → Int32} {x_w_goals x_w_links : Nat → Int64} {x_w_linked x_w_ups x_w_downs x_w_next x_a_begun x_t_bytes : Nat → Int32} {x_b_rows : Nat → Int64} {x_b_acts : Nat → Int32} {x_s_rows : Nat → Int64} {x_s_acts : Nat → Int32} (res : Int32) (h : F_X5_spells_3 x_t_length x_t_from x_t_behind x_t_bytes = some res) : Met l yX5_spells (wS yX5_spells cX5_spells 3 (some .boolean)) rm_X5_spells_3 (va_Pc [.ref (q 4), .ref (g.2.2.1 3)] (VB g A (XW g q x_crowd x_latestFault x_places x_mask x_w_robots x_w_size x_w_nexts x_a_length x_t_length x_t_token x_t_from x_t_value x_t_behind x_r_wants x_r_pairs x_r_sees x_r_row x_b_size x_s_size x_w_names x_w_goals x_w_links x_w_linked x_w_ups x_w_downs x_w_next x_a_begun x_t_bytes x_b_rows x_b_acts x_s_rows x_s_acts))) (va_Qi (fun r (_ : Unit) => r = res ∧ zB r) (fun _ => VB g A (XW g q x_crowd x_latestFault x_places x_mask x_w_robots x_w_size x_w_nexts x_a_length x_t_length x_t_token x_t_from x_t_value x_t_behind x_r_wants x_r_pairs x_r_sees x_r_row x_b_size x_s_size x_w_names x_w_goals x_w_links x_w_linked x_w_ups x_w_downs x_w_next x_a_begun x_t_bytes x_b_rows x_b_acts x_s_rows x_s_acts)) A) 0 0 A := by
  unfold F_X5_spells_3 at h
  refine MetZ (res := res) (own := RX5) (ws' := (XW g q x_crowd x_latestFault x_places x_mask x_w_robots x_w_size x_w_nexts x_a_length x_t_length x_t_token x_t_from x_t_value x_t_behind x_r_wants x_r_pairs x_r_sees x_r_row x_b_size x_s_size x_w_names x_w_goals x_w_links x_w_linked x_w_ups x_w_downs x_w_next x_a_begun x_t_bytes x_b_rows x_b_acts x_s_rows x_s_acts)) (by decide) rfl (Nat.le_of_ble_eq_true rfl) ?_
  intro p e s m args below meth c Q F E ret ls J hl
  have hx := F.1
  have hb := F.2.1
  have hl : lv_has ls 3 [(0, .ref (q 4)), (1, .ref (g.2.2.1 3))] := hl
  refine lv_aload_n hx hb dX5_spells_0 rfl (lv_at hl 0 rfl) ?_
  refine xg_4_5 F E J fl_X5_28 dX5_spells_1 ?_
  refine lv_aload_n hx hb dX5_spells_4 rfl (lv_at hl 0 rfl) ?_
  refine xg_4_3 F E J fl_X5_22 dX5_spells_5 ?_
  refine lv_isub hx hb dX5_spells_8 ?_
  refine lv_aload_n hx hb dX5_spells_9 rfl (lv_at hl 1 rfl) ?_
  refine strLen 3 (by decide) (v := 4) F E J (rest := [.int (x_t_behind - x_t_from)]) hl.1 (Nat.le_of_ble_eq_true rfl) ⟨rfl, rfl, Nat.le_of_ble_eq_true rfl, Nat.le_of_ble_eq_true rfl⟩ (by decide +kernel) dX5_spells_10 (fun H locs J => ?_)
  refine lv_icmp_eq (tgt := 18) hx hb dX5_spells_13 (by decide) (fun c1 => ?_) (fun c1 => ?_)
  · have h := itp c1 h
    refine lv_iconst (v := 0) hx hb dX5_spells_18 (by decide) ?_
    refine lv_istore_n (lv' := [(2, .int 0), (0, .ref (q 4)), (1, .ref (g.2.2.1 3))]) hx hb dX5_spells_19 rfl hl (by decide) rfl (fun ls hl => ?_)
    obtain ⟨o_L2s, ho_L2, h⟩ := ob h
    have T_L2 : ∀ (f : Nat) (l2_L2 : Int32) (o_L2s : Sum (Int32) (Unit)), F_X5_spells_3_L2 x_t_length x_t_from x_t_bytes f l2_L2 = some o_L2s → ∀ (H : Heap) (locs : List Loc) (ls : Array Slot), VJ g A s.heap (XW g q x_crowd x_latestFault x_places x_mask x_w_robots x_w_size x_w_nexts x_a_length x_t_length x_t_token x_t_from x_t_value x_t_behind x_r_wants x_r_pairs x_r_sees x_r_row x_b_size x_s_size x_w_names x_w_goals x_w_links x_w_linked x_w_ups x_w_downs x_w_next x_a_begun x_t_bytes x_b_rows x_b_acts x_s_rows x_s_acts) H locs → lv_has ls 3 [(0, .ref (q 4)), (1, .ref (g.2.2.1 3)), (2, .int l2_L2)] → (∀ (o_L2 : Unit), o_L2s = .inr o_L2 → ∀ (H : Heap) (locs : List Loc) (ls : Array Slot), VJ g A s.heap (XW g q x_crowd x_latestFault x_places x_mask x_w_robots x_w_size x_w_nexts x_a_length x_t_length x_t_token x_t_from x_t_value x_t_behind x_r_wants x_r_pairs x_r_sees x_r_row x_b_size x_s_size x_w_names x_w_goals x_w_links x_w_linked x_w_ups x_w_downs x_w_next x_a_begun x_t_bytes x_b_rows x_b_acts x_s_rows x_s_acts) H locs → lv_has ls 3 [] → W p l e rm_X5_spells_3 s m args below meth c H locs 0 0 Q (F0 m 54 ls [])) → (∀ x, o_L2s = .inl x → x = res) → W p l e rm_X5_spells_3 s m args below meth c H locs 0 0 Q (F0 m 20 ls []) := by
      clear h ho_L2 hl J
      intro f
      induction f with
      | zero => intro l2_L2 o_L2s h; exact absurd h (by simp [F_X5_spells_3_L2])
      | succ f ih =>
        intro l2_L2 o_L2s h H locs ls J hl K_L2 kr_L2
        rw [F_X5_spells_3_L2.eq_2] at h
        refine lv_iload_n hx hb dX5_spells_20 rfl (lv_at hl 2 rfl) ?_
        refine lv_aload_n hx hb dX5_spells_21 rfl (lv_at hl 1 rfl) ?_
        refine strLen 3 (by decide) (v := 4) F E J (rest := [.int l2_L2]) hl.1 (Nat.le_of_ble_eq_true rfl) ⟨rfl, rfl, Nat.le_of_ble_eq_true rfl, Nat.le_of_ble_eq_true rfl⟩ (by decide +kernel) dX5_spells_22 (fun H locs J => ?_)
        refine lv_icmp_ge (tgt := 54) hx hb dX5_spells_25 (by decide) (fun c3 => ?_) (fun c3 => ?_)
        · have h := itp c3 h
          obtain rfl := Option.some.inj h
          exact K_L2 _ rfl _ _ _ J (lv_sub hl [] rfl)
        · have h := itn c3 h
          refine lv_aload_n hx hb dX5_spells_28 rfl (lv_at hl 0 rfl) ?_
          refine lv_aload_n hx hb dX5_spells_29 rfl (lv_at hl 0 rfl) ?_
          refine xg_4_3 F E J fl_X5_22 dX5_spells_30 ?_
          refine lv_iload_n hx hb dX5_spells_33 rfl (lv_at hl 2 rfl) ?_
          refine lv_iadd hx hb dX5_spells_34 ?_
          obtain ⟨p4, hp4, h⟩ := ob h
          refine onI (runV (As := [.int (x_t_from + l2_L2)]) (rest := []) F E J (c_X5_byteAt (x_t_from + l2_L2) p4 hp4) cw_X5_34 ⟨rfl, rfl, Nat.le_of_ble_eq_true rfl, Nat.le_of_ble_eq_true rfl⟩ rcX4 rfl hl.1 rfl (Nat.le_of_ble_eq_true rfl) dX5_spells_35) J (fun H locs J => ?_)
          refine lv_aload_n hx hb dX5_spells_38 rfl (lv_at hl 1 rfl) ?_
          refine lv_iload_n hx hb dX5_spells_39 rfl (lv_at hl 2 rfl) ?_
          obtain ⟨hi, h⟩ := gdt h
          refine strChar 3 (by decide) F E J (rest := [.int p4]) hl.1 (Nat.le_of_ble_eq_true rfl) ⟨rfl, rfl, Nat.le_of_ble_eq_true rfl, Nat.le_of_ble_eq_true rfl⟩ (inbt hi) dX5_spells_40 (fun H locs J => ?_)
          refine lv_icmp_eq (tgt := 48) hx hb dX5_spells_43 (by decide) (fun c5 => ?_) (fun c5 => ?_)
          · have h := itp c5 h
            obtain ⟨v6, hv6, h⟩ := obs h
            refine lv_iinc (v := v6) (lv' := [(2, .int v6), (0, .ref (q 4)), (1, .ref (g.2.2.1 3))]) hx hb dX5_spells_48 hl (k := 2) rfl (by rw [← hv6]; rfl) (by decide) rfl (fun ls hl => ?_)
            refine lv_goto (tgt := 20) hx hb dX5_spells_51 (by decide) ?_
            exact ih _ _ h _ _ _ J (lv_sub hl [1, 2, 0] rfl) K_L2 kr_L2
          · have h := itn c5 h
            refine lv_iconst (v := 0) hx hb dX5_spells_46 (by decide) ?_
            obtain rfl := Option.some.inj h
            obtain rfl := kr_L2 _ rfl
            exact ret _ _ _ _ zB0 J dX5_spells_47
    refine T_L2 FU 0 o_L2s ho_L2 _ _ _ J (lv_sub hl [1, 2, 0] rfl) (fun o_L2 eo H locs ls J hl => ?_) (fun x ex => ?_)
    · subst eo
      have h := elimR h
      refine lv_iconst (v := 1) hx hb dX5_spells_54 (by decide) ?_
      obtain rfl := Option.some.inj h
      exact ret _ _ _ _ zB1 J dX5_spells_55
    · subst ex
      exact Option.some.inj (elimL h)
  · have h := itn c1 h
    refine lv_iconst (v := 0) hx hb dX5_spells_16 (by decide) ?_
    obtain rfl := Option.some.inj h
    exact ret _ _ _ _ zB0 J dX5_spells_17
set_option maxHeartbeats 4000000 in
set_option maxRecDepth 100000 in
theorem c_X5_readName {l : Launch} {g : GG} {A : Nat → Prop} {q : Nat → Nat} {x_crowd x_latestFault x_places x_mask x_w_robots x_w_size x_w_nexts x_a_length x_t_length x_t_token x_t_from x_t_value x_t_behind x_r_wants x_r_pairs x_r_sees : Int32} {x_r_row : Int64} {x_b_size x_s_size : Int32} {x_w_names : Nat → Int32} {x_w_goals x_w_links : Nat → Int64} {x_w_linked x_w_ups x_w_downs x_w_next x_a_begun x_t_bytes : Nat → Int32} {x_b_rows : Nat → Int64} {x_b_acts : Nat → Int32} {x_s_rows : Nat → Int64} {x_s_acts : Nat → Int32} (res : Int32 × Int32 × Int32) (h : F_X5_readName x_t_length x_t_from x_t_value x_t_behind x_t_bytes = some res) : Met l yX5_readName (wS yX5_readName cX5_readName 1 none) rm_X5_readName (va_Pc [.ref (q 4)] (VB g A (XW g q x_crowd x_latestFault x_places x_mask x_w_robots x_w_size x_w_nexts x_a_length x_t_length x_t_token x_t_from x_t_value x_t_behind x_r_wants x_r_pairs x_r_sees x_r_row x_b_size x_s_size x_w_names x_w_goals x_w_links x_w_linked x_w_ups x_w_downs x_w_next x_a_begun x_t_bytes x_b_rows x_b_acts x_s_rows x_s_acts))) (va_Qv (fun (_ : Unit) => True) (fun _ => VB g A (XW g q x_crowd x_latestFault x_places x_mask x_w_robots x_w_size x_w_nexts x_a_length x_t_length res.1 x_t_from res.2.1 res.2.2 x_r_wants x_r_pairs x_r_sees x_r_row x_b_size x_s_size x_w_names x_w_goals x_w_links x_w_linked x_w_ups x_w_downs x_w_next x_a_begun x_t_bytes x_b_rows x_b_acts x_s_rows x_s_acts)) A) 0 0 A := by
  unfold F_X5_readName at h
  refine MetV (own := RX5) (ws' := (XW g q x_crowd x_latestFault x_places x_mask x_w_robots x_w_size x_w_nexts x_a_length x_t_length res.1 x_t_from res.2.1 res.2.2 x_r_wants x_r_pairs x_r_sees x_r_row x_b_size x_s_size x_w_names x_w_goals x_w_links x_w_linked x_w_ups x_w_downs x_w_next x_a_begun x_t_bytes x_b_rows x_b_acts x_s_rows x_s_acts)) (by decide) rfl (Nat.le_of_ble_eq_true rfl) ?_
  intro p e s m args below meth c Q F E ret ls J hl
  have hx := F.1
  have hb := F.2.1
  have hl : lv_has ls 1 [(0, .ref (q 4))] := hl
  obtain ⟨o_L1, ho_L1, h⟩ := ob h
  have T_L1 : ∀ (f : Nat) (x_t_behind_L1 : Int32) (o_L1 : Int32), F_X5_readName_L1 x_t_length x_t_bytes f x_t_behind_L1 = some o_L1 → ∀ (H : Heap) (locs : List Loc) (ls : Array Slot), VJ g A s.heap (XW g q x_crowd x_latestFault x_places x_mask x_w_robots x_w_size x_w_nexts x_a_length x_t_length x_t_token x_t_from x_t_value x_t_behind_L1 x_r_wants x_r_pairs x_r_sees x_r_row x_b_size x_s_size x_w_names x_w_goals x_w_links x_w_linked x_w_ups x_w_downs x_w_next x_a_begun x_t_bytes x_b_rows x_b_acts x_s_rows x_s_acts) H locs → lv_has ls 1 [(0, .ref (q 4))] → (∀ (H : Heap) (locs : List Loc) (ls : Array Slot), VJ g A s.heap (XW g q x_crowd x_latestFault x_places x_mask x_w_robots x_w_size x_w_nexts x_a_length x_t_length x_t_token x_t_from x_t_value o_L1 x_r_wants x_r_pairs x_r_sees x_r_row x_b_size x_s_size x_w_names x_w_goals x_w_links x_w_linked x_w_ups x_w_downs x_w_next x_a_begun x_t_bytes x_b_rows x_b_acts x_s_rows x_s_acts) H locs → lv_has ls 1 [(0, .ref (q 4))] → W p l e rm_X5_readName s m args below meth c H locs 0 0 Q (F0 m 38 ls [])) → W p l e rm_X5_readName s m args below meth c H locs 0 0 Q (F0 m 0 ls []) := by
    clear h ho_L1 hl J
    intro f
    induction f with
    | zero => intro x_t_behind_L1 o_L1 h; exact absurd h (by simp [F_X5_readName_L1])
    | succ f ih =>
      intro x_t_behind_L1 o_L1 h H locs ls J hl K_L1
      rw [F_X5_readName_L1.eq_2] at h
      refine lv_aload_n hx hb dX5_readName_0 rfl (lv_at hl 0 rfl) ?_
      refine xg_4_5 F E J fl_X5_28 dX5_readName_1 ?_
      refine lv_aload_n hx hb dX5_readName_4 rfl (lv_at hl 0 rfl) ?_
      refine xg_4_1 F E J fl_X5_15 dX5_readName_5 ?_
      refine lv_icmp_ge (tgt := 38) hx hb dX5_readName_8 (by decide) (fun c2 => ?_) (fun c2 => ?_)
      · have h := itp c2 h
        obtain rfl := Option.some.inj h
        exact K_L1 _ _ _ J (lv_sub hl [0] rfl)
      · have h := itn c2 h
        refine lv_aload_n hx hb dX5_readName_11 rfl (lv_at hl 0 rfl) ?_
        refine lv_aload_n hx hb dX5_readName_12 rfl (lv_at hl 0 rfl) ?_
        refine xg_4_5 F E J fl_X5_28 dX5_readName_13 ?_
        obtain ⟨p3, hp3, h⟩ := ob h
        refine onI (runV (As := [.int x_t_behind_L1]) (rest := []) F E J (c_X5_byteAt x_t_behind_L1 p3 hp3) cw_X5_34 ⟨rfl, rfl, Nat.le_of_ble_eq_true rfl, Nat.le_of_ble_eq_true rfl⟩ rcX4 rfl hl.1 rfl (Nat.le_of_ble_eq_true rfl) dX5_readName_16) J (fun H locs J => ?_)
        obtain ⟨p4, hp4, h⟩ := ob h
        refine onZ (runS (As := [.int p3]) (rest := []) F E J (c_X5_isLetter p3 p4 hp4) cw_X5_48 ⟨rfl, rfl, Nat.le_of_ble_eq_true rfl, Nat.le_of_ble_eq_true rfl⟩ rfl hl.1 rfl (Nat.le_of_ble_eq_true rfl) dX5_readName_19) J (fun hzbp4 H locs J => ?_)
        refine lv_if_eq (tgt := 38) hx hb dX5_readName_22 (by decide) (fun c5 => ?_) (fun c5 => ?_)
        · have h := itp c5 h
          obtain rfl := Option.some.inj h
          exact K_L1 _ _ _ J (lv_sub hl [0] rfl)
        · have h := itn c5 h
          refine lv_aload_n hx hb dX5_readName_25 rfl (lv_at hl 0 rfl) ?_
          refine lv_dup hx hb dX5_readName_26 rfl ?_
          refine xg_4_5 F E J fl_X5_28 dX5_readName_27 ?_
          refine lv_iconst (v := 1) hx hb dX5_readName_30 (by decide) ?_
          refine lv_iadd hx hb dX5_readName_31 ?_
          obtain ⟨v6, hv6, h⟩ := obs h
          refine nmI hv6 ?_
          refine xp_4_5 F E J fl_X5_28 dX5_readName_32 (fun H locs J => ?_)
          refine lv_goto (tgt := 0) hx hb dX5_readName_35 (by decide) ?_
          exact ih _ _ h _ _ _ J (lv_sub hl [0] rfl) K_L1
  refine T_L1 FU x_t_behind o_L1 ho_L1 _ _ _ J (lv_sub hl [0] rfl) (fun H locs ls J hl => ?_)
  refine lv_aload_n hx hb dX5_readName_38 rfl (lv_at hl 0 rfl) ?_
  refine lv_bipush (v := 6) hx hb dX5_readName_39 (by decide) ?_
  refine xp_4_2 F E J fl_X5_19 dX5_readName_41 (fun H locs J => ?_)
  refine lv_aload_n hx hb dX5_readName_44 rfl (lv_at hl 0 rfl) ?_
  refine va_ldcS hx hb F.2.2.2.1 (E.2.2.2.1 0 (by decide)) dX5_readName_45 ?_
  obtain ⟨p7, hp7, h⟩ := ob h
  refine onZ (runV (As := [.ref (g.2.2.1 0)]) (rest := []) F E J (c_X5_spells_0  p7 hp7) cw_X5_56 ⟨rfl, rfl, Nat.le_of_ble_eq_true rfl, Nat.le_of_ble_eq_true rfl⟩ rcX4 rfl hl.1 rfl (Nat.le_of_ble_eq_true rfl) dX5_readName_47) J (fun hzbp7 H locs J => ?_)
  refine lv_if_eq (tgt := 61) hx hb dX5_readName_50 (by decide) (fun c8 => ?_) (fun c8 => ?_)
  · have h := itp c8 h
    refine lv_aload_n hx hb dX5_readName_61 rfl (lv_at hl 0 rfl) ?_
    refine va_ldcS hx hb F.2.2.2.1 (E.2.2.2.1 1 (by decide)) dX5_readName_62 ?_
    obtain ⟨p9, hp9, h⟩ := ob h
    refine onZ (runV (As := [.ref (g.2.2.1 1)]) (rest := []) F E J (c_X5_spells_1  p9 hp9) cw_X5_56 ⟨rfl, rfl, Nat.le_of_ble_eq_true rfl, Nat.le_of_ble_eq_true rfl⟩ rcX4 rfl hl.1 rfl (Nat.le_of_ble_eq_true rfl) dX5_readName_64) J (fun hzbp9 H locs J => ?_)
    refine lv_if_eq (tgt := 78) hx hb dX5_readName_67 (by decide) (fun c10 => ?_) (fun c10 => ?_)
    · have h := itp c10 h
      refine lv_aload_n hx hb dX5_readName_78 rfl (lv_at hl 0 rfl) ?_
      refine va_ldcS hx hb F.2.2.2.1 (E.2.2.2.1 2 (by decide)) dX5_readName_79 ?_
      obtain ⟨p11, hp11, h⟩ := ob h
      refine onZ (runV (As := [.ref (g.2.2.1 2)]) (rest := []) F E J (c_X5_spells_2  p11 hp11) cw_X5_56 ⟨rfl, rfl, Nat.le_of_ble_eq_true rfl, Nat.le_of_ble_eq_true rfl⟩ rcX4 rfl hl.1 rfl (Nat.le_of_ble_eq_true rfl) dX5_readName_81) J (fun hzbp11 H locs J => ?_)
      refine lv_if_eq (tgt := 95) hx hb dX5_readName_84 (by decide) (fun c12 => ?_) (fun c12 => ?_)
      · have h := itp c12 h
        refine lv_aload_n hx hb dX5_readName_95 rfl (lv_at hl 0 rfl) ?_
        refine va_ldcS hx hb F.2.2.2.1 (E.2.2.2.1 3 (by decide)) dX5_readName_96 ?_
        obtain ⟨p13, hp13, h⟩ := ob h
        refine onZ (runV (As := [.ref (g.2.2.1 3)]) (rest := []) F E J (c_X5_spells_3  p13 hp13) cw_X5_56 ⟨rfl, rfl, Nat.le_of_ble_eq_true rfl, Nat.le_of_ble_eq_true rfl⟩ rcX4 rfl hl.1 rfl (Nat.le_of_ble_eq_true rfl) dX5_readName_98) J (fun hzbp13 H locs J => ?_)
        refine lv_if_eq (tgt := 112) hx hb dX5_readName_101 (by decide) (fun c14 => ?_) (fun c14 => ?_)
        · have h := itp c14 h
          refine lv_aload_n hx hb dX5_readName_112 rfl (lv_at hl 0 rfl) ?_
          refine lv_iconst (v := 0) hx hb dX5_readName_113 (by decide) ?_
          refine xp_4_2 F E J fl_X5_19 dX5_readName_114 (fun H locs J => ?_)
          obtain rfl := Option.some.inj h
          exact ret _ _ _ _ J dX5_readName_117
        · have h := itn c14 h
          refine lv_aload_n hx hb dX5_readName_104 rfl (lv_at hl 0 rfl) ?_
          refine lv_iconst (v := 0) hx hb dX5_readName_105 (by decide) ?_
          refine xp_4_4 F E J fl_X5_25 dX5_readName_106 (fun H locs J => ?_)
          refine lv_goto (tgt := 117) hx hb dX5_readName_109 (by decide) ?_
          obtain rfl := Option.some.inj h
          exact ret _ _ _ _ J dX5_readName_117
      · have h := itn c12 h
        refine lv_aload_n hx hb dX5_readName_87 rfl (lv_at hl 0 rfl) ?_
        refine lv_iconst (v := 2) hx hb dX5_readName_88 (by decide) ?_
        refine xp_4_4 F E J fl_X5_25 dX5_readName_89 (fun H locs J => ?_)
        refine lv_goto (tgt := 117) hx hb dX5_readName_92 (by decide) ?_
        obtain rfl := Option.some.inj h
        exact ret _ _ _ _ J dX5_readName_117
    · have h := itn c10 h
      refine lv_aload_n hx hb dX5_readName_70 rfl (lv_at hl 0 rfl) ?_
      refine lv_iconst (v := 1) hx hb dX5_readName_71 (by decide) ?_
      refine xp_4_4 F E J fl_X5_25 dX5_readName_72 (fun H locs J => ?_)
      refine lv_goto (tgt := 117) hx hb dX5_readName_75 (by decide) ?_
      obtain rfl := Option.some.inj h
      exact ret _ _ _ _ J dX5_readName_117
  · have h := itn c8 h
    refine lv_aload_n hx hb dX5_readName_53 rfl (lv_at hl 0 rfl) ?_
    refine lv_iconst (v := 5) hx hb dX5_readName_54 (by decide) ?_
    refine xp_4_2 F E J fl_X5_19 dX5_readName_55 (fun H locs J => ?_)
    refine lv_goto (tgt := 117) hx hb dX5_readName_58 (by decide) ?_
    obtain rfl := Option.some.inj h
    exact ret _ _ _ _ J dX5_readName_117
set_option maxHeartbeats 4000000 in
set_option maxRecDepth 100000 in
theorem c_X5_readToken {l : Launch} {g : GG} {A : Nat → Prop} {q : Nat → Nat} {x_crowd x_latestFault x_places x_mask x_w_robots x_w_size x_w_nexts x_a_length x_t_length x_t_token x_t_from x_t_value x_t_behind x_r_wants x_r_pairs x_r_sees : Int32} {x_r_row : Int64} {x_b_size x_s_size : Int32} {x_w_names : Nat → Int32} {x_w_goals x_w_links : Nat → Int64} {x_w_linked x_w_ups x_w_downs x_w_next x_a_begun x_t_bytes : Nat → Int32} {x_b_rows : Nat → Int64} {x_b_acts : Nat → Int32} {x_s_rows : Nat → Int64} {x_s_acts : Nat → Int32} (res : Int32 × Int32 × Int32 × Int32) (h : F_X5_readToken x_t_length x_t_behind x_t_bytes = some res) : Met l yX5_readToken (wS yX5_readToken cX5_readToken 2 none) rm_X5_readToken (va_Pc [.ref (q 4)] (VB g A (XW g q x_crowd x_latestFault x_places x_mask x_w_robots x_w_size x_w_nexts x_a_length x_t_length x_t_token x_t_from x_t_value x_t_behind x_r_wants x_r_pairs x_r_sees x_r_row x_b_size x_s_size x_w_names x_w_goals x_w_links x_w_linked x_w_ups x_w_downs x_w_next x_a_begun x_t_bytes x_b_rows x_b_acts x_s_rows x_s_acts))) (va_Qv (fun (_ : Unit) => True) (fun _ => VB g A (XW g q x_crowd x_latestFault x_places x_mask x_w_robots x_w_size x_w_nexts x_a_length x_t_length res.1 res.2.1 res.2.2.1 res.2.2.2 x_r_wants x_r_pairs x_r_sees x_r_row x_b_size x_s_size x_w_names x_w_goals x_w_links x_w_linked x_w_ups x_w_downs x_w_next x_a_begun x_t_bytes x_b_rows x_b_acts x_s_rows x_s_acts)) A) 0 0 A := by
  unfold F_X5_readToken at h
  refine MetV (own := RX5) (ws' := (XW g q x_crowd x_latestFault x_places x_mask x_w_robots x_w_size x_w_nexts x_a_length x_t_length res.1 res.2.1 res.2.2.1 res.2.2.2 x_r_wants x_r_pairs x_r_sees x_r_row x_b_size x_s_size x_w_names x_w_goals x_w_links x_w_linked x_w_ups x_w_downs x_w_next x_a_begun x_t_bytes x_b_rows x_b_acts x_s_rows x_s_acts)) (by decide) rfl (Nat.le_of_ble_eq_true rfl) ?_
  intro p e s m args below meth c Q F E ret ls J hl
  have hx := F.1
  have hb := F.2.1
  have hl : lv_has ls 2 [(0, .ref (q 4))] := hl
  refine lv_aload_n hx hb dX5_readToken_0 rfl (lv_at hl 0 rfl) ?_
  refine lv_aload_n hx hb dX5_readToken_1 rfl (lv_at hl 0 rfl) ?_
  refine xg_4_5 F E J fl_X5_28 dX5_readToken_2 ?_
  refine xp_4_3 F E J fl_X5_22 dX5_readToken_5 (fun H locs J => ?_)
  obtain ⟨o_L1, ho_L1, h⟩ := ob h
  have T_L1 : ∀ (f : Nat) (x_t_from_L1 : Int32) (o_L1 : Int32), F_X5_readToken_L1 x_t_length x_t_bytes f x_t_from_L1 = some o_L1 → ∀ (H : Heap) (locs : List Loc) (ls : Array Slot), VJ g A s.heap (XW g q x_crowd x_latestFault x_places x_mask x_w_robots x_w_size x_w_nexts x_a_length x_t_length x_t_token x_t_from_L1 x_t_value x_t_behind x_r_wants x_r_pairs x_r_sees x_r_row x_b_size x_s_size x_w_names x_w_goals x_w_links x_w_linked x_w_ups x_w_downs x_w_next x_a_begun x_t_bytes x_b_rows x_b_acts x_s_rows x_s_acts) H locs → lv_has ls 2 [(0, .ref (q 4))] → (∀ (H : Heap) (locs : List Loc) (ls : Array Slot), VJ g A s.heap (XW g q x_crowd x_latestFault x_places x_mask x_w_robots x_w_size x_w_nexts x_a_length x_t_length x_t_token o_L1 x_t_value x_t_behind x_r_wants x_r_pairs x_r_sees x_r_row x_b_size x_s_size x_w_names x_w_goals x_w_links x_w_linked x_w_ups x_w_downs x_w_next x_a_begun x_t_bytes x_b_rows x_b_acts x_s_rows x_s_acts) H locs → lv_has ls 2 [(0, .ref (q 4))] → W p l e rm_X5_readToken s m args below meth c H locs 0 0 Q (F0 m 46 ls [])) → W p l e rm_X5_readToken s m args below meth c H locs 0 0 Q (F0 m 8 ls []) := by
    clear h ho_L1 hl J
    intro f
    induction f with
    | zero => intro x_t_from_L1 o_L1 h; exact absurd h (by simp [F_X5_readToken_L1])
    | succ f ih =>
      intro x_t_from_L1 o_L1 h H locs ls J hl K_L1
      rw [F_X5_readToken_L1.eq_2] at h
      refine lv_aload_n hx hb dX5_readToken_8 rfl (lv_at hl 0 rfl) ?_
      refine xg_4_3 F E J fl_X5_22 dX5_readToken_9 ?_
      refine lv_aload_n hx hb dX5_readToken_12 rfl (lv_at hl 0 rfl) ?_
      refine xg_4_1 F E J fl_X5_15 dX5_readToken_13 ?_
      refine lv_icmp_ge (tgt := 46) hx hb dX5_readToken_16 (by decide) (fun c2 => ?_) (fun c2 => ?_)
      · have h := itp c2 h
        obtain rfl := Option.some.inj h
        exact K_L1 _ _ _ J (lv_sub hl [0] rfl)
      · have h := itn c2 h
        refine lv_aload_n hx hb dX5_readToken_19 rfl (lv_at hl 0 rfl) ?_
        refine lv_aload_n hx hb dX5_readToken_20 rfl (lv_at hl 0 rfl) ?_
        refine xg_4_3 F E J fl_X5_22 dX5_readToken_21 ?_
        obtain ⟨p3, hp3, h⟩ := ob h
        refine onI (runV (As := [.int x_t_from_L1]) (rest := []) F E J (c_X5_byteAt x_t_from_L1 p3 hp3) cw_X5_34 ⟨rfl, rfl, Nat.le_of_ble_eq_true rfl, Nat.le_of_ble_eq_true rfl⟩ rcX4 rfl hl.1 rfl (Nat.le_of_ble_eq_true rfl) dX5_readToken_24) J (fun H locs J => ?_)
        obtain ⟨p4, hp4, h⟩ := ob h
        refine onZ (runS (As := [.int p3]) (rest := []) F E J (c_X5_isBlank p3 p4 hp4) cw_X5_38 ⟨rfl, rfl, Nat.le_of_ble_eq_true rfl, Nat.le_of_ble_eq_true rfl⟩ rfl hl.1 rfl (Nat.le_of_ble_eq_true rfl) dX5_readToken_27) J (fun hzbp4 H locs J => ?_)
        refine lv_if_eq (tgt := 46) hx hb dX5_readToken_30 (by decide) (fun c5 => ?_) (fun c5 => ?_)
        · have h := itp c5 h
          obtain rfl := Option.some.inj h
          exact K_L1 _ _ _ J (lv_sub hl [0] rfl)
        · have h := itn c5 h
          refine lv_aload_n hx hb dX5_readToken_33 rfl (lv_at hl 0 rfl) ?_
          refine lv_dup hx hb dX5_readToken_34 rfl ?_
          refine xg_4_3 F E J fl_X5_22 dX5_readToken_35 ?_
          refine lv_iconst (v := 1) hx hb dX5_readToken_38 (by decide) ?_
          refine lv_iadd hx hb dX5_readToken_39 ?_
          obtain ⟨v6, hv6, h⟩ := obs h
          refine nmI hv6 ?_
          refine xp_4_3 F E J fl_X5_22 dX5_readToken_40 (fun H locs J => ?_)
          refine lv_goto (tgt := 8) hx hb dX5_readToken_43 (by decide) ?_
          exact ih _ _ h _ _ _ J (lv_sub hl [0] rfl) K_L1
  refine T_L1 FU x_t_behind o_L1 ho_L1 _ _ _ J (lv_sub hl [0] rfl) (fun H locs ls J hl => ?_)
  refine lv_aload_n hx hb dX5_readToken_46 rfl (lv_at hl 0 rfl) ?_
  refine lv_aload_n hx hb dX5_readToken_47 rfl (lv_at hl 0 rfl) ?_
  refine xg_4_3 F E J fl_X5_22 dX5_readToken_48 ?_
  refine lv_iconst (v := 1) hx hb dX5_readToken_51 (by decide) ?_
  refine lv_iadd hx hb dX5_readToken_52 ?_
  obtain ⟨v7, hv7, h⟩ := obs h
  refine nmI hv7 ?_
  refine xp_4_5 F E J fl_X5_28 dX5_readToken_53 (fun H locs J => ?_)
  refine lv_aload_n hx hb dX5_readToken_56 rfl (lv_at hl 0 rfl) ?_
  refine lv_iconst (v := 0) hx hb dX5_readToken_57 (by decide) ?_
  refine xp_4_4 F E J fl_X5_25 dX5_readToken_58 (fun H locs J => ?_)
  refine lv_aload_n hx hb dX5_readToken_61 rfl (lv_at hl 0 rfl) ?_
  refine lv_aload_n hx hb dX5_readToken_62 rfl (lv_at hl 0 rfl) ?_
  refine xg_4_3 F E J fl_X5_22 dX5_readToken_63 ?_
  obtain ⟨p8, hp8, h⟩ := ob h
  refine onI (runV (As := [.int o_L1]) (rest := []) F E J (c_X5_byteAt o_L1 p8 hp8) cw_X5_34 ⟨rfl, rfl, Nat.le_of_ble_eq_true rfl, Nat.le_of_ble_eq_true rfl⟩ rcX4 rfl hl.1 rfl (Nat.le_of_ble_eq_true rfl) dX5_readToken_66) J (fun H locs J => ?_)
  refine lv_istore_n (lv' := [(1, .int p8), (0, .ref (q 4))]) hx hb dX5_readToken_69 rfl hl (by decide) rfl (fun ls hl => ?_)
  refine lv_aload_n hx hb dX5_readToken_70 rfl (lv_at hl 1 rfl) ?_
  refine xg_4_3 F E J fl_X5_22 dX5_readToken_71 ?_
  refine lv_aload_n hx hb dX5_readToken_74 rfl (lv_at hl 1 rfl) ?_
  refine xg_4_1 F E J fl_X5_15 dX5_readToken_75 ?_
  refine lv_icmp_lt (tgt := 97) hx hb dX5_readToken_78 (by decide) (fun c9 => ?_) (fun c9 => ?_)
  · have h := itp c9 h
    refine lv_iload_n hx hb dX5_readToken_97 rfl (lv_at hl 0 rfl) ?_
    obtain ⟨p10, hp10, h⟩ := ob h
    refine onZ (runS (As := [.int p8]) (rest := []) F E J (c_X5_isFigure p8 p10 hp10) cw_X5_42 ⟨rfl, rfl, Nat.le_of_ble_eq_true rfl, Nat.le_of_ble_eq_true rfl⟩ rfl hl.1 rfl (Nat.le_of_ble_eq_true rfl) dX5_readToken_98) J (fun hzbp10 H locs J => ?_)
    refine lv_if_eq (tgt := 111) hx hb dX5_readToken_101 (by decide) (fun c11 => ?_) (fun c11 => ?_)
    · have h := itp c11 h
      refine lv_iload_n hx hb dX5_readToken_111 rfl (lv_at hl 0 rfl) ?_
      obtain ⟨p12, hp12, h⟩ := ob h
      refine onZ (runS (As := [.int p8]) (rest := []) F E J (c_X5_isLetter p8 p12 hp12) cw_X5_48 ⟨rfl, rfl, Nat.le_of_ble_eq_true rfl, Nat.le_of_ble_eq_true rfl⟩ rfl hl.1 rfl (Nat.le_of_ble_eq_true rfl) dX5_readToken_112) J (fun hzbp12 H locs J => ?_)
      refine lv_if_eq (tgt := 125) hx hb dX5_readToken_115 (by decide) (fun c13 => ?_) (fun c13 => ?_)
      · have h := itp c13 h
        refine lv_aload_n hx hb dX5_readToken_125 rfl (lv_at hl 1 rfl) ?_
        refine lv_iload_n hx hb dX5_readToken_126 rfl (lv_at hl 0 rfl) ?_
        refine lv_bipush (v := 44) hx hb dX5_readToken_127 (by decide) ?_
        refine lv_icmp_ne (tgt := 136) hx hb dX5_readToken_129 (by decide) (fun c14 => ?_) (fun c14 => ?_)
        · have h := itn c14 h
          refine lv_iload_n hx hb dX5_readToken_136 rfl (lv_at hl 0 rfl) ?_
          refine lv_bipush (v := 59) hx hb dX5_readToken_137 (by decide) ?_
          refine lv_icmp_ne (tgt := 146) hx hb dX5_readToken_139 (by decide) (fun c15 => ?_) (fun c15 => ?_)
          · have h := itn c15 h
            refine lv_iconst (v := 0) hx hb dX5_readToken_146 (by decide) ?_
            refine xp_4_2 F E J fl_X5_19 dX5_readToken_147 (fun H locs J => ?_)
            obtain rfl := Option.some.inj h
            exact ret _ _ _ _ J dX5_readToken_150
          · have h := itp c15 h
            refine lv_iconst (v := 4) hx hb dX5_readToken_142 (by decide) ?_
            refine lv_goto (tgt := 147) hx hb dX5_readToken_143 (by decide) ?_
            refine xp_4_2 F E J fl_X5_19 dX5_readToken_147 (fun H locs J => ?_)
            obtain rfl := Option.some.inj h
            exact ret _ _ _ _ J dX5_readToken_150
        · have h := itp c14 h
          refine lv_iconst (v := 3) hx hb dX5_readToken_132 (by decide) ?_
          refine lv_goto (tgt := 147) hx hb dX5_readToken_133 (by decide) ?_
          refine xp_4_2 F E J fl_X5_19 dX5_readToken_147 (fun H locs J => ?_)
          obtain rfl := Option.some.inj h
          exact ret _ _ _ _ J dX5_readToken_150
      · have h := itn c13 h
        refine lv_aload_n hx hb dX5_readToken_118 rfl (lv_at hl 1 rfl) ?_
        obtain ⟨p16, hp16, h⟩ := ob h
        refine onV (runV (As := []) (rest := []) F E J (c_X5_readName  p16 hp16) cw_X5_51 ⟨rfl, rfl, Nat.le_of_ble_eq_true rfl, Nat.le_of_ble_eq_true rfl⟩ rcX4 rfl hl.1 rfl (Nat.le_of_ble_eq_true rfl) dX5_readToken_119) J (fun H locs J => ?_)
        refine lv_goto (tgt := 150) hx hb dX5_readToken_122 (by decide) ?_
        obtain rfl := Option.some.inj h
        exact ret _ _ _ _ J dX5_readToken_150
    · have h := itn c11 h
      refine lv_aload_n hx hb dX5_readToken_104 rfl (lv_at hl 1 rfl) ?_
      obtain ⟨p17, hp17, h⟩ := ob h
      refine onV (runV (As := []) (rest := []) F E J (c_X5_readNumber  p17 hp17) cw_X5_45 ⟨rfl, rfl, Nat.le_of_ble_eq_true rfl, Nat.le_of_ble_eq_true rfl⟩ rcX4 rfl hl.1 rfl (Nat.le_of_ble_eq_true rfl) dX5_readToken_105) J (fun H locs J => ?_)
      refine lv_goto (tgt := 150) hx hb dX5_readToken_108 (by decide) ?_
      obtain rfl := Option.some.inj h
      exact ret _ _ _ _ J dX5_readToken_150
  · have h := itn c9 h
    refine lv_aload_n hx hb dX5_readToken_81 rfl (lv_at hl 1 rfl) ?_
    refine lv_aload_n hx hb dX5_readToken_82 rfl (lv_at hl 1 rfl) ?_
    refine xg_4_1 F E J fl_X5_15 dX5_readToken_83 ?_
    refine xp_4_5 F E J fl_X5_28 dX5_readToken_86 (fun H locs J => ?_)
    refine lv_aload_n hx hb dX5_readToken_89 rfl (lv_at hl 1 rfl) ?_
    refine lv_iconst (v := 1) hx hb dX5_readToken_90 (by decide) ?_
    refine xp_4_2 F E J fl_X5_19 dX5_readToken_91 (fun H locs J => ?_)
    refine lv_goto (tgt := 150) hx hb dX5_readToken_94 (by decide) ?_
    obtain rfl := Option.some.inj h
    exact ret _ _ _ _ J dX5_readToken_150
set_option maxHeartbeats 4000000 in
set_option maxRecDepth 100000 in
theorem c_X2_read {l : Launch} {g : GG} {A : Nat → Prop} {q : Nat → Nat} {x_crowd x_latestFault x_places x_mask x_w_robots x_w_size x_w_nexts x_a_length x_t_length x_t_token x_t_from x_t_value x_t_behind x_r_wants x_r_pairs x_r_sees : Int32} {x_r_row : Int64} {x_b_size x_s_size : Int32} {x_w_names : Nat → Int32} {x_w_goals x_w_links : Nat → Int64} {x_w_linked x_w_ups x_w_downs x_w_next x_a_begun x_t_bytes : Nat → Int32} {x_b_rows : Nat → Int64} {x_b_acts : Nat → Int32} {x_s_rows : Nat → Int64} {x_s_acts : Nat → Int32} (res : Int32 × Int32 × Int32 × Int32 × Int32 × Int32 × Int32 × Int32 × Int64 × Int32 × (Nat → Int64) × (Nat → Int32)) (h : F_X2_read x_t_length x_r_pairs x_r_row x_t_bytes x_s_rows x_s_acts = some res) : Met l yX2_read (wS yX2_read cX2_read 4 (some .int)) rm_X2_read (va_Pc [.ref (q 5), .ref (q 7)] (VB g A (XW g q x_crowd x_latestFault x_places x_mask x_w_robots x_w_size x_w_nexts x_a_length x_t_length x_t_token x_t_from x_t_value x_t_behind x_r_wants x_r_pairs x_r_sees x_r_row x_b_size x_s_size x_w_names x_w_goals x_w_links x_w_linked x_w_ups x_w_downs x_w_next x_a_begun x_t_bytes x_b_rows x_b_acts x_s_rows x_s_acts))) (va_Qi (fun r (_ : Unit) => r = res.1) (fun _ => VB g A (XW g q x_crowd x_latestFault x_places x_mask x_w_robots x_w_size x_w_nexts x_a_length x_t_length res.2.1 res.2.2.1 res.2.2.2.1 res.2.2.2.2.1 res.2.2.2.2.2.1 res.2.2.2.2.2.2.1 res.2.2.2.2.2.2.2.1 res.2.2.2.2.2.2.2.2.1 x_b_size res.2.2.2.2.2.2.2.2.2.1 x_w_names x_w_goals x_w_links x_w_linked x_w_ups x_w_downs x_w_next x_a_begun x_t_bytes x_b_rows x_b_acts res.2.2.2.2.2.2.2.2.2.2.1 res.2.2.2.2.2.2.2.2.2.2.2)) A) 0 0 A := by
  unfold F_X2_read at h
  refine MetI (res := res.1) (own := RX2) (ws' := (XW g q x_crowd x_latestFault x_places x_mask x_w_robots x_w_size x_w_nexts x_a_length x_t_length res.2.1 res.2.2.1 res.2.2.2.1 res.2.2.2.2.1 res.2.2.2.2.2.1 res.2.2.2.2.2.2.1 res.2.2.2.2.2.2.2.1 res.2.2.2.2.2.2.2.2.1 x_b_size res.2.2.2.2.2.2.2.2.2.1 x_w_names x_w_goals x_w_links x_w_linked x_w_ups x_w_downs x_w_next x_a_begun x_t_bytes x_b_rows x_b_acts res.2.2.2.2.2.2.2.2.2.2.1 res.2.2.2.2.2.2.2.2.2.2.2)) (by decide) rfl (Nat.le_of_ble_eq_true rfl) ?_
  intro p e s m args below meth c Q F E ret ls J hl
  have hx := F.1
  have hb := F.2.1
  have hl : lv_has ls 4 [(0, .ref (q 5)), (1, .ref (q 7))] := hl
  refine lv_aload_n hx hb dX2_read_0 rfl (lv_at hl 1 rfl) ?_
  obtain ⟨p1, hp1, h⟩ := ob h
  refine onV (runV (As := []) (rest := []) F E J (c_X1_clear_s  p1 hp1) cw_X2_29 ⟨rfl, rfl, Nat.le_of_ble_eq_true rfl, Nat.le_of_ble_eq_true rfl⟩ rcX7 rfl hl.1 rfl (Nat.le_of_ble_eq_true rfl) dX2_read_1) J (fun H locs J => ?_)
  refine lv_aload_n hx hb dX2_read_4 rfl (lv_at hl 0 rfl) ?_
  refine xg_5_0 F E J fl_X2_25 dX2_read_5 ?_
  obtain ⟨p2, hp2, h⟩ := ob h
  refine onV (runV (As := []) (rest := []) F E J (c_X5_rewind  p2 hp2) cw_X2_34 ⟨rfl, rfl, Nat.le_of_ble_eq_true rfl, Nat.le_of_ble_eq_true rfl⟩ rcX4 rfl hl.1 rfl (Nat.le_of_ble_eq_true rfl) dX2_read_8) J (fun H locs J => ?_)
  refine lv_aload_n hx hb dX2_read_11 rfl (lv_at hl 0 rfl) ?_
  refine lv_iconst (v := 0) hx hb dX2_read_12 (by decide) ?_
  refine xp_5_1 F E J fl_X2_11 dX2_read_13 (fun H locs J => ?_)
  refine lv_aload_n hx hb dX2_read_16 rfl (lv_at hl 0 rfl) ?_
  refine lv_iconst (v := 0) hx hb dX2_read_17 (by decide) ?_
  refine xp_5_3 F E J fl_X2_18 dX2_read_18 (fun H locs J => ?_)
  refine lv_iconst (v := 0) hx hb dX2_read_21 (by decide) ?_
  refine lv_istore_n (lv' := [(2, .int 0), (0, .ref (q 5)), (1, .ref (q 7))]) hx hb dX2_read_22 rfl hl (by decide) rfl (fun ls hl => ?_)
  obtain ⟨o_L3s, ho_L3, h⟩ := ob h
  have T_L3 : ∀ (f : Nat) (l2_L3 : Int32) (x_t_token_L3 : Int32) (x_t_from_L3 : Int32) (x_t_value_L3 : Int32) (x_t_behind_L3 : Int32) (x_r_wants_L3 : Int32) (x_r_pairs_L3 : Int32) (x_r_sees_L3 : Int32) (x_r_row_L3 : Int64) (x_s_size_L3 : Int32) (x_s_rows_L3 : Nat → Int64) (x_s_acts_L3 : Nat → Int32) (o_L3s : Sum (Int32 × Int32 × Int32 × Int32 × Int32 × Int32 × Int32 × Int32 × Int64 × Int32 × (Nat → Int64) × (Nat → Int32)) (Int32 × Int32 × Int32 × Int32 × Int32 × Int32 × Int32 × Int64 × Int32 × (Nat → Int64) × (Nat → Int32))), F_X2_read_L3 x_t_length x_t_bytes f l2_L3 x_t_token_L3 x_t_from_L3 x_t_value_L3 x_t_behind_L3 x_r_wants_L3 x_r_pairs_L3 x_r_sees_L3 x_r_row_L3 x_s_size_L3 x_s_rows_L3 x_s_acts_L3 = some o_L3s → ∀ (H : Heap) (locs : List Loc) (ls : Array Slot), VJ g A s.heap (XW g q x_crowd x_latestFault x_places x_mask x_w_robots x_w_size x_w_nexts x_a_length x_t_length x_t_token_L3 x_t_from_L3 x_t_value_L3 x_t_behind_L3 x_r_wants_L3 x_r_pairs_L3 x_r_sees_L3 x_r_row_L3 x_b_size x_s_size_L3 x_w_names x_w_goals x_w_links x_w_linked x_w_ups x_w_downs x_w_next x_a_begun x_t_bytes x_b_rows x_b_acts x_s_rows_L3 x_s_acts_L3) H locs → lv_has ls 4 [(0, .ref (q 5)), (1, .ref (q 7)), (2, .int l2_L3)] → (∀ (o_L3 : Int32 × Int32 × Int32 × Int32 × Int32 × Int32 × Int32 × Int64 × Int32 × (Nat → Int64) × (Nat → Int32)), o_L3s = .inr o_L3 → ∀ (H : Heap) (locs : List Loc) (ls : Array Slot), VJ g A s.heap (XW g q x_crowd x_latestFault x_places x_mask x_w_robots x_w_size x_w_nexts x_a_length x_t_length o_L3.1 o_L3.2.1 o_L3.2.2.1 o_L3.2.2.2.1 o_L3.2.2.2.2.1 o_L3.2.2.2.2.2.1 o_L3.2.2.2.2.2.2.1 o_L3.2.2.2.2.2.2.2.1 x_b_size o_L3.2.2.2.2.2.2.2.2.1 x_w_names x_w_goals x_w_links x_w_linked x_w_ups x_w_downs x_w_next x_a_begun x_t_bytes x_b_rows x_b_acts o_L3.2.2.2.2.2.2.2.2.2.1 o_L3.2.2.2.2.2.2.2.2.2.2) H locs → lv_has ls 4 [] → W p l e rm_X2_read s m args below meth c H locs 0 0 Q (F0 m 71 ls [])) → (∀ x, o_L3s = .inl x → x = res) → W p l e rm_X2_read s m args below meth c H locs 0 0 Q (F0 m 23 ls []) := by
    clear h ho_L3 hl J
    intro f
    induction f with
    | zero => intro l2_L3 x_t_token_L3 x_t_from_L3 x_t_value_L3 x_t_behind_L3 x_r_wants_L3 x_r_pairs_L3 x_r_sees_L3 x_r_row_L3 x_s_size_L3 x_s_rows_L3 x_s_acts_L3 o_L3s h; exact absurd h (by simp [F_X2_read_L3])
    | succ f ih =>
      intro l2_L3 x_t_token_L3 x_t_from_L3 x_t_value_L3 x_t_behind_L3 x_r_wants_L3 x_r_pairs_L3 x_r_sees_L3 x_r_row_L3 x_s_size_L3 x_s_rows_L3 x_s_acts_L3 o_L3s h H locs ls J hl K_L3 kr_L3
      rw [F_X2_read_L3.eq_2] at h
      refine lv_iload_n hx hb dX2_read_23 rfl (lv_at hl 2 rfl) ?_
      refine lv_sipush (v := 400) hx hb dX2_read_24 (by decide) ?_
      refine lv_icmp_gt (tgt := 71) hx hb dX2_read_27 (by decide) (fun c4 => ?_) (fun c4 => ?_)
      · have h := itp c4 h
        obtain rfl := Option.some.inj h
        exact K_L3 _ rfl _ _ _ J (lv_sub hl [] rfl)
      · have h := itn c4 h
        refine lv_aload_n hx hb dX2_read_30 rfl (lv_at hl 0 rfl) ?_
        refine xg_5_0 F E J fl_X2_25 dX2_read_31 ?_
        obtain ⟨p5, hp5, h⟩ := ob h
        refine onV (runV (As := []) (rest := []) F E J (c_X5_readToken  p5 hp5) cw_X2_39 ⟨rfl, rfl, Nat.le_of_ble_eq_true rfl, Nat.le_of_ble_eq_true rfl⟩ rcX4 rfl hl.1 rfl (Nat.le_of_ble_eq_true rfl) dX2_read_34) J (fun H locs J => ?_)
        refine lv_aload_n hx hb dX2_read_37 rfl (lv_at hl 0 rfl) ?_
        refine lv_aload_n hx hb dX2_read_38 rfl (lv_at hl 1 rfl) ?_
        obtain ⟨p6, hp6, h⟩ := ob h
        refine onI (runV (As := [.ref (q 7)]) (rest := []) F E J (c_X2_faultAgainst  p6 hp6) cw_X2_42 ⟨rfl, rfl, Nat.le_of_ble_eq_true rfl, Nat.le_of_ble_eq_true rfl⟩ rcX5 rfl hl.1 rfl (Nat.le_of_ble_eq_true rfl) dX2_read_39) J (fun H locs J => ?_)
        refine lv_istore_n (lv' := [(3, .int p6), (0, .ref (q 5)), (1, .ref (q 7)), (2, .int l2_L3)]) hx hb dX2_read_42 rfl hl (by decide) rfl (fun ls hl => ?_)
        refine lv_iload_n hx hb dX2_read_43 rfl (lv_at hl 0 rfl) ?_
        refine lv_if_ne (tgt := 58) hx hb dX2_read_44 (by decide) (fun c7 => ?_) (fun c7 => ?_)
        · have h := itn c7 h
          refine lv_iload_n hx hb dX2_read_58 rfl (lv_at hl 0 rfl) ?_
          obtain rfl := Option.some.inj h
          obtain rfl := kr_L3 _ rfl
          exact ret _ _ _ _ J dX2_read_59
        · have h := itp c7 h
          refine lv_aload_n hx hb dX2_read_47 rfl (lv_at hl 1 rfl) ?_
          refine xg_5_0 F E J fl_X2_25 dX2_read_48 ?_
          refine xgN_4_2 (host := RX7) F E J (by decide +kernel) dX2_read_51 ?_
          refine lv_iconst (v := 1) hx hb dX2_read_54 (by decide) ?_
          refine lv_icmp_ne (tgt := 60) hx hb dX2_read_55 (by decide) (fun c8 => ?_) (fun c8 => ?_)
          · have h := itn c8 h
            refine lv_aload_n hx hb dX2_read_60 rfl (lv_at hl 1 rfl) ?_
            refine lv_aload_n hx hb dX2_read_61 rfl (lv_at hl 2 rfl) ?_
            obtain ⟨p9, hp9, h⟩ := ob h
            refine onV (runV (As := [.ref (q 7)]) (rest := []) F E J (c_X2_take  p9 hp9) cw_X2_49 ⟨rfl, rfl, Nat.le_of_ble_eq_true rfl, Nat.le_of_ble_eq_true rfl⟩ rcX5 rfl hl.1 rfl (Nat.le_of_ble_eq_true rfl) dX2_read_62) J (fun H locs J => ?_)
            obtain ⟨v10, hv10, h⟩ := obs h
            refine lv_iinc (v := v10) (lv' := [(2, .int v10), (3, .int p6), (0, .ref (q 5)), (1, .ref (q 7))]) hx hb dX2_read_65 hl (k := 3) rfl (by rw [← hv10]; rfl) (by decide) rfl (fun ls hl => ?_)
            refine lv_goto (tgt := 23) hx hb dX2_read_68 (by decide) ?_
            exact ih _ _ _ _ _ _ _ _ _ _ _ _ _ h _ _ _ J (lv_sub hl [2, 3, 0] rfl) K_L3 kr_L3
          · have h := itp c8 h
            refine lv_iload_n hx hb dX2_read_58 rfl (lv_at hl 0 rfl) ?_
            obtain rfl := Option.some.inj h
            obtain rfl := kr_L3 _ rfl
            exact ret _ _ _ _ J dX2_read_59
  refine T_L3 FU 0 p2.1 p2.2.1 p2.2.2.1 p2.2.2.2 0 x_r_pairs 0 x_r_row p1 x_s_rows x_s_acts o_L3s ho_L3 _ _ _ J (lv_sub hl [1, 2, 0] rfl) (fun o_L3 eo H locs ls J hl => ?_) (fun x ex => ?_)
  · subst eo
    have h := elimR h
    refine lv_iconst (v := 0) hx hb dX2_read_71 (by decide) ?_
    obtain rfl := Option.some.inj h
    exact ret _ _ _ _ J dX2_read_72
  · subst ex
    exact Option.some.inj (elimL h)
