set_option maxHeartbeats 4000000 in
set_option maxRecDepth 100000 in
theorem c_X8_in {l : Launch} {g : GG} {A : Nat → Prop} {ws : va_W} (a0 : Int64) (a1 : Int64) (a2 : Int64) (res : Int32) (h : F_X8_in a0 a1 a2 = some res) : Met l yX8_in (wS yX8_in cX8_in 6 (some .boolean)) rm_X8_in (va_Pc [.long a0, .long a1, .long a2] (VB g A ws)) (va_Qi (fun r (_ : Unit) => r = res ∧ zB r) (fun _ => VB g A ws) A) 0 0 A := by
  unfold F_X8_in at h
  refine MetZ (res := res) (own := RX8) (ws' := ws) (by decide) rfl (Nat.le_of_ble_eq_true rfl) ?_
  intro p e s m args below meth c Q F E ret ls J hl
  have hx := F.1
  have hb := F.2.1
  have hl : lv_has ls 6 [(0, .long a0), (2, .long a1), (4, .long a2)] := hl
  refine lv_lload_n hx hb dX8_in_0 rfl (lv_at hl 0 rfl) ?_
  refine lv_lload_n hx hb dX8_in_1 rfl (lv_at hl 1 rfl) ?_
  refine W.lcmp hx hb dX8_in_2 ?_
  refine lv_if_lt (tgt := 17) hx hb dX8_in_3 (by decide) (fun c1 => ?_) (fun c1 => ?_)
  · have h := itp c1 h
    refine lv_iconst (v := 0) hx hb dX8_in_17 (by decide) ?_
    obtain rfl := Option.some.inj h
    exact ret _ _ _ _ zB0 J dX8_in_18
  · have h := itn c1 h
    refine lv_lload_n hx hb dX8_in_6 rfl (lv_at hl 0 rfl) ?_
    refine lv_lload hx hb dX8_in_7 (lv_at hl 2 rfl) ?_
    refine W.lcmp hx hb dX8_in_9 ?_
    refine lv_if_gt (tgt := 17) hx hb dX8_in_10 (by decide) (fun c2 => ?_) (fun c2 => ?_)
    · have h := itp c2 h
      refine lv_iconst (v := 0) hx hb dX8_in_17 (by decide) ?_
      obtain rfl := Option.some.inj h
      exact ret _ _ _ _ zB0 J dX8_in_18
    · have h := itn c2 h
      refine lv_iconst (v := 1) hx hb dX8_in_13 (by decide) ?_
      refine lv_goto (tgt := 18) hx hb dX8_in_14 (by decide) ?_
      obtain rfl := Option.some.inj h
      exact ret _ _ _ _ zB1 J dX8_in_18
set_option maxHeartbeats 4000000 in
set_option maxRecDepth 100000 in
theorem c_X8_isPlace {l : Launch} {g : GG} {A : Nat → Prop} {q : Nat → Nat} {m_thrown m_n m_robots m_viewed m_rules m_taped m_latest m_size m_at m_sort m_place m_end m_fault m_faultAt m_read m_crowds m_traced : Int32} {m_here m_hand m_view m_up m_down m_ruleSize m_ruleRow m_ruleDoes m_name m_goes m_tape m_readSize m_readRow m_readDoes m_own m_crowd m_isStep m_isOfGoal m_isMet m_most m_stands m_doesHere m_from m_trace : Nat → Int32} (a0 : Int32) (res : Int32) (h : F_X8_isPlace a0 m_n = some res) : Met l yX8_isPlace (wS yX8_isPlace cX8_isPlace 2 (some .boolean)) rm_X8_isPlace (va_Pc [.ref (q 0), .int a0] (VB g A (MW g q m_thrown m_n m_robots m_viewed m_rules m_taped m_latest m_size m_at m_sort m_place m_end m_fault m_faultAt m_read m_crowds m_traced m_here m_hand m_view m_up m_down m_ruleSize m_ruleRow m_ruleDoes m_name m_goes m_tape m_readSize m_readRow m_readDoes m_own m_crowd m_isStep m_isOfGoal m_isMet m_most m_stands m_doesHere m_from m_trace))) (va_Qi (fun r (_ : Unit) => r = res ∧ zB r) (fun _ => VB g A (MW g q m_thrown m_n m_robots m_viewed m_rules m_taped m_latest m_size m_at m_sort m_place m_end m_fault m_faultAt m_read m_crowds m_traced m_here m_hand m_view m_up m_down m_ruleSize m_ruleRow m_ruleDoes m_name m_goes m_tape m_readSize m_readRow m_readDoes m_own m_crowd m_isStep m_isOfGoal m_isMet m_most m_stands m_doesHere m_from m_trace)) A) 0 0 A := by
  unfold F_X8_isPlace at h
  refine MetZ (res := res) (own := RX8) (ws' := (MW g q m_thrown m_n m_robots m_viewed m_rules m_taped m_latest m_size m_at m_sort m_place m_end m_fault m_faultAt m_read m_crowds m_traced m_here m_hand m_view m_up m_down m_ruleSize m_ruleRow m_ruleDoes m_name m_goes m_tape m_readSize m_readRow m_readDoes m_own m_crowd m_isStep m_isOfGoal m_isMet m_most m_stands m_doesHere m_from m_trace)) (by decide) rfl (Nat.le_of_ble_eq_true rfl) ?_
  intro p e s m args below meth c Q F E ret ls J hl
  have hx := F.1
  have hb := F.2.1
  have hl : lv_has ls 2 [(0, .ref (q 0)), (1, .int a0)] := hl
  refine lv_iload_n hx hb dX8_isPlace_0 rfl (lv_at hl 1 rfl) ?_
  refine lv_i2l (v := (Int32.toInt64 a0)) hx hb dX8_isPlace_1 rfl ?_
  refine lv_lconst (v := 0) hx hb dX8_isPlace_2 (by decide) ?_
  refine lv_aload_n hx hb dX8_isPlace_3 rfl (lv_at hl 0 rfl) ?_
  refine mg_0_1 F E J fl_X8_87 dX8_isPlace_4 ?_
  refine lv_iconst (v := 1) hx hb dX8_isPlace_7 (by decide) ?_
  refine lv_isub hx hb dX8_isPlace_8 ?_
  refine lv_i2l (v := (Int32.toInt64 (m_n - 1))) hx hb dX8_isPlace_9 rfl ?_
  obtain ⟨p1, hp1, h⟩ := ob h
  refine onZ (runS (As := [.long (Int32.toInt64 a0), .long 0, .long (Int32.toInt64 (m_n - 1))]) (rest := []) F E J (c_X8_in (Int32.toInt64 a0) 0 (Int32.toInt64 (m_n - 1)) p1 hp1) cw_X8_90 ⟨rfl, rfl, Nat.le_of_ble_eq_true rfl, Nat.le_of_ble_eq_true rfl⟩ rfl hl.1 rfl (Nat.le_of_ble_eq_true rfl) dX8_isPlace_10) J (fun hzbp1 H locs J => ?_)
  obtain rfl := Option.some.inj h
  exact ret _ _ _ _ (by assumption) J dX8_isPlace_13
set_option maxHeartbeats 4000000 in
set_option maxRecDepth 100000 in
theorem c_X8_robot {l : Launch} {g : GG} {A : Nat → Prop} {q : Nat → Nat} {m_thrown m_n m_robots m_viewed m_rules m_taped m_latest m_size m_at m_sort m_place m_end m_fault m_faultAt m_read m_crowds m_traced : Int32} {m_here m_hand m_view m_up m_down m_ruleSize m_ruleRow m_ruleDoes m_name m_goes m_tape m_readSize m_readRow m_readDoes m_own m_crowd m_isStep m_isOfGoal m_isMet m_most m_stands m_doesHere m_from m_trace : Nat → Int32} (a0 : Int32) (res : Int32 × Int32 × Int32 × (Nat → Int32)) (h : F_X8_robot a0 m_n m_robots m_here = some res) : Met l yX8_robot (wS yX8_robot cX8_robot 2 (some .int)) rm_X8_robot (va_Pc [.ref (q 0), .int a0] (VB g A (MW g q m_thrown m_n m_robots m_viewed m_rules m_taped m_latest m_size m_at m_sort m_place m_end m_fault m_faultAt m_read m_crowds m_traced m_here m_hand m_view m_up m_down m_ruleSize m_ruleRow m_ruleDoes m_name m_goes m_tape m_readSize m_readRow m_readDoes m_own m_crowd m_isStep m_isOfGoal m_isMet m_most m_stands m_doesHere m_from m_trace))) (va_Qi (fun r (_ : Unit) => r = res.1) (fun _ => VB g A (MW g q res.2.1 m_n res.2.2.1 m_viewed m_rules m_taped m_latest m_size m_at m_sort m_place m_end m_fault m_faultAt m_read m_crowds m_traced res.2.2.2 m_hand m_view m_up m_down m_ruleSize m_ruleRow m_ruleDoes m_name m_goes m_tape m_readSize m_readRow m_readDoes m_own m_crowd m_isStep m_isOfGoal m_isMet m_most m_stands m_doesHere m_from m_trace)) A) 0 0 A := by
  unfold F_X8_robot at h
  refine MetI (res := res.1) (own := RX8) (ws' := (MW g q res.2.1 m_n res.2.2.1 m_viewed m_rules m_taped m_latest m_size m_at m_sort m_place m_end m_fault m_faultAt m_read m_crowds m_traced res.2.2.2 m_hand m_view m_up m_down m_ruleSize m_ruleRow m_ruleDoes m_name m_goes m_tape m_readSize m_readRow m_readDoes m_own m_crowd m_isStep m_isOfGoal m_isMet m_most m_stands m_doesHere m_from m_trace)) (by decide) rfl (Nat.le_of_ble_eq_true rfl) ?_
  intro p e s m args below meth c Q F E ret ls J hl
  have hx := F.1
  have hb := F.2.1
  have hl : lv_has ls 2 [(0, .ref (q 0)), (1, .int a0)] := hl
  refine lv_aload_n hx hb dX8_robot_0 rfl (lv_at hl 0 rfl) ?_
  refine lv_iconst (v := 0) hx hb dX8_robot_1 (by decide) ?_
  refine mp_0_0 F E J fl_X8_1 dX8_robot_2 (fun H locs J => ?_)
  refine lv_aload_n hx hb dX8_robot_5 rfl (lv_at hl 0 rfl) ?_
  refine lv_iload_n hx hb dX8_robot_6 rfl (lv_at hl 1 rfl) ?_
  obtain ⟨p1, hp1, h⟩ := ob h
  refine onZ (runV (As := [.int a0]) (rest := []) F E J (c_X8_isPlace a0 p1 hp1) cw_X8_94 ⟨rfl, rfl, Nat.le_of_ble_eq_true rfl, Nat.le_of_ble_eq_true rfl⟩ rcM0 rfl hl.1 rfl (Nat.le_of_ble_eq_true rfl) dX8_robot_7) J (fun hzbp1 H locs J => ?_)
  refine lv_if_ne (tgt := 16) hx hb dX8_robot_10 (by decide) (fun c2 => ?_) (fun c2 => ?_)
  · have h := itn c2 h
    refine lv_aload_n hx hb dX8_robot_16 rfl (lv_at hl 0 rfl) ?_
    refine mg_0_2 F E J fl_X8_99 dX8_robot_17 ?_
    refine lv_iconst (v := 4) hx hb dX8_robot_20 (by decide) ?_
    refine lv_icmp_ne (tgt := 27) hx hb dX8_robot_21 (by decide) (fun c3 => ?_) (fun c3 => ?_)
    · have h := itn c3 h
      refine lv_aload_n hx hb dX8_robot_27 rfl (lv_at hl 0 rfl) ?_
      refine mg_0_3 F E J fl_X8_13 dX8_robot_28 ?_
      refine lv_iload_n hx hb dX8_robot_31 rfl (lv_at hl 1 rfl) ?_
      refine lv_dup2_11 hx hb dX8_robot_32 rfl rfl ?_
      obtain ⟨hi, h⟩ := gdt h
      refine ml_1 F E J (inbt hi) dX8_robot_33 ?_
      refine lv_iconst (v := 1) hx hb dX8_robot_34 (by decide) ?_
      refine lv_iadd hx hb dX8_robot_35 ?_
      obtain ⟨v4, hv4, h⟩ := obs h
      refine nmI hv4 ?_
      obtain ⟨hi, h⟩ := gdt h
      refine ms_1 F E J (inbt hi) dX8_robot_36 (fun H locs J => ?_)
      refine lv_aload_n hx hb dX8_robot_37 rfl (lv_at hl 0 rfl) ?_
      refine lv_dup hx hb dX8_robot_38 rfl ?_
      refine mg_0_2 F E J fl_X8_99 dX8_robot_39 ?_
      refine lv_iconst (v := 1) hx hb dX8_robot_42 (by decide) ?_
      refine lv_iadd hx hb dX8_robot_43 ?_
      obtain ⟨v5, hv5, h⟩ := obs h
      refine nmI hv5 ?_
      refine mp_0_2 F E J fl_X8_99 dX8_robot_44 (fun H locs J => ?_)
      refine lv_aload_n hx hb dX8_robot_47 rfl (lv_at hl 0 rfl) ?_
      refine mg_0_2 F E J fl_X8_99 dX8_robot_48 ?_
      obtain rfl := Option.some.inj h
      exact ret _ _ _ _ J dX8_robot_51
    · have h := itp c3 h
      refine lv_ldc hx hb F.2.2.2.1 (F.2.2.2.2 _ kc_X8_102) dX8_robot_24 ?_
      obtain rfl := Option.some.inj h
      exact ret _ _ _ _ J dX8_robot_26
  · have h := itp c2 h
    refine lv_ldc hx hb F.2.2.2.1 (F.2.2.2.2 _ kc_X8_98) dX8_robot_13 ?_
    obtain rfl := Option.some.inj h
    exact ret _ _ _ _ J dX8_robot_15
set_option maxHeartbeats 4000000 in
set_option maxRecDepth 100000 in
theorem c_X8_wipe {l : Launch} {g : GG} {A : Nat → Prop} {q : Nat → Nat} {m_thrown m_n m_robots m_viewed m_rules m_taped m_latest m_size m_at m_sort m_place m_end m_fault m_faultAt m_read m_crowds m_traced : Int32} {m_here m_hand m_view m_up m_down m_ruleSize m_ruleRow m_ruleDoes m_name m_goes m_tape m_readSize m_readRow m_readDoes m_own m_crowd m_isStep m_isOfGoal m_isMet m_most m_stands m_doesHere m_from m_trace : Nat → Int32} (res : Int32 × Int32 × Int32 × (Nat → Int32)) (h : F_X8_wipe m_robots m_here = some res) : Met l yX8_wipe (wS yX8_wipe cX8_wipe 3 (some .int)) rm_X8_wipe (va_Pc [.ref (q 0)] (VB g A (MW g q m_thrown m_n m_robots m_viewed m_rules m_taped m_latest m_size m_at m_sort m_place m_end m_fault m_faultAt m_read m_crowds m_traced m_here m_hand m_view m_up m_down m_ruleSize m_ruleRow m_ruleDoes m_name m_goes m_tape m_readSize m_readRow m_readDoes m_own m_crowd m_isStep m_isOfGoal m_isMet m_most m_stands m_doesHere m_from m_trace))) (va_Qi (fun r (_ : Unit) => r = res.1) (fun _ => VB g A (MW g q res.2.1 m_n res.2.2.1 m_viewed m_rules m_taped m_latest m_size m_at m_sort m_place m_end m_fault m_faultAt m_read m_crowds m_traced res.2.2.2 m_hand m_view m_up m_down m_ruleSize m_ruleRow m_ruleDoes m_name m_goes m_tape m_readSize m_readRow m_readDoes m_own m_crowd m_isStep m_isOfGoal m_isMet m_most m_stands m_doesHere m_from m_trace)) A) 0 0 A := by
  unfold F_X8_wipe at h
  refine MetI (res := res.1) (own := RX8) (ws' := (MW g q res.2.1 m_n res.2.2.1 m_viewed m_rules m_taped m_latest m_size m_at m_sort m_place m_end m_fault m_faultAt m_read m_crowds m_traced res.2.2.2 m_hand m_view m_up m_down m_ruleSize m_ruleRow m_ruleDoes m_name m_goes m_tape m_readSize m_readRow m_readDoes m_own m_crowd m_isStep m_isOfGoal m_isMet m_most m_stands m_doesHere m_from m_trace)) (by decide) rfl (Nat.le_of_ble_eq_true rfl) ?_
  intro p e s m args below meth c Q F E ret ls J hl
  have hx := F.1
  have hb := F.2.1
  have hl : lv_has ls 3 [(0, .ref (q 0))] := hl
  refine lv_aload_n hx hb dX8_wipe_0 rfl (lv_at hl 0 rfl) ?_
  refine lv_iconst (v := 0) hx hb dX8_wipe_1 (by decide) ?_
  refine mp_0_0 F E J fl_X8_1 dX8_wipe_2 (fun H locs J => ?_)
  refine lv_aload_n hx hb dX8_wipe_5 rfl (lv_at hl 0 rfl) ?_
  refine mg_0_2 F E J fl_X8_99 dX8_wipe_6 ?_
  refine lv_istore_n (lv' := [(1, .int m_robots), (0, .ref (q 0))]) hx hb dX8_wipe_9 rfl hl (by decide) rfl (fun ls hl => ?_)
  refine lv_aload_n hx hb dX8_wipe_10 rfl (lv_at hl 1 rfl) ?_
  refine lv_iconst (v := 0) hx hb dX8_wipe_11 (by decide) ?_
  refine mp_0_2 F E J fl_X8_99 dX8_wipe_12 (fun H locs J => ?_)
  refine lv_iconst (v := 0) hx hb dX8_wipe_15 (by decide) ?_
  refine lv_istore_n (lv' := [(2, .int 0), (1, .int m_robots), (0, .ref (q 0))]) hx hb dX8_wipe_16 rfl hl (by decide) rfl (fun ls hl => ?_)
  obtain ⟨o_L1, ho_L1, h⟩ := ob h
  have T_L1 : ∀ (f : Nat) (l2_L1 : Int32) (m_here_L1 : Nat → Int32) (o_L1 : Nat → Int32), F_X8_wipe_L1 f l2_L1 m_here_L1 = some o_L1 → ∀ (H : Heap) (locs : List Loc) (ls : Array Slot), VJ g A s.heap (MW g q 0 m_n 0 m_viewed m_rules m_taped m_latest m_size m_at m_sort m_place m_end m_fault m_faultAt m_read m_crowds m_traced m_here_L1 m_hand m_view m_up m_down m_ruleSize m_ruleRow m_ruleDoes m_name m_goes m_tape m_readSize m_readRow m_readDoes m_own m_crowd m_isStep m_isOfGoal m_isMet m_most m_stands m_doesHere m_from m_trace) H locs → lv_has ls 3 [(0, .ref (q 0)), (1, .int m_robots), (2, .int l2_L1)] → (∀ (H : Heap) (locs : List Loc) (ls : Array Slot), VJ g A s.heap (MW g q 0 m_n 0 m_viewed m_rules m_taped m_latest m_size m_at m_sort m_place m_end m_fault m_faultAt m_read m_crowds m_traced o_L1 m_hand m_view m_up m_down m_ruleSize m_ruleRow m_ruleDoes m_name m_goes m_tape m_readSize m_readRow m_readDoes m_own m_crowd m_isStep m_isOfGoal m_isMet m_most m_stands m_doesHere m_from m_trace) H locs → lv_has ls 3 [(1, .int m_robots)] → W p l e rm_X8_wipe s m args below meth c H locs 0 0 Q (F0 m 36 ls [])) → W p l e rm_X8_wipe s m args below meth c H locs 0 0 Q (F0 m 17 ls []) := by
    clear h ho_L1 hl J
    intro f
    induction f with
    | zero => intro l2_L1 m_here_L1 o_L1 h; exact absurd h (by simp [F_X8_wipe_L1])
    | succ f ih =>
      intro l2_L1 m_here_L1 o_L1 h H locs ls J hl K_L1
      rw [F_X8_wipe_L1.eq_2] at h
      refine lv_iload_n hx hb dX8_wipe_17 rfl (lv_at hl 2 rfl) ?_
      refine lv_bipush (v := 9) hx hb dX8_wipe_18 (by decide) ?_
      refine lv_icmp_ge (tgt := 36) hx hb dX8_wipe_20 (by decide) (fun c2 => ?_) (fun c2 => ?_)
      · have h := itp c2 h
        obtain rfl := Option.some.inj h
        exact K_L1 _ _ _ J (lv_sub hl [1] rfl)
      · have h := itn c2 h
        refine lv_aload_n hx hb dX8_wipe_23 rfl (lv_at hl 0 rfl) ?_
        refine mg_0_3 F E J fl_X8_13 dX8_wipe_24 ?_
        refine lv_iload_n hx hb dX8_wipe_27 rfl (lv_at hl 2 rfl) ?_
        refine lv_iconst (v := 0) hx hb dX8_wipe_28 (by decide) ?_
        obtain ⟨hi, h⟩ := gdt h
        refine ms_1 F E J (inbt hi) dX8_wipe_29 (fun H locs J => ?_)
        obtain ⟨v3, hv3, h⟩ := obs h
        refine lv_iinc (v := v3) (lv' := [(2, .int v3), (0, .ref (q 0)), (1, .int m_robots)]) hx hb dX8_wipe_30 hl (k := 2) rfl (by rw [← hv3]; rfl) (by decide) rfl (fun ls hl => ?_)
        refine lv_goto (tgt := 17) hx hb dX8_wipe_33 (by decide) ?_
        exact ih _ _ _ h _ _ _ J (lv_sub hl [1, 2, 0] rfl) K_L1
  refine T_L1 FU 0 m_here o_L1 ho_L1 _ _ _ J (lv_sub hl [2, 1, 0] rfl) (fun H locs ls J hl => ?_)
  refine lv_iload_n hx hb dX8_wipe_36 rfl (lv_at hl 0 rfl) ?_
  obtain rfl := Option.some.inj h
  exact ret _ _ _ _ J dX8_wipe_37
set_option maxHeartbeats 4000000 in
set_option maxRecDepth 100000 in
theorem c_X8_at {l : Launch} {g : GG} {A : Nat → Prop} {q : Nat → Nat} {m_thrown m_n m_robots m_viewed m_rules m_taped m_latest m_size m_at m_sort m_place m_end m_fault m_faultAt m_read m_crowds m_traced : Int32} {m_here m_hand m_view m_up m_down m_ruleSize m_ruleRow m_ruleDoes m_name m_goes m_tape m_readSize m_readRow m_readDoes m_own m_crowd m_isStep m_isOfGoal m_isMet m_most m_stands m_doesHere m_from m_trace : Nat → Int32} (a0 : Int32) (res : Int32 × Int32) (h : F_X8_at a0 m_n m_here = some res) : Met l yX8_at (wS yX8_at cX8_at 2 (some .int)) rm_X8_at (va_Pc [.ref (q 0), .int a0] (VB g A (MW g q m_thrown m_n m_robots m_viewed m_rules m_taped m_latest m_size m_at m_sort m_place m_end m_fault m_faultAt m_read m_crowds m_traced m_here m_hand m_view m_up m_down m_ruleSize m_ruleRow m_ruleDoes m_name m_goes m_tape m_readSize m_readRow m_readDoes m_own m_crowd m_isStep m_isOfGoal m_isMet m_most m_stands m_doesHere m_from m_trace))) (va_Qi (fun r (_ : Unit) => r = res.1) (fun _ => VB g A (MW g q res.2 m_n m_robots m_viewed m_rules m_taped m_latest m_size m_at m_sort m_place m_end m_fault m_faultAt m_read m_crowds m_traced m_here m_hand m_view m_up m_down m_ruleSize m_ruleRow m_ruleDoes m_name m_goes m_tape m_readSize m_readRow m_readDoes m_own m_crowd m_isStep m_isOfGoal m_isMet m_most m_stands m_doesHere m_from m_trace)) A) 0 0 A := by
  unfold F_X8_at at h
  refine MetI (res := res.1) (own := RX8) (ws' := (MW g q res.2 m_n m_robots m_viewed m_rules m_taped m_latest m_size m_at m_sort m_place m_end m_fault m_faultAt m_read m_crowds m_traced m_here m_hand m_view m_up m_down m_ruleSize m_ruleRow m_ruleDoes m_name m_goes m_tape m_readSize m_readRow m_readDoes m_own m_crowd m_isStep m_isOfGoal m_isMet m_most m_stands m_doesHere m_from m_trace)) (by decide) rfl (Nat.le_of_ble_eq_true rfl) ?_
  intro p e s m args below meth c Q F E ret ls J hl
  have hx := F.1
  have hb := F.2.1
  have hl : lv_has ls 2 [(0, .ref (q 0)), (1, .int a0)] := hl
  refine lv_aload_n hx hb dX8_at_0 rfl (lv_at hl 0 rfl) ?_
  refine lv_iconst (v := 0) hx hb dX8_at_1 (by decide) ?_
  refine mp_0_0 F E J fl_X8_1 dX8_at_2 (fun H locs J => ?_)
  refine lv_aload_n hx hb dX8_at_5 rfl (lv_at hl 0 rfl) ?_
  refine lv_iload_n hx hb dX8_at_6 rfl (lv_at hl 1 rfl) ?_
  obtain ⟨p1, hp1, h⟩ := ob h
  refine onZ (runV (As := [.int a0]) (rest := []) F E J (c_X8_isPlace a0 p1 hp1) cw_X8_94 ⟨rfl, rfl, Nat.le_of_ble_eq_true rfl, Nat.le_of_ble_eq_true rfl⟩ rcM0 rfl hl.1 rfl (Nat.le_of_ble_eq_true rfl) dX8_at_7) J (fun hzbp1 H locs J => ?_)
  refine lv_if_eq (tgt := 22) hx hb dX8_at_10 (by decide) (fun c2 => ?_) (fun c2 => ?_)
  · have h := itp c2 h
    refine lv_ldc hx hb F.2.2.2.1 (F.2.2.2.2 _ kc_X8_98) dX8_at_22 ?_
    obtain rfl := Option.some.inj h
    exact ret _ _ _ _ J dX8_at_24
  · have h := itn c2 h
    refine lv_aload_n hx hb dX8_at_13 rfl (lv_at hl 0 rfl) ?_
    refine mg_0_3 F E J fl_X8_13 dX8_at_14 ?_
    refine lv_iload_n hx hb dX8_at_17 rfl (lv_at hl 1 rfl) ?_
    obtain ⟨hi, h⟩ := gdt h
    refine ml_1 F E J (inbt hi) dX8_at_18 ?_
    refine lv_goto (tgt := 24) hx hb dX8_at_19 (by decide) ?_
    obtain rfl := Option.some.inj h
    exact ret _ _ _ _ J dX8_at_24
set_option maxHeartbeats 4000000 in
set_option maxRecDepth 100000 in
theorem c_X8_take {l : Launch} {g : GG} {A : Nat → Prop} {q : Nat → Nat} {m_thrown m_n m_robots m_viewed m_rules m_taped m_latest m_size m_at m_sort m_place m_end m_fault m_faultAt m_read m_crowds m_traced : Int32} {m_here m_hand m_view m_up m_down m_ruleSize m_ruleRow m_ruleDoes m_name m_goes m_tape m_readSize m_readRow m_readDoes m_own m_crowd m_isStep m_isOfGoal m_isMet m_most m_stands m_doesHere m_from m_trace : Nat → Int32} (res : Nat → Int32) (h : F_X8_take m_here m_hand = some res) : Met l yX8_take (wS yX8_take cX8_take 2 none) rm_X8_take (va_Pc [.ref (q 0)] (VB g A (MW g q m_thrown m_n m_robots m_viewed m_rules m_taped m_latest m_size m_at m_sort m_place m_end m_fault m_faultAt m_read m_crowds m_traced m_here m_hand m_view m_up m_down m_ruleSize m_ruleRow m_ruleDoes m_name m_goes m_tape m_readSize m_readRow m_readDoes m_own m_crowd m_isStep m_isOfGoal m_isMet m_most m_stands m_doesHere m_from m_trace))) (va_Qv (fun (_ : Unit) => True) (fun _ => VB g A (MW g q m_thrown m_n m_robots m_viewed m_rules m_taped m_latest m_size m_at m_sort m_place m_end m_fault m_faultAt m_read m_crowds m_traced m_here res m_view m_up m_down m_ruleSize m_ruleRow m_ruleDoes m_name m_goes m_tape m_readSize m_readRow m_readDoes m_own m_crowd m_isStep m_isOfGoal m_isMet m_most m_stands m_doesHere m_from m_trace)) A) 0 0 A := by
  unfold F_X8_take at h
  refine MetV (own := RX8) (ws' := (MW g q m_thrown m_n m_robots m_viewed m_rules m_taped m_latest m_size m_at m_sort m_place m_end m_fault m_faultAt m_read m_crowds m_traced m_here res m_view m_up m_down m_ruleSize m_ruleRow m_ruleDoes m_name m_goes m_tape m_readSize m_readRow m_readDoes m_own m_crowd m_isStep m_isOfGoal m_isMet m_most m_stands m_doesHere m_from m_trace)) (by decide) rfl (Nat.le_of_ble_eq_true rfl) ?_
  intro p e s m args below meth c Q F E ret ls J hl
  have hx := F.1
  have hb := F.2.1
  have hl : lv_has ls 2 [(0, .ref (q 0))] := hl
  refine lv_iconst (v := 0) hx hb dX8_take_0 (by decide) ?_
  refine lv_istore_n (lv' := [(1, .int 0), (0, .ref (q 0))]) hx hb dX8_take_1 rfl hl (by decide) rfl (fun ls hl => ?_)
  obtain ⟨o_L1, ho_L1, h⟩ := ob h
  have T_L1 : ∀ (f : Nat) (l1_L1 : Int32) (m_hand_L1 : Nat → Int32) (o_L1 : Nat → Int32), F_X8_take_L1 m_here f l1_L1 m_hand_L1 = some o_L1 → ∀ (H : Heap) (locs : List Loc) (ls : Array Slot), VJ g A s.heap (MW g q m_thrown m_n m_robots m_viewed m_rules m_taped m_latest m_size m_at m_sort m_place m_end m_fault m_faultAt m_read m_crowds m_traced m_here m_hand_L1 m_view m_up m_down m_ruleSize m_ruleRow m_ruleDoes m_name m_goes m_tape m_readSize m_readRow m_readDoes m_own m_crowd m_isStep m_isOfGoal m_isMet m_most m_stands m_doesHere m_from m_trace) H locs → lv_has ls 2 [(0, .ref (q 0)), (1, .int l1_L1)] → (∀ (H : Heap) (locs : List Loc) (ls : Array Slot), VJ g A s.heap (MW g q m_thrown m_n m_robots m_viewed m_rules m_taped m_latest m_size m_at m_sort m_place m_end m_fault m_faultAt m_read m_crowds m_traced m_here o_L1 m_view m_up m_down m_ruleSize m_ruleRow m_ruleDoes m_name m_goes m_tape m_readSize m_readRow m_readDoes m_own m_crowd m_isStep m_isOfGoal m_isMet m_most m_stands m_doesHere m_from m_trace) H locs → lv_has ls 2 [] → W p l e rm_X8_take s m args below meth c H locs 0 0 Q (F0 m 26 ls [])) → W p l e rm_X8_take s m args below meth c H locs 0 0 Q (F0 m 2 ls []) := by
    clear h ho_L1 hl J
    intro f
    induction f with
    | zero => intro l1_L1 m_hand_L1 o_L1 h; exact absurd h (by simp [F_X8_take_L1])
    | succ f ih =>
      intro l1_L1 m_hand_L1 o_L1 h H locs ls J hl K_L1
      rw [F_X8_take_L1.eq_2] at h
      refine lv_iload_n hx hb dX8_take_2 rfl (lv_at hl 1 rfl) ?_
      refine lv_bipush (v := 9) hx hb dX8_take_3 (by decide) ?_
      refine lv_icmp_ge (tgt := 26) hx hb dX8_take_5 (by decide) (fun c2 => ?_) (fun c2 => ?_)
      · have h := itp c2 h
        obtain rfl := Option.some.inj h
        exact K_L1 _ _ _ J (lv_sub hl [] rfl)
      · have h := itn c2 h
        refine lv_aload_n hx hb dX8_take_8 rfl (lv_at hl 0 rfl) ?_
        refine mg_0_4 F E J fl_X8_17 dX8_take_9 ?_
        refine lv_iload_n hx hb dX8_take_12 rfl (lv_at hl 1 rfl) ?_
        refine lv_aload_n hx hb dX8_take_13 rfl (lv_at hl 0 rfl) ?_
        refine mg_0_3 F E J fl_X8_13 dX8_take_14 ?_
        refine lv_iload_n hx hb dX8_take_17 rfl (lv_at hl 1 rfl) ?_
        obtain ⟨hi, h⟩ := gdt h
        refine ml_1 F E J (inbt hi) dX8_take_18 ?_
        obtain ⟨v3, hv3, h⟩ := obs h
        refine nmI hv3 ?_
        obtain ⟨hi, h⟩ := gdt h
        refine ms_2 F E J (inbt hi) dX8_take_19 (fun H locs J => ?_)
        obtain ⟨v4, hv4, h⟩ := obs h
        refine lv_iinc (v := v4) (lv' := [(1, .int v4), (0, .ref (q 0))]) hx hb dX8_take_20 hl (k := 1) rfl (by rw [← hv4]; rfl) (by decide) rfl (fun ls hl => ?_)
        refine lv_goto (tgt := 2) hx hb dX8_take_23 (by decide) ?_
        exact ih _ _ _ h _ _ _ J (lv_sub hl [1, 0] rfl) K_L1
  refine T_L1 FU 0 m_hand o_L1 ho_L1 _ _ _ J (lv_sub hl [1, 0] rfl) (fun H locs ls J hl => ?_)
  obtain rfl := Option.some.inj h
  exact ret _ _ _ _ J dX8_take_26
set_option maxHeartbeats 4000000 in
set_option maxRecDepth 100000 in
theorem c_X8_rowFrom_u {l : Launch} {g : GG} {A : Nat → Prop} {q : Nat → Nat} {m_thrown m_n m_robots m_viewed m_rules m_taped m_latest m_size m_at m_sort m_place m_end m_fault m_faultAt m_read m_crowds m_traced : Int32} {m_here m_hand m_view m_up m_down m_ruleSize m_ruleRow m_ruleDoes m_name m_goes m_tape m_readSize m_readRow m_readDoes m_own m_crowd m_isStep m_isOfGoal m_isMet m_most m_stands m_doesHere m_from m_trace : Nat → Int32} (a0 : Int32) (a1 : Int32) (res : Int32 × (Nat → Int32)) (h : F_X8_rowFrom_u a0 a1 m_n m_hand m_up = some res) : Met l yX8_rowFrom (wS yX8_rowFrom cX8_rowFrom 8 (some .int)) rm_X8_rowFrom_u (va_Pc [.ref (q 0), .int a0, .int a1, .ref (q 4)] (VB g A (MW g q m_thrown m_n m_robots m_viewed m_rules m_taped m_latest m_size m_at m_sort m_place m_end m_fault m_faultAt m_read m_crowds m_traced m_here m_hand m_view m_up m_down m_ruleSize m_ruleRow m_ruleDoes m_name m_goes m_tape m_readSize m_readRow m_readDoes m_own m_crowd m_isStep m_isOfGoal m_isMet m_most m_stands m_doesHere m_from m_trace))) (va_Qi (fun r (_ : Unit) => r = res.1) (fun _ => VB g A (MW g q m_thrown m_n m_robots m_viewed m_rules m_taped m_latest m_size m_at m_sort m_place m_end m_fault m_faultAt m_read m_crowds m_traced m_here m_hand m_view res.2 m_down m_ruleSize m_ruleRow m_ruleDoes m_name m_goes m_tape m_readSize m_readRow m_readDoes m_own m_crowd m_isStep m_isOfGoal m_isMet m_most m_stands m_doesHere m_from m_trace)) A) 0 0 A := by
  unfold F_X8_rowFrom_u at h
  refine MetI (res := res.1) (own := RX8) (ws' := (MW g q m_thrown m_n m_robots m_viewed m_rules m_taped m_latest m_size m_at m_sort m_place m_end m_fault m_faultAt m_read m_crowds m_traced m_here m_hand m_view res.2 m_down m_ruleSize m_ruleRow m_ruleDoes m_name m_goes m_tape m_readSize m_readRow m_readDoes m_own m_crowd m_isStep m_isOfGoal m_isMet m_most m_stands m_doesHere m_from m_trace)) (by decide) rfl (Nat.le_of_ble_eq_true rfl) ?_
  intro p e s m args below meth c Q F E ret ls J hl
  have hx := F.1
  have hb := F.2.1
  have hl : lv_has ls 8 [(0, .ref (q 0)), (1, .int a0), (2, .int a1), (3, .ref (q 4))] := hl
  refine lv_iconst (v := 0) hx hb dX8_rowFrom_0 (by decide) ?_
  refine lv_istore (lv' := [(4, .int 0), (0, .ref (q 0)), (1, .int a0), (2, .int a1), (3, .ref (q 4))]) hx hb dX8_rowFrom_1 hl (by decide) rfl (fun ls hl => ?_)
  refine lv_iconst (v := 0) hx hb dX8_rowFrom_3 (by decide) ?_
  refine lv_istore (lv' := [(5, .int 0), (4, .int 0), (0, .ref (q 0)), (1, .int a0), (2, .int a1), (3, .ref (q 4))]) hx hb dX8_rowFrom_4 hl (by decide) rfl (fun ls hl => ?_)
  refine lv_iconst (v := 1) hx hb dX8_rowFrom_6 (by decide) ?_
  refine lv_istore (lv' := [(6, .int 1), (5, .int 0), (4, .int 0), (0, .ref (q 0)), (1, .int a0), (2, .int a1), (3, .ref (q 4))]) hx hb dX8_rowFrom_7 hl (by decide) rfl (fun ls hl => ?_)
  obtain ⟨o_L1, ho_L1, h⟩ := ob h
  have T_L1 : ∀ (f : Nat) (l4_L1 : Int32) (l5_L1 : Int32) (l6_L1 : Int32) (m_up_L1 : Nat → Int32) (o_L1 : Int32 × (Nat → Int32)), F_X8_rowFrom_u_L1 a0 a1 m_n m_hand f l4_L1 l5_L1 l6_L1 m_up_L1 = some o_L1 → ∀ (H : Heap) (locs : List Loc) (ls : Array Slot), VJ g A s.heap (MW g q m_thrown m_n m_robots m_viewed m_rules m_taped m_latest m_size m_at m_sort m_place m_end m_fault m_faultAt m_read m_crowds m_traced m_here m_hand m_view m_up_L1 m_down m_ruleSize m_ruleRow m_ruleDoes m_name m_goes m_tape m_readSize m_readRow m_readDoes m_own m_crowd m_isStep m_isOfGoal m_isMet m_most m_stands m_doesHere m_from m_trace) H locs → lv_has ls 8 [(0, .ref (q 0)), (1, .int a0), (2, .int a1), (3, .ref (q 4)), (4, .int l4_L1), (5, .int l5_L1), (6, .int l6_L1)] → (∀ (H : Heap) (locs : List Loc) (ls : Array Slot), VJ g A s.heap (MW g q m_thrown m_n m_robots m_viewed m_rules m_taped m_latest m_size m_at m_sort m_place m_end m_fault m_faultAt m_read m_crowds m_traced m_here m_hand m_view o_L1.2 m_down m_ruleSize m_ruleRow m_ruleDoes m_name m_goes m_tape m_readSize m_readRow m_readDoes m_own m_crowd m_isStep m_isOfGoal m_isMet m_most m_stands m_doesHere m_from m_trace) H locs → lv_has ls 8 [(4, .int o_L1.1)] → W p l e rm_X8_rowFrom_u s m args below meth c H locs 0 0 Q (F0 m 87 ls [])) → W p l e rm_X8_rowFrom_u s m args below meth c H locs 0 0 Q (F0 m 9 ls []) := by
    clear h ho_L1 hl J
    intro f
    induction f with
    | zero => intro l4_L1 l5_L1 l6_L1 m_up_L1 o_L1 h; exact absurd h (by simp [F_X8_rowFrom_u_L1])
    | succ f ih =>
      intro l4_L1 l5_L1 l6_L1 m_up_L1 o_L1 h H locs ls J hl K_L1
      rw [F_X8_rowFrom_u_L1.eq_2] at h
      refine lv_iload hx hb dX8_rowFrom_9 (lv_at hl 6 rfl) ?_
      refine lv_aload_n hx hb dX8_rowFrom_11 rfl (lv_at hl 0 rfl) ?_
      refine mg_0_1 F E J fl_X8_87 dX8_rowFrom_12 ?_
      refine lv_icmp_gt (tgt := 87) hx hb dX8_rowFrom_15 (by decide) (fun c2 => ?_) (fun c2 => ?_)
      · have h := itp c2 h
        obtain rfl := Option.some.inj h
        exact K_L1 _ _ _ J (lv_sub hl [4] rfl)
      · have h := itn c2 h
        obtain ⟨v3, hv3, h⟩ := obs h
        refine lv_iinc (v := v3) (lv' := [(5, .int v3), (0, .ref (q 0)), (1, .int a0), (2, .int a1), (3, .ref (q 4)), (4, .int l4_L1), (6, .int l6_L1)]) hx hb dX8_rowFrom_18 hl (k := 5) rfl (by rw [← hv3]; rfl) (by decide) rfl (fun ls hl => ?_)
        refine lv_iload_n hx hb dX8_rowFrom_21 rfl (lv_at hl 2 rfl) ?_
        refine lv_iload_n hx hb dX8_rowFrom_22 rfl (lv_at hl 3 rfl) ?_
        refine lv_iload hx hb dX8_rowFrom_23 (lv_at hl 6 rfl) ?_
        refine lv_imul hx hb dX8_rowFrom_25 ?_
        refine lv_iadd hx hb dX8_rowFrom_26 ?_
        refine lv_aload_n hx hb dX8_rowFrom_27 rfl (lv_at hl 1 rfl) ?_
        refine mg_0_1 F E J fl_X8_87 dX8_rowFrom_28 ?_
        refine lv_iload hx hb dX8_rowFrom_31 (lv_at hl 6 rfl) ?_
        refine lv_imul hx hb dX8_rowFrom_33 ?_
        refine lv_iadd hx hb dX8_rowFrom_34 ?_
        refine lv_aload_n hx hb dX8_rowFrom_35 rfl (lv_at hl 1 rfl) ?_
        refine mg_0_1 F E J fl_X8_87 dX8_rowFrom_36 ?_
        obtain ⟨hz, h⟩ := gdt h
        refine lv_irem hx hb dX8_rowFrom_39 (nzt hz) ?_
        obtain ⟨v4, hv4, h⟩ := obs h
        refine nmI hv4 ?_
        refine lv_istore (lv' := [(7, .int v4), (5, .int v3), (0, .ref (q 0)), (1, .int a0), (2, .int a1), (3, .ref (q 4)), (4, .int l4_L1), (6, .int l6_L1)]) hx hb dX8_rowFrom_40 hl (by decide) rfl (fun ls hl => ?_)
        refine lv_aload_n hx hb dX8_rowFrom_42 rfl (lv_at hl 2 rfl) ?_
        refine mg_0_4 F E J fl_X8_17 dX8_rowFrom_43 ?_
        refine lv_iload hx hb dX8_rowFrom_46 (lv_at hl 0 rfl) ?_
        obtain ⟨hi, h⟩ := gdt h
        refine ml_2 F E J (inbt hi) dX8_rowFrom_48 ?_
        obtain ⟨j5, hj5, h⟩ := ob h
        have Kj5 : ∀ (H : Heap) (locs : List Loc) (ls : Array Slot), VJ g A s.heap (MW g q m_thrown m_n m_robots m_viewed m_rules m_taped m_latest m_size m_at m_sort m_place m_end m_fault m_faultAt m_read m_crowds m_traced m_here m_hand m_view j5.2.2 m_down m_ruleSize m_ruleRow m_ruleDoes m_name m_goes m_tape m_readSize m_readRow m_readDoes m_own m_crowd m_isStep m_isOfGoal m_isMet m_most m_stands m_doesHere m_from m_trace) H locs → lv_has ls 8 [(0, .ref (q 0)), (1, .int a0), (2, .int a1), (3, .ref (q 4)), (4, .int j5.1), (5, .int j5.2.1), (6, .int l6_L1)] → W p l e rm_X8_rowFrom_u s m args below meth c H locs 0 0 Q (F0 m 81 ls []) := by
          intro H locs ls J hl
          obtain ⟨v9, hv9, h⟩ := obs h
          refine lv_iinc (v := v9) (lv' := [(6, .int v9), (0, .ref (q 0)), (1, .int a0), (2, .int a1), (3, .ref (q 4)), (4, .int j5.1), (5, .int j5.2.1)]) hx hb dX8_rowFrom_81 hl (k := 6) rfl (by rw [← hv9]; rfl) (by decide) rfl (fun ls hl => ?_)
          refine lv_goto (tgt := 9) hx hb dX8_rowFrom_84 (by decide) ?_
          exact ih _ _ _ _ _ h _ _ _ J (lv_sub hl [1, 2, 3, 4, 5, 6, 0] rfl) K_L1
        clear h
        have h := hj5
        refine lv_if_le (tgt := 81) hx hb dX8_rowFrom_49 (by decide) (fun c6 => ?_) (fun c6 => ?_)
        · have h := itp c6 h
          obtain rfl := Option.some.inj h
          exact Kj5 _ _ _ J (lv_sub hl [2, 3, 4, 5, 6, 1, 7] rfl)
        · have h := itn c6 h
          refine lv_aload_n hx hb dX8_rowFrom_52 rfl (lv_at hl 5 rfl) ?_
          refine lv_iconst (v := 2) hx hb dX8_rowFrom_53 (by decide) ?_
          refine lv_iload hx hb dX8_rowFrom_54 (lv_at hl 6 rfl) ?_
          refine lv_imul hx hb dX8_rowFrom_56 ?_
          refine lv_iload hx hb dX8_rowFrom_57 (lv_at hl 1 rfl) ?_
          obtain ⟨hi, h⟩ := gdt h
          refine ms_4 F E J (inbt hi) dX8_rowFrom_59 (fun H locs J => ?_)
          refine lv_aload_n hx hb dX8_rowFrom_60 rfl (lv_at hl 5 rfl) ?_
          refine lv_iconst (v := 2) hx hb dX8_rowFrom_61 (by decide) ?_
          refine lv_iload hx hb dX8_rowFrom_62 (lv_at hl 6 rfl) ?_
          refine lv_imul hx hb dX8_rowFrom_64 ?_
          refine lv_iconst (v := 1) hx hb dX8_rowFrom_65 (by decide) ?_
          refine lv_iadd hx hb dX8_rowFrom_66 ?_
          refine lv_aload_n hx hb dX8_rowFrom_67 rfl (lv_at hl 2 rfl) ?_
          refine mg_0_4 F E J fl_X8_17 dX8_rowFrom_68 ?_
          refine lv_iload hx hb dX8_rowFrom_71 (lv_at hl 0 rfl) ?_
          obtain ⟨hi, h⟩ := gdt h
          refine ml_2 F E J (inbt hi) dX8_rowFrom_73 ?_
          obtain ⟨v7, hv7, h⟩ := obs h
          refine nmI hv7 ?_
          obtain ⟨hi, h⟩ := gdt h
          refine ms_4 F E J (inbt hi) dX8_rowFrom_74 (fun H locs J => ?_)
          obtain ⟨v8, hv8, h⟩ := obs h
          refine lv_iinc (v := v8) (lv' := [(4, .int v8), (7, .int v4), (5, .int v3), (0, .ref (q 0)), (1, .int a0), (2, .int a1), (3, .ref (q 4)), (6, .int l6_L1)]) hx hb dX8_rowFrom_75 hl (k := 6) rfl (by rw [← hv8]; rfl) (by decide) rfl (fun ls hl => ?_)
          refine lv_iconst (v := 0) hx hb dX8_rowFrom_78 (by decide) ?_
          refine lv_istore (lv' := [(5, .int 0), (4, .int v8), (7, .int v4), (0, .ref (q 0)), (1, .int a0), (2, .int a1), (3, .ref (q 4)), (6, .int l6_L1)]) hx hb dX8_rowFrom_79 hl (by decide) rfl (fun ls hl => ?_)
          obtain rfl := Option.some.inj h
          exact Kj5 _ _ _ J (lv_sub hl [3, 4, 5, 6, 1, 0, 7] rfl)
  refine T_L1 FU 0 0 1 m_up o_L1 ho_L1 _ _ _ J (lv_sub hl [3, 4, 5, 6, 2, 1, 0] rfl) (fun H locs ls J hl => ?_)
  refine lv_iload hx hb dX8_rowFrom_87 (lv_at hl 0 rfl) ?_
  obtain rfl := Option.some.inj h
  exact ret _ _ _ _ J dX8_rowFrom_89
set_option maxHeartbeats 4000000 in
set_option maxRecDepth 100000 in
theorem c_X8_rowFrom_d {l : Launch} {g : GG} {A : Nat → Prop} {q : Nat → Nat} {m_thrown m_n m_robots m_viewed m_rules m_taped m_latest m_size m_at m_sort m_place m_end m_fault m_faultAt m_read m_crowds m_traced : Int32} {m_here m_hand m_view m_up m_down m_ruleSize m_ruleRow m_ruleDoes m_name m_goes m_tape m_readSize m_readRow m_readDoes m_own m_crowd m_isStep m_isOfGoal m_isMet m_most m_stands m_doesHere m_from m_trace : Nat → Int32} (a0 : Int32) (a1 : Int32) (res : Int32 × (Nat → Int32)) (h : F_X8_rowFrom_d a0 a1 m_n m_hand m_down = some res) : Met l yX8_rowFrom (wS yX8_rowFrom cX8_rowFrom 8 (some .int)) rm_X8_rowFrom_d (va_Pc [.ref (q 0), .int a0, .int a1, .ref (q 5)] (VB g A (MW g q m_thrown m_n m_robots m_viewed m_rules m_taped m_latest m_size m_at m_sort m_place m_end m_fault m_faultAt m_read m_crowds m_traced m_here m_hand m_view m_up m_down m_ruleSize m_ruleRow m_ruleDoes m_name m_goes m_tape m_readSize m_readRow m_readDoes m_own m_crowd m_isStep m_isOfGoal m_isMet m_most m_stands m_doesHere m_from m_trace))) (va_Qi (fun r (_ : Unit) => r = res.1) (fun _ => VB g A (MW g q m_thrown m_n m_robots m_viewed m_rules m_taped m_latest m_size m_at m_sort m_place m_end m_fault m_faultAt m_read m_crowds m_traced m_here m_hand m_view m_up res.2 m_ruleSize m_ruleRow m_ruleDoes m_name m_goes m_tape m_readSize m_readRow m_readDoes m_own m_crowd m_isStep m_isOfGoal m_isMet m_most m_stands m_doesHere m_from m_trace)) A) 0 0 A := by
  unfold F_X8_rowFrom_d at h
  refine MetI (res := res.1) (own := RX8) (ws' := (MW g q m_thrown m_n m_robots m_viewed m_rules m_taped m_latest m_size m_at m_sort m_place m_end m_fault m_faultAt m_read m_crowds m_traced m_here m_hand m_view m_up res.2 m_ruleSize m_ruleRow m_ruleDoes m_name m_goes m_tape m_readSize m_readRow m_readDoes m_own m_crowd m_isStep m_isOfGoal m_isMet m_most m_stands m_doesHere m_from m_trace)) (by decide) rfl (Nat.le_of_ble_eq_true rfl) ?_
  intro p e s m args below meth c Q F E ret ls J hl
  have hx := F.1
  have hb := F.2.1
  have hl : lv_has ls 8 [(0, .ref (q 0)), (1, .int a0), (2, .int a1), (3, .ref (q 5))] := hl
  refine lv_iconst (v := 0) hx hb dX8_rowFrom_0 (by decide) ?_
  refine lv_istore (lv' := [(4, .int 0), (0, .ref (q 0)), (1, .int a0), (2, .int a1), (3, .ref (q 5))]) hx hb dX8_rowFrom_1 hl (by decide) rfl (fun ls hl => ?_)
  refine lv_iconst (v := 0) hx hb dX8_rowFrom_3 (by decide) ?_
  refine lv_istore (lv' := [(5, .int 0), (4, .int 0), (0, .ref (q 0)), (1, .int a0), (2, .int a1), (3, .ref (q 5))]) hx hb dX8_rowFrom_4 hl (by decide) rfl (fun ls hl => ?_)
  refine lv_iconst (v := 1) hx hb dX8_rowFrom_6 (by decide) ?_
  refine lv_istore (lv' := [(6, .int 1), (5, .int 0), (4, .int 0), (0, .ref (q 0)), (1, .int a0), (2, .int a1), (3, .ref (q 5))]) hx hb dX8_rowFrom_7 hl (by decide) rfl (fun ls hl => ?_)
  obtain ⟨o_L1, ho_L1, h⟩ := ob h
  have T_L1 : ∀ (f : Nat) (l4_L1 : Int32) (l5_L1 : Int32) (l6_L1 : Int32) (m_down_L1 : Nat → Int32) (o_L1 : Int32 × (Nat → Int32)), F_X8_rowFrom_d_L1 a0 a1 m_n m_hand f l4_L1 l5_L1 l6_L1 m_down_L1 = some o_L1 → ∀ (H : Heap) (locs : List Loc) (ls : Array Slot), VJ g A s.heap (MW g q m_thrown m_n m_robots m_viewed m_rules m_taped m_latest m_size m_at m_sort m_place m_end m_fault m_faultAt m_read m_crowds m_traced m_here m_hand m_view m_up m_down_L1 m_ruleSize m_ruleRow m_ruleDoes m_name m_goes m_tape m_readSize m_readRow m_readDoes m_own m_crowd m_isStep m_isOfGoal m_isMet m_most m_stands m_doesHere m_from m_trace) H locs → lv_has ls 8 [(0, .ref (q 0)), (1, .int a0), (2, .int a1), (3, .ref (q 5)), (4, .int l4_L1), (5, .int l5_L1), (6, .int l6_L1)] → (∀ (H : Heap) (locs : List Loc) (ls : Array Slot), VJ g A s.heap (MW g q m_thrown m_n m_robots m_viewed m_rules m_taped m_latest m_size m_at m_sort m_place m_end m_fault m_faultAt m_read m_crowds m_traced m_here m_hand m_view m_up o_L1.2 m_ruleSize m_ruleRow m_ruleDoes m_name m_goes m_tape m_readSize m_readRow m_readDoes m_own m_crowd m_isStep m_isOfGoal m_isMet m_most m_stands m_doesHere m_from m_trace) H locs → lv_has ls 8 [(4, .int o_L1.1)] → W p l e rm_X8_rowFrom_d s m args below meth c H locs 0 0 Q (F0 m 87 ls [])) → W p l e rm_X8_rowFrom_d s m args below meth c H locs 0 0 Q (F0 m 9 ls []) := by
    clear h ho_L1 hl J
    intro f
    induction f with
    | zero => intro l4_L1 l5_L1 l6_L1 m_down_L1 o_L1 h; exact absurd h (by simp [F_X8_rowFrom_d_L1])
    | succ f ih =>
      intro l4_L1 l5_L1 l6_L1 m_down_L1 o_L1 h H locs ls J hl K_L1
      rw [F_X8_rowFrom_d_L1.eq_2] at h
      refine lv_iload hx hb dX8_rowFrom_9 (lv_at hl 6 rfl) ?_
      refine lv_aload_n hx hb dX8_rowFrom_11 rfl (lv_at hl 0 rfl) ?_
      refine mg_0_1 F E J fl_X8_87 dX8_rowFrom_12 ?_
      refine lv_icmp_gt (tgt := 87) hx hb dX8_rowFrom_15 (by decide) (fun c2 => ?_) (fun c2 => ?_)
      · have h := itp c2 h
        obtain rfl := Option.some.inj h
        exact K_L1 _ _ _ J (lv_sub hl [4] rfl)
      · have h := itn c2 h
        obtain ⟨v3, hv3, h⟩ := obs h
        refine lv_iinc (v := v3) (lv' := [(5, .int v3), (0, .ref (q 0)), (1, .int a0), (2, .int a1), (3, .ref (q 5)), (4, .int l4_L1), (6, .int l6_L1)]) hx hb dX8_rowFrom_18 hl (k := 5) rfl (by rw [← hv3]; rfl) (by decide) rfl (fun ls hl => ?_)
        refine lv_iload_n hx hb dX8_rowFrom_21 rfl (lv_at hl 2 rfl) ?_
        refine lv_iload_n hx hb dX8_rowFrom_22 rfl (lv_at hl 3 rfl) ?_
        refine lv_iload hx hb dX8_rowFrom_23 (lv_at hl 6 rfl) ?_
        refine lv_imul hx hb dX8_rowFrom_25 ?_
        refine lv_iadd hx hb dX8_rowFrom_26 ?_
        refine lv_aload_n hx hb dX8_rowFrom_27 rfl (lv_at hl 1 rfl) ?_
        refine mg_0_1 F E J fl_X8_87 dX8_rowFrom_28 ?_
        refine lv_iload hx hb dX8_rowFrom_31 (lv_at hl 6 rfl) ?_
        refine lv_imul hx hb dX8_rowFrom_33 ?_
        refine lv_iadd hx hb dX8_rowFrom_34 ?_
        refine lv_aload_n hx hb dX8_rowFrom_35 rfl (lv_at hl 1 rfl) ?_
        refine mg_0_1 F E J fl_X8_87 dX8_rowFrom_36 ?_
        obtain ⟨hz, h⟩ := gdt h
        refine lv_irem hx hb dX8_rowFrom_39 (nzt hz) ?_
        obtain ⟨v4, hv4, h⟩ := obs h
        refine nmI hv4 ?_
        refine lv_istore (lv' := [(7, .int v4), (5, .int v3), (0, .ref (q 0)), (1, .int a0), (2, .int a1), (3, .ref (q 5)), (4, .int l4_L1), (6, .int l6_L1)]) hx hb dX8_rowFrom_40 hl (by decide) rfl (fun ls hl => ?_)
        refine lv_aload_n hx hb dX8_rowFrom_42 rfl (lv_at hl 2 rfl) ?_
        refine mg_0_4 F E J fl_X8_17 dX8_rowFrom_43 ?_
        refine lv_iload hx hb dX8_rowFrom_46 (lv_at hl 0 rfl) ?_
        obtain ⟨hi, h⟩ := gdt h
        refine ml_2 F E J (inbt hi) dX8_rowFrom_48 ?_
        obtain ⟨j5, hj5, h⟩ := ob h
        have Kj5 : ∀ (H : Heap) (locs : List Loc) (ls : Array Slot), VJ g A s.heap (MW g q m_thrown m_n m_robots m_viewed m_rules m_taped m_latest m_size m_at m_sort m_place m_end m_fault m_faultAt m_read m_crowds m_traced m_here m_hand m_view m_up j5.2.2 m_ruleSize m_ruleRow m_ruleDoes m_name m_goes m_tape m_readSize m_readRow m_readDoes m_own m_crowd m_isStep m_isOfGoal m_isMet m_most m_stands m_doesHere m_from m_trace) H locs → lv_has ls 8 [(0, .ref (q 0)), (1, .int a0), (2, .int a1), (3, .ref (q 5)), (4, .int j5.1), (5, .int j5.2.1), (6, .int l6_L1)] → W p l e rm_X8_rowFrom_d s m args below meth c H locs 0 0 Q (F0 m 81 ls []) := by
          intro H locs ls J hl
          obtain ⟨v9, hv9, h⟩ := obs h
          refine lv_iinc (v := v9) (lv' := [(6, .int v9), (0, .ref (q 0)), (1, .int a0), (2, .int a1), (3, .ref (q 5)), (4, .int j5.1), (5, .int j5.2.1)]) hx hb dX8_rowFrom_81 hl (k := 6) rfl (by rw [← hv9]; rfl) (by decide) rfl (fun ls hl => ?_)
          refine lv_goto (tgt := 9) hx hb dX8_rowFrom_84 (by decide) ?_
          exact ih _ _ _ _ _ h _ _ _ J (lv_sub hl [1, 2, 3, 4, 5, 6, 0] rfl) K_L1
        clear h
        have h := hj5
        refine lv_if_le (tgt := 81) hx hb dX8_rowFrom_49 (by decide) (fun c6 => ?_) (fun c6 => ?_)
        · have h := itp c6 h
          obtain rfl := Option.some.inj h
          exact Kj5 _ _ _ J (lv_sub hl [2, 3, 4, 5, 6, 1, 7] rfl)
        · have h := itn c6 h
          refine lv_aload_n hx hb dX8_rowFrom_52 rfl (lv_at hl 5 rfl) ?_
          refine lv_iconst (v := 2) hx hb dX8_rowFrom_53 (by decide) ?_
          refine lv_iload hx hb dX8_rowFrom_54 (lv_at hl 6 rfl) ?_
          refine lv_imul hx hb dX8_rowFrom_56 ?_
          refine lv_iload hx hb dX8_rowFrom_57 (lv_at hl 1 rfl) ?_
          obtain ⟨hi, h⟩ := gdt h
          refine ms_5 F E J (inbt hi) dX8_rowFrom_59 (fun H locs J => ?_)
          refine lv_aload_n hx hb dX8_rowFrom_60 rfl (lv_at hl 5 rfl) ?_
          refine lv_iconst (v := 2) hx hb dX8_rowFrom_61 (by decide) ?_
          refine lv_iload hx hb dX8_rowFrom_62 (lv_at hl 6 rfl) ?_
          refine lv_imul hx hb dX8_rowFrom_64 ?_
          refine lv_iconst (v := 1) hx hb dX8_rowFrom_65 (by decide) ?_
          refine lv_iadd hx hb dX8_rowFrom_66 ?_
          refine lv_aload_n hx hb dX8_rowFrom_67 rfl (lv_at hl 2 rfl) ?_
          refine mg_0_4 F E J fl_X8_17 dX8_rowFrom_68 ?_
          refine lv_iload hx hb dX8_rowFrom_71 (lv_at hl 0 rfl) ?_
          obtain ⟨hi, h⟩ := gdt h
          refine ml_2 F E J (inbt hi) dX8_rowFrom_73 ?_
          obtain ⟨v7, hv7, h⟩ := obs h
          refine nmI hv7 ?_
          obtain ⟨hi, h⟩ := gdt h
          refine ms_5 F E J (inbt hi) dX8_rowFrom_74 (fun H locs J => ?_)
          obtain ⟨v8, hv8, h⟩ := obs h
          refine lv_iinc (v := v8) (lv' := [(4, .int v8), (7, .int v4), (5, .int v3), (0, .ref (q 0)), (1, .int a0), (2, .int a1), (3, .ref (q 5)), (6, .int l6_L1)]) hx hb dX8_rowFrom_75 hl (k := 6) rfl (by rw [← hv8]; rfl) (by decide) rfl (fun ls hl => ?_)
          refine lv_iconst (v := 0) hx hb dX8_rowFrom_78 (by decide) ?_
          refine lv_istore (lv' := [(5, .int 0), (4, .int v8), (7, .int v4), (0, .ref (q 0)), (1, .int a0), (2, .int a1), (3, .ref (q 5)), (6, .int l6_L1)]) hx hb dX8_rowFrom_79 hl (by decide) rfl (fun ls hl => ?_)
          obtain rfl := Option.some.inj h
          exact Kj5 _ _ _ J (lv_sub hl [3, 4, 5, 6, 1, 0, 7] rfl)
  refine T_L1 FU 0 0 1 m_down o_L1 ho_L1 _ _ _ J (lv_sub hl [3, 4, 5, 6, 2, 1, 0] rfl) (fun H locs ls J hl => ?_)
  refine lv_iload hx hb dX8_rowFrom_87 (lv_at hl 0 rfl) ?_
  obtain rfl := Option.some.inj h
  exact ret _ _ _ _ J dX8_rowFrom_89
set_option maxHeartbeats 4000000 in
set_option maxRecDepth 100000 in
theorem c_X8_look {l : Launch} {g : GG} {A : Nat → Prop} {q : Nat → Nat} {m_thrown m_n m_robots m_viewed m_rules m_taped m_latest m_size m_at m_sort m_place m_end m_fault m_faultAt m_read m_crowds m_traced : Int32} {m_here m_hand m_view m_up m_down m_ruleSize m_ruleRow m_ruleDoes m_name m_goes m_tape m_readSize m_readRow m_readDoes m_own m_crowd m_isStep m_isOfGoal m_isMet m_most m_stands m_doesHere m_from m_trace : Nat → Int32} (a0 : Int32) (res : Int32 × Int32 × (Nat → Int32) × (Nat → Int32) × (Nat → Int32)) (h : F_X8_look a0 m_n m_hand m_view m_up m_down = some res) : Met l yX8_look (wS yX8_look cX8_look 5 (some .int)) rm_X8_look (va_Pc [.ref (q 0), .int a0] (VB g A (MW g q m_thrown m_n m_robots m_viewed m_rules m_taped m_latest m_size m_at m_sort m_place m_end m_fault m_faultAt m_read m_crowds m_traced m_here m_hand m_view m_up m_down m_ruleSize m_ruleRow m_ruleDoes m_name m_goes m_tape m_readSize m_readRow m_readDoes m_own m_crowd m_isStep m_isOfGoal m_isMet m_most m_stands m_doesHere m_from m_trace))) (va_Qi (fun r (_ : Unit) => r = res.1) (fun _ => VB g A (MW g q m_thrown m_n m_robots res.2.1 m_rules m_taped m_latest m_size m_at m_sort m_place m_end m_fault m_faultAt m_read m_crowds m_traced m_here m_hand res.2.2.1 res.2.2.2.1 res.2.2.2.2 m_ruleSize m_ruleRow m_ruleDoes m_name m_goes m_tape m_readSize m_readRow m_readDoes m_own m_crowd m_isStep m_isOfGoal m_isMet m_most m_stands m_doesHere m_from m_trace)) A) 0 0 A := by
  unfold F_X8_look at h
  refine MetI (res := res.1) (own := RX8) (ws' := (MW g q m_thrown m_n m_robots res.2.1 m_rules m_taped m_latest m_size m_at m_sort m_place m_end m_fault m_faultAt m_read m_crowds m_traced m_here m_hand res.2.2.1 res.2.2.2.1 res.2.2.2.2 m_ruleSize m_ruleRow m_ruleDoes m_name m_goes m_tape m_readSize m_readRow m_readDoes m_own m_crowd m_isStep m_isOfGoal m_isMet m_most m_stands m_doesHere m_from m_trace)) (by decide) rfl (Nat.le_of_ble_eq_true rfl) ?_
  intro p e s m args below meth c Q F E ret ls J hl
  have hx := F.1
  have hb := F.2.1
  have hl : lv_has ls 5 [(0, .ref (q 0)), (1, .int a0)] := hl
  refine lv_aload_n hx hb dX8_look_0 rfl (lv_at hl 0 rfl) ?_
  refine lv_iconst (v := 2) hx hb dX8_look_1 (by decide) ?_
  refine lv_aload_n hx hb dX8_look_2 rfl (lv_at hl 0 rfl) ?_
  refine lv_iload_n hx hb dX8_look_3 rfl (lv_at hl 1 rfl) ?_
  refine lv_iconst (v := 1) hx hb dX8_look_4 (by decide) ?_
  refine lv_aload_n hx hb dX8_look_5 rfl (lv_at hl 0 rfl) ?_
  refine mg_0_7 F E J fl_X8_23 dX8_look_6 ?_
  obtain ⟨p1, hp1, h⟩ := ob h
  refine onI (runV (As := [.int a0, .int 1, .ref (q 4)]) (rest := [.int 2, .ref (q 0)]) F E J (c_X8_rowFrom_u a0 1 p1 hp1) cw_X8_103 ⟨rfl, rfl, Nat.le_of_ble_eq_true rfl, Nat.le_of_ble_eq_true rfl⟩ rcM0 rfl hl.1 rfl (Nat.le_of_ble_eq_true rfl) dX8_look_9) J (fun H locs J => ?_)
  refine lv_imul hx hb dX8_look_12 ?_
  obtain ⟨v2, hv2, h⟩ := obs h
  refine nmI hv2 ?_
  refine mp_0_5 F E J fl_X8_107 dX8_look_13 (fun H locs J => ?_)
  refine lv_aload_n hx hb dX8_look_16 rfl (lv_at hl 0 rfl) ?_
  refine lv_iload_n hx hb dX8_look_17 rfl (lv_at hl 1 rfl) ?_
  refine lv_iconst (v := (-1)) hx hb dX8_look_18 (by decide) ?_
  refine lv_aload_n hx hb dX8_look_19 rfl (lv_at hl 0 rfl) ?_
  refine mg_0_8 F E J fl_X8_26 dX8_look_20 ?_
  obtain ⟨p3, hp3, h⟩ := ob h
  refine onI (runV (As := [.int a0, .int (-1), .ref (q 5)]) (rest := []) F E J (c_X8_rowFrom_d a0 (-1) p3 hp3) cw_X8_103 ⟨rfl, rfl, Nat.le_of_ble_eq_true rfl, Nat.le_of_ble_eq_true rfl⟩ rcM0 rfl hl.1 rfl (Nat.le_of_ble_eq_true rfl) dX8_look_23) J (fun H locs J => ?_)
  refine lv_istore_n (lv' := [(2, .int p3.1), (0, .ref (q 0)), (1, .int a0)]) hx hb dX8_look_26 rfl hl (by decide) rfl (fun ls hl => ?_)
  refine lv_iconst (v := 0) hx hb dX8_look_27 (by decide) ?_
  refine lv_istore_n (lv' := [(3, .int 0), (2, .int p3.1), (0, .ref (q 0)), (1, .int a0)]) hx hb dX8_look_28 rfl hl (by decide) rfl (fun ls hl => ?_)
  refine lv_iconst (v := 0) hx hb dX8_look_29 (by decide) ?_
  refine lv_istore (lv' := [(4, .int 0), (3, .int 0), (2, .int p3.1), (0, .ref (q 0)), (1, .int a0)]) hx hb dX8_look_30 hl (by decide) rfl (fun ls hl => ?_)
  obtain ⟨o_L4, ho_L4, h⟩ := ob h
  have T_L4 : ∀ (f : Nat) (l3_L4 : Int32) (l4_L4 : Int32) (o_L4 : Int32), F_X8_look_L4 v2 p1.2 p3.2 f l3_L4 l4_L4 = some o_L4 → ∀ (H : Heap) (locs : List Loc) (ls : Array Slot), VJ g A s.heap (MW g q m_thrown m_n m_robots v2 m_rules m_taped m_latest m_size m_at m_sort m_place m_end m_fault m_faultAt m_read m_crowds m_traced m_here m_hand m_view p1.2 p3.2 m_ruleSize m_ruleRow m_ruleDoes m_name m_goes m_tape m_readSize m_readRow m_readDoes m_own m_crowd m_isStep m_isOfGoal m_isMet m_most m_stands m_doesHere m_from m_trace) H locs → lv_has ls 5 [(0, .ref (q 0)), (3, .int l3_L4), (4, .int l4_L4)] → (∀ (H : Heap) (locs : List Loc) (ls : Array Slot), VJ g A s.heap (MW g q m_thrown m_n m_robots v2 m_rules m_taped m_latest m_size m_at m_sort m_place m_end m_fault m_faultAt m_read m_crowds m_traced m_here m_hand m_view p1.2 p3.2 m_ruleSize m_ruleRow m_ruleDoes m_name m_goes m_tape m_readSize m_readRow m_readDoes m_own m_crowd m_isStep m_isOfGoal m_isMet m_most m_stands m_doesHere m_from m_trace) H locs → lv_has ls 5 [(0, .ref (q 0)), (3, .int o_L4)] → W p l e rm_X8_look s m args below meth c H locs 0 0 Q (F0 m 95 ls [])) → W p l e rm_X8_look s m args below meth c H locs 0 0 Q (F0 m 32 ls []) := by
    clear h ho_L4 hl J
    intro f
    induction f with
    | zero => intro l3_L4 l4_L4 o_L4 h; exact absurd h (by simp [F_X8_look_L4])
    | succ f ih =>
      intro l3_L4 l4_L4 o_L4 h H locs ls J hl K_L4
      rw [F_X8_look_L4.eq_2] at h
      refine lv_iload hx hb dX8_look_32 (lv_at hl 2 rfl) ?_
      refine lv_aload_n hx hb dX8_look_34 rfl (lv_at hl 0 rfl) ?_
      refine mg_0_5 F E J fl_X8_107 dX8_look_35 ?_
      refine lv_icmp_ge (tgt := 95) hx hb dX8_look_38 (by decide) (fun c5 => ?_) (fun c5 => ?_)
      · have h := itp c5 h
        obtain rfl := Option.some.inj h
        exact K_L4 _ _ _ J (lv_sub hl [0, 1] rfl)
      · have h := itn c5 h
        refine lv_iload_n hx hb dX8_look_41 rfl (lv_at hl 1 rfl) ?_
        refine lv_if_ne (tgt := 95) hx hb dX8_look_42 (by decide) (fun c6 => ?_) (fun c6 => ?_)
        · have h := itn c6 h
          obtain rfl := Option.some.inj h
          exact K_L4 _ _ _ J (lv_sub hl [0, 1] rfl)
        · have h := itp c6 h
          refine lv_aload_n hx hb dX8_look_45 rfl (lv_at hl 0 rfl) ?_
          refine mg_0_7 F E J fl_X8_23 dX8_look_46 ?_
          refine lv_iload hx hb dX8_look_49 (lv_at hl 2 rfl) ?_
          obtain ⟨hi, h⟩ := gdt h
          refine ml_4 F E J (inbt hi) dX8_look_51 ?_
          refine lv_aload_n hx hb dX8_look_52 rfl (lv_at hl 0 rfl) ?_
          refine mg_0_8 F E J fl_X8_26 dX8_look_53 ?_
          refine lv_iload hx hb dX8_look_56 (lv_at hl 2 rfl) ?_
          obtain ⟨hi, h⟩ := gdt h
          refine ml_5 F E J (inbt hi) dX8_look_58 ?_
          obtain ⟨j7, hj7, h⟩ := ob h
          have Kj7 : ∀ (H : Heap) (locs : List Loc) (ls : Array Slot), VJ g A s.heap (MW g q m_thrown m_n m_robots v2 m_rules m_taped m_latest m_size m_at m_sort m_place m_end m_fault m_faultAt m_read m_crowds m_traced m_here m_hand m_view p1.2 p3.2 m_ruleSize m_ruleRow m_ruleDoes m_name m_goes m_tape m_readSize m_readRow m_readDoes m_own m_crowd m_isStep m_isOfGoal m_isMet m_most m_stands m_doesHere m_from m_trace) H locs → lv_has ls 5 [(0, .ref (q 0)), (4, .int l4_L4)] → W p l e rm_X8_look s m args below meth c H locs 0 0 Q (F0 m 88 ls [.int j7]) := by
            intro H locs ls J hl
            refine lv_istore_n (lv' := [(3, .int j7), (0, .ref (q 0)), (4, .int l4_L4)]) hx hb dX8_look_88 rfl hl (by decide) rfl (fun ls hl => ?_)
            obtain ⟨v10, hv10, h⟩ := obs h
            refine lv_iinc (v := v10) (lv' := [(4, .int v10), (3, .int j7), (0, .ref (q 0))]) hx hb dX8_look_89 hl (k := 2) rfl (by rw [← hv10]; rfl) (by decide) rfl (fun ls hl => ?_)
            refine lv_goto (tgt := 32) hx hb dX8_look_92 (by decide) ?_
            exact ih _ _ _ h _ _ _ J (lv_sub hl [2, 1, 0] rfl) K_L4
          clear h
          have h := hj7
          refine lv_icmp_ge (tgt := 66) hx hb dX8_look_59 (by decide) (fun c8 => ?_) (fun c8 => ?_)
          · have h := itp c8 h
            refine lv_aload_n hx hb dX8_look_66 rfl (lv_at hl 0 rfl) ?_
            refine mg_0_7 F E J fl_X8_23 dX8_look_67 ?_
            refine lv_iload hx hb dX8_look_70 (lv_at hl 2 rfl) ?_
            obtain ⟨hi, h⟩ := gdt h
            refine ml_4 F E J (inbt hi) dX8_look_72 ?_
            refine lv_aload_n hx hb dX8_look_73 rfl (lv_at hl 0 rfl) ?_
            refine mg_0_8 F E J fl_X8_26 dX8_look_74 ?_
            refine lv_iload hx hb dX8_look_77 (lv_at hl 2 rfl) ?_
            obtain ⟨hi, h⟩ := gdt h
            refine ml_5 F E J (inbt hi) dX8_look_79 ?_
            refine lv_icmp_le (tgt := 87) hx hb dX8_look_80 (by decide) (fun c9 => ?_) (fun c9 => ?_)
            · have h := itp c9 h
              refine lv_iconst (v := 0) hx hb dX8_look_87 (by decide) ?_
              obtain rfl := Option.some.inj h
              exact Kj7 _ _ _ J (lv_sub hl [0, 2] rfl)
            · have h := itn c9 h
              refine lv_iconst (v := (-1)) hx hb dX8_look_83 (by decide) ?_
              refine lv_goto (tgt := 88) hx hb dX8_look_84 (by decide) ?_
              obtain rfl := Option.some.inj h
              exact Kj7 _ _ _ J (lv_sub hl [0, 2] rfl)
          · have h := itn c8 h
            refine lv_iconst (v := 1) hx hb dX8_look_62 (by decide) ?_
            refine lv_goto (tgt := 88) hx hb dX8_look_63 (by decide) ?_
            obtain rfl := Option.some.inj h
            exact Kj7 _ _ _ J (lv_sub hl [0, 2] rfl)
  refine T_L4 FU 0 0 o_L4 ho_L4 _ _ _ J (lv_sub hl [3, 1, 0] rfl) (fun H locs ls J hl => ?_)
  refine lv_iconst (v := 0) hx hb dX8_look_95 (by decide) ?_
  refine lv_istore (lv' := [(4, .int 0), (0, .ref (q 0)), (3, .int o_L4)]) hx hb dX8_look_96 hl (by decide) rfl (fun ls hl => ?_)
  obtain ⟨o_L11, ho_L11, h⟩ := ob h
  have T_L11 : ∀ (f : Nat) (l4_L11 : Int32) (m_view_L11 : Nat → Int32) (o_L11 : Nat → Int32), F_X8_look_L11 o_L4 v2 p1.2 p3.2 f l4_L11 m_view_L11 = some o_L11 → ∀ (H : Heap) (locs : List Loc) (ls : Array Slot), VJ g A s.heap (MW g q m_thrown m_n m_robots v2 m_rules m_taped m_latest m_size m_at m_sort m_place m_end m_fault m_faultAt m_read m_crowds m_traced m_here m_hand m_view_L11 p1.2 p3.2 m_ruleSize m_ruleRow m_ruleDoes m_name m_goes m_tape m_readSize m_readRow m_readDoes m_own m_crowd m_isStep m_isOfGoal m_isMet m_most m_stands m_doesHere m_from m_trace) H locs → lv_has ls 5 [(0, .ref (q 0)), (3, .int o_L4), (4, .int l4_L11)] → (∀ (H : Heap) (locs : List Loc) (ls : Array Slot), VJ g A s.heap (MW g q m_thrown m_n m_robots v2 m_rules m_taped m_latest m_size m_at m_sort m_place m_end m_fault m_faultAt m_read m_crowds m_traced m_here m_hand o_L11 p1.2 p3.2 m_ruleSize m_ruleRow m_ruleDoes m_name m_goes m_tape m_readSize m_readRow m_readDoes m_own m_crowd m_isStep m_isOfGoal m_isMet m_most m_stands m_doesHere m_from m_trace) H locs → lv_has ls 5 [(3, .int o_L4)] → W p l e rm_X8_look s m args below meth c H locs 0 0 Q (F0 m 141 ls [])) → W p l e rm_X8_look s m args below meth c H locs 0 0 Q (F0 m 98 ls []) := by
    clear h ho_L11 hl J
    intro f
    induction f with
    | zero => intro l4_L11 m_view_L11 o_L11 h; exact absurd h (by simp [F_X8_look_L11])
    | succ f ih =>
      intro l4_L11 m_view_L11 o_L11 h H locs ls J hl K_L11
      rw [F_X8_look_L11.eq_2] at h
      refine lv_iload hx hb dX8_look_98 (lv_at hl 2 rfl) ?_
      refine lv_aload_n hx hb dX8_look_100 rfl (lv_at hl 0 rfl) ?_
      refine mg_0_5 F E J fl_X8_107 dX8_look_101 ?_
      refine lv_icmp_ge (tgt := 141) hx hb dX8_look_104 (by decide) (fun c12 => ?_) (fun c12 => ?_)
      · have h := itp c12 h
        obtain rfl := Option.some.inj h
        exact K_L11 _ _ _ J (lv_sub hl [1] rfl)
      · have h := itn c12 h
        refine lv_aload_n hx hb dX8_look_107 rfl (lv_at hl 0 rfl) ?_
        refine mg_0_6 F E J fl_X8_20 dX8_look_108 ?_
        refine lv_iload hx hb dX8_look_111 (lv_at hl 2 rfl) ?_
        refine lv_iload_n hx hb dX8_look_113 rfl (lv_at hl 1 rfl) ?_
        obtain ⟨j13, hj13, h⟩ := ob h
        have Kj13 : ∀ (H : Heap) (locs : List Loc) (ls : Array Slot), VJ g A s.heap (MW g q m_thrown m_n m_robots v2 m_rules m_taped m_latest m_size m_at m_sort m_place m_end m_fault m_faultAt m_read m_crowds m_traced m_here m_hand m_view_L11 p1.2 p3.2 m_ruleSize m_ruleRow m_ruleDoes m_name m_goes m_tape m_readSize m_readRow m_readDoes m_own m_crowd m_isStep m_isOfGoal m_isMet m_most m_stands m_doesHere m_from m_trace) H locs → lv_has ls 5 [(0, .ref (q 0)), (3, .int o_L4), (4, .int l4_L11)] → W p l e rm_X8_look s m args below meth c H locs 0 0 Q (F0 m 134 ls [.int j13, .int l4_L11, .ref (q 3)]) := by
          intro H locs ls J hl
          obtain ⟨hi, h⟩ := gdt h
          refine ms_3 F E J (inbt hi) dX8_look_134 (fun H locs J => ?_)
          obtain ⟨v15, hv15, h⟩ := obs h
          refine lv_iinc (v := v15) (lv' := [(4, .int v15), (0, .ref (q 0)), (3, .int o_L4)]) hx hb dX8_look_135 hl (k := 2) rfl (by rw [← hv15]; rfl) (by decide) rfl (fun ls hl => ?_)
          refine lv_goto (tgt := 98) hx hb dX8_look_138 (by decide) ?_
          exact ih _ _ _ h _ _ _ J (lv_sub hl [1, 2, 0] rfl) K_L11
        clear h
        have h := hj13
        refine lv_if_ge (tgt := 127) hx hb dX8_look_114 (by decide) (fun c14 => ?_) (fun c14 => ?_)
        · have h := itp c14 h
          refine lv_aload_n hx hb dX8_look_127 rfl (lv_at hl 0 rfl) ?_
          refine mg_0_7 F E J fl_X8_23 dX8_look_128 ?_
          refine lv_iload hx hb dX8_look_131 (lv_at hl 2 rfl) ?_
          obtain ⟨hi, h⟩ := gdt h
          refine ml_4 F E J (inbt hi) dX8_look_133 ?_
          obtain rfl := Option.some.inj h
          exact Kj13 _ _ _ J (lv_sub hl [0, 1, 2] rfl)
        · have h := itn c14 h
          refine lv_aload_n hx hb dX8_look_117 rfl (lv_at hl 0 rfl) ?_
          refine mg_0_8 F E J fl_X8_26 dX8_look_118 ?_
          refine lv_iload hx hb dX8_look_121 (lv_at hl 2 rfl) ?_
          obtain ⟨hi, h⟩ := gdt h
          refine ml_5 F E J (inbt hi) dX8_look_123 ?_
          refine lv_goto (tgt := 134) hx hb dX8_look_124 (by decide) ?_
          obtain rfl := Option.some.inj h
          exact Kj13 _ _ _ J (lv_sub hl [0, 1, 2] rfl)
  refine T_L11 FU 0 m_view o_L11 ho_L11 _ _ _ J (lv_sub hl [1, 2, 0] rfl) (fun H locs ls J hl => ?_)
  refine lv_iload_n hx hb dX8_look_141 rfl (lv_at hl 0 rfl) ?_
  obtain rfl := Option.some.inj h
  exact ret _ _ _ _ J dX8_look_142
set_option maxHeartbeats 4000000 in
set_option maxRecDepth 100000 in
theorem c_X8_view {l : Launch} {g : GG} {A : Nat → Prop} {q : Nat → Nat} {m_thrown m_n m_robots m_viewed m_rules m_taped m_latest m_size m_at m_sort m_place m_end m_fault m_faultAt m_read m_crowds m_traced : Int32} {m_here m_hand m_view m_up m_down m_ruleSize m_ruleRow m_ruleDoes m_name m_goes m_tape m_readSize m_readRow m_readDoes m_own m_crowd m_isStep m_isOfGoal m_isMet m_most m_stands m_doesHere m_from m_trace : Nat → Int32} (a0 : Int32) (a1 : Int32) (res : Int32 × Int32 × Int32 × (Nat → Int32) × (Nat → Int32) × (Nat → Int32) × (Nat → Int32)) (h : F_X8_view a0 a1 m_n m_viewed m_here m_hand m_view m_up m_down = some res) : Met l yX8_view (wS yX8_view cX8_view 4 (some .int)) rm_X8_view (va_Pc [.ref (q 0), .int a0, .int a1] (VB g A (MW g q m_thrown m_n m_robots m_viewed m_rules m_taped m_latest m_size m_at m_sort m_place m_end m_fault m_faultAt m_read m_crowds m_traced m_here m_hand m_view m_up m_down m_ruleSize m_ruleRow m_ruleDoes m_name m_goes m_tape m_readSize m_readRow m_readDoes m_own m_crowd m_isStep m_isOfGoal m_isMet m_most m_stands m_doesHere m_from m_trace))) (va_Qi (fun r (_ : Unit) => r = res.1) (fun _ => VB g A (MW g q res.2.1 m_n m_robots res.2.2.1 m_rules m_taped m_latest m_size m_at m_sort m_place m_end m_fault m_faultAt m_read m_crowds m_traced m_here res.2.2.2.1 res.2.2.2.2.1 res.2.2.2.2.2.1 res.2.2.2.2.2.2 m_ruleSize m_ruleRow m_ruleDoes m_name m_goes m_tape m_readSize m_readRow m_readDoes m_own m_crowd m_isStep m_isOfGoal m_isMet m_most m_stands m_doesHere m_from m_trace)) A) 0 0 A := by
  unfold F_X8_view at h
  refine MetI (res := res.1) (own := RX8) (ws' := (MW g q res.2.1 m_n m_robots res.2.2.1 m_rules m_taped m_latest m_size m_at m_sort m_place m_end m_fault m_faultAt m_read m_crowds m_traced m_here res.2.2.2.1 res.2.2.2.2.1 res.2.2.2.2.2.1 res.2.2.2.2.2.2 m_ruleSize m_ruleRow m_ruleDoes m_name m_goes m_tape m_readSize m_readRow m_readDoes m_own m_crowd m_isStep m_isOfGoal m_isMet m_most m_stands m_doesHere m_from m_trace)) (by decide) rfl (Nat.le_of_ble_eq_true rfl) ?_
  intro p e s m args below meth c Q F E ret ls J hl
  have hx := F.1
  have hb := F.2.1
  have hl : lv_has ls 4 [(0, .ref (q 0)), (1, .int a0), (2, .int a1)] := hl
  refine lv_aload_n hx hb dX8_view_0 rfl (lv_at hl 0 rfl) ?_
  refine lv_iconst (v := 0) hx hb dX8_view_1 (by decide) ?_
  refine mp_0_0 F E J fl_X8_1 dX8_view_2 (fun H locs J => ?_)
  refine lv_aload_n hx hb dX8_view_5 rfl (lv_at hl 0 rfl) ?_
  refine lv_iload_n hx hb dX8_view_6 rfl (lv_at hl 1 rfl) ?_
  obtain ⟨p1, hp1, h⟩ := ob h
  refine onZ (runV (As := [.int a0]) (rest := []) F E J (c_X8_isPlace a0 p1 hp1) cw_X8_94 ⟨rfl, rfl, Nat.le_of_ble_eq_true rfl, Nat.le_of_ble_eq_true rfl⟩ rcM0 rfl hl.1 rfl (Nat.le_of_ble_eq_true rfl) dX8_view_7) J (fun hzbp1 H locs J => ?_)
  refine lv_if_ne (tgt := 16) hx hb dX8_view_10 (by decide) (fun c2 => ?_) (fun c2 => ?_)
  · have h := itn c2 h
    refine lv_aload_n hx hb dX8_view_16 rfl (lv_at hl 0 rfl) ?_
    refine mg_0_3 F E J fl_X8_13 dX8_view_17 ?_
    refine lv_iload_n hx hb dX8_view_20 rfl (lv_at hl 1 rfl) ?_
    obtain ⟨hi, h⟩ := gdt h
    refine ml_1 F E J (inbt hi) dX8_view_21 ?_
    refine lv_if_ne (tgt := 28) hx hb dX8_view_22 (by decide) (fun c3 => ?_) (fun c3 => ?_)
    · have h := itn c3 h
      refine lv_aload_n hx hb dX8_view_28 rfl (lv_at hl 0 rfl) ?_
      obtain ⟨p4, hp4, h⟩ := ob h
      refine onV (runV (As := []) (rest := []) F E J (c_X8_take  p4 hp4) cw_X8_111 ⟨rfl, rfl, Nat.le_of_ble_eq_true rfl, Nat.le_of_ble_eq_true rfl⟩ rcM0 rfl hl.1 rfl (Nat.le_of_ble_eq_true rfl) dX8_view_29) J (fun H locs J => ?_)
      refine lv_aload_n hx hb dX8_view_32 rfl (lv_at hl 0 rfl) ?_
      refine lv_iload_n hx hb dX8_view_33 rfl (lv_at hl 1 rfl) ?_
      obtain ⟨p5, hp5, h⟩ := ob h
      refine onI (runV (As := [.int a0]) (rest := []) F E J (c_X8_look a0 p5 hp5) cw_X8_114 ⟨rfl, rfl, Nat.le_of_ble_eq_true rfl, Nat.le_of_ble_eq_true rfl⟩ rcM0 rfl hl.1 rfl (Nat.le_of_ble_eq_true rfl) dX8_view_34) J (fun H locs J => ?_)
      refine lv_istore_n (lv' := [(3, .int p5.1), (0, .ref (q 0)), (1, .int a0), (2, .int a1)]) hx hb dX8_view_37 rfl hl (by decide) rfl (fun ls hl => ?_)
      refine lv_iload_n hx hb dX8_view_38 rfl (lv_at hl 3 rfl) ?_
      refine lv_i2l (v := (Int32.toInt64 a1)) hx hb dX8_view_39 rfl ?_
      refine lv_lconst (v := 0) hx hb dX8_view_40 (by decide) ?_
      refine lv_aload_n hx hb dX8_view_41 rfl (lv_at hl 1 rfl) ?_
      refine mg_0_5 F E J fl_X8_107 dX8_view_42 ?_
      refine lv_iconst (v := 1) hx hb dX8_view_45 (by decide) ?_
      refine lv_isub hx hb dX8_view_46 ?_
      refine lv_i2l (v := (Int32.toInt64 (p5.2.1 - 1))) hx hb dX8_view_47 rfl ?_
      obtain ⟨p6, hp6, h⟩ := ob h
      refine onZ (runS (As := [.long (Int32.toInt64 a1), .long 0, .long (Int32.toInt64 (p5.2.1 - 1))]) (rest := []) F E J (c_X8_in (Int32.toInt64 a1) 0 (Int32.toInt64 (p5.2.1 - 1)) p6 hp6) cw_X8_90 ⟨rfl, rfl, Nat.le_of_ble_eq_true rfl, Nat.le_of_ble_eq_true rfl⟩ rfl hl.1 rfl (Nat.le_of_ble_eq_true rfl) dX8_view_48) J (fun hzbp6 H locs J => ?_)
      refine lv_if_eq (tgt := 63) hx hb dX8_view_51 (by decide) (fun c7 => ?_) (fun c7 => ?_)
      · have h := itp c7 h
        refine lv_ldc hx hb F.2.2.2.1 (F.2.2.2.2 _ kc_X8_110) dX8_view_63 ?_
        obtain rfl := Option.some.inj h
        exact ret _ _ _ _ J dX8_view_65
      · have h := itn c7 h
        refine lv_aload_n hx hb dX8_view_54 rfl (lv_at hl 1 rfl) ?_
        refine mg_0_6 F E J fl_X8_20 dX8_view_55 ?_
        refine lv_iload_n hx hb dX8_view_58 rfl (lv_at hl 3 rfl) ?_
        obtain ⟨hi, h⟩ := gdt h
        refine ml_3 F E J (inbt hi) dX8_view_59 ?_
        refine lv_goto (tgt := 65) hx hb dX8_view_60 (by decide) ?_
        obtain rfl := Option.some.inj h
        exact ret _ _ _ _ J dX8_view_65
    · have h := itp c3 h
      refine lv_ldc hx hb F.2.2.2.1 (F.2.2.2.2 _ kc_X8_110) dX8_view_25 ?_
      obtain rfl := Option.some.inj h
      exact ret _ _ _ _ J dX8_view_27
  · have h := itp c2 h
    refine lv_ldc hx hb F.2.2.2.1 (F.2.2.2.2 _ kc_X8_98) dX8_view_13 ?_
    obtain rfl := Option.some.inj h
    exact ret _ _ _ _ J dX8_view_15
set_option maxHeartbeats 4000000 in
set_option maxRecDepth 100000 in
theorem c_X8_doing {l : Launch} {g : GG} {A : Nat → Prop} {q : Nat → Nat} {m_thrown m_n m_robots m_viewed m_rules m_taped m_latest m_size m_at m_sort m_place m_end m_fault m_faultAt m_read m_crowds m_traced : Int32} {m_here m_hand m_view m_up m_down m_ruleSize m_ruleRow m_ruleDoes m_name m_goes m_tape m_readSize m_readRow m_readDoes m_own m_crowd m_isStep m_isOfGoal m_isMet m_most m_stands m_doesHere m_from m_trace : Nat → Int32} (a0 : Int32) (res : Int32 × Int32 × (Nat → Int32) × (Nat → Int32) × (Nat → Int32)) (h : F_X8_doing a0 m_n m_rules m_hand m_view m_up m_down m_ruleSize m_ruleRow m_ruleDoes = some res) : Met l yX8_doing (wS yX8_doing cX8_doing 7 (some .int)) rm_X8_doing (va_Pc [.ref (q 0), .int a0] (VB g A (MW g q m_thrown m_n m_robots m_viewed m_rules m_taped m_latest m_size m_at m_sort m_place m_end m_fault m_faultAt m_read m_crowds m_traced m_here m_hand m_view m_up m_down m_ruleSize m_ruleRow m_ruleDoes m_name m_goes m_tape m_readSize m_readRow m_readDoes m_own m_crowd m_isStep m_isOfGoal m_isMet m_most m_stands m_doesHere m_from m_trace))) (va_Qi (fun r (_ : Unit) => r = res.1) (fun _ => VB g A (MW g q m_thrown m_n m_robots res.2.1 m_rules m_taped m_latest m_size m_at m_sort m_place m_end m_fault m_faultAt m_read m_crowds m_traced m_here m_hand res.2.2.1 res.2.2.2.1 res.2.2.2.2 m_ruleSize m_ruleRow m_ruleDoes m_name m_goes m_tape m_readSize m_readRow m_readDoes m_own m_crowd m_isStep m_isOfGoal m_isMet m_most m_stands m_doesHere m_from m_trace)) A) 0 0 A := by
  unfold F_X8_doing at h
  refine MetI (res := res.1) (own := RX8) (ws' := (MW g q m_thrown m_n m_robots res.2.1 m_rules m_taped m_latest m_size m_at m_sort m_place m_end m_fault m_faultAt m_read m_crowds m_traced m_here m_hand res.2.2.1 res.2.2.2.1 res.2.2.2.2 m_ruleSize m_ruleRow m_ruleDoes m_name m_goes m_tape m_readSize m_readRow m_readDoes m_own m_crowd m_isStep m_isOfGoal m_isMet m_most m_stands m_doesHere m_from m_trace)) (by decide) rfl (Nat.le_of_ble_eq_true rfl) ?_
  intro p e s m args below meth c Q F E ret ls J hl
  have hx := F.1
  have hb := F.2.1
  have hl : lv_has ls 7 [(0, .ref (q 0)), (1, .int a0)] := hl
  refine lv_aload_n hx hb dX8_doing_0 rfl (lv_at hl 0 rfl) ?_
  refine lv_iload_n hx hb dX8_doing_1 rfl (lv_at hl 1 rfl) ?_
  obtain ⟨p1, hp1, h⟩ := ob h
  refine onI (runV (As := [.int a0]) (rest := []) F E J (c_X8_look a0 p1 hp1) cw_X8_114 ⟨rfl, rfl, Nat.le_of_ble_eq_true rfl, Nat.le_of_ble_eq_true rfl⟩ rcM0 rfl hl.1 rfl (Nat.le_of_ble_eq_true rfl) dX8_doing_2) J (fun H locs J => ?_)
  refine lv_istore_n (lv' := [(2, .int p1.1), (0, .ref (q 0)), (1, .int a0)]) hx hb dX8_doing_5 rfl hl (by decide) rfl (fun ls hl => ?_)
  refine lv_ldc hx hb F.2.2.2.1 (F.2.2.2.2 _ kc_X8_110) dX8_doing_6 ?_
  refine lv_istore_n (lv' := [(3, .int (-1000000)), (2, .int p1.1), (0, .ref (q 0)), (1, .int a0)]) hx hb dX8_doing_8 rfl hl (by decide) rfl (fun ls hl => ?_)
  refine lv_iconst (v := 0) hx hb dX8_doing_9 (by decide) ?_
  refine lv_istore (lv' := [(4, .int 0), (3, .int (-1000000)), (2, .int p1.1), (0, .ref (q 0)), (1, .int a0)]) hx hb dX8_doing_10 hl (by decide) rfl (fun ls hl => ?_)
  obtain ⟨o_L2, ho_L2, h⟩ := ob h
  have T_L2 : ∀ (f : Nat) (l3_L2 : Int32) (l4_L2 : Int32) (o_L2 : Int32), F_X8_doing_L2 p1.2.1 m_rules p1.2.2.1 m_ruleSize m_ruleRow f l3_L2 l4_L2 = some o_L2 → ∀ (H : Heap) (locs : List Loc) (ls : Array Slot), VJ g A s.heap (MW g q m_thrown m_n m_robots p1.2.1 m_rules m_taped m_latest m_size m_at m_sort m_place m_end m_fault m_faultAt m_read m_crowds m_traced m_here m_hand p1.2.2.1 p1.2.2.2.1 p1.2.2.2.2 m_ruleSize m_ruleRow m_ruleDoes m_name m_goes m_tape m_readSize m_readRow m_readDoes m_own m_crowd m_isStep m_isOfGoal m_isMet m_most m_stands m_doesHere m_from m_trace) H locs → lv_has ls 7 [(0, .ref (q 0)), (2, .int p1.1), (3, .int l3_L2), (4, .int l4_L2)] → (∀ (H : Heap) (locs : List Loc) (ls : Array Slot), VJ g A s.heap (MW g q m_thrown m_n m_robots p1.2.1 m_rules m_taped m_latest m_size m_at m_sort m_place m_end m_fault m_faultAt m_read m_crowds m_traced m_here m_hand p1.2.2.1 p1.2.2.2.1 p1.2.2.2.2 m_ruleSize m_ruleRow m_ruleDoes m_name m_goes m_tape m_readSize m_readRow m_readDoes m_own m_crowd m_isStep m_isOfGoal m_isMet m_most m_stands m_doesHere m_from m_trace) H locs → lv_has ls 7 [(0, .ref (q 0)), (2, .int p1.1), (3, .int o_L2)] → W p l e rm_X8_doing s m args below meth c H locs 0 0 Q (F0 m 113 ls [])) → W p l e rm_X8_doing s m args below meth c H locs 0 0 Q (F0 m 12 ls []) := by
    clear h ho_L2 hl J
    intro f
    induction f with
    | zero => intro l3_L2 l4_L2 o_L2 h; exact absurd h (by simp [F_X8_doing_L2])
    | succ f ih =>
      intro l3_L2 l4_L2 o_L2 h H locs ls J hl K_L2
      rw [F_X8_doing_L2.eq_2] at h
      refine lv_iload hx hb dX8_doing_12 (lv_at hl 3 rfl) ?_
      refine lv_aload_n hx hb dX8_doing_14 rfl (lv_at hl 0 rfl) ?_
      refine mg_0_9 F E J fl_X8_118 dX8_doing_15 ?_
      refine lv_icmp_ge (tgt := 113) hx hb dX8_doing_18 (by decide) (fun c3 => ?_) (fun c3 => ?_)
      · have h := itp c3 h
        obtain rfl := Option.some.inj h
        exact K_L2 _ _ _ J (lv_sub hl [0, 1, 2] rfl)
      · have h := itn c3 h
        refine lv_aload_n hx hb dX8_doing_21 rfl (lv_at hl 0 rfl) ?_
        refine mg_0_10 F E J fl_X8_29 dX8_doing_22 ?_
        refine lv_iload hx hb dX8_doing_25 (lv_at hl 3 rfl) ?_
        obtain ⟨hi, h⟩ := gdt h
        refine ml_6 F E J (inbt hi) dX8_doing_27 ?_
        refine lv_aload_n hx hb dX8_doing_28 rfl (lv_at hl 0 rfl) ?_
        refine mg_0_5 F E J fl_X8_107 dX8_doing_29 ?_
        obtain ⟨j4, hj4, h⟩ := ob h
        have Kj4 : ∀ (H : Heap) (locs : List Loc) (ls : Array Slot), VJ g A s.heap (MW g q m_thrown m_n m_robots p1.2.1 m_rules m_taped m_latest m_size m_at m_sort m_place m_end m_fault m_faultAt m_read m_crowds m_traced m_here m_hand p1.2.2.1 p1.2.2.2.1 p1.2.2.2.2 m_ruleSize m_ruleRow m_ruleDoes m_name m_goes m_tape m_readSize m_readRow m_readDoes m_own m_crowd m_isStep m_isOfGoal m_isMet m_most m_stands m_doesHere m_from m_trace) H locs → lv_has ls 7 [(0, .ref (q 0)), (2, .int p1.1), (3, .int l3_L2), (4, .int l4_L2)] → W p l e rm_X8_doing s m args below meth c H locs 0 0 Q (F0 m 40 ls [.int j4]) := by
          intro H locs ls J hl
          refine lv_istore (lv' := [(5, .int j4), (0, .ref (q 0)), (2, .int p1.1), (3, .int l3_L2), (4, .int l4_L2)]) hx hb dX8_doing_40 hl (by decide) rfl (fun ls hl => ?_)
          refine lv_iconst (v := 0) hx hb dX8_doing_42 (by decide) ?_
          refine lv_istore (lv' := [(6, .int 0), (5, .int j4), (0, .ref (q 0)), (2, .int p1.1), (3, .int l3_L2), (4, .int l4_L2)]) hx hb dX8_doing_43 hl (by decide) rfl (fun ls hl => ?_)
          obtain ⟨o_L6, ho_L6, h⟩ := ob h
          have T_L6 : ∀ (f : Nat) (l5_L6 : Int32) (l6_L6 : Int32) (o_L6 : Int32), F_X8_doing_L6 l4_L2 p1.2.1 p1.2.2.1 m_ruleRow f l5_L6 l6_L6 = some o_L6 → ∀ (H : Heap) (locs : List Loc) (ls : Array Slot), VJ g A s.heap (MW g q m_thrown m_n m_robots p1.2.1 m_rules m_taped m_latest m_size m_at m_sort m_place m_end m_fault m_faultAt m_read m_crowds m_traced m_here m_hand p1.2.2.1 p1.2.2.2.1 p1.2.2.2.2 m_ruleSize m_ruleRow m_ruleDoes m_name m_goes m_tape m_readSize m_readRow m_readDoes m_own m_crowd m_isStep m_isOfGoal m_isMet m_most m_stands m_doesHere m_from m_trace) H locs → lv_has ls 7 [(0, .ref (q 0)), (2, .int p1.1), (3, .int l3_L2), (4, .int l4_L2), (5, .int l5_L6), (6, .int l6_L6)] → (∀ (H : Heap) (locs : List Loc) (ls : Array Slot), VJ g A s.heap (MW g q m_thrown m_n m_robots p1.2.1 m_rules m_taped m_latest m_size m_at m_sort m_place m_end m_fault m_faultAt m_read m_crowds m_traced m_here m_hand p1.2.2.1 p1.2.2.2.1 p1.2.2.2.2 m_ruleSize m_ruleRow m_ruleDoes m_name m_goes m_tape m_readSize m_readRow m_readDoes m_own m_crowd m_isStep m_isOfGoal m_isMet m_most m_stands m_doesHere m_from m_trace) H locs → lv_has ls 7 [(0, .ref (q 0)), (2, .int p1.1), (3, .int l3_L2), (4, .int l4_L2), (5, .int o_L6)] → W p l e rm_X8_doing s m args below meth c H locs 0 0 Q (F0 m 95 ls [])) → W p l e rm_X8_doing s m args below meth c H locs 0 0 Q (F0 m 45 ls []) := by
            clear h ho_L6 hl J
            intro f
            induction f with
            | zero => intro l5_L6 l6_L6 o_L6 h; exact absurd h (by simp [F_X8_doing_L6])
            | succ f ih =>
              intro l5_L6 l6_L6 o_L6 h H locs ls J hl K_L6
              rw [F_X8_doing_L6.eq_2] at h
              refine lv_iload hx hb dX8_doing_45 (lv_at hl 5 rfl) ?_
              refine lv_aload_n hx hb dX8_doing_47 rfl (lv_at hl 0 rfl) ?_
              refine mg_0_5 F E J fl_X8_107 dX8_doing_48 ?_
              refine lv_icmp_ge (tgt := 95) hx hb dX8_doing_51 (by decide) (fun c7 => ?_) (fun c7 => ?_)
              · have h := itp c7 h
                obtain rfl := Option.some.inj h
                exact K_L6 _ _ _ J (lv_sub hl [0, 1, 2, 3, 4] rfl)
              · have h := itn c7 h
                refine lv_iload hx hb dX8_doing_54 (lv_at hl 4 rfl) ?_
                obtain ⟨j8, hj8, h⟩ := ob h
                have Kj8 : ∀ (H : Heap) (locs : List Loc) (ls : Array Slot), VJ g A s.heap (MW g q m_thrown m_n m_robots p1.2.1 m_rules m_taped m_latest m_size m_at m_sort m_place m_end m_fault m_faultAt m_read m_crowds m_traced m_here m_hand p1.2.2.1 p1.2.2.2.1 p1.2.2.2.2 m_ruleSize m_ruleRow m_ruleDoes m_name m_goes m_tape m_readSize m_readRow m_readDoes m_own m_crowd m_isStep m_isOfGoal m_isMet m_most m_stands m_doesHere m_from m_trace) H locs → lv_has ls 7 [(0, .ref (q 0)), (2, .int p1.1), (3, .int l3_L2), (4, .int l4_L2), (6, .int l6_L6)] → W p l e rm_X8_doing s m args below meth c H locs 0 0 Q (F0 m 87 ls [.int j8]) := by
                  intro H locs ls J hl
                  refine lv_istore (lv' := [(5, .int j8), (0, .ref (q 0)), (2, .int p1.1), (3, .int l3_L2), (4, .int l4_L2), (6, .int l6_L6)]) hx hb dX8_doing_87 hl (by decide) rfl (fun ls hl => ?_)
                  obtain ⟨v11, hv11, h⟩ := obs h
                  refine lv_iinc (v := v11) (lv' := [(6, .int v11), (5, .int j8), (0, .ref (q 0)), (2, .int p1.1), (3, .int l3_L2), (4, .int l4_L2)]) hx hb dX8_doing_89 hl (k := 5) rfl (by rw [← hv11]; rfl) (by decide) rfl (fun ls hl => ?_)
                  refine lv_goto (tgt := 45) hx hb dX8_doing_92 (by decide) ?_
                  exact ih _ _ _ h _ _ _ J (lv_sub hl [2, 3, 4, 5, 1, 0] rfl) K_L6
                clear h
                have h := hj8
                refine lv_if_eq (tgt := 86) hx hb dX8_doing_56 (by decide) (fun c9 => ?_) (fun c9 => ?_)
                · have h := itp c9 h
                  refine lv_iconst (v := 0) hx hb dX8_doing_86 (by decide) ?_
                  obtain rfl := Option.some.inj h
                  exact Kj8 _ _ _ J (lv_sub hl [0, 1, 2, 3, 5] rfl)
                · have h := itn c9 h
                  refine lv_aload_n hx hb dX8_doing_59 rfl (lv_at hl 0 rfl) ?_
                  refine mg_0_11 F E J fl_X8_32 dX8_doing_60 ?_
                  refine lv_bipush (v := 8) hx hb dX8_doing_63 (by decide) ?_
                  refine lv_iload hx hb dX8_doing_65 (lv_at hl 3 rfl) ?_
                  refine lv_imul hx hb dX8_doing_67 ?_
                  refine lv_iload hx hb dX8_doing_68 (lv_at hl 5 rfl) ?_
                  refine lv_iadd hx hb dX8_doing_70 ?_
                  obtain ⟨hi, h⟩ := gdt h
                  refine ml_7 F E J (inbt hi) dX8_doing_71 ?_
                  refine lv_aload_n hx hb dX8_doing_72 rfl (lv_at hl 0 rfl) ?_
                  refine mg_0_6 F E J fl_X8_20 dX8_doing_73 ?_
                  refine lv_iload hx hb dX8_doing_76 (lv_at hl 5 rfl) ?_
                  obtain ⟨hi, h⟩ := gdt h
                  refine ml_3 F E J (inbt hi) dX8_doing_78 ?_
                  refine lv_icmp_ne (tgt := 86) hx hb dX8_doing_79 (by decide) (fun c10 => ?_) (fun c10 => ?_)
                  · have h := itn c10 h
                    refine lv_iconst (v := 0) hx hb dX8_doing_86 (by decide) ?_
                    obtain rfl := Option.some.inj h
                    exact Kj8 _ _ _ J (lv_sub hl [0, 1, 2, 3, 5] rfl)
                  · have h := itp c10 h
                    refine lv_iconst (v := 1) hx hb dX8_doing_82 (by decide) ?_
                    refine lv_goto (tgt := 87) hx hb dX8_doing_83 (by decide) ?_
                    obtain rfl := Option.some.inj h
                    exact Kj8 _ _ _ J (lv_sub hl [0, 1, 2, 3, 5] rfl)
          refine T_L6 FU j4 0 o_L6 ho_L6 _ _ _ J (lv_sub hl [2, 3, 4, 5, 1, 0] rfl) (fun H locs ls J hl => ?_)
          refine lv_iload hx hb dX8_doing_95 (lv_at hl 4 rfl) ?_
          obtain ⟨j12, hj12, h⟩ := ob h
          have Kj12 : ∀ (H : Heap) (locs : List Loc) (ls : Array Slot), VJ g A s.heap (MW g q m_thrown m_n m_robots p1.2.1 m_rules m_taped m_latest m_size m_at m_sort m_place m_end m_fault m_faultAt m_read m_crowds m_traced m_here m_hand p1.2.2.1 p1.2.2.2.1 p1.2.2.2.2 m_ruleSize m_ruleRow m_ruleDoes m_name m_goes m_tape m_readSize m_readRow m_readDoes m_own m_crowd m_isStep m_isOfGoal m_isMet m_most m_stands m_doesHere m_from m_trace) H locs → lv_has ls 7 [(0, .ref (q 0)), (2, .int p1.1), (4, .int l4_L2)] → W p l e rm_X8_doing s m args below meth c H locs 0 0 Q (F0 m 106 ls [.int j12]) := by
            intro H locs ls J hl
            refine lv_istore_n (lv' := [(3, .int j12), (0, .ref (q 0)), (2, .int p1.1), (4, .int l4_L2)]) hx hb dX8_doing_106 rfl hl (by decide) rfl (fun ls hl => ?_)
            obtain ⟨v14, hv14, h⟩ := obs h
            refine lv_iinc (v := v14) (lv' := [(4, .int v14), (3, .int j12), (0, .ref (q 0)), (2, .int p1.1)]) hx hb dX8_doing_107 hl (k := 3) rfl (by rw [← hv14]; rfl) (by decide) rfl (fun ls hl => ?_)
            refine lv_goto (tgt := 12) hx hb dX8_doing_110 (by decide) ?_
            exact ih _ _ _ h _ _ _ J (lv_sub hl [2, 3, 1, 0] rfl) K_L2
          clear h
          have h := hj12
          refine lv_if_eq (tgt := 105) hx hb dX8_doing_97 (by decide) (fun c13 => ?_) (fun c13 => ?_)
          · have h := itp c13 h
            refine lv_iload_n hx hb dX8_doing_105 rfl (lv_at hl 2 rfl) ?_
            obtain rfl := Option.some.inj h
            exact Kj12 _ _ _ J (lv_sub hl [0, 1, 3] rfl)
          · have h := itn c13 h
            refine lv_iload hx hb dX8_doing_100 (lv_at hl 3 rfl) ?_
            refine lv_goto (tgt := 106) hx hb dX8_doing_102 (by decide) ?_
            obtain rfl := Option.some.inj h
            exact Kj12 _ _ _ J (lv_sub hl [0, 1, 3] rfl)
        clear h
        have h := hj4
        refine lv_icmp_ne (tgt := 39) hx hb dX8_doing_32 (by decide) (fun c5 => ?_) (fun c5 => ?_)
        · have h := itn c5 h
          refine lv_iconst (v := 0) hx hb dX8_doing_39 (by decide) ?_
          obtain rfl := Option.some.inj h
          exact Kj4 _ _ _ J (lv_sub hl [0, 1, 2, 3] rfl)
        · have h := itp c5 h
          refine lv_iconst (v := 1) hx hb dX8_doing_35 (by decide) ?_
          refine lv_goto (tgt := 40) hx hb dX8_doing_36 (by decide) ?_
          obtain rfl := Option.some.inj h
          exact Kj4 _ _ _ J (lv_sub hl [0, 1, 2, 3] rfl)
  refine T_L2 FU (-1000000) 0 o_L2 ho_L2 _ _ _ J (lv_sub hl [3, 2, 1, 0] rfl) (fun H locs ls J hl => ?_)
  refine lv_iload_n hx hb dX8_doing_113 rfl (lv_at hl 2 rfl) ?_
  refine lv_ldc hx hb F.2.2.2.1 (F.2.2.2.2 _ kc_X8_110) dX8_doing_114 ?_
  refine lv_icmp_eq (tgt := 128) hx hb dX8_doing_116 (by decide) (fun c15 => ?_) (fun c15 => ?_)
  · have h := itp c15 h
    refine lv_iconst (v := 0) hx hb dX8_doing_128 (by decide) ?_
    obtain rfl := Option.some.inj h
    exact ret _ _ _ _ J dX8_doing_129
  · have h := itn c15 h
    refine lv_aload_n hx hb dX8_doing_119 rfl (lv_at hl 0 rfl) ?_
    refine mg_0_12 F E J fl_X8_35 dX8_doing_120 ?_
    refine lv_iload_n hx hb dX8_doing_123 rfl (lv_at hl 2 rfl) ?_
    obtain ⟨hi, h⟩ := gdt h
    refine ml_8 F E J (inbt hi) dX8_doing_124 ?_
    refine lv_if_ne (tgt := 130) hx hb dX8_doing_125 (by decide) (fun c16 => ?_) (fun c16 => ?_)
    · have h := itn c16 h
      refine lv_iload_n hx hb dX8_doing_130 rfl (lv_at hl 1 rfl) ?_
      refine lv_if_ne (tgt := 138) hx hb dX8_doing_131 (by decide) (fun c17 => ?_) (fun c17 => ?_)
      · have h := itn c17 h
        refine lv_aload_n hx hb dX8_doing_138 rfl (lv_at hl 0 rfl) ?_
        refine mg_0_12 F E J fl_X8_35 dX8_doing_139 ?_
        refine lv_iload_n hx hb dX8_doing_142 rfl (lv_at hl 2 rfl) ?_
        obtain ⟨hi, h⟩ := gdt h
        refine ml_8 F E J (inbt hi) dX8_doing_143 ?_
        refine lv_iconst (v := 1) hx hb dX8_doing_144 (by decide) ?_
        refine lv_icmp_ne (tgt := 152) hx hb dX8_doing_145 (by decide) (fun c18 => ?_) (fun c18 => ?_)
        · have h := itn c18 h
          refine lv_iload_n hx hb dX8_doing_152 rfl (lv_at hl 1 rfl) ?_
          refine lv_ineg hx hb dX8_doing_153 ?_
          obtain rfl := Option.some.inj h
          exact ret _ _ _ _ J dX8_doing_154
        · have h := itp c18 h
          refine lv_iload_n hx hb dX8_doing_148 rfl (lv_at hl 1 rfl) ?_
          refine lv_goto (tgt := 154) hx hb dX8_doing_149 (by decide) ?_
          obtain rfl := Option.some.inj h
          exact ret _ _ _ _ J dX8_doing_154
      · have h := itp c17 h
        refine lv_iconst (v := 2) hx hb dX8_doing_134 (by decide) ?_
        refine lv_goto (tgt := 154) hx hb dX8_doing_135 (by decide) ?_
        obtain rfl := Option.some.inj h
        exact ret _ _ _ _ J dX8_doing_154
    · have h := itp c16 h
      refine lv_iconst (v := 0) hx hb dX8_doing_128 (by decide) ?_
      obtain rfl := Option.some.inj h
      exact ret _ _ _ _ J dX8_doing_129
set_option maxHeartbeats 4000000 in
set_option maxRecDepth 100000 in
theorem c_X8_does {l : Launch} {g : GG} {A : Nat → Prop} {q : Nat → Nat} {m_thrown m_n m_robots m_viewed m_rules m_taped m_latest m_size m_at m_sort m_place m_end m_fault m_faultAt m_read m_crowds m_traced : Int32} {m_here m_hand m_view m_up m_down m_ruleSize m_ruleRow m_ruleDoes m_name m_goes m_tape m_readSize m_readRow m_readDoes m_own m_crowd m_isStep m_isOfGoal m_isMet m_most m_stands m_doesHere m_from m_trace : Nat → Int32} (a0 : Int32) (res : Int32 × Int32 × Int32 × (Nat → Int32) × (Nat → Int32) × (Nat → Int32) × (Nat → Int32)) (h : F_X8_does a0 m_n m_viewed m_rules m_here m_hand m_view m_up m_down m_ruleSize m_ruleRow m_ruleDoes = some res) : Met l yX8_does (wS yX8_does cX8_does 2 (some .int)) rm_X8_does (va_Pc [.ref (q 0), .int a0] (VB g A (MW g q m_thrown m_n m_robots m_viewed m_rules m_taped m_latest m_size m_at m_sort m_place m_end m_fault m_faultAt m_read m_crowds m_traced m_here m_hand m_view m_up m_down m_ruleSize m_ruleRow m_ruleDoes m_name m_goes m_tape m_readSize m_readRow m_readDoes m_own m_crowd m_isStep m_isOfGoal m_isMet m_most m_stands m_doesHere m_from m_trace))) (va_Qi (fun r (_ : Unit) => r = res.1) (fun _ => VB g A (MW g q res.2.1 m_n m_robots res.2.2.1 m_rules m_taped m_latest m_size m_at m_sort m_place m_end m_fault m_faultAt m_read m_crowds m_traced m_here res.2.2.2.1 res.2.2.2.2.1 res.2.2.2.2.2.1 res.2.2.2.2.2.2 m_ruleSize m_ruleRow m_ruleDoes m_name m_goes m_tape m_readSize m_readRow m_readDoes m_own m_crowd m_isStep m_isOfGoal m_isMet m_most m_stands m_doesHere m_from m_trace)) A) 0 0 A := by
  unfold F_X8_does at h
  refine MetI (res := res.1) (own := RX8) (ws' := (MW g q res.2.1 m_n m_robots res.2.2.1 m_rules m_taped m_latest m_size m_at m_sort m_place m_end m_fault m_faultAt m_read m_crowds m_traced m_here res.2.2.2.1 res.2.2.2.2.1 res.2.2.2.2.2.1 res.2.2.2.2.2.2 m_ruleSize m_ruleRow m_ruleDoes m_name m_goes m_tape m_readSize m_readRow m_readDoes m_own m_crowd m_isStep m_isOfGoal m_isMet m_most m_stands m_doesHere m_from m_trace)) (by decide) rfl (Nat.le_of_ble_eq_true rfl) ?_
  intro p e s m args below meth c Q F E ret ls J hl
  have hx := F.1
  have hb := F.2.1
  have hl : lv_has ls 2 [(0, .ref (q 0)), (1, .int a0)] := hl
  refine lv_aload_n hx hb dX8_does_0 rfl (lv_at hl 0 rfl) ?_
  refine lv_iconst (v := 0) hx hb dX8_does_1 (by decide) ?_
  refine mp_0_0 F E J fl_X8_1 dX8_does_2 (fun H locs J => ?_)
  refine lv_aload_n hx hb dX8_does_5 rfl (lv_at hl 0 rfl) ?_
  refine lv_iload_n hx hb dX8_does_6 rfl (lv_at hl 1 rfl) ?_
  obtain ⟨p1, hp1, h⟩ := ob h
  refine onZ (runV (As := [.int a0]) (rest := []) F E J (c_X8_isPlace a0 p1 hp1) cw_X8_94 ⟨rfl, rfl, Nat.le_of_ble_eq_true rfl, Nat.le_of_ble_eq_true rfl⟩ rcM0 rfl hl.1 rfl (Nat.le_of_ble_eq_true rfl) dX8_does_7) J (fun hzbp1 H locs J => ?_)
  refine lv_if_ne (tgt := 16) hx hb dX8_does_10 (by decide) (fun c2 => ?_) (fun c2 => ?_)
  · have h := itn c2 h
    refine lv_aload_n hx hb dX8_does_16 rfl (lv_at hl 0 rfl) ?_
    obtain ⟨p3, hp3, h⟩ := ob h
    refine onV (runV (As := []) (rest := []) F E J (c_X8_take  p3 hp3) cw_X8_111 ⟨rfl, rfl, Nat.le_of_ble_eq_true rfl, Nat.le_of_ble_eq_true rfl⟩ rcM0 rfl hl.1 rfl (Nat.le_of_ble_eq_true rfl) dX8_does_17) J (fun H locs J => ?_)
    refine lv_aload_n hx hb dX8_does_20 rfl (lv_at hl 0 rfl) ?_
    refine mg_0_3 F E J fl_X8_13 dX8_does_21 ?_
    refine lv_iload_n hx hb dX8_does_24 rfl (lv_at hl 1 rfl) ?_
    obtain ⟨hi, h⟩ := gdt h
    refine ml_1 F E J (inbt hi) dX8_does_25 ?_
    refine lv_if_ne (tgt := 34) hx hb dX8_does_26 (by decide) (fun c4 => ?_) (fun c4 => ?_)
    · have h := itn c4 h
      refine lv_aload_n hx hb dX8_does_34 rfl (lv_at hl 0 rfl) ?_
      refine lv_iload_n hx hb dX8_does_35 rfl (lv_at hl 1 rfl) ?_
      obtain ⟨p5, hp5, h⟩ := ob h
      refine onI (runV (As := [.int a0]) (rest := []) F E J (c_X8_doing a0 p5 hp5) cw_X8_121 ⟨rfl, rfl, Nat.le_of_ble_eq_true rfl, Nat.le_of_ble_eq_true rfl⟩ rcM0 rfl hl.1 rfl (Nat.le_of_ble_eq_true rfl) dX8_does_36) J (fun H locs J => ?_)
      obtain rfl := Option.some.inj h
      exact ret _ _ _ _ J dX8_does_39
    · have h := itp c4 h
      refine lv_ldc hx hb F.2.2.2.1 (F.2.2.2.2 _ kc_X8_110) dX8_does_29 ?_
      refine lv_goto (tgt := 39) hx hb dX8_does_31 (by decide) ?_
      obtain rfl := Option.some.inj h
      exact ret _ _ _ _ J dX8_does_39
  · have h := itp c2 h
    refine lv_ldc hx hb F.2.2.2.1 (F.2.2.2.2 _ kc_X8_98) dX8_does_13 ?_
    obtain rfl := Option.some.inj h
    exact ret _ _ _ _ J dX8_does_15
set_option maxHeartbeats 4000000 in
set_option maxRecDepth 100000 in
theorem c_X8_seen {l : Launch} {g : GG} {A : Nat → Prop} {q : Nat → Nat} {m_thrown m_n m_robots m_viewed m_rules m_taped m_latest m_size m_at m_sort m_place m_end m_fault m_faultAt m_read m_crowds m_traced : Int32} {m_here m_hand m_view m_up m_down m_ruleSize m_ruleRow m_ruleDoes m_name m_goes m_tape m_readSize m_readRow m_readDoes m_own m_crowd m_isStep m_isOfGoal m_isMet m_most m_stands m_doesHere m_from m_trace : Nat → Int32} (a0 : Int32) (a1 : Int32) (a2 : Int32) (res : Int32) (h : F_X8_seen a0 a1 a2 m_n m_hand = some res) : Met l yX8_seen (wS yX8_seen cX8_seen 4 (some .int)) rm_X8_seen (va_Pc [.ref (q 0), .int a0, .int a1, .int a2] (VB g A (MW g q m_thrown m_n m_robots m_viewed m_rules m_taped m_latest m_size m_at m_sort m_place m_end m_fault m_faultAt m_read m_crowds m_traced m_here m_hand m_view m_up m_down m_ruleSize m_ruleRow m_ruleDoes m_name m_goes m_tape m_readSize m_readRow m_readDoes m_own m_crowd m_isStep m_isOfGoal m_isMet m_most m_stands m_doesHere m_from m_trace))) (va_Qi (fun r (_ : Unit) => r = res) (fun _ => VB g A (MW g q m_thrown m_n m_robots m_viewed m_rules m_taped m_latest m_size m_at m_sort m_place m_end m_fault m_faultAt m_read m_crowds m_traced m_here m_hand m_view m_up m_down m_ruleSize m_ruleRow m_ruleDoes m_name m_goes m_tape m_readSize m_readRow m_readDoes m_own m_crowd m_isStep m_isOfGoal m_isMet m_most m_stands m_doesHere m_from m_trace)) A) 0 0 A := by
  unfold F_X8_seen at h
  refine MetI (res := res) (own := RX8) (ws' := (MW g q m_thrown m_n m_robots m_viewed m_rules m_taped m_latest m_size m_at m_sort m_place m_end m_fault m_faultAt m_read m_crowds m_traced m_here m_hand m_view m_up m_down m_ruleSize m_ruleRow m_ruleDoes m_name m_goes m_tape m_readSize m_readRow m_readDoes m_own m_crowd m_isStep m_isOfGoal m_isMet m_most m_stands m_doesHere m_from m_trace)) (by decide) rfl (Nat.le_of_ble_eq_true rfl) ?_
  intro p e s m args below meth c Q F E ret ls J hl
  have hx := F.1
  have hb := F.2.1
  have hl : lv_has ls 4 [(0, .ref (q 0)), (1, .int a0), (2, .int a1), (3, .int a2)] := hl
  refine lv_aload_n hx hb dX8_seen_0 rfl (lv_at hl 0 rfl) ?_
  refine mg_0_4 F E J fl_X8_17 dX8_seen_1 ?_
  refine lv_iload_n hx hb dX8_seen_4 rfl (lv_at hl 1 rfl) ?_
  refine lv_if_ne (tgt := 19) hx hb dX8_seen_5 (by decide) (fun c1 => ?_) (fun c1 => ?_)
  · have h := itn c1 h
    refine lv_iload_n hx hb dX8_seen_19 rfl (lv_at hl 2 rfl) ?_
    refine lv_iload_n hx hb dX8_seen_20 rfl (lv_at hl 3 rfl) ?_
    refine lv_isub hx hb dX8_seen_21 ?_
    refine lv_aload_n hx hb dX8_seen_22 rfl (lv_at hl 0 rfl) ?_
    refine mg_0_1 F E J fl_X8_87 dX8_seen_23 ?_
    refine lv_iadd hx hb dX8_seen_26 ?_
    refine lv_aload_n hx hb dX8_seen_27 rfl (lv_at hl 0 rfl) ?_
    refine mg_0_1 F E J fl_X8_87 dX8_seen_28 ?_
    obtain ⟨hz, h⟩ := gdt h
    refine lv_irem hx hb dX8_seen_31 (nzt hz) ?_
    obtain ⟨hi, h⟩ := gdt h
    refine ml_2 F E J (inbt hi) dX8_seen_32 ?_
    obtain rfl := Option.some.inj h
    exact ret _ _ _ _ J dX8_seen_33
  · have h := itp c1 h
    refine lv_iload_n hx hb dX8_seen_8 rfl (lv_at hl 3 rfl) ?_
    refine lv_iload_n hx hb dX8_seen_9 rfl (lv_at hl 2 rfl) ?_
    refine lv_iadd hx hb dX8_seen_10 ?_
    refine lv_aload_n hx hb dX8_seen_11 rfl (lv_at hl 0 rfl) ?_
    refine mg_0_1 F E J fl_X8_87 dX8_seen_12 ?_
    obtain ⟨hz, h⟩ := gdt h
    refine lv_irem hx hb dX8_seen_15 (nzt hz) ?_
    refine lv_goto (tgt := 32) hx hb dX8_seen_16 (by decide) ?_
    obtain ⟨hi, h⟩ := gdt h
    refine ml_2 F E J (inbt hi) dX8_seen_32 ?_
    obtain rfl := Option.some.inj h
    exact ret _ _ _ _ J dX8_seen_33
set_option maxHeartbeats 4000000 in
set_option maxRecDepth 100000 in
theorem c_X8_findName {l : Launch} {g : GG} {A : Nat → Prop} {q : Nat → Nat} {m_thrown m_n m_robots m_viewed m_rules m_taped m_latest m_size m_at m_sort m_place m_end m_fault m_faultAt m_read m_crowds m_traced : Int32} {m_here m_hand m_view m_up m_down m_ruleSize m_ruleRow m_ruleDoes m_name m_goes m_tape m_readSize m_readRow m_readDoes m_own m_crowd m_isStep m_isOfGoal m_isMet m_most m_stands m_doesHere m_from m_trace : Nat → Int32} (res : Nat → Int32) (h : F_X8_findName m_n m_hand m_name = some res) : Met l yX8_findName (wS yX8_findName cX8_findName 5 none) rm_X8_findName (va_Pc [.ref (q 0)] (VB g A (MW g q m_thrown m_n m_robots m_viewed m_rules m_taped m_latest m_size m_at m_sort m_place m_end m_fault m_faultAt m_read m_crowds m_traced m_here m_hand m_view m_up m_down m_ruleSize m_ruleRow m_ruleDoes m_name m_goes m_tape m_readSize m_readRow m_readDoes m_own m_crowd m_isStep m_isOfGoal m_isMet m_most m_stands m_doesHere m_from m_trace))) (va_Qv (fun (_ : Unit) => True) (fun _ => VB g A (MW g q m_thrown m_n m_robots m_viewed m_rules m_taped m_latest m_size m_at m_sort m_place m_end m_fault m_faultAt m_read m_crowds m_traced m_here m_hand m_view m_up m_down m_ruleSize m_ruleRow m_ruleDoes res m_goes m_tape m_readSize m_readRow m_readDoes m_own m_crowd m_isStep m_isOfGoal m_isMet m_most m_stands m_doesHere m_from m_trace)) A) 0 0 A := by
  unfold F_X8_findName at h
  refine MetV (own := RX8) (ws' := (MW g q m_thrown m_n m_robots m_viewed m_rules m_taped m_latest m_size m_at m_sort m_place m_end m_fault m_faultAt m_read m_crowds m_traced m_here m_hand m_view m_up m_down m_ruleSize m_ruleRow m_ruleDoes res m_goes m_tape m_readSize m_readRow m_readDoes m_own m_crowd m_isStep m_isOfGoal m_isMet m_most m_stands m_doesHere m_from m_trace)) (by decide) rfl (Nat.le_of_ble_eq_true rfl) ?_
  intro p e s m args below meth c Q F E ret ls J hl
  have hx := F.1
  have hb := F.2.1
  have hl : lv_has ls 5 [(0, .ref (q 0))] := hl
  refine lv_iconst (v := 0) hx hb dX8_findName_0 (by decide) ?_
  refine lv_istore_n (lv' := [(1, .int 0), (0, .ref (q 0))]) hx hb dX8_findName_1 rfl hl (by decide) rfl (fun ls hl => ?_)
  obtain ⟨o_L1, ho_L1, h⟩ := ob h
  have T_L1 : ∀ (f : Nat) (l1_L1 : Int32) (m_name_L1 : Nat → Int32) (o_L1 : Nat → Int32), F_X8_findName_L1 m_n m_hand f l1_L1 m_name_L1 = some o_L1 → ∀ (H : Heap) (locs : List Loc) (ls : Array Slot), VJ g A s.heap (MW g q m_thrown m_n m_robots m_viewed m_rules m_taped m_latest m_size m_at m_sort m_place m_end m_fault m_faultAt m_read m_crowds m_traced m_here m_hand m_view m_up m_down m_ruleSize m_ruleRow m_ruleDoes m_name_L1 m_goes m_tape m_readSize m_readRow m_readDoes m_own m_crowd m_isStep m_isOfGoal m_isMet m_most m_stands m_doesHere m_from m_trace) H locs → lv_has ls 5 [(0, .ref (q 0)), (1, .int l1_L1)] → (∀ (H : Heap) (locs : List Loc) (ls : Array Slot), VJ g A s.heap (MW g q m_thrown m_n m_robots m_viewed m_rules m_taped m_latest m_size m_at m_sort m_place m_end m_fault m_faultAt m_read m_crowds m_traced m_here m_hand m_view m_up m_down m_ruleSize m_ruleRow m_ruleDoes o_L1 m_goes m_tape m_readSize m_readRow m_readDoes m_own m_crowd m_isStep m_isOfGoal m_isMet m_most m_stands m_doesHere m_from m_trace) H locs → lv_has ls 5 [(0, .ref (q 0))] → W p l e rm_X8_findName s m args below meth c H locs 0 0 Q (F0 m 38 ls [])) → W p l e rm_X8_findName s m args below meth c H locs 0 0 Q (F0 m 2 ls []) := by
    clear h ho_L1 hl J
    intro f
    induction f with
    | zero => intro l1_L1 m_name_L1 o_L1 h; exact absurd h (by simp [F_X8_findName_L1])
    | succ f ih =>
      intro l1_L1 m_name_L1 o_L1 h H locs ls J hl K_L1
      rw [F_X8_findName_L1.eq_2] at h
      refine lv_iload_n hx hb dX8_findName_2 rfl (lv_at hl 1 rfl) ?_
      refine lv_bipush (v := 9) hx hb dX8_findName_3 (by decide) ?_
      refine lv_icmp_ge (tgt := 38) hx hb dX8_findName_5 (by decide) (fun c2 => ?_) (fun c2 => ?_)
      · have h := itp c2 h
        obtain rfl := Option.some.inj h
        exact K_L1 _ _ _ J (lv_sub hl [0] rfl)
      · have h := itn c2 h
        refine lv_aload_n hx hb dX8_findName_8 rfl (lv_at hl 0 rfl) ?_
        refine mg_0_13 F E J fl_X8_38 dX8_findName_9 ?_
        refine lv_iload_n hx hb dX8_findName_12 rfl (lv_at hl 1 rfl) ?_
        refine lv_iload_n hx hb dX8_findName_13 rfl (lv_at hl 1 rfl) ?_
        refine lv_aload_n hx hb dX8_findName_14 rfl (lv_at hl 0 rfl) ?_
        refine mg_0_1 F E J fl_X8_87 dX8_findName_15 ?_
        obtain ⟨j3, hj3, h⟩ := ob h
        have Kj3 : ∀ (H : Heap) (locs : List Loc) (ls : Array Slot), VJ g A s.heap (MW g q m_thrown m_n m_robots m_viewed m_rules m_taped m_latest m_size m_at m_sort m_place m_end m_fault m_faultAt m_read m_crowds m_traced m_here m_hand m_view m_up m_down m_ruleSize m_ruleRow m_ruleDoes m_name_L1 m_goes m_tape m_readSize m_readRow m_readDoes m_own m_crowd m_isStep m_isOfGoal m_isMet m_most m_stands m_doesHere m_from m_trace) H locs → lv_has ls 5 [(0, .ref (q 0)), (1, .int l1_L1)] → W p l e rm_X8_findName s m args below meth c H locs 0 0 Q (F0 m 31 ls [.int j3, .int l1_L1, .ref (q 9)]) := by
          intro H locs ls J hl
          obtain ⟨hi, h⟩ := gdt h
          refine ms_9 F E J (inbt hi) dX8_findName_31 (fun H locs J => ?_)
          obtain ⟨v5, hv5, h⟩ := obs h
          refine lv_iinc (v := v5) (lv' := [(1, .int v5), (0, .ref (q 0))]) hx hb dX8_findName_32 hl (k := 1) rfl (by rw [← hv5]; rfl) (by decide) rfl (fun ls hl => ?_)
          refine lv_goto (tgt := 2) hx hb dX8_findName_35 (by decide) ?_
          exact ih _ _ _ h _ _ _ J (lv_sub hl [1, 0] rfl) K_L1
        clear h
        have h := hj3
        refine lv_icmp_ge (tgt := 30) hx hb dX8_findName_18 (by decide) (fun c4 => ?_) (fun c4 => ?_)
        · have h := itp c4 h
          refine lv_iconst (v := 0) hx hb dX8_findName_30 (by decide) ?_
          obtain rfl := Option.some.inj h
          exact Kj3 _ _ _ J (lv_sub hl [0, 1] rfl)
        · have h := itn c4 h
          refine lv_aload_n hx hb dX8_findName_21 rfl (lv_at hl 0 rfl) ?_
          refine mg_0_4 F E J fl_X8_17 dX8_findName_22 ?_
          refine lv_iload_n hx hb dX8_findName_25 rfl (lv_at hl 1 rfl) ?_
          obtain ⟨hi, h⟩ := gdt h
          refine ml_2 F E J (inbt hi) dX8_findName_26 ?_
          refine lv_goto (tgt := 31) hx hb dX8_findName_27 (by decide) ?_
          obtain rfl := Option.some.inj h
          exact Kj3 _ _ _ J (lv_sub hl [0, 1] rfl)
  refine T_L1 FU 0 m_name o_L1 ho_L1 _ _ _ J (lv_sub hl [1, 0] rfl) (fun H locs ls J hl => ?_)
  refine lv_iconst (v := 0) hx hb dX8_findName_38 (by decide) ?_
  refine lv_istore_n (lv' := [(1, .int 0), (0, .ref (q 0))]) hx hb dX8_findName_39 rfl hl (by decide) rfl (fun ls hl => ?_)
  obtain ⟨o_L6, ho_L6, h⟩ := ob h
  have T_L6 : ∀ (f : Nat) (l1_L6 : Int32) (m_name_L6 : Nat → Int32) (o_L6 : Nat → Int32), F_X8_findName_L6 m_n m_hand f l1_L6 m_name_L6 = some o_L6 → ∀ (H : Heap) (locs : List Loc) (ls : Array Slot), VJ g A s.heap (MW g q m_thrown m_n m_robots m_viewed m_rules m_taped m_latest m_size m_at m_sort m_place m_end m_fault m_faultAt m_read m_crowds m_traced m_here m_hand m_view m_up m_down m_ruleSize m_ruleRow m_ruleDoes m_name_L6 m_goes m_tape m_readSize m_readRow m_readDoes m_own m_crowd m_isStep m_isOfGoal m_isMet m_most m_stands m_doesHere m_from m_trace) H locs → lv_has ls 5 [(0, .ref (q 0)), (1, .int l1_L6)] → (∀ (H : Heap) (locs : List Loc) (ls : Array Slot), VJ g A s.heap (MW g q m_thrown m_n m_robots m_viewed m_rules m_taped m_latest m_size m_at m_sort m_place m_end m_fault m_faultAt m_read m_crowds m_traced m_here m_hand m_view m_up m_down m_ruleSize m_ruleRow m_ruleDoes o_L6 m_goes m_tape m_readSize m_readRow m_readDoes m_own m_crowd m_isStep m_isOfGoal m_isMet m_most m_stands m_doesHere m_from m_trace) H locs → lv_has ls 5 [] → W p l e rm_X8_findName s m args below meth c H locs 0 0 Q (F0 m 145 ls [])) → W p l e rm_X8_findName s m args below meth c H locs 0 0 Q (F0 m 40 ls []) := by
    clear h ho_L6 hl J
    intro f
    induction f with
    | zero => intro l1_L6 m_name_L6 o_L6 h; exact absurd h (by simp [F_X8_findName_L6])
    | succ f ih =>
      intro l1_L6 m_name_L6 o_L6 h H locs ls J hl K_L6
      rw [F_X8_findName_L6.eq_2] at h
      refine lv_iload_n hx hb dX8_findName_40 rfl (lv_at hl 1 rfl) ?_
      refine lv_iconst (v := 2) hx hb dX8_findName_41 (by decide) ?_
      refine lv_icmp_ge (tgt := 145) hx hb dX8_findName_42 (by decide) (fun c7 => ?_) (fun c7 => ?_)
      · have h := itp c7 h
        obtain rfl := Option.some.inj h
        exact K_L6 _ _ _ J (lv_sub hl [] rfl)
      · have h := itn c7 h
        refine lv_iconst (v := 0) hx hb dX8_findName_45 (by decide) ?_
        refine lv_istore_n (lv' := [(2, .int 0), (0, .ref (q 0)), (1, .int l1_L6)]) hx hb dX8_findName_46 rfl hl (by decide) rfl (fun ls hl => ?_)
        obtain ⟨o_L8, ho_L8, h⟩ := ob h
        have T_L8 : ∀ (f : Nat) (l2_L8 : Int32) (m_name_L8 : Nat → Int32) (o_L8 : Nat → Int32), F_X8_findName_L8 l1_L6 m_n m_hand f l2_L8 m_name_L8 = some o_L8 → ∀ (H : Heap) (locs : List Loc) (ls : Array Slot), VJ g A s.heap (MW g q m_thrown m_n m_robots m_viewed m_rules m_taped m_latest m_size m_at m_sort m_place m_end m_fault m_faultAt m_read m_crowds m_traced m_here m_hand m_view m_up m_down m_ruleSize m_ruleRow m_ruleDoes m_name_L8 m_goes m_tape m_readSize m_readRow m_readDoes m_own m_crowd m_isStep m_isOfGoal m_isMet m_most m_stands m_doesHere m_from m_trace) H locs → lv_has ls 5 [(0, .ref (q 0)), (1, .int l1_L6), (2, .int l2_L8)] → (∀ (H : Heap) (locs : List Loc) (ls : Array Slot), VJ g A s.heap (MW g q m_thrown m_n m_robots m_viewed m_rules m_taped m_latest m_size m_at m_sort m_place m_end m_fault m_faultAt m_read m_crowds m_traced m_here m_hand m_view m_up m_down m_ruleSize m_ruleRow m_ruleDoes o_L8 m_goes m_tape m_readSize m_readRow m_readDoes m_own m_crowd m_isStep m_isOfGoal m_isMet m_most m_stands m_doesHere m_from m_trace) H locs → lv_has ls 5 [(0, .ref (q 0)), (1, .int l1_L6)] → W p l e rm_X8_findName s m args below meth c H locs 0 0 Q (F0 m 139 ls [])) → W p l e rm_X8_findName s m args below meth c H locs 0 0 Q (F0 m 47 ls []) := by
          clear h ho_L8 hl J
          intro f
          induction f with
          | zero => intro l2_L8 m_name_L8 o_L8 h; exact absurd h (by simp [F_X8_findName_L8])
          | succ f ih =>
            intro l2_L8 m_name_L8 o_L8 h H locs ls J hl K_L8
            rw [F_X8_findName_L8.eq_2] at h
            refine lv_iload_n hx hb dX8_findName_47 rfl (lv_at hl 2 rfl) ?_
            refine lv_aload_n hx hb dX8_findName_48 rfl (lv_at hl 0 rfl) ?_
            refine mg_0_1 F E J fl_X8_87 dX8_findName_49 ?_
            refine lv_icmp_ge (tgt := 139) hx hb dX8_findName_52 (by decide) (fun c9 => ?_) (fun c9 => ?_)
            · have h := itp c9 h
              obtain rfl := Option.some.inj h
              exact K_L8 _ _ _ J (lv_sub hl [0, 1] rfl)
            · have h := itn c9 h
              refine lv_iconst (v := 0) hx hb dX8_findName_55 (by decide) ?_
              refine lv_istore_n (lv' := [(3, .int 0), (0, .ref (q 0)), (1, .int l1_L6), (2, .int l2_L8)]) hx hb dX8_findName_56 rfl hl (by decide) rfl (fun ls hl => ?_)
              refine lv_iconst (v := 0) hx hb dX8_findName_57 (by decide) ?_
              refine lv_istore (lv' := [(4, .int 0), (3, .int 0), (0, .ref (q 0)), (1, .int l1_L6), (2, .int l2_L8)]) hx hb dX8_findName_58 hl (by decide) rfl (fun ls hl => ?_)
              obtain ⟨o_L10, ho_L10, h⟩ := ob h
              have T_L10 : ∀ (f : Nat) (l3_L10 : Int32) (l4_L10 : Int32) (o_L10 : Int32), F_X8_findName_L10 l1_L6 l2_L8 m_n m_hand m_name_L8 f l3_L10 l4_L10 = some o_L10 → ∀ (H : Heap) (locs : List Loc) (ls : Array Slot), VJ g A s.heap (MW g q m_thrown m_n m_robots m_viewed m_rules m_taped m_latest m_size m_at m_sort m_place m_end m_fault m_faultAt m_read m_crowds m_traced m_here m_hand m_view m_up m_down m_ruleSize m_ruleRow m_ruleDoes m_name_L8 m_goes m_tape m_readSize m_readRow m_readDoes m_own m_crowd m_isStep m_isOfGoal m_isMet m_most m_stands m_doesHere m_from m_trace) H locs → lv_has ls 5 [(0, .ref (q 0)), (1, .int l1_L6), (2, .int l2_L8), (3, .int l3_L10), (4, .int l4_L10)] → (∀ (H : Heap) (locs : List Loc) (ls : Array Slot), VJ g A s.heap (MW g q m_thrown m_n m_robots m_viewed m_rules m_taped m_latest m_size m_at m_sort m_place m_end m_fault m_faultAt m_read m_crowds m_traced m_here m_hand m_view m_up m_down m_ruleSize m_ruleRow m_ruleDoes m_name_L8 m_goes m_tape m_readSize m_readRow m_readDoes m_own m_crowd m_isStep m_isOfGoal m_isMet m_most m_stands m_doesHere m_from m_trace) H locs → lv_has ls 5 [(0, .ref (q 0)), (1, .int l1_L6), (2, .int l2_L8), (3, .int o_L10)] → W p l e rm_X8_findName s m args below meth c H locs 0 0 Q (F0 m 96 ls [])) → W p l e rm_X8_findName s m args below meth c H locs 0 0 Q (F0 m 60 ls []) := by
                clear h ho_L10 hl J
                intro f
                induction f with
                | zero => intro l3_L10 l4_L10 o_L10 h; exact absurd h (by simp [F_X8_findName_L10])
                | succ f ih =>
                  intro l3_L10 l4_L10 o_L10 h H locs ls J hl K_L10
                  rw [F_X8_findName_L10.eq_2] at h
                  refine lv_iload hx hb dX8_findName_60 (lv_at hl 4 rfl) ?_
                  refine lv_aload_n hx hb dX8_findName_62 rfl (lv_at hl 0 rfl) ?_
                  refine mg_0_1 F E J fl_X8_87 dX8_findName_63 ?_
                  refine lv_icmp_ge (tgt := 96) hx hb dX8_findName_66 (by decide) (fun c11 => ?_) (fun c11 => ?_)
                  · have h := itp c11 h
                    obtain rfl := Option.some.inj h
                    exact K_L10 _ _ _ J (lv_sub hl [0, 1, 2, 3] rfl)
                  · have h := itn c11 h
                    refine lv_iload_n hx hb dX8_findName_69 rfl (lv_at hl 3 rfl) ?_
                    refine lv_if_ne (tgt := 96) hx hb dX8_findName_70 (by decide) (fun c12 => ?_) (fun c12 => ?_)
                    · have h := itn c12 h
                      obtain rfl := Option.some.inj h
                      exact K_L10 _ _ _ J (lv_sub hl [0, 1, 2, 3] rfl)
                    · have h := itp c12 h
                      refine lv_aload_n hx hb dX8_findName_73 rfl (lv_at hl 0 rfl) ?_
                      refine lv_iload_n hx hb dX8_findName_74 rfl (lv_at hl 1 rfl) ?_
                      refine lv_iload_n hx hb dX8_findName_75 rfl (lv_at hl 2 rfl) ?_
                      refine lv_iload hx hb dX8_findName_76 (lv_at hl 4 rfl) ?_
                      obtain ⟨p13, hp13, h⟩ := ob h
                      refine onI (runV (As := [.int l1_L6, .int l2_L8, .int l4_L10]) (rest := []) F E J (c_X8_seen l1_L6 l2_L8 l4_L10 p13 hp13) cw_X8_124 ⟨rfl, rfl, Nat.le_of_ble_eq_true rfl, Nat.le_of_ble_eq_true rfl⟩ rcM0 rfl hl.1 rfl (Nat.le_of_ble_eq_true rfl) dX8_findName_78) J (fun H locs J => ?_)
                      refine lv_aload_n hx hb dX8_findName_81 rfl (lv_at hl 0 rfl) ?_
                      refine mg_0_13 F E J fl_X8_38 dX8_findName_82 ?_
                      refine lv_iload hx hb dX8_findName_85 (lv_at hl 4 rfl) ?_
                      obtain ⟨hi, h⟩ := gdt h
                      refine ml_9 F E J (inbt hi) dX8_findName_87 ?_
                      refine lv_isub hx hb dX8_findName_88 ?_
                      obtain ⟨v14, hv14, h⟩ := obs h
                      refine nmI hv14 ?_
                      refine lv_istore_n (lv' := [(3, .int v14), (0, .ref (q 0)), (1, .int l1_L6), (2, .int l2_L8), (4, .int l4_L10)]) hx hb dX8_findName_89 rfl hl (by decide) rfl (fun ls hl => ?_)
                      obtain ⟨v15, hv15, h⟩ := obs h
                      refine lv_iinc (v := v15) (lv' := [(4, .int v15), (3, .int v14), (0, .ref (q 0)), (1, .int l1_L6), (2, .int l2_L8)]) hx hb dX8_findName_90 hl (k := 4) rfl (by rw [← hv15]; rfl) (by decide) rfl (fun ls hl => ?_)
                      refine lv_goto (tgt := 60) hx hb dX8_findName_93 (by decide) ?_
                      exact ih _ _ _ h _ _ _ J (lv_sub hl [2, 3, 4, 1, 0] rfl) K_L10
              refine T_L10 FU 0 0 o_L10 ho_L10 _ _ _ J (lv_sub hl [2, 3, 4, 1, 0] rfl) (fun H locs ls J hl => ?_)
              refine lv_iconst (v := 0) hx hb dX8_findName_96 (by decide) ?_
              refine lv_istore (lv' := [(4, .int 0), (0, .ref (q 0)), (1, .int l1_L6), (2, .int l2_L8), (3, .int o_L10)]) hx hb dX8_findName_97 hl (by decide) rfl (fun ls hl => ?_)
              obtain ⟨o_L16, ho_L16, h⟩ := ob h
              have T_L16 : ∀ (f : Nat) (l4_L16 : Int32) (m_name_L16 : Nat → Int32) (o_L16 : Nat → Int32), F_X8_findName_L16 l1_L6 l2_L8 o_L10 m_n m_hand f l4_L16 m_name_L16 = some o_L16 → ∀ (H : Heap) (locs : List Loc) (ls : Array Slot), VJ g A s.heap (MW g q m_thrown m_n m_robots m_viewed m_rules m_taped m_latest m_size m_at m_sort m_place m_end m_fault m_faultAt m_read m_crowds m_traced m_here m_hand m_view m_up m_down m_ruleSize m_ruleRow m_ruleDoes m_name_L16 m_goes m_tape m_readSize m_readRow m_readDoes m_own m_crowd m_isStep m_isOfGoal m_isMet m_most m_stands m_doesHere m_from m_trace) H locs → lv_has ls 5 [(0, .ref (q 0)), (1, .int l1_L6), (2, .int l2_L8), (3, .int o_L10), (4, .int l4_L16)] → (∀ (H : Heap) (locs : List Loc) (ls : Array Slot), VJ g A s.heap (MW g q m_thrown m_n m_robots m_viewed m_rules m_taped m_latest m_size m_at m_sort m_place m_end m_fault m_faultAt m_read m_crowds m_traced m_here m_hand m_view m_up m_down m_ruleSize m_ruleRow m_ruleDoes o_L16 m_goes m_tape m_readSize m_readRow m_readDoes m_own m_crowd m_isStep m_isOfGoal m_isMet m_most m_stands m_doesHere m_from m_trace) H locs → lv_has ls 5 [(0, .ref (q 0)), (1, .int l1_L6), (2, .int l2_L8)] → W p l e rm_X8_findName s m args below meth c H locs 0 0 Q (F0 m 133 ls [])) → W p l e rm_X8_findName s m args below meth c H locs 0 0 Q (F0 m 99 ls []) := by
                clear h ho_L16 hl J
                intro f
                induction f with
                | zero => intro l4_L16 m_name_L16 o_L16 h; exact absurd h (by simp [F_X8_findName_L16])
                | succ f ih =>
                  intro l4_L16 m_name_L16 o_L16 h H locs ls J hl K_L16
                  rw [F_X8_findName_L16.eq_2] at h
                  refine lv_iload hx hb dX8_findName_99 (lv_at hl 4 rfl) ?_
                  refine lv_aload_n hx hb dX8_findName_101 rfl (lv_at hl 0 rfl) ?_
                  refine mg_0_1 F E J fl_X8_87 dX8_findName_102 ?_
                  refine lv_icmp_ge (tgt := 133) hx hb dX8_findName_105 (by decide) (fun c17 => ?_) (fun c17 => ?_)
                  · have h := itp c17 h
                    obtain rfl := Option.some.inj h
                    exact K_L16 _ _ _ J (lv_sub hl [0, 1, 2] rfl)
                  · have h := itn c17 h
                    refine lv_iload_n hx hb dX8_findName_108 rfl (lv_at hl 3 rfl) ?_
                    refine lv_if_le (tgt := 133) hx hb dX8_findName_109 (by decide) (fun c18 => ?_) (fun c18 => ?_)
                    · have h := itp c18 h
                      obtain rfl := Option.some.inj h
                      exact K_L16 _ _ _ J (lv_sub hl [0, 1, 2] rfl)
                    · have h := itn c18 h
                      refine lv_aload_n hx hb dX8_findName_112 rfl (lv_at hl 0 rfl) ?_
                      refine mg_0_13 F E J fl_X8_38 dX8_findName_113 ?_
                      refine lv_iload hx hb dX8_findName_116 (lv_at hl 4 rfl) ?_
                      refine lv_aload_n hx hb dX8_findName_118 rfl (lv_at hl 0 rfl) ?_
                      refine lv_iload_n hx hb dX8_findName_119 rfl (lv_at hl 1 rfl) ?_
                      refine lv_iload_n hx hb dX8_findName_120 rfl (lv_at hl 2 rfl) ?_
                      refine lv_iload hx hb dX8_findName_121 (lv_at hl 4 rfl) ?_
                      obtain ⟨p19, hp19, h⟩ := ob h
                      refine onI (runV (As := [.int l1_L6, .int l2_L8, .int l4_L16]) (rest := [.int l4_L16, .ref (q 9)]) F E J (c_X8_seen l1_L6 l2_L8 l4_L16 p19 hp19) cw_X8_124 ⟨rfl, rfl, Nat.le_of_ble_eq_true rfl, Nat.le_of_ble_eq_true rfl⟩ rcM0 rfl hl.1 rfl (Nat.le_of_ble_eq_true rfl) dX8_findName_123) J (fun H locs J => ?_)
                      obtain ⟨hi, h⟩ := gdt h
                      refine ms_9 F E J (inbt hi) dX8_findName_126 (fun H locs J => ?_)
                      obtain ⟨v20, hv20, h⟩ := obs h
                      refine lv_iinc (v := v20) (lv' := [(4, .int v20), (0, .ref (q 0)), (1, .int l1_L6), (2, .int l2_L8), (3, .int o_L10)]) hx hb dX8_findName_127 hl (k := 4) rfl (by rw [← hv20]; rfl) (by decide) rfl (fun ls hl => ?_)
                      refine lv_goto (tgt := 99) hx hb dX8_findName_130 (by decide) ?_
                      exact ih _ _ _ h _ _ _ J (lv_sub hl [1, 2, 3, 4, 0] rfl) K_L16
              refine T_L16 FU 0 m_name_L8 o_L16 ho_L16 _ _ _ J (lv_sub hl [1, 2, 3, 4, 0] rfl) (fun H locs ls J hl => ?_)
              obtain ⟨v21, hv21, h⟩ := obs h
              refine lv_iinc (v := v21) (lv' := [(2, .int v21), (0, .ref (q 0)), (1, .int l1_L6)]) hx hb dX8_findName_133 hl (k := 2) rfl (by rw [← hv21]; rfl) (by decide) rfl (fun ls hl => ?_)
              refine lv_goto (tgt := 47) hx hb dX8_findName_136 (by decide) ?_
              exact ih _ _ _ h _ _ _ J (lv_sub hl [1, 2, 0] rfl) K_L8
        refine T_L8 FU 0 m_name_L6 o_L8 ho_L8 _ _ _ J (lv_sub hl [1, 2, 0] rfl) (fun H locs ls J hl => ?_)
        obtain ⟨v22, hv22, h⟩ := obs h
        refine lv_iinc (v := v22) (lv' := [(1, .int v22), (0, .ref (q 0))]) hx hb dX8_findName_139 hl (k := 1) rfl (by rw [← hv22]; rfl) (by decide) rfl (fun ls hl => ?_)
        refine lv_goto (tgt := 40) hx hb dX8_findName_142 (by decide) ?_
        exact ih _ _ _ h _ _ _ J (lv_sub hl [1, 0] rfl) K_L6
  refine T_L6 FU 0 o_L1 o_L6 ho_L6 _ _ _ J (lv_sub hl [1, 0] rfl) (fun H locs ls J hl => ?_)
  obtain rfl := Option.some.inj h
  exact ret _ _ _ _ J dX8_findName_145
set_option maxHeartbeats 4000000 in
set_option maxRecDepth 100000 in
theorem c_X8_same {l : Launch} {g : GG} {A : Nat → Prop} {q : Nat → Nat} {m_thrown m_n m_robots m_viewed m_rules m_taped m_latest m_size m_at m_sort m_place m_end m_fault m_faultAt m_read m_crowds m_traced : Int32} {m_here m_hand m_view m_up m_down m_ruleSize m_ruleRow m_ruleDoes m_name m_goes m_tape m_readSize m_readRow m_readDoes m_own m_crowd m_isStep m_isOfGoal m_isMet m_most m_stands m_doesHere m_from m_trace : Nat → Int32} (a0 : Int32) (res : Int32) (h : F_X8_same a0 m_n m_hand = some res) : Met l yX8_same (wS yX8_same cX8_same 6 (some .int)) rm_X8_same (va_Pc [.ref (q 0), .int a0] (VB g A (MW g q m_thrown m_n m_robots m_viewed m_rules m_taped m_latest m_size m_at m_sort m_place m_end m_fault m_faultAt m_read m_crowds m_traced m_here m_hand m_view m_up m_down m_ruleSize m_ruleRow m_ruleDoes m_name m_goes m_tape m_readSize m_readRow m_readDoes m_own m_crowd m_isStep m_isOfGoal m_isMet m_most m_stands m_doesHere m_from m_trace))) (va_Qi (fun r (_ : Unit) => r = res) (fun _ => VB g A (MW g q m_thrown m_n m_robots m_viewed m_rules m_taped m_latest m_size m_at m_sort m_place m_end m_fault m_faultAt m_read m_crowds m_traced m_here m_hand m_view m_up m_down m_ruleSize m_ruleRow m_ruleDoes m_name m_goes m_tape m_readSize m_readRow m_readDoes m_own m_crowd m_isStep m_isOfGoal m_isMet m_most m_stands m_doesHere m_from m_trace)) A) 0 0 A := by
  unfold F_X8_same at h
  refine MetI (res := res) (own := RX8) (ws' := (MW g q m_thrown m_n m_robots m_viewed m_rules m_taped m_latest m_size m_at m_sort m_place m_end m_fault m_faultAt m_read m_crowds m_traced m_here m_hand m_view m_up m_down m_ruleSize m_ruleRow m_ruleDoes m_name m_goes m_tape m_readSize m_readRow m_readDoes m_own m_crowd m_isStep m_isOfGoal m_isMet m_most m_stands m_doesHere m_from m_trace)) (by decide) rfl (Nat.le_of_ble_eq_true rfl) ?_
  intro p e s m args below meth c Q F E ret ls J hl
  have hx := F.1
  have hb := F.2.1
  have hl : lv_has ls 6 [(0, .ref (q 0)), (1, .int a0)] := hl
  refine lv_iconst (v := 0) hx hb dX8_same_0 (by decide) ?_
  refine lv_istore_n (lv' := [(2, .int 0), (0, .ref (q 0)), (1, .int a0)]) hx hb dX8_same_1 rfl hl (by decide) rfl (fun ls hl => ?_)
  refine lv_iconst (v := 0) hx hb dX8_same_2 (by decide) ?_
  refine lv_istore_n (lv' := [(3, .int 0), (2, .int 0), (0, .ref (q 0)), (1, .int a0)]) hx hb dX8_same_3 rfl hl (by decide) rfl (fun ls hl => ?_)
  obtain ⟨o_L1, ho_L1, h⟩ := ob h
  have T_L1 : ∀ (f : Nat) (l2_L1 : Int32) (l3_L1 : Int32) (o_L1 : Int32), F_X8_same_L1 a0 m_n m_hand f l2_L1 l3_L1 = some o_L1 → ∀ (H : Heap) (locs : List Loc) (ls : Array Slot), VJ g A s.heap (MW g q m_thrown m_n m_robots m_viewed m_rules m_taped m_latest m_size m_at m_sort m_place m_end m_fault m_faultAt m_read m_crowds m_traced m_here m_hand m_view m_up m_down m_ruleSize m_ruleRow m_ruleDoes m_name m_goes m_tape m_readSize m_readRow m_readDoes m_own m_crowd m_isStep m_isOfGoal m_isMet m_most m_stands m_doesHere m_from m_trace) H locs → lv_has ls 6 [(0, .ref (q 0)), (1, .int a0), (2, .int l2_L1), (3, .int l3_L1)] → (∀ (H : Heap) (locs : List Loc) (ls : Array Slot), VJ g A s.heap (MW g q m_thrown m_n m_robots m_viewed m_rules m_taped m_latest m_size m_at m_sort m_place m_end m_fault m_faultAt m_read m_crowds m_traced m_here m_hand m_view m_up m_down m_ruleSize m_ruleRow m_ruleDoes m_name m_goes m_tape m_readSize m_readRow m_readDoes m_own m_crowd m_isStep m_isOfGoal m_isMet m_most m_stands m_doesHere m_from m_trace) H locs → lv_has ls 6 [(2, .int o_L1)] → W p l e rm_X8_same s m args below meth c H locs 0 0 Q (F0 m 82 ls [])) → W p l e rm_X8_same s m args below meth c H locs 0 0 Q (F0 m 4 ls []) := by
    clear h ho_L1 hl J
    intro f
    induction f with
    | zero => intro l2_L1 l3_L1 o_L1 h; exact absurd h (by simp [F_X8_same_L1])
    | succ f ih =>
      intro l2_L1 l3_L1 o_L1 h H locs ls J hl K_L1
      rw [F_X8_same_L1.eq_2] at h
      refine lv_iload_n hx hb dX8_same_4 rfl (lv_at hl 3 rfl) ?_
      refine lv_aload_n hx hb dX8_same_5 rfl (lv_at hl 0 rfl) ?_
      refine mg_0_1 F E J fl_X8_87 dX8_same_6 ?_
      refine lv_icmp_ge (tgt := 82) hx hb dX8_same_9 (by decide) (fun c2 => ?_) (fun c2 => ?_)
      · have h := itp c2 h
        obtain rfl := Option.some.inj h
        exact K_L1 _ _ _ J (lv_sub hl [2] rfl)
      · have h := itn c2 h
        refine lv_iconst (v := 1) hx hb dX8_same_12 (by decide) ?_
        refine lv_istore (lv' := [(4, .int 1), (0, .ref (q 0)), (1, .int a0), (2, .int l2_L1), (3, .int l3_L1)]) hx hb dX8_same_13 hl (by decide) rfl (fun ls hl => ?_)
        refine lv_iconst (v := 0) hx hb dX8_same_15 (by decide) ?_
        refine lv_istore (lv' := [(5, .int 0), (4, .int 1), (0, .ref (q 0)), (1, .int a0), (2, .int l2_L1), (3, .int l3_L1)]) hx hb dX8_same_16 hl (by decide) rfl (fun ls hl => ?_)
        obtain ⟨o_L3, ho_L3, h⟩ := ob h
        have T_L3 : ∀ (f : Nat) (l4_L3 : Int32) (l5_L3 : Int32) (o_L3 : Int32), F_X8_same_L3 a0 l3_L1 m_n m_hand f l4_L3 l5_L3 = some o_L3 → ∀ (H : Heap) (locs : List Loc) (ls : Array Slot), VJ g A s.heap (MW g q m_thrown m_n m_robots m_viewed m_rules m_taped m_latest m_size m_at m_sort m_place m_end m_fault m_faultAt m_read m_crowds m_traced m_here m_hand m_view m_up m_down m_ruleSize m_ruleRow m_ruleDoes m_name m_goes m_tape m_readSize m_readRow m_readDoes m_own m_crowd m_isStep m_isOfGoal m_isMet m_most m_stands m_doesHere m_from m_trace) H locs → lv_has ls 6 [(0, .ref (q 0)), (1, .int a0), (2, .int l2_L1), (3, .int l3_L1), (4, .int l4_L3), (5, .int l5_L3)] → (∀ (H : Heap) (locs : List Loc) (ls : Array Slot), VJ g A s.heap (MW g q m_thrown m_n m_robots m_viewed m_rules m_taped m_latest m_size m_at m_sort m_place m_end m_fault m_faultAt m_read m_crowds m_traced m_here m_hand m_view m_up m_down m_ruleSize m_ruleRow m_ruleDoes m_name m_goes m_tape m_readSize m_readRow m_readDoes m_own m_crowd m_isStep m_isOfGoal m_isMet m_most m_stands m_doesHere m_from m_trace) H locs → lv_has ls 6 [(0, .ref (q 0)), (1, .int a0), (2, .int l2_L1), (3, .int l3_L1), (4, .int o_L3)] → W p l e rm_X8_same s m args below meth c H locs 0 0 Q (F0 m 63 ls [])) → W p l e rm_X8_same s m args below meth c H locs 0 0 Q (F0 m 18 ls []) := by
          clear h ho_L3 hl J
          intro f
          induction f with
          | zero => intro l4_L3 l5_L3 o_L3 h; exact absurd h (by simp [F_X8_same_L3])
          | succ f ih =>
            intro l4_L3 l5_L3 o_L3 h H locs ls J hl K_L3
            rw [F_X8_same_L3.eq_2] at h
            refine lv_iload hx hb dX8_same_18 (lv_at hl 5 rfl) ?_
            refine lv_aload_n hx hb dX8_same_20 rfl (lv_at hl 0 rfl) ?_
            refine mg_0_1 F E J fl_X8_87 dX8_same_21 ?_
            refine lv_icmp_ge (tgt := 63) hx hb dX8_same_24 (by decide) (fun c4 => ?_) (fun c4 => ?_)
            · have h := itp c4 h
              obtain rfl := Option.some.inj h
              exact K_L3 _ _ _ J (lv_sub hl [0, 1, 2, 3, 4] rfl)
            · have h := itn c4 h
              refine lv_iload hx hb dX8_same_27 (lv_at hl 4 rfl) ?_
              obtain ⟨j5, hj5, h⟩ := ob h
              have Kj5 : ∀ (H : Heap) (locs : List Loc) (ls : Array Slot), VJ g A s.heap (MW g q m_thrown m_n m_robots m_viewed m_rules m_taped m_latest m_size m_at m_sort m_place m_end m_fault m_faultAt m_read m_crowds m_traced m_here m_hand m_view m_up m_down m_ruleSize m_ruleRow m_ruleDoes m_name m_goes m_tape m_readSize m_readRow m_readDoes m_own m_crowd m_isStep m_isOfGoal m_isMet m_most m_stands m_doesHere m_from m_trace) H locs → lv_has ls 6 [(0, .ref (q 0)), (1, .int a0), (2, .int l2_L1), (3, .int l3_L1), (5, .int l5_L3)] → W p l e rm_X8_same s m args below meth c H locs 0 0 Q (F0 m 55 ls [.int j5]) := by
                intro H locs ls J hl
                refine lv_istore (lv' := [(4, .int j5), (0, .ref (q 0)), (1, .int a0), (2, .int l2_L1), (3, .int l3_L1), (5, .int l5_L3)]) hx hb dX8_same_55 hl (by decide) rfl (fun ls hl => ?_)
                obtain ⟨v9, hv9, h⟩ := obs h
                refine lv_iinc (v := v9) (lv' := [(5, .int v9), (4, .int j5), (0, .ref (q 0)), (1, .int a0), (2, .int l2_L1), (3, .int l3_L1)]) hx hb dX8_same_57 hl (k := 5) rfl (by rw [← hv9]; rfl) (by decide) rfl (fun ls hl => ?_)
                refine lv_goto (tgt := 18) hx hb dX8_same_60 (by decide) ?_
                exact ih _ _ _ h _ _ _ J (lv_sub hl [2, 3, 4, 5, 1, 0] rfl) K_L3
              clear h
              have h := hj5
              refine lv_if_eq (tgt := 54) hx hb dX8_same_29 (by decide) (fun c6 => ?_) (fun c6 => ?_)
              · have h := itp c6 h
                refine lv_iconst (v := 0) hx hb dX8_same_54 (by decide) ?_
                obtain rfl := Option.some.inj h
                exact Kj5 _ _ _ J (lv_sub hl [0, 1, 2, 3, 5] rfl)
              · have h := itn c6 h
                refine lv_aload_n hx hb dX8_same_32 rfl (lv_at hl 0 rfl) ?_
                refine lv_iload_n hx hb dX8_same_33 rfl (lv_at hl 1 rfl) ?_
                refine lv_iload_n hx hb dX8_same_34 rfl (lv_at hl 3 rfl) ?_
                refine lv_iload hx hb dX8_same_35 (lv_at hl 5 rfl) ?_
                obtain ⟨p7, hp7, h⟩ := ob h
                refine onI (runV (As := [.int a0, .int l3_L1, .int l5_L3]) (rest := []) F E J (c_X8_seen a0 l3_L1 l5_L3 p7 hp7) cw_X8_124 ⟨rfl, rfl, Nat.le_of_ble_eq_true rfl, Nat.le_of_ble_eq_true rfl⟩ rcM0 rfl hl.1 rfl (Nat.le_of_ble_eq_true rfl) dX8_same_37) J (fun H locs J => ?_)
                refine lv_aload_n hx hb dX8_same_40 rfl (lv_at hl 0 rfl) ?_
                refine mg_0_4 F E J fl_X8_17 dX8_same_41 ?_
                refine lv_iload hx hb dX8_same_44 (lv_at hl 5 rfl) ?_
                obtain ⟨hi, h⟩ := gdt h
                refine ml_2 F E J (inbt hi) dX8_same_46 ?_
                refine lv_icmp_ne (tgt := 54) hx hb dX8_same_47 (by decide) (fun c8 => ?_) (fun c8 => ?_)
                · have h := itn c8 h
                  refine lv_iconst (v := 0) hx hb dX8_same_54 (by decide) ?_
                  obtain rfl := Option.some.inj h
                  exact Kj5 _ _ _ J (lv_sub hl [0, 1, 2, 3, 5] rfl)
                · have h := itp c8 h
                  refine lv_iconst (v := 1) hx hb dX8_same_50 (by decide) ?_
                  refine lv_goto (tgt := 55) hx hb dX8_same_51 (by decide) ?_
                  obtain rfl := Option.some.inj h
                  exact Kj5 _ _ _ J (lv_sub hl [0, 1, 2, 3, 5] rfl)
        refine T_L3 FU 1 0 o_L3 ho_L3 _ _ _ J (lv_sub hl [2, 3, 4, 5, 1, 0] rfl) (fun H locs ls J hl => ?_)
        refine lv_iload_n hx hb dX8_same_63 rfl (lv_at hl 2 rfl) ?_
        refine lv_iload hx hb dX8_same_64 (lv_at hl 4 rfl) ?_
        obtain ⟨j10, hj10, h⟩ := ob h
        have Kj10 : ∀ (H : Heap) (locs : List Loc) (ls : Array Slot), VJ g A s.heap (MW g q m_thrown m_n m_robots m_viewed m_rules m_taped m_latest m_size m_at m_sort m_place m_end m_fault m_faultAt m_read m_crowds m_traced m_here m_hand m_view m_up m_down m_ruleSize m_ruleRow m_ruleDoes m_name m_goes m_tape m_readSize m_readRow m_readDoes m_own m_crowd m_isStep m_isOfGoal m_isMet m_most m_stands m_doesHere m_from m_trace) H locs → lv_has ls 6 [(0, .ref (q 0)), (1, .int a0), (3, .int l3_L1)] → W p l e rm_X8_same s m args below meth c H locs 0 0 Q (F0 m 74 ls [.int j10, .int l2_L1]) := by
          intro H locs ls J hl
          refine lv_iadd hx hb dX8_same_74 ?_
          obtain ⟨v12, hv12, h⟩ := obs h
          refine nmI hv12 ?_
          refine lv_istore_n (lv' := [(2, .int v12), (0, .ref (q 0)), (1, .int a0), (3, .int l3_L1)]) hx hb dX8_same_75 rfl hl (by decide) rfl (fun ls hl => ?_)
          obtain ⟨v13, hv13, h⟩ := obs h
          refine lv_iinc (v := v13) (lv' := [(3, .int v13), (2, .int v12), (0, .ref (q 0)), (1, .int a0)]) hx hb dX8_same_76 hl (k := 3) rfl (by rw [← hv13]; rfl) (by decide) rfl (fun ls hl => ?_)
          refine lv_goto (tgt := 4) hx hb dX8_same_79 (by decide) ?_
          exact ih _ _ _ h _ _ _ J (lv_sub hl [2, 3, 1, 0] rfl) K_L1
        clear h
        have h := hj10
        refine lv_if_eq (tgt := 73) hx hb dX8_same_66 (by decide) (fun c11 => ?_) (fun c11 => ?_)
        · have h := itp c11 h
          refine lv_iconst (v := 0) hx hb dX8_same_73 (by decide) ?_
          obtain rfl := Option.some.inj h
          exact Kj10 _ _ _ J (lv_sub hl [0, 1, 3] rfl)
        · have h := itn c11 h
          refine lv_iconst (v := 1) hx hb dX8_same_69 (by decide) ?_
          refine lv_goto (tgt := 74) hx hb dX8_same_70 (by decide) ?_
          obtain rfl := Option.some.inj h
          exact Kj10 _ _ _ J (lv_sub hl [0, 1, 3] rfl)
  refine T_L1 FU 0 0 o_L1 ho_L1 _ _ _ J (lv_sub hl [2, 3, 1, 0] rfl) (fun H locs ls J hl => ?_)
  refine lv_iload_n hx hb dX8_same_82 rfl (lv_at hl 0 rfl) ?_
  obtain rfl := Option.some.inj h
  exact ret _ _ _ _ J dX8_same_83
set_option maxHeartbeats 4000000 in
set_option maxRecDepth 100000 in
theorem c_X8_name {l : Launch} {g : GG} {A : Nat → Prop} {q : Nat → Nat} {m_thrown m_n m_robots m_viewed m_rules m_taped m_latest m_size m_at m_sort m_place m_end m_fault m_faultAt m_read m_crowds m_traced : Int32} {m_here m_hand m_view m_up m_down m_ruleSize m_ruleRow m_ruleDoes m_name m_goes m_tape m_readSize m_readRow m_readDoes m_own m_crowd m_isStep m_isOfGoal m_isMet m_most m_stands m_doesHere m_from m_trace : Nat → Int32} (a0 : Int32) (res : Int32 × Int32 × (Nat → Int32) × (Nat → Int32)) (h : F_X8_name a0 m_n m_here m_hand m_name = some res) : Met l yX8_name (wS yX8_name cX8_name 2 (some .int)) rm_X8_name (va_Pc [.ref (q 0), .int a0] (VB g A (MW g q m_thrown m_n m_robots m_viewed m_rules m_taped m_latest m_size m_at m_sort m_place m_end m_fault m_faultAt m_read m_crowds m_traced m_here m_hand m_view m_up m_down m_ruleSize m_ruleRow m_ruleDoes m_name m_goes m_tape m_readSize m_readRow m_readDoes m_own m_crowd m_isStep m_isOfGoal m_isMet m_most m_stands m_doesHere m_from m_trace))) (va_Qi (fun r (_ : Unit) => r = res.1) (fun _ => VB g A (MW g q res.2.1 m_n m_robots m_viewed m_rules m_taped m_latest m_size m_at m_sort m_place m_end m_fault m_faultAt m_read m_crowds m_traced m_here res.2.2.1 m_view m_up m_down m_ruleSize m_ruleRow m_ruleDoes res.2.2.2 m_goes m_tape m_readSize m_readRow m_readDoes m_own m_crowd m_isStep m_isOfGoal m_isMet m_most m_stands m_doesHere m_from m_trace)) A) 0 0 A := by
  unfold F_X8_name at h
  refine MetI (res := res.1) (own := RX8) (ws' := (MW g q res.2.1 m_n m_robots m_viewed m_rules m_taped m_latest m_size m_at m_sort m_place m_end m_fault m_faultAt m_read m_crowds m_traced m_here res.2.2.1 m_view m_up m_down m_ruleSize m_ruleRow m_ruleDoes res.2.2.2 m_goes m_tape m_readSize m_readRow m_readDoes m_own m_crowd m_isStep m_isOfGoal m_isMet m_most m_stands m_doesHere m_from m_trace)) (by decide) rfl (Nat.le_of_ble_eq_true rfl) ?_
  intro p e s m args below meth c Q F E ret ls J hl
  have hx := F.1
  have hb := F.2.1
  have hl : lv_has ls 2 [(0, .ref (q 0)), (1, .int a0)] := hl
  refine lv_aload_n hx hb dX8_name_0 rfl (lv_at hl 0 rfl) ?_
  refine lv_iconst (v := 0) hx hb dX8_name_1 (by decide) ?_
  refine mp_0_0 F E J fl_X8_1 dX8_name_2 (fun H locs J => ?_)
  refine lv_aload_n hx hb dX8_name_5 rfl (lv_at hl 0 rfl) ?_
  refine lv_iload_n hx hb dX8_name_6 rfl (lv_at hl 1 rfl) ?_
  obtain ⟨p1, hp1, h⟩ := ob h
  refine onZ (runV (As := [.int a0]) (rest := []) F E J (c_X8_isPlace a0 p1 hp1) cw_X8_94 ⟨rfl, rfl, Nat.le_of_ble_eq_true rfl, Nat.le_of_ble_eq_true rfl⟩ rcM0 rfl hl.1 rfl (Nat.le_of_ble_eq_true rfl) dX8_name_7) J (fun hzbp1 H locs J => ?_)
  refine lv_if_ne (tgt := 16) hx hb dX8_name_10 (by decide) (fun c2 => ?_) (fun c2 => ?_)
  · have h := itn c2 h
    refine lv_aload_n hx hb dX8_name_16 rfl (lv_at hl 0 rfl) ?_
    obtain ⟨p3, hp3, h⟩ := ob h
    refine onV (runV (As := []) (rest := []) F E J (c_X8_take  p3 hp3) cw_X8_111 ⟨rfl, rfl, Nat.le_of_ble_eq_true rfl, Nat.le_of_ble_eq_true rfl⟩ rcM0 rfl hl.1 rfl (Nat.le_of_ble_eq_true rfl) dX8_name_17) J (fun H locs J => ?_)
    refine lv_aload_n hx hb dX8_name_20 rfl (lv_at hl 0 rfl) ?_
    obtain ⟨p4, hp4, h⟩ := ob h
    refine onV (runV (As := []) (rest := []) F E J (c_X8_findName  p4 hp4) cw_X8_128 ⟨rfl, rfl, Nat.le_of_ble_eq_true rfl, Nat.le_of_ble_eq_true rfl⟩ rcM0 rfl hl.1 rfl (Nat.le_of_ble_eq_true rfl) dX8_name_21) J (fun H locs J => ?_)
    refine lv_aload_n hx hb dX8_name_24 rfl (lv_at hl 0 rfl) ?_
    refine mg_0_13 F E J fl_X8_38 dX8_name_25 ?_
    refine lv_iload_n hx hb dX8_name_28 rfl (lv_at hl 1 rfl) ?_
    obtain ⟨hi, h⟩ := gdt h
    refine ml_9 F E J (inbt hi) dX8_name_29 ?_
    obtain rfl := Option.some.inj h
    exact ret _ _ _ _ J dX8_name_30
  · have h := itp c2 h
    refine lv_ldc hx hb F.2.2.2.1 (F.2.2.2.2 _ kc_X8_98) dX8_name_13 ?_
    obtain rfl := Option.some.inj h
    exact ret _ _ _ _ J dX8_name_15
set_option maxHeartbeats 4000000 in
set_option maxRecDepth 100000 in
theorem c_X8_isGoal {l : Launch} {g : GG} {A : Nat → Prop} {q : Nat → Nat} {m_thrown m_n m_robots m_viewed m_rules m_taped m_latest m_size m_at m_sort m_place m_end m_fault m_faultAt m_read m_crowds m_traced : Int32} {m_here m_hand m_view m_up m_down m_ruleSize m_ruleRow m_ruleDoes m_name m_goes m_tape m_readSize m_readRow m_readDoes m_own m_crowd m_isStep m_isOfGoal m_isMet m_most m_stands m_doesHere m_from m_trace : Nat → Int32} (a0 : Int32) (a1 : Int32) (res : Int32) (h : F_X8_isGoal a0 a1 m_n m_hand = some res) : Met l yX8_isGoal (wS yX8_isGoal cX8_isGoal 10 (some .boolean)) rm_X8_isGoal (va_Pc [.ref (q 0), .int a0, .int a1] (VB g A (MW g q m_thrown m_n m_robots m_viewed m_rules m_taped m_latest m_size m_at m_sort m_place m_end m_fault m_faultAt m_read m_crowds m_traced m_here m_hand m_view m_up m_down m_ruleSize m_ruleRow m_ruleDoes m_name m_goes m_tape m_readSize m_readRow m_readDoes m_own m_crowd m_isStep m_isOfGoal m_isMet m_most m_stands m_doesHere m_from m_trace))) (va_Qi (fun r (_ : Unit) => r = res ∧ zB r) (fun _ => VB g A (MW g q m_thrown m_n m_robots m_viewed m_rules m_taped m_latest m_size m_at m_sort m_place m_end m_fault m_faultAt m_read m_crowds m_traced m_here m_hand m_view m_up m_down m_ruleSize m_ruleRow m_ruleDoes m_name m_goes m_tape m_readSize m_readRow m_readDoes m_own m_crowd m_isStep m_isOfGoal m_isMet m_most m_stands m_doesHere m_from m_trace)) A) 0 0 A := by
  unfold F_X8_isGoal at h
  refine MetZ (res := res) (own := RX8) (ws' := (MW g q m_thrown m_n m_robots m_viewed m_rules m_taped m_latest m_size m_at m_sort m_place m_end m_fault m_faultAt m_read m_crowds m_traced m_here m_hand m_view m_up m_down m_ruleSize m_ruleRow m_ruleDoes m_name m_goes m_tape m_readSize m_readRow m_readDoes m_own m_crowd m_isStep m_isOfGoal m_isMet m_most m_stands m_doesHere m_from m_trace)) (by decide) rfl (Nat.le_of_ble_eq_true rfl) ?_
  intro p e s m args below meth c Q F E ret ls J hl
  have hx := F.1
  have hb := F.2.1
  have hl : lv_has ls 10 [(0, .ref (q 0)), (1, .int a0), (2, .int a1)] := hl
  refine lv_iconst (v := 0) hx hb dX8_isGoal_0 (by decide) ?_
  refine lv_istore_n (lv' := [(3, .int 0), (0, .ref (q 0)), (1, .int a0), (2, .int a1)]) hx hb dX8_isGoal_1 rfl hl (by decide) rfl (fun ls hl => ?_)
  refine lv_aload_n hx hb dX8_isGoal_2 rfl (lv_at hl 1 rfl) ?_
  refine mg_0_1 F E J fl_X8_87 dX8_isGoal_3 ?_
  refine lv_iconst (v := 1) hx hb dX8_isGoal_6 (by decide) ?_
  refine lv_iadd hx hb dX8_isGoal_7 ?_
  obtain ⟨v1, hv1, h⟩ := obs h
  refine nmI hv1 ?_
  refine lv_istore (lv' := [(4, .int v1), (3, .int 0), (0, .ref (q 0)), (1, .int a0), (2, .int a1)]) hx hb dX8_isGoal_8 hl (by decide) rfl (fun ls hl => ?_)
  refine lv_iconst (v := 0) hx hb dX8_isGoal_10 (by decide) ?_
  refine lv_istore (lv' := [(5, .int 0), (4, .int v1), (3, .int 0), (0, .ref (q 0)), (1, .int a0), (2, .int a1)]) hx hb dX8_isGoal_11 hl (by decide) rfl (fun ls hl => ?_)
  refine lv_iconst (v := 1) hx hb dX8_isGoal_13 (by decide) ?_
  refine lv_istore (lv' := [(6, .int 1), (5, .int 0), (4, .int v1), (3, .int 0), (0, .ref (q 0)), (1, .int a0), (2, .int a1)]) hx hb dX8_isGoal_14 hl (by decide) rfl (fun ls hl => ?_)
  refine lv_iconst (v := 0) hx hb dX8_isGoal_16 (by decide) ?_
  refine lv_istore (lv' := [(7, .int 0), (6, .int 1), (5, .int 0), (4, .int v1), (3, .int 0), (0, .ref (q 0)), (1, .int a0), (2, .int a1)]) hx hb dX8_isGoal_17 hl (by decide) rfl (fun ls hl => ?_)
  refine lv_iconst (v := 0) hx hb dX8_isGoal_19 (by decide) ?_
  refine lv_istore (lv' := [(8, .int 0), (7, .int 0), (6, .int 1), (5, .int 0), (4, .int v1), (3, .int 0), (0, .ref (q 0)), (1, .int a0), (2, .int a1)]) hx hb dX8_isGoal_20 hl (by decide) rfl (fun ls hl => ?_)
  obtain ⟨o_L2, ho_L2, h⟩ := ob h
  have T_L2 : ∀ (f : Nat) (l3_L2 : Int32) (l4_L2 : Int32) (l5_L2 : Int32) (l6_L2 : Int32) (l7_L2 : Int32) (l8_L2 : Int32) (o_L2 : Int32 × Int32 × Int32 × Int32 × Int32), F_X8_isGoal_L2 m_n m_hand f l3_L2 l4_L2 l5_L2 l6_L2 l7_L2 l8_L2 = some o_L2 → ∀ (H : Heap) (locs : List Loc) (ls : Array Slot), VJ g A s.heap (MW g q m_thrown m_n m_robots m_viewed m_rules m_taped m_latest m_size m_at m_sort m_place m_end m_fault m_faultAt m_read m_crowds m_traced m_here m_hand m_view m_up m_down m_ruleSize m_ruleRow m_ruleDoes m_name m_goes m_tape m_readSize m_readRow m_readDoes m_own m_crowd m_isStep m_isOfGoal m_isMet m_most m_stands m_doesHere m_from m_trace) H locs → lv_has ls 10 [(0, .ref (q 0)), (1, .int a0), (2, .int a1), (3, .int l3_L2), (4, .int l4_L2), (5, .int l5_L2), (6, .int l6_L2), (7, .int l7_L2), (8, .int l8_L2)] → (∀ (H : Heap) (locs : List Loc) (ls : Array Slot), VJ g A s.heap (MW g q m_thrown m_n m_robots m_viewed m_rules m_taped m_latest m_size m_at m_sort m_place m_end m_fault m_faultAt m_read m_crowds m_traced m_here m_hand m_view m_up m_down m_ruleSize m_ruleRow m_ruleDoes m_name m_goes m_tape m_readSize m_readRow m_readDoes m_own m_crowd m_isStep m_isOfGoal m_isMet m_most m_stands m_doesHere m_from m_trace) H locs → lv_has ls 10 [(0, .ref (q 0)), (1, .int a0), (2, .int a1), (3, .int o_L2.1), (4, .int o_L2.2.1), (5, .int o_L2.2.2.1), (6, .int o_L2.2.2.2.1), (7, .int o_L2.2.2.2.2)] → W p l e rm_X8_isGoal s m args below meth c H locs 0 0 Q (F0 m 148 ls [])) → W p l e rm_X8_isGoal s m args below meth c H locs 0 0 Q (F0 m 22 ls []) := by
    clear h ho_L2 hl J
    intro f
    induction f with
    | zero => intro l3_L2 l4_L2 l5_L2 l6_L2 l7_L2 l8_L2 o_L2 h; exact absurd h (by simp [F_X8_isGoal_L2])
    | succ f ih =>
      intro l3_L2 l4_L2 l5_L2 l6_L2 l7_L2 l8_L2 o_L2 h H locs ls J hl K_L2
      rw [F_X8_isGoal_L2.eq_2] at h
      refine lv_iload hx hb dX8_isGoal_22 (lv_at hl 8 rfl) ?_
      refine lv_aload_n hx hb dX8_isGoal_24 rfl (lv_at hl 0 rfl) ?_
      refine mg_0_1 F E J fl_X8_87 dX8_isGoal_25 ?_
      refine lv_icmp_ge (tgt := 148) hx hb dX8_isGoal_28 (by decide) (fun c3 => ?_) (fun c3 => ?_)
      · have h := itp c3 h
        obtain rfl := Option.some.inj h
        exact K_L2 _ _ _ J (lv_sub hl [0, 1, 2, 3, 4, 5, 6, 7] rfl)
      · have h := itn c3 h
        refine lv_aload_n hx hb dX8_isGoal_31 rfl (lv_at hl 0 rfl) ?_
        refine mg_0_4 F E J fl_X8_17 dX8_isGoal_32 ?_
        refine lv_iload hx hb dX8_isGoal_35 (lv_at hl 8 rfl) ?_
        obtain ⟨hi, h⟩ := gdt h
        refine ml_2 F E J (inbt hi) dX8_isGoal_37 ?_
        obtain ⟨j4, hj4, h⟩ := ob h
        have Kj4 : ∀ (H : Heap) (locs : List Loc) (ls : Array Slot), VJ g A s.heap (MW g q m_thrown m_n m_robots m_viewed m_rules m_taped m_latest m_size m_at m_sort m_place m_end m_fault m_faultAt m_read m_crowds m_traced m_here m_hand m_view m_up m_down m_ruleSize m_ruleRow m_ruleDoes m_name m_goes m_tape m_readSize m_readRow m_readDoes m_own m_crowd m_isStep m_isOfGoal m_isMet m_most m_stands m_doesHere m_from m_trace) H locs → lv_has ls 10 [(0, .ref (q 0)), (1, .int a0), (2, .int a1), (3, .int j4.1), (4, .int j4.2.1), (5, .int j4.2.2.1), (6, .int j4.2.2.2.1), (7, .int j4.2.2.2.2), (8, .int l8_L2)] → W p l e rm_X8_isGoal s m args below meth c H locs 0 0 Q (F0 m 142 ls []) := by
          intro H locs ls J hl
          obtain ⟨v20, hv20, h⟩ := obs h
          refine lv_iinc (v := v20) (lv' := [(8, .int v20), (0, .ref (q 0)), (1, .int a0), (2, .int a1), (3, .int j4.1), (4, .int j4.2.1), (5, .int j4.2.2.1), (6, .int j4.2.2.2.1), (7, .int j4.2.2.2.2)]) hx hb dX8_isGoal_142 hl (k := 8) rfl (by rw [← hv20]; rfl) (by decide) rfl (fun ls hl => ?_)
          refine lv_goto (tgt := 22) hx hb dX8_isGoal_145 (by decide) ?_
          exact ih _ _ _ _ _ _ _ h _ _ _ J (lv_sub hl [1, 2, 3, 4, 5, 6, 7, 8, 0] rfl) K_L2
        clear h
        have h := hj4
        refine lv_if_le (tgt := 142) hx hb dX8_isGoal_38 (by decide) (fun c5 => ?_) (fun c5 => ?_)
        · have h := itp c5 h
          obtain rfl := Option.some.inj h
          exact Kj4 _ _ _ J (lv_sub hl [0, 1, 2, 3, 4, 5, 6, 7, 8] rfl)
        · have h := itn c5 h
          obtain ⟨v6, hv6, h⟩ := obs h
          refine lv_iinc (v := v6) (lv' := [(3, .int v6), (0, .ref (q 0)), (1, .int a0), (2, .int a1), (4, .int l4_L2), (5, .int l5_L2), (6, .int l6_L2), (7, .int l7_L2), (8, .int l8_L2)]) hx hb dX8_isGoal_41 hl (k := 3) rfl (by rw [← hv6]; rfl) (by decide) rfl (fun ls hl => ?_)
          refine lv_iload hx hb dX8_isGoal_44 (lv_at hl 6 rfl) ?_
          obtain ⟨j7, hj7, h⟩ := ob h
          have Kj7 : ∀ (H : Heap) (locs : List Loc) (ls : Array Slot), VJ g A s.heap (MW g q m_thrown m_n m_robots m_viewed m_rules m_taped m_latest m_size m_at m_sort m_place m_end m_fault m_faultAt m_read m_crowds m_traced m_here m_hand m_view m_up m_down m_ruleSize m_ruleRow m_ruleDoes m_name m_goes m_tape m_readSize m_readRow m_readDoes m_own m_crowd m_isStep m_isOfGoal m_isMet m_most m_stands m_doesHere m_from m_trace) H locs → lv_has ls 10 [(0, .ref (q 0)), (1, .int a0), (2, .int a1), (3, .int v6), (4, .int l4_L2), (5, .int l5_L2), (7, .int l7_L2), (8, .int l8_L2)] → W p l e rm_X8_isGoal s m args below meth c H locs 0 0 Q (F0 m 65 ls [.int j7]) := by
            intro H locs ls J hl
            refine lv_istore (lv' := [(6, .int j7), (0, .ref (q 0)), (1, .int a0), (2, .int a1), (3, .int v6), (4, .int l4_L2), (5, .int l5_L2), (7, .int l7_L2), (8, .int l8_L2)]) hx hb dX8_isGoal_65 hl (by decide) rfl (fun ls hl => ?_)
            refine lv_iconst (v := 1) hx hb dX8_isGoal_67 (by decide) ?_
            refine lv_istore (lv' := [(9, .int 1), (6, .int j7), (0, .ref (q 0)), (1, .int a0), (2, .int a1), (3, .int v6), (4, .int l4_L2), (5, .int l5_L2), (7, .int l7_L2), (8, .int l8_L2)]) hx hb dX8_isGoal_68 hl (by decide) rfl (fun ls hl => ?_)
            obtain ⟨o_L10, ho_L10, h⟩ := ob h
            have T_L10 : ∀ (f : Nat) (l9_L10 : Int32) (o_L10 : Int32), F_X8_isGoal_L10 l8_L2 m_n m_hand f l9_L10 = some o_L10 → ∀ (H : Heap) (locs : List Loc) (ls : Array Slot), VJ g A s.heap (MW g q m_thrown m_n m_robots m_viewed m_rules m_taped m_latest m_size m_at m_sort m_place m_end m_fault m_faultAt m_read m_crowds m_traced m_here m_hand m_view m_up m_down m_ruleSize m_ruleRow m_ruleDoes m_name m_goes m_tape m_readSize m_readRow m_readDoes m_own m_crowd m_isStep m_isOfGoal m_isMet m_most m_stands m_doesHere m_from m_trace) H locs → lv_has ls 10 [(0, .ref (q 0)), (1, .int a0), (2, .int a1), (3, .int v6), (4, .int l4_L2), (5, .int l5_L2), (6, .int j7), (7, .int l7_L2), (8, .int l8_L2), (9, .int l9_L10)] → (∀ (H : Heap) (locs : List Loc) (ls : Array Slot), VJ g A s.heap (MW g q m_thrown m_n m_robots m_viewed m_rules m_taped m_latest m_size m_at m_sort m_place m_end m_fault m_faultAt m_read m_crowds m_traced m_here m_hand m_view m_up m_down m_ruleSize m_ruleRow m_ruleDoes m_name m_goes m_tape m_readSize m_readRow m_readDoes m_own m_crowd m_isStep m_isOfGoal m_isMet m_most m_stands m_doesHere m_from m_trace) H locs → lv_has ls 10 [(0, .ref (q 0)), (1, .int a0), (2, .int a1), (3, .int v6), (4, .int l4_L2), (5, .int l5_L2), (6, .int j7), (7, .int l7_L2), (8, .int l8_L2), (9, .int o_L10)] → W p l e rm_X8_isGoal s m args below meth c H locs 0 0 Q (F0 m 94 ls [])) → W p l e rm_X8_isGoal s m args below meth c H locs 0 0 Q (F0 m 70 ls []) := by
              clear h ho_L10 hl J
              intro f
              induction f with
              | zero => intro l9_L10 o_L10 h; exact absurd h (by simp [F_X8_isGoal_L10])
              | succ f ih =>
                intro l9_L10 o_L10 h H locs ls J hl K_L10
                rw [F_X8_isGoal_L10.eq_2] at h
                refine lv_aload_n hx hb dX8_isGoal_70 rfl (lv_at hl 0 rfl) ?_
                refine mg_0_4 F E J fl_X8_17 dX8_isGoal_71 ?_
                refine lv_iload hx hb dX8_isGoal_74 (lv_at hl 8 rfl) ?_
                refine lv_iload hx hb dX8_isGoal_76 (lv_at hl 9 rfl) ?_
                refine lv_iadd hx hb dX8_isGoal_78 ?_
                refine lv_aload_n hx hb dX8_isGoal_79 rfl (lv_at hl 0 rfl) ?_
                refine mg_0_1 F E J fl_X8_87 dX8_isGoal_80 ?_
                obtain ⟨hz, h⟩ := gdt h
                refine lv_irem hx hb dX8_isGoal_83 (nzt hz) ?_
                obtain ⟨hi, h⟩ := gdt h
                refine ml_2 F E J (inbt hi) dX8_isGoal_84 ?_
                refine lv_if_ne (tgt := 94) hx hb dX8_isGoal_85 (by decide) (fun c11 => ?_) (fun c11 => ?_)
                · have h := itn c11 h
                  obtain rfl := Option.some.inj h
                  exact K_L10 _ _ _ J (lv_sub hl [0, 1, 2, 3, 4, 5, 6, 7, 8, 9] rfl)
                · have h := itp c11 h
                  obtain ⟨v12, hv12, h⟩ := obs h
                  refine lv_iinc (v := v12) (lv' := [(9, .int v12), (0, .ref (q 0)), (1, .int a0), (2, .int a1), (3, .int v6), (4, .int l4_L2), (5, .int l5_L2), (6, .int j7), (7, .int l7_L2), (8, .int l8_L2)]) hx hb dX8_isGoal_88 hl (k := 9) rfl (by rw [← hv12]; rfl) (by decide) rfl (fun ls hl => ?_)
                  refine lv_goto (tgt := 70) hx hb dX8_isGoal_91 (by decide) ?_
                  exact ih _ _ h _ _ _ J (lv_sub hl [1, 2, 3, 4, 5, 6, 7, 8, 9, 0] rfl) K_L10
            refine T_L10 FU 1 o_L10 ho_L10 _ _ _ J (lv_sub hl [2, 3, 4, 5, 6, 7, 1, 8, 9, 0] rfl) (fun H locs ls J hl => ?_)
            refine lv_iload hx hb dX8_isGoal_94 (lv_at hl 9 rfl) ?_
            refine lv_iload hx hb dX8_isGoal_96 (lv_at hl 4 rfl) ?_
            obtain ⟨j13, hj13, h⟩ := ob h
            have Kj13 : ∀ (H : Heap) (locs : List Loc) (ls : Array Slot), VJ g A s.heap (MW g q m_thrown m_n m_robots m_viewed m_rules m_taped m_latest m_size m_at m_sort m_place m_end m_fault m_faultAt m_read m_crowds m_traced m_here m_hand m_view m_up m_down m_ruleSize m_ruleRow m_ruleDoes m_name m_goes m_tape m_readSize m_readRow m_readDoes m_own m_crowd m_isStep m_isOfGoal m_isMet m_most m_stands m_doesHere m_from m_trace) H locs → lv_has ls 10 [(0, .ref (q 0)), (1, .int a0), (2, .int a1), (3, .int v6), (5, .int l5_L2), (6, .int j7), (7, .int l7_L2), (8, .int l8_L2), (9, .int o_L10)] → W p l e rm_X8_isGoal s m args below meth c H locs 0 0 Q (F0 m 108 ls [.int j13]) := by
              intro H locs ls J hl
              refine lv_istore (lv' := [(4, .int j13), (0, .ref (q 0)), (1, .int a0), (2, .int a1), (3, .int v6), (5, .int l5_L2), (6, .int j7), (7, .int l7_L2), (8, .int l8_L2), (9, .int o_L10)]) hx hb dX8_isGoal_108 hl (by decide) rfl (fun ls hl => ?_)
              refine lv_iload hx hb dX8_isGoal_110 (lv_at hl 9 rfl) ?_
              refine lv_iload hx hb dX8_isGoal_112 (lv_at hl 5 rfl) ?_
              obtain ⟨j15, hj15, h⟩ := ob h
              have Kj15 : ∀ (H : Heap) (locs : List Loc) (ls : Array Slot), VJ g A s.heap (MW g q m_thrown m_n m_robots m_viewed m_rules m_taped m_latest m_size m_at m_sort m_place m_end m_fault m_faultAt m_read m_crowds m_traced m_here m_hand m_view m_up m_down m_ruleSize m_ruleRow m_ruleDoes m_name m_goes m_tape m_readSize m_readRow m_readDoes m_own m_crowd m_isStep m_isOfGoal m_isMet m_most m_stands m_doesHere m_from m_trace) H locs → lv_has ls 10 [(0, .ref (q 0)), (1, .int a0), (2, .int a1), (3, .int v6), (4, .int j13), (6, .int j7), (7, .int l7_L2), (8, .int l8_L2), (9, .int o_L10)] → W p l e rm_X8_isGoal s m args below meth c H locs 0 0 Q (F0 m 124 ls [.int j15]) := by
                intro H locs ls J hl
                refine lv_istore (lv' := [(5, .int j15), (0, .ref (q 0)), (1, .int a0), (2, .int a1), (3, .int v6), (4, .int j13), (6, .int j7), (7, .int l7_L2), (8, .int l8_L2), (9, .int o_L10)]) hx hb dX8_isGoal_124 hl (by decide) rfl (fun ls hl => ?_)
                refine lv_iload hx hb dX8_isGoal_126 (lv_at hl 7 rfl) ?_
                refine lv_iload hx hb dX8_isGoal_128 (lv_at hl 9 rfl) ?_
                refine lv_iconst (v := 1) hx hb dX8_isGoal_130 (by decide) ?_
                obtain ⟨j17, hj17, h⟩ := ob h
                have Kj17 : ∀ (H : Heap) (locs : List Loc) (ls : Array Slot), VJ g A s.heap (MW g q m_thrown m_n m_robots m_viewed m_rules m_taped m_latest m_size m_at m_sort m_place m_end m_fault m_faultAt m_read m_crowds m_traced m_here m_hand m_view m_up m_down m_ruleSize m_ruleRow m_ruleDoes m_name m_goes m_tape m_readSize m_readRow m_readDoes m_own m_crowd m_isStep m_isOfGoal m_isMet m_most m_stands m_doesHere m_from m_trace) H locs → lv_has ls 10 [(0, .ref (q 0)), (1, .int a0), (2, .int a1), (3, .int v6), (4, .int j13), (5, .int j15), (6, .int j7), (8, .int l8_L2)] → W p l e rm_X8_isGoal s m args below meth c H locs 0 0 Q (F0 m 139 ls [.int j17, .int l7_L2]) := by
                  intro H locs ls J hl
                  refine lv_iadd hx hb dX8_isGoal_139 ?_
                  obtain ⟨v19, hv19, h⟩ := obs h
                  refine nmI hv19 ?_
                  refine lv_istore (lv' := [(7, .int v19), (0, .ref (q 0)), (1, .int a0), (2, .int a1), (3, .int v6), (4, .int j13), (5, .int j15), (6, .int j7), (8, .int l8_L2)]) hx hb dX8_isGoal_140 hl (by decide) rfl (fun ls hl => ?_)
                  obtain rfl := Option.some.inj h
                  exact Kj4 _ _ _ J (lv_sub hl [1, 2, 3, 4, 5, 6, 7, 0, 8] rfl)
                clear h
                have h := hj17
                refine lv_icmp_le (tgt := 138) hx hb dX8_isGoal_131 (by decide) (fun c18 => ?_) (fun c18 => ?_)
                · have h := itp c18 h
                  refine lv_iconst (v := 0) hx hb dX8_isGoal_138 (by decide) ?_
                  obtain rfl := Option.some.inj h
                  exact Kj17 _ _ _ J (lv_sub hl [1, 2, 3, 4, 5, 0, 6, 8] rfl)
                · have h := itn c18 h
                  refine lv_iconst (v := 1) hx hb dX8_isGoal_134 (by decide) ?_
                  refine lv_goto (tgt := 139) hx hb dX8_isGoal_135 (by decide) ?_
                  obtain rfl := Option.some.inj h
                  exact Kj17 _ _ _ J (lv_sub hl [1, 2, 3, 4, 5, 0, 6, 8] rfl)
              clear h
              have h := hj15
              refine lv_icmp_le (tgt := 122) hx hb dX8_isGoal_114 (by decide) (fun c16 => ?_) (fun c16 => ?_)
              · have h := itp c16 h
                refine lv_iload hx hb dX8_isGoal_122 (lv_at hl 5 rfl) ?_
                obtain rfl := Option.some.inj h
                exact Kj15 _ _ _ J (lv_sub hl [1, 2, 3, 4, 0, 6, 7, 8, 9] rfl)
              · have h := itn c16 h
                refine lv_iload hx hb dX8_isGoal_117 (lv_at hl 9 rfl) ?_
                refine lv_goto (tgt := 124) hx hb dX8_isGoal_119 (by decide) ?_
                obtain rfl := Option.some.inj h
                exact Kj15 _ _ _ J (lv_sub hl [1, 2, 3, 4, 0, 6, 7, 8, 9] rfl)
            clear h
            have h := hj13
            refine lv_icmp_ge (tgt := 106) hx hb dX8_isGoal_98 (by decide) (fun c14 => ?_) (fun c14 => ?_)
            · have h := itp c14 h
              refine lv_iload hx hb dX8_isGoal_106 (lv_at hl 4 rfl) ?_
              obtain rfl := Option.some.inj h
              exact Kj13 _ _ _ J (lv_sub hl [0, 1, 2, 3, 5, 6, 7, 8, 9] rfl)
            · have h := itn c14 h
              refine lv_iload hx hb dX8_isGoal_101 (lv_at hl 9 rfl) ?_
              refine lv_goto (tgt := 108) hx hb dX8_isGoal_103 (by decide) ?_
              obtain rfl := Option.some.inj h
              exact Kj13 _ _ _ J (lv_sub hl [0, 1, 2, 3, 5, 6, 7, 8, 9] rfl)
          clear h
          have h := hj7
          refine lv_if_eq (tgt := 64) hx hb dX8_isGoal_46 (by decide) (fun c8 => ?_) (fun c8 => ?_)
          · have h := itp c8 h
            refine lv_iconst (v := 0) hx hb dX8_isGoal_64 (by decide) ?_
            obtain rfl := Option.some.inj h
            exact Kj7 _ _ _ J (lv_sub hl [1, 2, 3, 0, 4, 5, 7, 8] rfl)
          · have h := itn c8 h
            refine lv_aload_n hx hb dX8_isGoal_49 rfl (lv_at hl 1 rfl) ?_
            refine mg_0_4 F E J fl_X8_17 dX8_isGoal_50 ?_
            refine lv_iload hx hb dX8_isGoal_53 (lv_at hl 8 rfl) ?_
            obtain ⟨hi, h⟩ := gdt h
            refine ml_2 F E J (inbt hi) dX8_isGoal_55 ?_
            refine lv_iconst (v := 1) hx hb dX8_isGoal_56 (by decide) ?_
            refine lv_icmp_ne (tgt := 64) hx hb dX8_isGoal_57 (by decide) (fun c9 => ?_) (fun c9 => ?_)
            · have h := itn c9 h
              refine lv_iconst (v := 0) hx hb dX8_isGoal_64 (by decide) ?_
              obtain rfl := Option.some.inj h
              exact Kj7 _ _ _ J (lv_sub hl [1, 2, 3, 0, 4, 5, 7, 8] rfl)
            · have h := itp c9 h
              refine lv_iconst (v := 1) hx hb dX8_isGoal_60 (by decide) ?_
              refine lv_goto (tgt := 65) hx hb dX8_isGoal_61 (by decide) ?_
              obtain rfl := Option.some.inj h
              exact Kj7 _ _ _ J (lv_sub hl [1, 2, 3, 0, 4, 5, 7, 8] rfl)
  refine T_L2 FU 0 v1 0 1 0 0 o_L2 ho_L2 _ _ _ J (lv_sub hl [6, 7, 8, 5, 4, 3, 2, 1, 0] rfl) (fun H locs ls J hl => ?_)
  refine lv_iload_n hx hb dX8_isGoal_148 rfl (lv_at hl 1 rfl) ?_
  refine lv_if_ne (tgt := 163) hx hb dX8_isGoal_149 (by decide) (fun c21 => ?_) (fun c21 => ?_)
  · have h := itn c21 h
    refine lv_iload hx hb dX8_isGoal_163 (lv_at hl 6 rfl) ?_
    refine lv_if_eq (tgt := 210) hx hb dX8_isGoal_165 (by decide) (fun c22 => ?_) (fun c22 => ?_)
    · have h := itp c22 h
      refine lv_iconst (v := 0) hx hb dX8_isGoal_210 (by decide) ?_
      obtain rfl := Option.some.inj h
      exact ret _ _ _ _ zB0 J dX8_isGoal_211
    · have h := itn c22 h
      refine lv_iload_n hx hb dX8_isGoal_168 rfl (lv_at hl 1 rfl) ?_
      refine lv_iconst (v := 1) hx hb dX8_isGoal_169 (by decide) ?_
      refine lv_icmp_ne (tgt := 200) hx hb dX8_isGoal_170 (by decide) (fun c23 => ?_) (fun c23 => ?_)
      · have h := itn c23 h
        refine lv_iload hx hb dX8_isGoal_200 (lv_at hl 7 rfl) ?_
        refine lv_iconst (v := 2) hx hb dX8_isGoal_202 (by decide) ?_
        refine lv_icmp_ge (tgt := 210) hx hb dX8_isGoal_203 (by decide) (fun c24 => ?_) (fun c24 => ?_)
        · have h := itp c24 h
          refine lv_iconst (v := 0) hx hb dX8_isGoal_210 (by decide) ?_
          obtain rfl := Option.some.inj h
          exact ret _ _ _ _ zB0 J dX8_isGoal_211
        · have h := itn c24 h
          refine lv_iconst (v := 1) hx hb dX8_isGoal_206 (by decide) ?_
          refine lv_goto (tgt := 211) hx hb dX8_isGoal_207 (by decide) ?_
          obtain rfl := Option.some.inj h
          exact ret _ _ _ _ zB1 J dX8_isGoal_211
      · have h := itp c23 h
        refine lv_iload hx hb dX8_isGoal_173 (lv_at hl 4 rfl) ?_
        refine lv_aload_n hx hb dX8_isGoal_175 rfl (lv_at hl 0 rfl) ?_
        refine mg_0_1 F E J fl_X8_87 dX8_isGoal_176 ?_
        refine lv_iload_n hx hb dX8_isGoal_179 rfl (lv_at hl 2 rfl) ?_
        obtain ⟨hz, h⟩ := gdt h
        refine lv_idiv hx hb dX8_isGoal_180 (nzt hz) ?_
        refine lv_icmp_lt (tgt := 210) hx hb dX8_isGoal_181 (by decide) (fun c25 => ?_) (fun c25 => ?_)
        · have h := itp c25 h
          refine lv_iconst (v := 0) hx hb dX8_isGoal_210 (by decide) ?_
          obtain rfl := Option.some.inj h
          exact ret _ _ _ _ zB0 J dX8_isGoal_211
        · have h := itn c25 h
          refine lv_iload hx hb dX8_isGoal_184 (lv_at hl 5 rfl) ?_
          refine lv_aload_n hx hb dX8_isGoal_186 rfl (lv_at hl 0 rfl) ?_
          refine mg_0_1 F E J fl_X8_87 dX8_isGoal_187 ?_
          refine lv_iload_n hx hb dX8_isGoal_190 rfl (lv_at hl 2 rfl) ?_
          obtain ⟨hz, h⟩ := gdt h
          refine lv_idiv hx hb dX8_isGoal_191 (nzt hz) ?_
          refine lv_iconst (v := 1) hx hb dX8_isGoal_192 (by decide) ?_
          refine lv_iadd hx hb dX8_isGoal_193 ?_
          refine lv_icmp_gt (tgt := 210) hx hb dX8_isGoal_194 (by decide) (fun c26 => ?_) (fun c26 => ?_)
          · have h := itp c26 h
            refine lv_iconst (v := 0) hx hb dX8_isGoal_210 (by decide) ?_
            obtain rfl := Option.some.inj h
            exact ret _ _ _ _ zB0 J dX8_isGoal_211
          · have h := itn c26 h
            refine lv_goto (tgt := 206) hx hb dX8_isGoal_197 (by decide) ?_
            refine lv_iconst (v := 1) hx hb dX8_isGoal_206 (by decide) ?_
            refine lv_goto (tgt := 211) hx hb dX8_isGoal_207 (by decide) ?_
            obtain rfl := Option.some.inj h
            exact ret _ _ _ _ zB1 J dX8_isGoal_211
  · have h := itp c21 h
    refine lv_iload_n hx hb dX8_isGoal_152 rfl (lv_at hl 3 rfl) ?_
    refine lv_iconst (v := 1) hx hb dX8_isGoal_153 (by decide) ?_
    refine lv_icmp_ne (tgt := 161) hx hb dX8_isGoal_154 (by decide) (fun c27 => ?_) (fun c27 => ?_)
    · have h := itn c27 h
      refine lv_iconst (v := 0) hx hb dX8_isGoal_161 (by decide) ?_
      obtain rfl := Option.some.inj h
      exact ret _ _ _ _ zB0 J dX8_isGoal_162
    · have h := itp c27 h
      refine lv_iconst (v := 1) hx hb dX8_isGoal_157 (by decide) ?_
      refine lv_goto (tgt := 162) hx hb dX8_isGoal_158 (by decide) ?_
      obtain rfl := Option.some.inj h
      exact ret _ _ _ _ zB1 J dX8_isGoal_162
set_option maxHeartbeats 4000000 in
set_option maxRecDepth 100000 in
theorem c_X8_goal {l : Launch} {g : GG} {A : Nat → Prop} {q : Nat → Nat} {m_thrown m_n m_robots m_viewed m_rules m_taped m_latest m_size m_at m_sort m_place m_end m_fault m_faultAt m_read m_crowds m_traced : Int32} {m_here m_hand m_view m_up m_down m_ruleSize m_ruleRow m_ruleDoes m_name m_goes m_tape m_readSize m_readRow m_readDoes m_own m_crowd m_isStep m_isOfGoal m_isMet m_most m_stands m_doesHere m_from m_trace : Nat → Int32} (a0 : Int32) (res : Int32 × Int32 × (Nat → Int32)) (h : F_X8_goal a0 m_n m_robots m_here m_hand = some res) : Met l yX8_goal (wS yX8_goal cX8_goal 2 (some .int)) rm_X8_goal (va_Pc [.ref (q 0), .int a0] (VB g A (MW g q m_thrown m_n m_robots m_viewed m_rules m_taped m_latest m_size m_at m_sort m_place m_end m_fault m_faultAt m_read m_crowds m_traced m_here m_hand m_view m_up m_down m_ruleSize m_ruleRow m_ruleDoes m_name m_goes m_tape m_readSize m_readRow m_readDoes m_own m_crowd m_isStep m_isOfGoal m_isMet m_most m_stands m_doesHere m_from m_trace))) (va_Qi (fun r (_ : Unit) => r = res.1) (fun _ => VB g A (MW g q res.2.1 m_n m_robots m_viewed m_rules m_taped m_latest m_size m_at m_sort m_place m_end m_fault m_faultAt m_read m_crowds m_traced m_here res.2.2 m_view m_up m_down m_ruleSize m_ruleRow m_ruleDoes m_name m_goes m_tape m_readSize m_readRow m_readDoes m_own m_crowd m_isStep m_isOfGoal m_isMet m_most m_stands m_doesHere m_from m_trace)) A) 0 0 A := by
  unfold F_X8_goal at h
  refine MetI (res := res.1) (own := RX8) (ws' := (MW g q res.2.1 m_n m_robots m_viewed m_rules m_taped m_latest m_size m_at m_sort m_place m_end m_fault m_faultAt m_read m_crowds m_traced m_here res.2.2 m_view m_up m_down m_ruleSize m_ruleRow m_ruleDoes m_name m_goes m_tape m_readSize m_readRow m_readDoes m_own m_crowd m_isStep m_isOfGoal m_isMet m_most m_stands m_doesHere m_from m_trace)) (by decide) rfl (Nat.le_of_ble_eq_true rfl) ?_
  intro p e s m args below meth c Q F E ret ls J hl
  have hx := F.1
  have hb := F.2.1
  have hl : lv_has ls 2 [(0, .ref (q 0)), (1, .int a0)] := hl
  refine lv_aload_n hx hb dX8_goal_0 rfl (lv_at hl 0 rfl) ?_
  refine lv_iconst (v := 0) hx hb dX8_goal_1 (by decide) ?_
  refine mp_0_0 F E J fl_X8_1 dX8_goal_2 (fun H locs J => ?_)
  refine lv_iload_n hx hb dX8_goal_5 rfl (lv_at hl 1 rfl) ?_
  refine lv_i2l (v := (Int32.toInt64 a0)) hx hb dX8_goal_6 rfl ?_
  refine lv_lconst (v := 0) hx hb dX8_goal_7 (by decide) ?_
  refine lv_ldc2 hx hb F.2.2.2.1 (F.2.2.2.2 _ kc_X8_131) dX8_goal_8 ?_
  obtain ⟨p1, hp1, h⟩ := ob h
  refine onZ (runS (As := [.long (Int32.toInt64 a0), .long 0, .long 2]) (rest := []) F E J (c_X8_in (Int32.toInt64 a0) 0 2 p1 hp1) cw_X8_90 ⟨rfl, rfl, Nat.le_of_ble_eq_true rfl, Nat.le_of_ble_eq_true rfl⟩ rfl hl.1 rfl (Nat.le_of_ble_eq_true rfl) dX8_goal_11) J (fun hzbp1 H locs J => ?_)
  refine lv_if_ne (tgt := 20) hx hb dX8_goal_14 (by decide) (fun c2 => ?_) (fun c2 => ?_)
  · have h := itn c2 h
    refine lv_aload_n hx hb dX8_goal_20 rfl (lv_at hl 0 rfl) ?_
    obtain ⟨p3, hp3, h⟩ := ob h
    refine onV (runV (As := []) (rest := []) F E J (c_X8_take  p3 hp3) cw_X8_111 ⟨rfl, rfl, Nat.le_of_ble_eq_true rfl, Nat.le_of_ble_eq_true rfl⟩ rcM0 rfl hl.1 rfl (Nat.le_of_ble_eq_true rfl) dX8_goal_21) J (fun H locs J => ?_)
    refine lv_aload_n hx hb dX8_goal_24 rfl (lv_at hl 0 rfl) ?_
    refine mg_0_2 F E J fl_X8_99 dX8_goal_25 ?_
    refine lv_if_le (tgt := 47) hx hb dX8_goal_28 (by decide) (fun c4 => ?_) (fun c4 => ?_)
    · have h := itp c4 h
      refine lv_iconst (v := 0) hx hb dX8_goal_47 (by decide) ?_
      obtain rfl := Option.some.inj h
      exact ret _ _ _ _ J dX8_goal_48
    · have h := itn c4 h
      refine lv_aload_n hx hb dX8_goal_31 rfl (lv_at hl 0 rfl) ?_
      refine lv_iload_n hx hb dX8_goal_32 rfl (lv_at hl 1 rfl) ?_
      refine lv_aload_n hx hb dX8_goal_33 rfl (lv_at hl 0 rfl) ?_
      refine mg_0_2 F E J fl_X8_99 dX8_goal_34 ?_
      obtain ⟨p5, hp5, h⟩ := ob h
      refine onZ (runV (As := [.int a0, .int m_robots]) (rest := []) F E J (c_X8_isGoal a0 m_robots p5 hp5) cw_X8_133 ⟨rfl, rfl, Nat.le_of_ble_eq_true rfl, Nat.le_of_ble_eq_true rfl⟩ rcM0 rfl hl.1 rfl (Nat.le_of_ble_eq_true rfl) dX8_goal_37) J (fun hzbp5 H locs J => ?_)
      refine lv_if_eq (tgt := 47) hx hb dX8_goal_40 (by decide) (fun c6 => ?_) (fun c6 => ?_)
      · have h := itp c6 h
        refine lv_iconst (v := 0) hx hb dX8_goal_47 (by decide) ?_
        obtain rfl := Option.some.inj h
        exact ret _ _ _ _ J dX8_goal_48
      · have h := itn c6 h
        refine lv_iconst (v := 1) hx hb dX8_goal_43 (by decide) ?_
        refine lv_goto (tgt := 48) hx hb dX8_goal_44 (by decide) ?_
        obtain rfl := Option.some.inj h
        exact ret _ _ _ _ J dX8_goal_48
  · have h := itp c2 h
    refine lv_ldc hx hb F.2.2.2.1 (F.2.2.2.2 _ kc_X8_98) dX8_goal_17 ?_
    obtain rfl := Option.some.inj h
    exact ret _ _ _ _ J dX8_goal_19
set_option maxHeartbeats 4000000 in
set_option maxRecDepth 100000 in
theorem c_X8_step {l : Launch} {g : GG} {A : Nat → Prop} {q : Nat → Nat} {m_thrown m_n m_robots m_viewed m_rules m_taped m_latest m_size m_at m_sort m_place m_end m_fault m_faultAt m_read m_crowds m_traced : Int32} {m_here m_hand m_view m_up m_down m_ruleSize m_ruleRow m_ruleDoes m_name m_goes m_tape m_readSize m_readRow m_readDoes m_own m_crowd m_isStep m_isOfGoal m_isMet m_most m_stands m_doesHere m_from m_trace : Nat → Int32} (res : Int32 × Int32 × Int32 × (Nat → Int32) × (Nat → Int32) × (Nat → Int32) × (Nat → Int32) × (Nat → Int32) × (Nat → Int32)) (h : F_X8_step m_n m_robots m_viewed m_rules m_here m_hand m_view m_up m_down m_ruleSize m_ruleRow m_ruleDoes m_goes = some res) : Met l yX8_step (wS yX8_step cX8_step 4 (some .int)) rm_X8_step (va_Pc [.ref (q 0)] (VB g A (MW g q m_thrown m_n m_robots m_viewed m_rules m_taped m_latest m_size m_at m_sort m_place m_end m_fault m_faultAt m_read m_crowds m_traced m_here m_hand m_view m_up m_down m_ruleSize m_ruleRow m_ruleDoes m_name m_goes m_tape m_readSize m_readRow m_readDoes m_own m_crowd m_isStep m_isOfGoal m_isMet m_most m_stands m_doesHere m_from m_trace))) (va_Qi (fun r (_ : Unit) => r = res.1) (fun _ => VB g A (MW g q res.2.1 m_n m_robots res.2.2.1 m_rules m_taped m_latest m_size m_at m_sort m_place m_end m_fault m_faultAt m_read m_crowds m_traced res.2.2.2.1 res.2.2.2.2.1 res.2.2.2.2.2.1 res.2.2.2.2.2.2.1 res.2.2.2.2.2.2.2.1 m_ruleSize m_ruleRow m_ruleDoes m_name res.2.2.2.2.2.2.2.2 m_tape m_readSize m_readRow m_readDoes m_own m_crowd m_isStep m_isOfGoal m_isMet m_most m_stands m_doesHere m_from m_trace)) A) 0 0 A := by
  unfold F_X8_step at h
  refine MetI (res := res.1) (own := RX8) (ws' := (MW g q res.2.1 m_n m_robots res.2.2.1 m_rules m_taped m_latest m_size m_at m_sort m_place m_end m_fault m_faultAt m_read m_crowds m_traced res.2.2.2.1 res.2.2.2.2.1 res.2.2.2.2.2.1 res.2.2.2.2.2.2.1 res.2.2.2.2.2.2.2.1 m_ruleSize m_ruleRow m_ruleDoes m_name res.2.2.2.2.2.2.2.2 m_tape m_readSize m_readRow m_readDoes m_own m_crowd m_isStep m_isOfGoal m_isMet m_most m_stands m_doesHere m_from m_trace)) (by decide) rfl (Nat.le_of_ble_eq_true rfl) ?_
  intro p e s m args below meth c Q F E ret ls J hl
  have hx := F.1
  have hb := F.2.1
  have hl : lv_has ls 4 [(0, .ref (q 0))] := hl
  refine lv_aload_n hx hb dX8_step_0 rfl (lv_at hl 0 rfl) ?_
  refine lv_iconst (v := 0) hx hb dX8_step_1 (by decide) ?_
  refine mp_0_0 F E J fl_X8_1 dX8_step_2 (fun H locs J => ?_)
  refine lv_aload_n hx hb dX8_step_5 rfl (lv_at hl 0 rfl) ?_
  refine mg_0_2 F E J fl_X8_99 dX8_step_6 ?_
  refine lv_if_ne (tgt := 15) hx hb dX8_step_9 (by decide) (fun c1 => ?_) (fun c1 => ?_)
  · have h := itn c1 h
    refine lv_aload_n hx hb dX8_step_15 rfl (lv_at hl 0 rfl) ?_
    obtain ⟨p2, hp2, h⟩ := ob h
    refine onV (runV (As := []) (rest := []) F E J (c_X8_take  p2 hp2) cw_X8_111 ⟨rfl, rfl, Nat.le_of_ble_eq_true rfl, Nat.le_of_ble_eq_true rfl⟩ rcM0 rfl hl.1 rfl (Nat.le_of_ble_eq_true rfl) dX8_step_16) J (fun H locs J => ?_)
    refine lv_iconst (v := 0) hx hb dX8_step_19 (by decide) ?_
    refine lv_istore_n (lv' := [(1, .int 0), (0, .ref (q 0))]) hx hb dX8_step_20 rfl hl (by decide) rfl (fun ls hl => ?_)
    obtain ⟨o_L3, ho_L3, h⟩ := ob h
    have T_L3 : ∀ (f : Nat) (l1_L3 : Int32) (m_viewed_L3 : Int32) (m_view_L3 : Nat → Int32) (m_up_L3 : Nat → Int32) (m_down_L3 : Nat → Int32) (m_goes_L3 : Nat → Int32) (o_L3 : Int32 × (Nat → Int32) × (Nat → Int32) × (Nat → Int32) × (Nat → Int32)), F_X8_step_L3 m_n m_rules p2 m_ruleSize m_ruleRow m_ruleDoes f l1_L3 m_viewed_L3 m_view_L3 m_up_L3 m_down_L3 m_goes_L3 = some o_L3 → ∀ (H : Heap) (locs : List Loc) (ls : Array Slot), VJ g A s.heap (MW g q 0 m_n m_robots m_viewed_L3 m_rules m_taped m_latest m_size m_at m_sort m_place m_end m_fault m_faultAt m_read m_crowds m_traced m_here p2 m_view_L3 m_up_L3 m_down_L3 m_ruleSize m_ruleRow m_ruleDoes m_name m_goes_L3 m_tape m_readSize m_readRow m_readDoes m_own m_crowd m_isStep m_isOfGoal m_isMet m_most m_stands m_doesHere m_from m_trace) H locs → lv_has ls 4 [(0, .ref (q 0)), (1, .int l1_L3)] → (∀ (H : Heap) (locs : List Loc) (ls : Array Slot), VJ g A s.heap (MW g q 0 m_n m_robots o_L3.1 m_rules m_taped m_latest m_size m_at m_sort m_place m_end m_fault m_faultAt m_read m_crowds m_traced m_here p2 o_L3.2.1 o_L3.2.2.1 o_L3.2.2.2.1 m_ruleSize m_ruleRow m_ruleDoes m_name o_L3.2.2.2.2 m_tape m_readSize m_readRow m_readDoes m_own m_crowd m_isStep m_isOfGoal m_isMet m_most m_stands m_doesHere m_from m_trace) H locs → lv_has ls 4 [(0, .ref (q 0))] → W p l e rm_X8_step s m args below meth c H locs 0 0 Q (F0 m 59 ls [])) → W p l e rm_X8_step s m args below meth c H locs 0 0 Q (F0 m 21 ls []) := by
      clear h ho_L3 hl J
      intro f
      induction f with
      | zero => intro l1_L3 m_viewed_L3 m_view_L3 m_up_L3 m_down_L3 m_goes_L3 o_L3 h; exact absurd h (by simp [F_X8_step_L3])
      | succ f ih =>
        intro l1_L3 m_viewed_L3 m_view_L3 m_up_L3 m_down_L3 m_goes_L3 o_L3 h H locs ls J hl K_L3
        rw [F_X8_step_L3.eq_2] at h
        refine lv_iload_n hx hb dX8_step_21 rfl (lv_at hl 1 rfl) ?_
        refine lv_aload_n hx hb dX8_step_22 rfl (lv_at hl 0 rfl) ?_
        refine mg_0_1 F E J fl_X8_87 dX8_step_23 ?_
        refine lv_icmp_ge (tgt := 59) hx hb dX8_step_26 (by decide) (fun c4 => ?_) (fun c4 => ?_)
        · have h := itp c4 h
          obtain rfl := Option.some.inj h
          exact K_L3 _ _ _ J (lv_sub hl [0] rfl)
        · have h := itn c4 h
          refine lv_aload_n hx hb dX8_step_29 rfl (lv_at hl 0 rfl) ?_
          refine mg_0_14 F E J fl_X8_41 dX8_step_30 ?_
          refine lv_iload_n hx hb dX8_step_33 rfl (lv_at hl 1 rfl) ?_
          refine lv_aload_n hx hb dX8_step_34 rfl (lv_at hl 0 rfl) ?_
          refine mg_0_4 F E J fl_X8_17 dX8_step_35 ?_
          refine lv_iload_n hx hb dX8_step_38 rfl (lv_at hl 1 rfl) ?_
          obtain ⟨hi, h⟩ := gdt h
          refine ml_2 F E J (inbt hi) dX8_step_39 ?_
          obtain ⟨j5, hj5, h⟩ := ob h
          have Kj5 : ∀ (H : Heap) (locs : List Loc) (ls : Array Slot), VJ g A s.heap (MW g q 0 m_n m_robots j5.2.1 m_rules m_taped m_latest m_size m_at m_sort m_place m_end m_fault m_faultAt m_read m_crowds m_traced m_here p2 j5.2.2.1 j5.2.2.2.1 j5.2.2.2.2 m_ruleSize m_ruleRow m_ruleDoes m_name m_goes_L3 m_tape m_readSize m_readRow m_readDoes m_own m_crowd m_isStep m_isOfGoal m_isMet m_most m_stands m_doesHere m_from m_trace) H locs → lv_has ls 4 [(0, .ref (q 0)), (1, .int l1_L3)] → W p l e rm_X8_step s m args below meth c H locs 0 0 Q (F0 m 52 ls [.int j5.1, .int l1_L3, .ref (q 10)]) := by
            intro H locs ls J hl
            obtain ⟨hi, h⟩ := gdt h
            refine ms_10 F E J (inbt hi) dX8_step_52 (fun H locs J => ?_)
            obtain ⟨v8, hv8, h⟩ := obs h
            refine lv_iinc (v := v8) (lv' := [(1, .int v8), (0, .ref (q 0))]) hx hb dX8_step_53 hl (k := 1) rfl (by rw [← hv8]; rfl) (by decide) rfl (fun ls hl => ?_)
            refine lv_goto (tgt := 21) hx hb dX8_step_56 (by decide) ?_
            exact ih _ _ _ _ _ _ _ h _ _ _ J (lv_sub hl [1, 0] rfl) K_L3
          clear h
          have h := hj5
          refine lv_if_ne (tgt := 47) hx hb dX8_step_40 (by decide) (fun c6 => ?_) (fun c6 => ?_)
          · have h := itn c6 h
            refine lv_aload_n hx hb dX8_step_47 rfl (lv_at hl 0 rfl) ?_
            refine lv_iload_n hx hb dX8_step_48 rfl (lv_at hl 1 rfl) ?_
            obtain ⟨p7, hp7, h⟩ := ob h
            refine onI (runV (As := [.int l1_L3]) (rest := [.int l1_L3, .ref (q 10)]) F E J (c_X8_doing l1_L3 p7 hp7) cw_X8_121 ⟨rfl, rfl, Nat.le_of_ble_eq_true rfl, Nat.le_of_ble_eq_true rfl⟩ rcM0 rfl hl.1 rfl (Nat.le_of_ble_eq_true rfl) dX8_step_49) J (fun H locs J => ?_)
            obtain rfl := Option.some.inj h
            exact Kj5 _ _ _ J (lv_sub hl [0, 1] rfl)
          · have h := itp c6 h
            refine lv_iconst (v := 0) hx hb dX8_step_43 (by decide) ?_
            refine lv_goto (tgt := 52) hx hb dX8_step_44 (by decide) ?_
            obtain rfl := Option.some.inj h
            exact Kj5 _ _ _ J (lv_sub hl [0, 1] rfl)
    refine T_L3 FU 0 m_viewed m_view m_up m_down m_goes o_L3 ho_L3 _ _ _ J (lv_sub hl [1, 0] rfl) (fun H locs ls J hl => ?_)
    refine lv_iconst (v := 0) hx hb dX8_step_59 (by decide) ?_
    refine lv_istore_n (lv' := [(1, .int 0), (0, .ref (q 0))]) hx hb dX8_step_60 rfl hl (by decide) rfl (fun ls hl => ?_)
    refine lv_iconst (v := 0) hx hb dX8_step_61 (by decide) ?_
    refine lv_istore_n (lv' := [(2, .int 0), (1, .int 0), (0, .ref (q 0))]) hx hb dX8_step_62 rfl hl (by decide) rfl (fun ls hl => ?_)
    obtain ⟨o_L9, ho_L9, h⟩ := ob h
    have T_L9 : ∀ (f : Nat) (l1_L9 : Int32) (l2_L9 : Int32) (m_here_L9 : Nat → Int32) (o_L9 : Int32 × (Nat → Int32)), F_X8_step_L9 m_n p2 o_L3.2.2.2.2 f l1_L9 l2_L9 m_here_L9 = some o_L9 → ∀ (H : Heap) (locs : List Loc) (ls : Array Slot), VJ g A s.heap (MW g q 0 m_n m_robots o_L3.1 m_rules m_taped m_latest m_size m_at m_sort m_place m_end m_fault m_faultAt m_read m_crowds m_traced m_here_L9 p2 o_L3.2.1 o_L3.2.2.1 o_L3.2.2.2.1 m_ruleSize m_ruleRow m_ruleDoes m_name o_L3.2.2.2.2 m_tape m_readSize m_readRow m_readDoes m_own m_crowd m_isStep m_isOfGoal m_isMet m_most m_stands m_doesHere m_from m_trace) H locs → lv_has ls 4 [(0, .ref (q 0)), (1, .int l1_L9), (2, .int l2_L9)] → (∀ (H : Heap) (locs : List Loc) (ls : Array Slot), VJ g A s.heap (MW g q 0 m_n m_robots o_L3.1 m_rules m_taped m_latest m_size m_at m_sort m_place m_end m_fault m_faultAt m_read m_crowds m_traced o_L9.2 p2 o_L3.2.1 o_L3.2.2.1 o_L3.2.2.2.1 m_ruleSize m_ruleRow m_ruleDoes m_name o_L3.2.2.2.2 m_tape m_readSize m_readRow m_readDoes m_own m_crowd m_isStep m_isOfGoal m_isMet m_most m_stands m_doesHere m_from m_trace) H locs → lv_has ls 4 [(1, .int o_L9.1)] → W p l e rm_X8_step s m args below meth c H locs 0 0 Q (F0 m 152 ls [])) → W p l e rm_X8_step s m args below meth c H locs 0 0 Q (F0 m 63 ls []) := by
      clear h ho_L9 hl J
      intro f
      induction f with
      | zero => intro l1_L9 l2_L9 m_here_L9 o_L9 h; exact absurd h (by simp [F_X8_step_L9])
      | succ f ih =>
        intro l1_L9 l2_L9 m_here_L9 o_L9 h H locs ls J hl K_L9
        rw [F_X8_step_L9.eq_2] at h
        refine lv_iload_n hx hb dX8_step_63 rfl (lv_at hl 2 rfl) ?_
        refine lv_aload_n hx hb dX8_step_64 rfl (lv_at hl 0 rfl) ?_
        refine mg_0_1 F E J fl_X8_87 dX8_step_65 ?_
        refine lv_icmp_ge (tgt := 152) hx hb dX8_step_68 (by decide) (fun c10 => ?_) (fun c10 => ?_)
        · have h := itp c10 h
          obtain rfl := Option.some.inj h
          exact K_L9 _ _ _ J (lv_sub hl [1] rfl)
        · have h := itn c10 h
          refine lv_aload_n hx hb dX8_step_71 rfl (lv_at hl 0 rfl) ?_
          refine mg_0_14 F E J fl_X8_41 dX8_step_72 ?_
          refine lv_iload_n hx hb dX8_step_75 rfl (lv_at hl 2 rfl) ?_
          obtain ⟨hi, h⟩ := gdt h
          refine ml_10 F E J (inbt hi) dX8_step_76 ?_
          obtain ⟨j11, hj11, h⟩ := ob h
          have Kj11 : ∀ (H : Heap) (locs : List Loc) (ls : Array Slot), VJ g A s.heap (MW g q 0 m_n m_robots o_L3.1 m_rules m_taped m_latest m_size m_at m_sort m_place m_end m_fault m_faultAt m_read m_crowds m_traced j11.2 p2 o_L3.2.1 o_L3.2.2.1 o_L3.2.2.2.1 m_ruleSize m_ruleRow m_ruleDoes m_name o_L3.2.2.2.2 m_tape m_readSize m_readRow m_readDoes m_own m_crowd m_isStep m_isOfGoal m_isMet m_most m_stands m_doesHere m_from m_trace) H locs → lv_has ls 4 [(0, .ref (q 0)), (1, .int j11.1), (2, .int l2_L9)] → W p l e rm_X8_step s m args below meth c H locs 0 0 Q (F0 m 146 ls []) := by
            intro H locs ls J hl
            obtain ⟨v19, hv19, h⟩ := obs h
            refine lv_iinc (v := v19) (lv' := [(2, .int v19), (0, .ref (q 0)), (1, .int j11.1)]) hx hb dX8_step_146 hl (k := 2) rfl (by rw [← hv19]; rfl) (by decide) rfl (fun ls hl => ?_)
            refine lv_goto (tgt := 63) hx hb dX8_step_149 (by decide) ?_
            exact ih _ _ _ _ h _ _ _ J (lv_sub hl [1, 2, 0] rfl) K_L9
          clear h
          have h := hj11
          refine lv_if_eq (tgt := 146) hx hb dX8_step_77 (by decide) (fun c12 => ?_) (fun c12 => ?_)
          · have h := itp c12 h
            obtain rfl := Option.some.inj h
            exact Kj11 _ _ _ J (lv_sub hl [0, 1, 2] rfl)
          · have h := itn c12 h
            refine lv_iload_n hx hb dX8_step_80 rfl (lv_at hl 1 rfl) ?_
            refine lv_aload_n hx hb dX8_step_81 rfl (lv_at hl 0 rfl) ?_
            refine mg_0_4 F E J fl_X8_17 dX8_step_82 ?_
            refine lv_iload_n hx hb dX8_step_85 rfl (lv_at hl 2 rfl) ?_
            obtain ⟨hi, h⟩ := gdt h
            refine ml_2 F E J (inbt hi) dX8_step_86 ?_
            refine lv_iadd hx hb dX8_step_87 ?_
            obtain ⟨v13, hv13, h⟩ := obs h
            refine nmI hv13 ?_
            refine lv_istore_n (lv' := [(1, .int v13), (0, .ref (q 0)), (2, .int l2_L9)]) hx hb dX8_step_88 rfl hl (by decide) rfl (fun ls hl => ?_)
            refine lv_aload_n hx hb dX8_step_89 rfl (lv_at hl 1 rfl) ?_
            refine mg_0_3 F E J fl_X8_13 dX8_step_90 ?_
            refine lv_iload_n hx hb dX8_step_93 rfl (lv_at hl 2 rfl) ?_
            refine lv_dup2_11 hx hb dX8_step_94 rfl rfl ?_
            obtain ⟨hi, h⟩ := gdt h
            refine ml_1 F E J (inbt hi) dX8_step_95 ?_
            refine lv_aload_n hx hb dX8_step_96 rfl (lv_at hl 1 rfl) ?_
            refine mg_0_4 F E J fl_X8_17 dX8_step_97 ?_
            refine lv_iload_n hx hb dX8_step_100 rfl (lv_at hl 2 rfl) ?_
            obtain ⟨hi, h⟩ := gdt h
            refine ml_2 F E J (inbt hi) dX8_step_101 ?_
            refine lv_isub hx hb dX8_step_102 ?_
            obtain ⟨v14, hv14, h⟩ := obs h
            refine nmI hv14 ?_
            obtain ⟨hi, h⟩ := gdt h
            refine ms_1 F E J (inbt hi) dX8_step_103 (fun H locs J => ?_)
            refine lv_iload_n hx hb dX8_step_104 rfl (lv_at hl 2 rfl) ?_
            refine lv_aload_n hx hb dX8_step_105 rfl (lv_at hl 1 rfl) ?_
            refine mg_0_14 F E J fl_X8_41 dX8_step_106 ?_
            refine lv_iload_n hx hb dX8_step_109 rfl (lv_at hl 2 rfl) ?_
            obtain ⟨hi, h⟩ := gdt h
            refine ml_10 F E J (inbt hi) dX8_step_110 ?_
            obtain ⟨j15, hj15, h⟩ := ob h
            have Kj15 : ∀ (H : Heap) (locs : List Loc) (ls : Array Slot), VJ g A s.heap (MW g q 0 m_n m_robots o_L3.1 m_rules m_taped m_latest m_size m_at m_sort m_place m_end m_fault m_faultAt m_read m_crowds m_traced (upd m_here_L9 (Int32.toNatClampNeg l2_L9) v14) p2 o_L3.2.1 o_L3.2.2.1 o_L3.2.2.2.1 m_ruleSize m_ruleRow m_ruleDoes m_name o_L3.2.2.2.2 m_tape m_readSize m_readRow m_readDoes m_own m_crowd m_isStep m_isOfGoal m_isMet m_most m_stands m_doesHere m_from m_trace) H locs → lv_has ls 4 [(0, .ref (q 0)), (1, .int v13), (2, .int l2_L9)] → W p l e rm_X8_step s m args below meth c H locs 0 0 Q (F0 m 124 ls [.int j15, .int l2_L9]) := by
              intro H locs ls J hl
              refine lv_iadd hx hb dX8_step_124 ?_
              refine lv_aload_n hx hb dX8_step_125 rfl (lv_at hl 0 rfl) ?_
              refine mg_0_1 F E J fl_X8_87 dX8_step_126 ?_
              obtain ⟨hz, h⟩ := gdt h
              refine lv_irem hx hb dX8_step_129 (nzt hz) ?_
              obtain ⟨v17, hv17, h⟩ := obs h
              refine nmI hv17 ?_
              refine lv_istore_n (lv' := [(3, .int v17), (0, .ref (q 0)), (1, .int v13), (2, .int l2_L9)]) hx hb dX8_step_130 rfl hl (by decide) rfl (fun ls hl => ?_)
              refine lv_aload_n hx hb dX8_step_131 rfl (lv_at hl 1 rfl) ?_
              refine mg_0_3 F E J fl_X8_13 dX8_step_132 ?_
              refine lv_iload_n hx hb dX8_step_135 rfl (lv_at hl 0 rfl) ?_
              refine lv_dup2_11 hx hb dX8_step_136 rfl rfl ?_
              obtain ⟨hi, h⟩ := gdt h
              refine ml_1 F E J (inbt hi) dX8_step_137 ?_
              refine lv_aload_n hx hb dX8_step_138 rfl (lv_at hl 1 rfl) ?_
              refine mg_0_4 F E J fl_X8_17 dX8_step_139 ?_
              refine lv_iload_n hx hb dX8_step_142 rfl (lv_at hl 3 rfl) ?_
              obtain ⟨hi, h⟩ := gdt h
              refine ml_2 F E J (inbt hi) dX8_step_143 ?_
              refine lv_iadd hx hb dX8_step_144 ?_
              obtain ⟨v18, hv18, h⟩ := obs h
              refine nmI hv18 ?_
              obtain ⟨hi, h⟩ := gdt h
              refine ms_1 F E J (inbt hi) dX8_step_145 (fun H locs J => ?_)
              obtain rfl := Option.some.inj h
              exact Kj11 _ _ _ J (lv_sub hl [1, 2, 3] rfl)
            clear h
            have h := hj15
            refine lv_if_ge (tgt := 123) hx hb dX8_step_111 (by decide) (fun c16 => ?_) (fun c16 => ?_)
            · have h := itp c16 h
              refine lv_iconst (v := 1) hx hb dX8_step_123 (by decide) ?_
              obtain rfl := Option.some.inj h
              exact Kj15 _ _ _ J (lv_sub hl [1, 0, 2] rfl)
            · have h := itn c16 h
              refine lv_aload_n hx hb dX8_step_114 rfl (lv_at hl 1 rfl) ?_
              refine mg_0_1 F E J fl_X8_87 dX8_step_115 ?_
              refine lv_iconst (v := 1) hx hb dX8_step_118 (by decide) ?_
              refine lv_isub hx hb dX8_step_119 ?_
              refine lv_goto (tgt := 124) hx hb dX8_step_120 (by decide) ?_
              obtain rfl := Option.some.inj h
              exact Kj15 _ _ _ J (lv_sub hl [1, 0, 2] rfl)
    refine T_L9 FU 0 0 m_here o_L9 ho_L9 _ _ _ J (lv_sub hl [2, 1, 0] rfl) (fun H locs ls J hl => ?_)
    refine lv_iload_n hx hb dX8_step_152 rfl (lv_at hl 0 rfl) ?_
    obtain rfl := Option.some.inj h
    exact ret _ _ _ _ J dX8_step_153
  · have h := itp c1 h
    refine lv_ldc hx hb F.2.2.2.1 (F.2.2.2.2 _ kc_X8_137) dX8_step_12 ?_
    obtain rfl := Option.some.inj h
    exact ret _ _ _ _ J dX8_step_14
set_option maxHeartbeats 4000000 in
set_option maxRecDepth 100000 in
theorem c_X8_go {l : Launch} {g : GG} {A : Nat → Prop} {q : Nat → Nat} {m_thrown m_n m_robots m_viewed m_rules m_taped m_latest m_size m_at m_sort m_place m_end m_fault m_faultAt m_read m_crowds m_traced : Int32} {m_here m_hand m_view m_up m_down m_ruleSize m_ruleRow m_ruleDoes m_name m_goes m_tape m_readSize m_readRow m_readDoes m_own m_crowd m_isStep m_isOfGoal m_isMet m_most m_stands m_doesHere m_from m_trace : Nat → Int32} (a0 : Int32) (a1 : Int32) (res : Int32 × Int32 × Int32 × (Nat → Int32) × (Nat → Int32) × (Nat → Int32) × (Nat → Int32) × (Nat → Int32)) (h : F_X8_go a0 a1 m_n m_viewed m_rules m_here m_hand m_view m_up m_down m_ruleSize m_ruleRow m_ruleDoes = some res) : Met l yX8_go (wS yX8_go cX8_go 5 (some .int)) rm_X8_go (va_Pc [.ref (q 0), .int a0, .int a1] (VB g A (MW g q m_thrown m_n m_robots m_viewed m_rules m_taped m_latest m_size m_at m_sort m_place m_end m_fault m_faultAt m_read m_crowds m_traced m_here m_hand m_view m_up m_down m_ruleSize m_ruleRow m_ruleDoes m_name m_goes m_tape m_readSize m_readRow m_readDoes m_own m_crowd m_isStep m_isOfGoal m_isMet m_most m_stands m_doesHere m_from m_trace))) (va_Qi (fun r (_ : Unit) => r = res.1) (fun _ => VB g A (MW g q res.2.1 m_n m_robots res.2.2.1 m_rules m_taped m_latest m_size m_at m_sort m_place m_end m_fault m_faultAt m_read m_crowds m_traced res.2.2.2.1 res.2.2.2.2.1 res.2.2.2.2.2.1 res.2.2.2.2.2.2.1 res.2.2.2.2.2.2.2 m_ruleSize m_ruleRow m_ruleDoes m_name m_goes m_tape m_readSize m_readRow m_readDoes m_own m_crowd m_isStep m_isOfGoal m_isMet m_most m_stands m_doesHere m_from m_trace)) A) 0 0 A := by
  unfold F_X8_go at h
  refine MetI (res := res.1) (own := RX8) (ws' := (MW g q res.2.1 m_n m_robots res.2.2.1 m_rules m_taped m_latest m_size m_at m_sort m_place m_end m_fault m_faultAt m_read m_crowds m_traced res.2.2.2.1 res.2.2.2.2.1 res.2.2.2.2.2.1 res.2.2.2.2.2.2.1 res.2.2.2.2.2.2.2 m_ruleSize m_ruleRow m_ruleDoes m_name m_goes m_tape m_readSize m_readRow m_readDoes m_own m_crowd m_isStep m_isOfGoal m_isMet m_most m_stands m_doesHere m_from m_trace)) (by decide) rfl (Nat.le_of_ble_eq_true rfl) ?_
  intro p e s m args below meth c Q F E ret ls J hl
  have hx := F.1
  have hb := F.2.1
  have hl : lv_has ls 5 [(0, .ref (q 0)), (1, .int a0), (2, .int a1)] := hl
  refine lv_aload_n hx hb dX8_go_0 rfl (lv_at hl 0 rfl) ?_
  refine lv_iconst (v := 0) hx hb dX8_go_1 (by decide) ?_
  refine mp_0_0 F E J fl_X8_1 dX8_go_2 (fun H locs J => ?_)
  refine lv_aload_n hx hb dX8_go_5 rfl (lv_at hl 0 rfl) ?_
  refine lv_iload_n hx hb dX8_go_6 rfl (lv_at hl 1 rfl) ?_
  obtain ⟨p1, hp1, h⟩ := ob h
  refine onZ (runV (As := [.int a0]) (rest := []) F E J (c_X8_isPlace a0 p1 hp1) cw_X8_94 ⟨rfl, rfl, Nat.le_of_ble_eq_true rfl, Nat.le_of_ble_eq_true rfl⟩ rcM0 rfl hl.1 rfl (Nat.le_of_ble_eq_true rfl) dX8_go_7) J (fun hzbp1 H locs J => ?_)
  refine lv_if_ne (tgt := 16) hx hb dX8_go_10 (by decide) (fun c2 => ?_) (fun c2 => ?_)
  · have h := itn c2 h
    refine lv_aload_n hx hb dX8_go_16 rfl (lv_at hl 0 rfl) ?_
    obtain ⟨p3, hp3, h⟩ := ob h
    refine onV (runV (As := []) (rest := []) F E J (c_X8_take  p3 hp3) cw_X8_111 ⟨rfl, rfl, Nat.le_of_ble_eq_true rfl, Nat.le_of_ble_eq_true rfl⟩ rcM0 rfl hl.1 rfl (Nat.le_of_ble_eq_true rfl) dX8_go_17) J (fun H locs J => ?_)
    refine lv_aload_n hx hb dX8_go_20 rfl (lv_at hl 0 rfl) ?_
    refine mg_0_3 F E J fl_X8_13 dX8_go_21 ?_
    refine lv_iload_n hx hb dX8_go_24 rfl (lv_at hl 1 rfl) ?_
    obtain ⟨hi, h⟩ := gdt h
    refine ml_1 F E J (inbt hi) dX8_go_25 ?_
    obtain ⟨j4, hj4, h⟩ := ob h
    have Kj4 : ∀ (H : Heap) (locs : List Loc) (ls : Array Slot), VJ g A s.heap (MW g q 0 m_n m_robots j4.2.1 m_rules m_taped m_latest m_size m_at m_sort m_place m_end m_fault m_faultAt m_read m_crowds m_traced m_here p3 j4.2.2.1 j4.2.2.2.1 j4.2.2.2.2 m_ruleSize m_ruleRow m_ruleDoes m_name m_goes m_tape m_readSize m_readRow m_readDoes m_own m_crowd m_isStep m_isOfGoal m_isMet m_most m_stands m_doesHere m_from m_trace) H locs → lv_has ls 5 [(0, .ref (q 0)), (1, .int a0), (2, .int a1)] → W p l e rm_X8_go s m args below meth c H locs 0 0 Q (F0 m 38 ls [.int j4.1]) := by
      intro H locs ls J hl
      refine lv_istore_n (lv' := [(3, .int j4.1), (0, .ref (q 0)), (1, .int a0), (2, .int a1)]) hx hb dX8_go_38 rfl hl (by decide) rfl (fun ls hl => ?_)
      refine lv_iload_n hx hb dX8_go_39 rfl (lv_at hl 0 rfl) ?_
      refine lv_if_ne (tgt := 46) hx hb dX8_go_40 (by decide) (fun c7 => ?_) (fun c7 => ?_)
      · have h := itn c7 h
        refine lv_iload_n hx hb dX8_go_46 rfl (lv_at hl 0 rfl) ?_
        refine lv_iconst (v := 2) hx hb dX8_go_47 (by decide) ?_
        obtain ⟨j8, hj8, h⟩ := ob h
        have Kj8 : ∀ (H : Heap) (locs : List Loc) (ls : Array Slot), VJ g A s.heap (MW g q 0 m_n m_robots j4.2.1 m_rules m_taped m_latest m_size m_at m_sort m_place m_end m_fault m_faultAt m_read m_crowds m_traced m_here p3 j4.2.2.1 j4.2.2.2.1 j4.2.2.2.2 m_ruleSize m_ruleRow m_ruleDoes m_name m_goes m_tape m_readSize m_readRow m_readDoes m_own m_crowd m_isStep m_isOfGoal m_isMet m_most m_stands m_doesHere m_from m_trace) H locs → lv_has ls 5 [(0, .ref (q 0)), (1, .int a0)] → W p l e rm_X8_go s m args below meth c H locs 0 0 Q (F0 m 65 ls [.int j8]) := by
          intro H locs ls J hl
          refine lv_istore (lv' := [(4, .int j8), (0, .ref (q 0)), (1, .int a0)]) hx hb dX8_go_65 hl (by decide) rfl (fun ls hl => ?_)
          refine lv_aload_n hx hb dX8_go_67 rfl (lv_at hl 1 rfl) ?_
          refine mg_0_3 F E J fl_X8_13 dX8_go_68 ?_
          refine lv_iload_n hx hb dX8_go_71 rfl (lv_at hl 2 rfl) ?_
          refine lv_dup2_11 hx hb dX8_go_72 rfl rfl ?_
          obtain ⟨hi, h⟩ := gdt h
          refine ml_1 F E J (inbt hi) dX8_go_73 ?_
          refine lv_iconst (v := 1) hx hb dX8_go_74 (by decide) ?_
          refine lv_isub hx hb dX8_go_75 ?_
          obtain ⟨v11, hv11, h⟩ := obs h
          refine nmI hv11 ?_
          obtain ⟨hi, h⟩ := gdt h
          refine ms_1 F E J (inbt hi) dX8_go_76 (fun H locs J => ?_)
          refine lv_aload_n hx hb dX8_go_77 rfl (lv_at hl 1 rfl) ?_
          refine mg_0_3 F E J fl_X8_13 dX8_go_78 ?_
          refine lv_iload_n hx hb dX8_go_81 rfl (lv_at hl 2 rfl) ?_
          refine lv_iload hx hb dX8_go_82 (lv_at hl 0 rfl) ?_
          refine lv_iadd hx hb dX8_go_84 ?_
          refine lv_aload_n hx hb dX8_go_85 rfl (lv_at hl 1 rfl) ?_
          refine mg_0_1 F E J fl_X8_87 dX8_go_86 ?_
          refine lv_iadd hx hb dX8_go_89 ?_
          refine lv_aload_n hx hb dX8_go_90 rfl (lv_at hl 1 rfl) ?_
          refine mg_0_1 F E J fl_X8_87 dX8_go_91 ?_
          obtain ⟨hz, h⟩ := gdt h
          refine lv_irem hx hb dX8_go_94 (nzt hz) ?_
          refine lv_dup2_11 hx hb dX8_go_95 rfl rfl ?_
          obtain ⟨hi, h⟩ := gdt h
          refine ml_1 F E J (inbt hi) dX8_go_96 ?_
          refine lv_iconst (v := 1) hx hb dX8_go_97 (by decide) ?_
          refine lv_iadd hx hb dX8_go_98 ?_
          obtain ⟨v12, hv12, h⟩ := obs h
          refine nmI hv12 ?_
          obtain ⟨hi, h⟩ := gdt h
          refine ms_1 F E J (inbt hi) dX8_go_99 (fun H locs J => ?_)
          refine lv_iconst (v := 1) hx hb dX8_go_100 (by decide) ?_
          obtain rfl := Option.some.inj h
          exact ret _ _ _ _ J dX8_go_101
        clear h
        have h := hj8
        refine lv_icmp_ne (tgt := 64) hx hb dX8_go_48 (by decide) (fun c9 => ?_) (fun c9 => ?_)
        · have h := itn c9 h
          refine lv_iload_n hx hb dX8_go_64 rfl (lv_at hl 0 rfl) ?_
          obtain rfl := Option.some.inj h
          exact Kj8 _ _ _ J (lv_sub hl [1, 2] rfl)
        · have h := itp c9 h
          refine lv_iload_n hx hb dX8_go_51 rfl (lv_at hl 3 rfl) ?_
          refine lv_iconst (v := 1) hx hb dX8_go_52 (by decide) ?_
          refine lv_icmp_ne (tgt := 60) hx hb dX8_go_53 (by decide) (fun c10 => ?_) (fun c10 => ?_)
          · have h := itn c10 h
            refine lv_iconst (v := (-1)) hx hb dX8_go_60 (by decide) ?_
            refine lv_goto (tgt := 65) hx hb dX8_go_61 (by decide) ?_
            obtain rfl := Option.some.inj h
            exact Kj8 _ _ _ J (lv_sub hl [1, 2] rfl)
          · have h := itp c10 h
            refine lv_iconst (v := 1) hx hb dX8_go_56 (by decide) ?_
            refine lv_goto (tgt := 65) hx hb dX8_go_57 (by decide) ?_
            obtain rfl := Option.some.inj h
            exact Kj8 _ _ _ J (lv_sub hl [1, 2] rfl)
      · have h := itp c7 h
        refine lv_ldc hx hb F.2.2.2.1 (F.2.2.2.2 _ kc_X8_137) dX8_go_43 ?_
        obtain rfl := Option.some.inj h
        exact ret _ _ _ _ J dX8_go_45
    clear h
    have h := hj4
    refine lv_if_ne (tgt := 33) hx hb dX8_go_26 (by decide) (fun c5 => ?_) (fun c5 => ?_)
    · have h := itn c5 h
      refine lv_aload_n hx hb dX8_go_33 rfl (lv_at hl 0 rfl) ?_
      refine lv_iload_n hx hb dX8_go_34 rfl (lv_at hl 1 rfl) ?_
      obtain ⟨p6, hp6, h⟩ := ob h
      refine onI (runV (As := [.int a0]) (rest := []) F E J (c_X8_doing a0 p6 hp6) cw_X8_121 ⟨rfl, rfl, Nat.le_of_ble_eq_true rfl, Nat.le_of_ble_eq_true rfl⟩ rcM0 rfl hl.1 rfl (Nat.le_of_ble_eq_true rfl) dX8_go_35) J (fun H locs J => ?_)
      obtain rfl := Option.some.inj h
      exact Kj4 _ _ _ J (lv_sub hl [0, 1, 2] rfl)
    · have h := itp c5 h
      refine lv_iconst (v := 0) hx hb dX8_go_29 (by decide) ?_
      refine lv_goto (tgt := 38) hx hb dX8_go_30 (by decide) ?_
      obtain rfl := Option.some.inj h
      exact Kj4 _ _ _ J (lv_sub hl [0, 1, 2] rfl)
  · have h := itp c2 h
    refine lv_ldc hx hb F.2.2.2.1 (F.2.2.2.2 _ kc_X8_98) dX8_go_13 ?_
    obtain rfl := Option.some.inj h
    exact ret _ _ _ _ J dX8_go_15
set_option maxHeartbeats 4000000 in
set_option maxRecDepth 100000 in
theorem c_X8_feed {l : Launch} {g : GG} {A : Nat → Prop} {q : Nat → Nat} {m_thrown m_n m_robots m_viewed m_rules m_taped m_latest m_size m_at m_sort m_place m_end m_fault m_faultAt m_read m_crowds m_traced : Int32} {m_here m_hand m_view m_up m_down m_ruleSize m_ruleRow m_ruleDoes m_name m_goes m_tape m_readSize m_readRow m_readDoes m_own m_crowd m_isStep m_isOfGoal m_isMet m_most m_stands m_doesHere m_from m_trace : Nat → Int32} (a0 : Int64) (a1 : Int32) (res : Int32 × Int32 × Int32 × (Nat → Int32)) (h : F_X8_feed a0 a1 m_taped m_tape = some res) : Met l yX8_feed (wS yX8_feed cX8_feed 5 (some .int)) rm_X8_feed (va_Pc [.ref (q 0), .long a0, .int a1] (VB g A (MW g q m_thrown m_n m_robots m_viewed m_rules m_taped m_latest m_size m_at m_sort m_place m_end m_fault m_faultAt m_read m_crowds m_traced m_here m_hand m_view m_up m_down m_ruleSize m_ruleRow m_ruleDoes m_name m_goes m_tape m_readSize m_readRow m_readDoes m_own m_crowd m_isStep m_isOfGoal m_isMet m_most m_stands m_doesHere m_from m_trace))) (va_Qi (fun r (_ : Unit) => r = res.1) (fun _ => VB g A (MW g q res.2.1 m_n m_robots m_viewed m_rules res.2.2.1 m_latest m_size m_at m_sort m_place m_end m_fault m_faultAt m_read m_crowds m_traced m_here m_hand m_view m_up m_down m_ruleSize m_ruleRow m_ruleDoes m_name m_goes res.2.2.2 m_readSize m_readRow m_readDoes m_own m_crowd m_isStep m_isOfGoal m_isMet m_most m_stands m_doesHere m_from m_trace)) A) 0 0 A := by
  unfold F_X8_feed at h
  refine MetI (res := res.1) (own := RX8) (ws' := (MW g q res.2.1 m_n m_robots m_viewed m_rules res.2.2.1 m_latest m_size m_at m_sort m_place m_end m_fault m_faultAt m_read m_crowds m_traced m_here m_hand m_view m_up m_down m_ruleSize m_ruleRow m_ruleDoes m_name m_goes res.2.2.2 m_readSize m_readRow m_readDoes m_own m_crowd m_isStep m_isOfGoal m_isMet m_most m_stands m_doesHere m_from m_trace)) (by decide) rfl (Nat.le_of_ble_eq_true rfl) ?_
  intro p e s m args below meth c Q F E ret ls J hl
  have hx := F.1
  have hb := F.2.1
  have hl : lv_has ls 5 [(0, .ref (q 0)), (1, .long a0), (3, .int a1)] := hl
  refine lv_aload_n hx hb dX8_feed_0 rfl (lv_at hl 0 rfl) ?_
  refine lv_iconst (v := 0) hx hb dX8_feed_1 (by decide) ?_
  refine mp_0_0 F E J fl_X8_1 dX8_feed_2 (fun H locs J => ?_)
  refine lv_iload_n hx hb dX8_feed_5 rfl (lv_at hl 2 rfl) ?_
  refine lv_i2l (v := (Int32.toInt64 a1)) hx hb dX8_feed_6 rfl ?_
  refine lv_lconst (v := 1) hx hb dX8_feed_7 (by decide) ?_
  refine lv_ldc2 hx hb F.2.2.2.1 (F.2.2.2.2 _ kc_X8_138) dX8_feed_8 ?_
  obtain ⟨p1, hp1, h⟩ := ob h
  refine onZ (runS (As := [.long (Int32.toInt64 a1), .long 1, .long 8]) (rest := []) F E J (c_X8_in (Int32.toInt64 a1) 1 8 p1 hp1) cw_X8_90 ⟨rfl, rfl, Nat.le_of_ble_eq_true rfl, Nat.le_of_ble_eq_true rfl⟩ rfl hl.1 rfl (Nat.le_of_ble_eq_true rfl) dX8_feed_11) J (fun hzbp1 H locs J => ?_)
  refine lv_if_ne (tgt := 20) hx hb dX8_feed_14 (by decide) (fun c2 => ?_) (fun c2 => ?_)
  · have h := itn c2 h
    refine lv_aload_n hx hb dX8_feed_20 rfl (lv_at hl 0 rfl) ?_
    refine mg_0_16 F E J fl_X8_140 dX8_feed_21 ?_
    refine lv_iload_n hx hb dX8_feed_24 rfl (lv_at hl 2 rfl) ?_
    refine lv_iadd hx hb dX8_feed_25 ?_
    refine lv_sipush (v := 400) hx hb dX8_feed_26 (by decide) ?_
    refine lv_icmp_le (tgt := 35) hx hb dX8_feed_29 (by decide) (fun c3 => ?_) (fun c3 => ?_)
    · have h := itp c3 h
      refine lv_iload_n hx hb dX8_feed_35 rfl (lv_at hl 2 rfl) ?_
      refine lv_iconst (v := 1) hx hb dX8_feed_36 (by decide) ?_
      refine lv_isub hx hb dX8_feed_37 ?_
      obtain ⟨v4, hv4, h⟩ := obs h
      refine nmI hv4 ?_
      refine lv_istore (lv' := [(4, .int v4), (0, .ref (q 0)), (1, .long a0), (3, .int a1)]) hx hb dX8_feed_38 hl (by decide) rfl (fun ls hl => ?_)
      obtain ⟨o_L5, ho_L5, h⟩ := ob h
      have T_L5 : ∀ (f : Nat) (l4_L5 : Int32) (m_taped_L5 : Int32) (m_tape_L5 : Nat → Int32) (o_L5 : Int32 × (Nat → Int32)), F_X8_feed_L5 a0 f l4_L5 m_taped_L5 m_tape_L5 = some o_L5 → ∀ (H : Heap) (locs : List Loc) (ls : Array Slot), VJ g A s.heap (MW g q 0 m_n m_robots m_viewed m_rules m_taped_L5 m_latest m_size m_at m_sort m_place m_end m_fault m_faultAt m_read m_crowds m_traced m_here m_hand m_view m_up m_down m_ruleSize m_ruleRow m_ruleDoes m_name m_goes m_tape_L5 m_readSize m_readRow m_readDoes m_own m_crowd m_isStep m_isOfGoal m_isMet m_most m_stands m_doesHere m_from m_trace) H locs → lv_has ls 5 [(0, .ref (q 0)), (1, .long a0), (4, .int l4_L5)] → (∀ (H : Heap) (locs : List Loc) (ls : Array Slot), VJ g A s.heap (MW g q 0 m_n m_robots m_viewed m_rules o_L5.1 m_latest m_size m_at m_sort m_place m_end m_fault m_faultAt m_read m_crowds m_traced m_here m_hand m_view m_up m_down m_ruleSize m_ruleRow m_ruleDoes m_name m_goes o_L5.2 m_readSize m_readRow m_readDoes m_own m_crowd m_isStep m_isOfGoal m_isMet m_most m_stands m_doesHere m_from m_trace) H locs → lv_has ls 5 [(0, .ref (q 0))] → W p l e rm_X8_feed s m args below meth c H locs 0 0 Q (F0 m 82 ls [])) → W p l e rm_X8_feed s m args below meth c H locs 0 0 Q (F0 m 40 ls []) := by
        clear h ho_L5 hl J
        intro f
        induction f with
        | zero => intro l4_L5 m_taped_L5 m_tape_L5 o_L5 h; exact absurd h (by simp [F_X8_feed_L5])
        | succ f ih =>
          intro l4_L5 m_taped_L5 m_tape_L5 o_L5 h H locs ls J hl K_L5
          rw [F_X8_feed_L5.eq_2] at h
          refine lv_iload hx hb dX8_feed_40 (lv_at hl 2 rfl) ?_
          refine lv_if_lt (tgt := 82) hx hb dX8_feed_42 (by decide) (fun c6 => ?_) (fun c6 => ?_)
          · have h := itp c6 h
            obtain rfl := Option.some.inj h
            exact K_L5 _ _ _ J (lv_sub hl [0] rfl)
          · have h := itn c6 h
            refine lv_aload_n hx hb dX8_feed_45 rfl (lv_at hl 0 rfl) ?_
            refine mg_0_15 F E J fl_X8_44 dX8_feed_46 ?_
            refine lv_aload_n hx hb dX8_feed_49 rfl (lv_at hl 0 rfl) ?_
            refine mg_0_16 F E J fl_X8_140 dX8_feed_50 ?_
            refine lv_lload_n hx hb dX8_feed_53 rfl (lv_at hl 1 rfl) ?_
            refine lv_bipush (v := 8) hx hb dX8_feed_54 (by decide) ?_
            refine lv_iload hx hb dX8_feed_56 (lv_at hl 2 rfl) ?_
            refine lv_imul hx hb dX8_feed_58 ?_
            refine lv_lshr (v := (jlshr a0 (8 * l4_L5))) hx hb dX8_feed_59 rfl ?_
            refine lv_ldc2 hx hb F.2.2.2.1 (F.2.2.2.2 _ kc_X8_143) dX8_feed_60 ?_
            refine lv_land hx hb dX8_feed_63 ?_
            refine lv_l2i (v := (Int64.toInt32 ((jlshr a0 (8 * l4_L5)) &&& 255))) hx hb dX8_feed_64 rfl ?_
            obtain ⟨v7, hv7, h⟩ := obs h
            refine nmI hv7 ?_
            obtain ⟨hi, h⟩ := gdt h
            refine ms_11 F E J (inbt hi) dX8_feed_65 (fun H locs J => ?_)
            refine lv_aload_n hx hb dX8_feed_66 rfl (lv_at hl 0 rfl) ?_
            refine lv_dup hx hb dX8_feed_67 rfl ?_
            refine mg_0_16 F E J fl_X8_140 dX8_feed_68 ?_
            refine lv_iconst (v := 1) hx hb dX8_feed_71 (by decide) ?_
            refine lv_iadd hx hb dX8_feed_72 ?_
            obtain ⟨v8, hv8, h⟩ := obs h
            refine nmI hv8 ?_
            refine mp_0_16 F E J fl_X8_140 dX8_feed_73 (fun H locs J => ?_)
            obtain ⟨v9, hv9, h⟩ := obs h
            refine lv_iinc (v := v9) (lv' := [(4, .int v9), (0, .ref (q 0)), (1, .long a0)]) hx hb dX8_feed_76 hl (k := 2) rfl (by rw [← hv9]; rfl) (by decide) rfl (fun ls hl => ?_)
            refine lv_goto (tgt := 40) hx hb dX8_feed_79 (by decide) ?_
            exact ih _ _ _ _ h _ _ _ J (lv_sub hl [1, 2, 0] rfl) K_L5
      refine T_L5 FU v4 m_taped m_tape o_L5 ho_L5 _ _ _ J (lv_sub hl [1, 2, 0] rfl) (fun H locs ls J hl => ?_)
      refine lv_aload_n hx hb dX8_feed_82 rfl (lv_at hl 0 rfl) ?_
      refine mg_0_16 F E J fl_X8_140 dX8_feed_83 ?_
      obtain rfl := Option.some.inj h
      exact ret _ _ _ _ J dX8_feed_86
    · have h := itn c3 h
      refine lv_ldc hx hb F.2.2.2.1 (F.2.2.2.2 _ kc_X8_102) dX8_feed_32 ?_
      obtain rfl := Option.some.inj h
      exact ret _ _ _ _ J dX8_feed_34
  · have h := itp c2 h
    refine lv_ldc hx hb F.2.2.2.1 (F.2.2.2.2 _ kc_X8_98) dX8_feed_17 ?_
    obtain rfl := Option.some.inj h
    exact ret _ _ _ _ J dX8_feed_19
set_option maxHeartbeats 4000000 in
set_option maxRecDepth 100000 in
theorem c_X8_byteAt {l : Launch} {g : GG} {A : Nat → Prop} {q : Nat → Nat} {m_thrown m_n m_robots m_viewed m_rules m_taped m_latest m_size m_at m_sort m_place m_end m_fault m_faultAt m_read m_crowds m_traced : Int32} {m_here m_hand m_view m_up m_down m_ruleSize m_ruleRow m_ruleDoes m_name m_goes m_tape m_readSize m_readRow m_readDoes m_own m_crowd m_isStep m_isOfGoal m_isMet m_most m_stands m_doesHere m_from m_trace : Nat → Int32} (a0 : Int32) (res : Int32) (h : F_X8_byteAt a0 m_size m_tape = some res) : Met l yX8_byteAt (wS yX8_byteAt cX8_byteAt 2 (some .int)) rm_X8_byteAt (va_Pc [.ref (q 0), .int a0] (VB g A (MW g q m_thrown m_n m_robots m_viewed m_rules m_taped m_latest m_size m_at m_sort m_place m_end m_fault m_faultAt m_read m_crowds m_traced m_here m_hand m_view m_up m_down m_ruleSize m_ruleRow m_ruleDoes m_name m_goes m_tape m_readSize m_readRow m_readDoes m_own m_crowd m_isStep m_isOfGoal m_isMet m_most m_stands m_doesHere m_from m_trace))) (va_Qi (fun r (_ : Unit) => r = res) (fun _ => VB g A (MW g q m_thrown m_n m_robots m_viewed m_rules m_taped m_latest m_size m_at m_sort m_place m_end m_fault m_faultAt m_read m_crowds m_traced m_here m_hand m_view m_up m_down m_ruleSize m_ruleRow m_ruleDoes m_name m_goes m_tape m_readSize m_readRow m_readDoes m_own m_crowd m_isStep m_isOfGoal m_isMet m_most m_stands m_doesHere m_from m_trace)) A) 0 0 A := by
  unfold F_X8_byteAt at h
  refine MetI (res := res) (own := RX8) (ws' := (MW g q m_thrown m_n m_robots m_viewed m_rules m_taped m_latest m_size m_at m_sort m_place m_end m_fault m_faultAt m_read m_crowds m_traced m_here m_hand m_view m_up m_down m_ruleSize m_ruleRow m_ruleDoes m_name m_goes m_tape m_readSize m_readRow m_readDoes m_own m_crowd m_isStep m_isOfGoal m_isMet m_most m_stands m_doesHere m_from m_trace)) (by decide) rfl (Nat.le_of_ble_eq_true rfl) ?_
  intro p e s m args below meth c Q F E ret ls J hl
  have hx := F.1
  have hb := F.2.1
  have hl : lv_has ls 2 [(0, .ref (q 0)), (1, .int a0)] := hl
  refine lv_iload_n hx hb dX8_byteAt_0 rfl (lv_at hl 1 rfl) ?_
  refine lv_aload_n hx hb dX8_byteAt_1 rfl (lv_at hl 0 rfl) ?_
  refine mg_0_18 F E J fl_X8_145 dX8_byteAt_2 ?_
  refine lv_icmp_ge (tgt := 17) hx hb dX8_byteAt_5 (by decide) (fun c1 => ?_) (fun c1 => ?_)
  · have h := itp c1 h
    refine lv_ldc hx hb F.2.2.2.1 (F.2.2.2.2 _ kc_X8_110) dX8_byteAt_17 ?_
    obtain rfl := Option.some.inj h
    exact ret _ _ _ _ J dX8_byteAt_19
  · have h := itn c1 h
    refine lv_aload_n hx hb dX8_byteAt_8 rfl (lv_at hl 0 rfl) ?_
    refine mg_0_15 F E J fl_X8_44 dX8_byteAt_9 ?_
    refine lv_iload_n hx hb dX8_byteAt_12 rfl (lv_at hl 1 rfl) ?_
    obtain ⟨hi, h⟩ := gdt h
    refine ml_11 F E J (inbt hi) dX8_byteAt_13 ?_
    refine lv_goto (tgt := 19) hx hb dX8_byteAt_14 (by decide) ?_
    obtain rfl := Option.some.inj h
    exact ret _ _ _ _ J dX8_byteAt_19
set_option maxHeartbeats 4000000 in
set_option maxRecDepth 100000 in
theorem c_X8_isLetter {l : Launch} {g : GG} {A : Nat → Prop} {ws : va_W} (a0 : Int32) (res : Int32) (h : F_X8_isLetter a0 = some res) : Met l yX8_isLetter (wS yX8_isLetter cX8_isLetter 1 (some .boolean)) rm_X8_isLetter (va_Pc [.int a0] (VB g A ws)) (va_Qi (fun r (_ : Unit) => r = res ∧ zB r) (fun _ => VB g A ws) A) 0 0 A := by
  unfold F_X8_isLetter at h
  refine MetZ (res := res) (own := RX8) (ws' := ws) (by decide) rfl (Nat.le_of_ble_eq_true rfl) ?_
  intro p e s m args below meth c Q F E ret ls J hl
  have hx := F.1
  have hb := F.2.1
  have hl : lv_has ls 1 [(0, .int a0)] := hl
  refine lv_iload_n hx hb dX8_isLetter_0 rfl (lv_at hl 0 rfl) ?_
  refine lv_bipush (v := 97) hx hb dX8_isLetter_1 (by decide) ?_
  refine lv_icmp_lt (tgt := 16) hx hb dX8_isLetter_3 (by decide) (fun c1 => ?_) (fun c1 => ?_)
  · have h := itp c1 h
    refine lv_iconst (v := 0) hx hb dX8_isLetter_16 (by decide) ?_
    obtain rfl := Option.some.inj h
    exact ret _ _ _ _ zB0 J dX8_isLetter_17
  · have h := itn c1 h
    refine lv_iload_n hx hb dX8_isLetter_6 rfl (lv_at hl 0 rfl) ?_
    refine lv_bipush (v := 122) hx hb dX8_isLetter_7 (by decide) ?_
    refine lv_icmp_gt (tgt := 16) hx hb dX8_isLetter_9 (by decide) (fun c2 => ?_) (fun c2 => ?_)
    · have h := itp c2 h
      refine lv_iconst (v := 0) hx hb dX8_isLetter_16 (by decide) ?_
      obtain rfl := Option.some.inj h
      exact ret _ _ _ _ zB0 J dX8_isLetter_17
    · have h := itn c2 h
      refine lv_iconst (v := 1) hx hb dX8_isLetter_12 (by decide) ?_
      refine lv_goto (tgt := 17) hx hb dX8_isLetter_13 (by decide) ?_
      obtain rfl := Option.some.inj h
      exact ret _ _ _ _ zB1 J dX8_isLetter_17
set_option maxHeartbeats 4000000 in
set_option maxRecDepth 100000 in
theorem c_X8_isFigure {l : Launch} {g : GG} {A : Nat → Prop} {ws : va_W} (a0 : Int32) (res : Int32) (h : F_X8_isFigure a0 = some res) : Met l yX8_isFigure (wS yX8_isFigure cX8_isFigure 1 (some .boolean)) rm_X8_isFigure (va_Pc [.int a0] (VB g A ws)) (va_Qi (fun r (_ : Unit) => r = res ∧ zB r) (fun _ => VB g A ws) A) 0 0 A := by
  unfold F_X8_isFigure at h
  refine MetZ (res := res) (own := RX8) (ws' := ws) (by decide) rfl (Nat.le_of_ble_eq_true rfl) ?_
  intro p e s m args below meth c Q F E ret ls J hl
  have hx := F.1
  have hb := F.2.1
  have hl : lv_has ls 1 [(0, .int a0)] := hl
  refine lv_iload_n hx hb dX8_isFigure_0 rfl (lv_at hl 0 rfl) ?_
  refine lv_bipush (v := 48) hx hb dX8_isFigure_1 (by decide) ?_
  refine lv_icmp_lt (tgt := 16) hx hb dX8_isFigure_3 (by decide) (fun c1 => ?_) (fun c1 => ?_)
  · have h := itp c1 h
    refine lv_iconst (v := 0) hx hb dX8_isFigure_16 (by decide) ?_
    obtain rfl := Option.some.inj h
    exact ret _ _ _ _ zB0 J dX8_isFigure_17
  · have h := itn c1 h
    refine lv_iload_n hx hb dX8_isFigure_6 rfl (lv_at hl 0 rfl) ?_
    refine lv_bipush (v := 57) hx hb dX8_isFigure_7 (by decide) ?_
    refine lv_icmp_gt (tgt := 16) hx hb dX8_isFigure_9 (by decide) (fun c2 => ?_) (fun c2 => ?_)
    · have h := itp c2 h
      refine lv_iconst (v := 0) hx hb dX8_isFigure_16 (by decide) ?_
      obtain rfl := Option.some.inj h
      exact ret _ _ _ _ zB0 J dX8_isFigure_17
    · have h := itn c2 h
      refine lv_iconst (v := 1) hx hb dX8_isFigure_12 (by decide) ?_
      refine lv_goto (tgt := 17) hx hb dX8_isFigure_13 (by decide) ?_
      obtain rfl := Option.some.inj h
      exact ret _ _ _ _ zB1 J dX8_isFigure_17
set_option maxHeartbeats 4000000 in
set_option maxRecDepth 100000 in
theorem c_X8_next {l : Launch} {g : GG} {A : Nat → Prop} {q : Nat → Nat} {m_thrown m_n m_robots m_viewed m_rules m_taped m_latest m_size m_at m_sort m_place m_end m_fault m_faultAt m_read m_crowds m_traced : Int32} {m_here m_hand m_view m_up m_down m_ruleSize m_ruleRow m_ruleDoes m_name m_goes m_tape m_readSize m_readRow m_readDoes m_own m_crowd m_isStep m_isOfGoal m_isMet m_most m_stands m_doesHere m_from m_trace : Nat → Int32} (res : Int32 × Int32 × Int32 × Int32) (h : F_X8_next m_size m_at m_tape = some res) : Met l yX8_next (wS yX8_next cX8_next 2 none) rm_X8_next (va_Pc [.ref (q 0)] (VB g A (MW g q m_thrown m_n m_robots m_viewed m_rules m_taped m_latest m_size m_at m_sort m_place m_end m_fault m_faultAt m_read m_crowds m_traced m_here m_hand m_view m_up m_down m_ruleSize m_ruleRow m_ruleDoes m_name m_goes m_tape m_readSize m_readRow m_readDoes m_own m_crowd m_isStep m_isOfGoal m_isMet m_most m_stands m_doesHere m_from m_trace))) (va_Qv (fun (_ : Unit) => True) (fun _ => VB g A (MW g q m_thrown m_n m_robots m_viewed m_rules m_taped m_latest m_size res.1 res.2.1 res.2.2.1 res.2.2.2 m_fault m_faultAt m_read m_crowds m_traced m_here m_hand m_view m_up m_down m_ruleSize m_ruleRow m_ruleDoes m_name m_goes m_tape m_readSize m_readRow m_readDoes m_own m_crowd m_isStep m_isOfGoal m_isMet m_most m_stands m_doesHere m_from m_trace)) A) 0 0 A := by
  unfold F_X8_next at h
  refine MetV (own := RX8) (ws' := (MW g q m_thrown m_n m_robots m_viewed m_rules m_taped m_latest m_size res.1 res.2.1 res.2.2.1 res.2.2.2 m_fault m_faultAt m_read m_crowds m_traced m_here m_hand m_view m_up m_down m_ruleSize m_ruleRow m_ruleDoes m_name m_goes m_tape m_readSize m_readRow m_readDoes m_own m_crowd m_isStep m_isOfGoal m_isMet m_most m_stands m_doesHere m_from m_trace)) (by decide) rfl (Nat.le_of_ble_eq_true rfl) ?_
  intro p e s m args below meth c Q F E ret ls J hl
  have hx := F.1
  have hb := F.2.1
  have hl : lv_has ls 2 [(0, .ref (q 0))] := hl
  obtain ⟨o_L1, ho_L1, h⟩ := ob h
  have T_L1 : ∀ (f : Nat) (m_at_L1 : Int32) (o_L1 : Int32), F_X8_next_L1 m_size m_tape f m_at_L1 = some o_L1 → ∀ (H : Heap) (locs : List Loc) (ls : Array Slot), VJ g A s.heap (MW g q m_thrown m_n m_robots m_viewed m_rules m_taped m_latest m_size m_at_L1 m_sort m_place m_end m_fault m_faultAt m_read m_crowds m_traced m_here m_hand m_view m_up m_down m_ruleSize m_ruleRow m_ruleDoes m_name m_goes m_tape m_readSize m_readRow m_readDoes m_own m_crowd m_isStep m_isOfGoal m_isMet m_most m_stands m_doesHere m_from m_trace) H locs → lv_has ls 2 [(0, .ref (q 0))] → (∀ (H : Heap) (locs : List Loc) (ls : Array Slot), VJ g A s.heap (MW g q m_thrown m_n m_robots m_viewed m_rules m_taped m_latest m_size o_L1 m_sort m_place m_end m_fault m_faultAt m_read m_crowds m_traced m_here m_hand m_view m_up m_down m_ruleSize m_ruleRow m_ruleDoes m_name m_goes m_tape m_readSize m_readRow m_readDoes m_own m_crowd m_isStep m_isOfGoal m_isMet m_most m_stands m_doesHere m_from m_trace) H locs → lv_has ls 2 [(0, .ref (q 0))] → W p l e rm_X8_next s m args below meth c H locs 0 0 Q (F0 m 39 ls [])) → W p l e rm_X8_next s m args below meth c H locs 0 0 Q (F0 m 0 ls []) := by
    clear h ho_L1 hl J
    intro f
    induction f with
    | zero => intro m_at_L1 o_L1 h; exact absurd h (by simp [F_X8_next_L1])
    | succ f ih =>
      intro m_at_L1 o_L1 h H locs ls J hl K_L1
      rw [F_X8_next_L1.eq_2] at h
      refine lv_aload_n hx hb dX8_next_0 rfl (lv_at hl 0 rfl) ?_
      refine lv_aload_n hx hb dX8_next_1 rfl (lv_at hl 0 rfl) ?_
      refine mg_0_19 F E J fl_X8_148 dX8_next_2 ?_
      obtain ⟨p2, hp2, h⟩ := ob h
      refine onI (runV (As := [.int m_at_L1]) (rest := []) F E J (c_X8_byteAt m_at_L1 p2 hp2) cw_X8_151 ⟨rfl, rfl, Nat.le_of_ble_eq_true rfl, Nat.le_of_ble_eq_true rfl⟩ rcM0 rfl hl.1 rfl (Nat.le_of_ble_eq_true rfl) dX8_next_5) J (fun H locs J => ?_)
      refine lv_bipush (v := 32) hx hb dX8_next_8 (by decide) ?_
      refine lv_icmp_eq (tgt := 26) hx hb dX8_next_10 (by decide) (fun c3 => ?_) (fun c3 => ?_)
      · have h := itp c3 h
        refine lv_aload_n hx hb dX8_next_26 rfl (lv_at hl 0 rfl) ?_
        refine lv_dup hx hb dX8_next_27 rfl ?_
        refine mg_0_19 F E J fl_X8_148 dX8_next_28 ?_
        refine lv_iconst (v := 1) hx hb dX8_next_31 (by decide) ?_
        refine lv_iadd hx hb dX8_next_32 ?_
        obtain ⟨v4, hv4, h⟩ := obs h
        refine nmI hv4 ?_
        refine mp_0_19 F E J fl_X8_148 dX8_next_33 (fun H locs J => ?_)
        refine lv_goto (tgt := 0) hx hb dX8_next_36 (by decide) ?_
        exact ih _ _ h _ _ _ J (lv_sub hl [0] rfl) K_L1
      · have h := itn c3 h
        refine lv_aload_n hx hb dX8_next_13 rfl (lv_at hl 0 rfl) ?_
        refine lv_aload_n hx hb dX8_next_14 rfl (lv_at hl 0 rfl) ?_
        refine mg_0_19 F E J fl_X8_148 dX8_next_15 ?_
        obtain ⟨p5, hp5, h⟩ := ob h
        refine onI (runV (As := [.int m_at_L1]) (rest := []) F E J (c_X8_byteAt m_at_L1 p5 hp5) cw_X8_151 ⟨rfl, rfl, Nat.le_of_ble_eq_true rfl, Nat.le_of_ble_eq_true rfl⟩ rcM0 rfl hl.1 rfl (Nat.le_of_ble_eq_true rfl) dX8_next_18) J (fun H locs J => ?_)
        refine lv_bipush (v := 10) hx hb dX8_next_21 (by decide) ?_
        refine lv_icmp_ne (tgt := 39) hx hb dX8_next_23 (by decide) (fun c6 => ?_) (fun c6 => ?_)
        · have h := itn c6 h
          obtain rfl := Option.some.inj h
          exact K_L1 _ _ _ J (lv_sub hl [0] rfl)
        · have h := itp c6 h
          refine lv_aload_n hx hb dX8_next_26 rfl (lv_at hl 0 rfl) ?_
          refine lv_dup hx hb dX8_next_27 rfl ?_
          refine mg_0_19 F E J fl_X8_148 dX8_next_28 ?_
          refine lv_iconst (v := 1) hx hb dX8_next_31 (by decide) ?_
          refine lv_iadd hx hb dX8_next_32 ?_
          obtain ⟨v7, hv7, h⟩ := obs h
          refine nmI hv7 ?_
          refine mp_0_19 F E J fl_X8_148 dX8_next_33 (fun H locs J => ?_)
          refine lv_goto (tgt := 0) hx hb dX8_next_36 (by decide) ?_
          exact ih _ _ h _ _ _ J (lv_sub hl [0] rfl) K_L1
  refine T_L1 FU m_at o_L1 ho_L1 _ _ _ J (lv_sub hl [0] rfl) (fun H locs ls J hl => ?_)
  refine lv_aload_n hx hb dX8_next_39 rfl (lv_at hl 0 rfl) ?_
  refine lv_aload_n hx hb dX8_next_40 rfl (lv_at hl 0 rfl) ?_
  refine mg_0_19 F E J fl_X8_148 dX8_next_41 ?_
  refine mp_0_21 F E J fl_X8_154 dX8_next_44 (fun H locs J => ?_)
  refine lv_aload_n hx hb dX8_next_47 rfl (lv_at hl 0 rfl) ?_
  refine lv_aload_n hx hb dX8_next_48 rfl (lv_at hl 0 rfl) ?_
  refine mg_0_19 F E J fl_X8_148 dX8_next_49 ?_
  obtain ⟨p8, hp8, h⟩ := ob h
  refine onI (runV (As := [.int o_L1]) (rest := []) F E J (c_X8_byteAt o_L1 p8 hp8) cw_X8_151 ⟨rfl, rfl, Nat.le_of_ble_eq_true rfl, Nat.le_of_ble_eq_true rfl⟩ rcM0 rfl hl.1 rfl (Nat.le_of_ble_eq_true rfl) dX8_next_52) J (fun H locs J => ?_)
  refine lv_istore_n (lv' := [(1, .int p8), (0, .ref (q 0))]) hx hb dX8_next_55 rfl hl (by decide) rfl (fun ls hl => ?_)
  refine lv_iload_n hx hb dX8_next_56 rfl (lv_at hl 0 rfl) ?_
  refine lv_ldc hx hb F.2.2.2.1 (F.2.2.2.2 _ kc_X8_110) dX8_next_57 ?_
  obtain ⟨j9, hj9, h⟩ := ob h
  have Kj9 : ∀ (H : Heap) (locs : List Loc) (ls : Array Slot), VJ g A s.heap (MW g q m_thrown m_n m_robots m_viewed m_rules m_taped m_latest m_size j9.1 j9.2 o_L1 m_end m_fault m_faultAt m_read m_crowds m_traced m_here m_hand m_view m_up m_down m_ruleSize m_ruleRow m_ruleDoes m_name m_goes m_tape m_readSize m_readRow m_readDoes m_own m_crowd m_isStep m_isOfGoal m_isMet m_most m_stands m_doesHere m_from m_trace) H locs → lv_has ls 2 [(0, .ref (q 0))] → W p l e rm_X8_next s m args below meth c H locs 0 0 Q (F0 m 220 ls []) := by
    intro H locs ls J hl
    refine lv_aload_n hx hb dX8_next_220 rfl (lv_at hl 0 rfl) ?_
    refine lv_aload_n hx hb dX8_next_221 rfl (lv_at hl 0 rfl) ?_
    refine mg_0_19 F E J fl_X8_148 dX8_next_222 ?_
    refine mp_0_22 F E J fl_X8_166 dX8_next_225 (fun H locs J => ?_)
    obtain rfl := Option.some.inj h
    exact ret _ _ _ _ J dX8_next_228
  clear h
  have h := hj9
  refine lv_icmp_ne (tgt := 70) hx hb dX8_next_59 (by decide) (fun c10 => ?_) (fun c10 => ?_)
  · have h := itn c10 h
    refine lv_iload_n hx hb dX8_next_70 rfl (lv_at hl 0 rfl) ?_
    obtain ⟨p11, hp11, h⟩ := ob h
    refine onZ (runS (As := [.int p8]) (rest := []) F E J (c_X8_isLetter p8 p11 hp11) cw_X8_160 ⟨rfl, rfl, Nat.le_of_ble_eq_true rfl, Nat.le_of_ble_eq_true rfl⟩ rfl hl.1 rfl (Nat.le_of_ble_eq_true rfl) dX8_next_71) J (fun hzbp11 H locs J => ?_)
    refine lv_if_eq (tgt := 130) hx hb dX8_next_74 (by decide) (fun c12 => ?_) (fun c12 => ?_)
    · have h := itp c12 h
      refine lv_iload_n hx hb dX8_next_130 rfl (lv_at hl 0 rfl) ?_
      obtain ⟨p13, hp13, h⟩ := ob h
      refine onZ (runS (As := [.int p8]) (rest := []) F E J (c_X8_isFigure p8 p13 hp13) cw_X8_163 ⟨rfl, rfl, Nat.le_of_ble_eq_true rfl, Nat.le_of_ble_eq_true rfl⟩ rfl hl.1 rfl (Nat.le_of_ble_eq_true rfl) dX8_next_131) J (fun hzbp13 H locs J => ?_)
      refine lv_if_eq (tgt := 189) hx hb dX8_next_134 (by decide) (fun c14 => ?_) (fun c14 => ?_)
      · have h := itp c14 h
        refine lv_aload_n hx hb dX8_next_189 rfl (lv_at hl 1 rfl) ?_
        refine lv_dup hx hb dX8_next_190 rfl ?_
        refine mg_0_19 F E J fl_X8_148 dX8_next_191 ?_
        refine lv_iconst (v := 1) hx hb dX8_next_194 (by decide) ?_
        refine lv_iadd hx hb dX8_next_195 ?_
        obtain ⟨v15, hv15, h⟩ := obs h
        refine nmI hv15 ?_
        refine mp_0_19 F E J fl_X8_148 dX8_next_196 (fun H locs J => ?_)
        refine lv_aload_n hx hb dX8_next_199 rfl (lv_at hl 1 rfl) ?_
        refine lv_iload_n hx hb dX8_next_200 rfl (lv_at hl 0 rfl) ?_
        refine lv_bipush (v := 59) hx hb dX8_next_201 (by decide) ?_
        obtain ⟨j16, hj16, h⟩ := ob h
        have Kj16 : ∀ (H : Heap) (locs : List Loc) (ls : Array Slot), VJ g A s.heap (MW g q m_thrown m_n m_robots m_viewed m_rules m_taped m_latest m_size v15 m_sort o_L1 m_end m_fault m_faultAt m_read m_crowds m_traced m_here m_hand m_view m_up m_down m_ruleSize m_ruleRow m_ruleDoes m_name m_goes m_tape m_readSize m_readRow m_readDoes m_own m_crowd m_isStep m_isOfGoal m_isMet m_most m_stands m_doesHere m_from m_trace) H locs → lv_has ls 2 [(0, .ref (q 0))] → W p l e rm_X8_next s m args below meth c H locs 0 0 Q (F0 m 217 ls [.int j16, .ref (q 0)]) := by
          intro H locs ls J hl
          refine mp_0_20 F E J fl_X8_157 dX8_next_217 (fun H locs J => ?_)
          obtain rfl := Option.some.inj h
          exact Kj9 _ _ _ J (lv_sub hl [0] rfl)
        clear h
        have h := hj16
        refine lv_icmp_eq (tgt := 212) hx hb dX8_next_203 (by decide) (fun c17 => ?_) (fun c17 => ?_)
        · have h := itp c17 h
          refine lv_iconst (v := 4) hx hb dX8_next_212 (by decide) ?_
          refine lv_goto (tgt := 217) hx hb dX8_next_213 (by decide) ?_
          obtain rfl := Option.some.inj h
          exact Kj16 _ _ _ J (lv_sub hl [1] rfl)
        · have h := itn c17 h
          refine lv_iload_n hx hb dX8_next_206 rfl (lv_at hl 0 rfl) ?_
          refine lv_bipush (v := 44) hx hb dX8_next_207 (by decide) ?_
          refine lv_icmp_ne (tgt := 216) hx hb dX8_next_209 (by decide) (fun c18 => ?_) (fun c18 => ?_)
          · have h := itn c18 h
            refine lv_iconst (v := 0) hx hb dX8_next_216 (by decide) ?_
            obtain rfl := Option.some.inj h
            exact Kj16 _ _ _ J (lv_sub hl [1] rfl)
          · have h := itp c18 h
            refine lv_iconst (v := 4) hx hb dX8_next_212 (by decide) ?_
            refine lv_goto (tgt := 217) hx hb dX8_next_213 (by decide) ?_
            obtain rfl := Option.some.inj h
            exact Kj16 _ _ _ J (lv_sub hl [1] rfl)
      · have h := itn c14 h
        obtain ⟨o_L19, ho_L19, h⟩ := ob h
        have T_L19 : ∀ (f : Nat) (m_at_L19 : Int32) (o_L19 : Int32), F_X8_next_L19 m_size m_tape f m_at_L19 = some o_L19 → ∀ (H : Heap) (locs : List Loc) (ls : Array Slot), VJ g A s.heap (MW g q m_thrown m_n m_robots m_viewed m_rules m_taped m_latest m_size m_at_L19 m_sort o_L1 m_end m_fault m_faultAt m_read m_crowds m_traced m_here m_hand m_view m_up m_down m_ruleSize m_ruleRow m_ruleDoes m_name m_goes m_tape m_readSize m_readRow m_readDoes m_own m_crowd m_isStep m_isOfGoal m_isMet m_most m_stands m_doesHere m_from m_trace) H locs → lv_has ls 2 [(0, .ref (q 0))] → (∀ (H : Heap) (locs : List Loc) (ls : Array Slot), VJ g A s.heap (MW g q m_thrown m_n m_robots m_viewed m_rules m_taped m_latest m_size o_L19 m_sort o_L1 m_end m_fault m_faultAt m_read m_crowds m_traced m_here m_hand m_view m_up m_down m_ruleSize m_ruleRow m_ruleDoes m_name m_goes m_tape m_readSize m_readRow m_readDoes m_own m_crowd m_isStep m_isOfGoal m_isMet m_most m_stands m_doesHere m_from m_trace) H locs → lv_has ls 2 [(0, .ref (q 0))] → W p l e rm_X8_next s m args below meth c H locs 0 0 Q (F0 m 164 ls [])) → W p l e rm_X8_next s m args below meth c H locs 0 0 Q (F0 m 137 ls []) := by
          clear h ho_L19 hl J
          intro f
          induction f with
          | zero => intro m_at_L19 o_L19 h; exact absurd h (by simp [F_X8_next_L19])
          | succ f ih =>
            intro m_at_L19 o_L19 h H locs ls J hl K_L19
            rw [F_X8_next_L19.eq_2] at h
            refine lv_aload_n hx hb dX8_next_137 rfl (lv_at hl 0 rfl) ?_
            refine lv_aload_n hx hb dX8_next_138 rfl (lv_at hl 0 rfl) ?_
            refine mg_0_19 F E J fl_X8_148 dX8_next_139 ?_
            obtain ⟨p20, hp20, h⟩ := ob h
            refine onI (runV (As := [.int m_at_L19]) (rest := []) F E J (c_X8_byteAt m_at_L19 p20 hp20) cw_X8_151 ⟨rfl, rfl, Nat.le_of_ble_eq_true rfl, Nat.le_of_ble_eq_true rfl⟩ rcM0 rfl hl.1 rfl (Nat.le_of_ble_eq_true rfl) dX8_next_142) J (fun H locs J => ?_)
            obtain ⟨p21, hp21, h⟩ := ob h
            refine onZ (runS (As := [.int p20]) (rest := []) F E J (c_X8_isFigure p20 p21 hp21) cw_X8_163 ⟨rfl, rfl, Nat.le_of_ble_eq_true rfl, Nat.le_of_ble_eq_true rfl⟩ rfl hl.1 rfl (Nat.le_of_ble_eq_true rfl) dX8_next_145) J (fun hzbp21 H locs J => ?_)
            refine lv_if_eq (tgt := 164) hx hb dX8_next_148 (by decide) (fun c22 => ?_) (fun c22 => ?_)
            · have h := itp c22 h
              obtain rfl := Option.some.inj h
              exact K_L19 _ _ _ J (lv_sub hl [0] rfl)
            · have h := itn c22 h
              refine lv_aload_n hx hb dX8_next_151 rfl (lv_at hl 0 rfl) ?_
              refine lv_dup hx hb dX8_next_152 rfl ?_
              refine mg_0_19 F E J fl_X8_148 dX8_next_153 ?_
              refine lv_iconst (v := 1) hx hb dX8_next_156 (by decide) ?_
              refine lv_iadd hx hb dX8_next_157 ?_
              obtain ⟨v23, hv23, h⟩ := obs h
              refine nmI hv23 ?_
              refine mp_0_19 F E J fl_X8_148 dX8_next_158 (fun H locs J => ?_)
              refine lv_goto (tgt := 137) hx hb dX8_next_161 (by decide) ?_
              exact ih _ _ h _ _ _ J (lv_sub hl [0] rfl) K_L19
        refine T_L19 FU o_L1 o_L19 ho_L19 _ _ _ J (lv_sub hl [1] rfl) (fun H locs ls J hl => ?_)
        refine lv_aload_n hx hb dX8_next_164 rfl (lv_at hl 0 rfl) ?_
        refine lv_aload_n hx hb dX8_next_165 rfl (lv_at hl 0 rfl) ?_
        refine mg_0_19 F E J fl_X8_148 dX8_next_166 ?_
        refine lv_aload_n hx hb dX8_next_169 rfl (lv_at hl 0 rfl) ?_
        refine mg_0_21 F E J fl_X8_154 dX8_next_170 ?_
        refine lv_isub hx hb dX8_next_173 ?_
        refine lv_iconst (v := 2) hx hb dX8_next_174 (by decide) ?_
        obtain ⟨j24, hj24, h⟩ := ob h
        have Kj24 : ∀ (H : Heap) (locs : List Loc) (ls : Array Slot), VJ g A s.heap (MW g q m_thrown m_n m_robots m_viewed m_rules m_taped m_latest m_size o_L19 m_sort o_L1 m_end m_fault m_faultAt m_read m_crowds m_traced m_here m_hand m_view m_up m_down m_ruleSize m_ruleRow m_ruleDoes m_name m_goes m_tape m_readSize m_readRow m_readDoes m_own m_crowd m_isStep m_isOfGoal m_isMet m_most m_stands m_doesHere m_from m_trace) H locs → lv_has ls 2 [(0, .ref (q 0))] → W p l e rm_X8_next s m args below meth c H locs 0 0 Q (F0 m 183 ls [.int j24, .ref (q 0)]) := by
          intro H locs ls J hl
          refine mp_0_20 F E J fl_X8_157 dX8_next_183 (fun H locs J => ?_)
          refine lv_goto (tgt := 220) hx hb dX8_next_186 (by decide) ?_
          obtain rfl := Option.some.inj h
          exact Kj9 _ _ _ J (lv_sub hl [0] rfl)
        clear h
        have h := hj24
        refine lv_icmp_le (tgt := 182) hx hb dX8_next_175 (by decide) (fun c25 => ?_) (fun c25 => ?_)
        · have h := itp c25 h
          refine lv_iconst (v := 3) hx hb dX8_next_182 (by decide) ?_
          obtain rfl := Option.some.inj h
          exact Kj24 _ _ _ J (lv_sub hl [0] rfl)
        · have h := itn c25 h
          refine lv_iconst (v := 0) hx hb dX8_next_178 (by decide) ?_
          refine lv_goto (tgt := 183) hx hb dX8_next_179 (by decide) ?_
          obtain rfl := Option.some.inj h
          exact Kj24 _ _ _ J (lv_sub hl [0] rfl)
    · have h := itn c12 h
      obtain ⟨o_L26, ho_L26, h⟩ := ob h
      have T_L26 : ∀ (f : Nat) (m_at_L26 : Int32) (o_L26 : Int32), F_X8_next_L26 m_size m_tape f m_at_L26 = some o_L26 → ∀ (H : Heap) (locs : List Loc) (ls : Array Slot), VJ g A s.heap (MW g q m_thrown m_n m_robots m_viewed m_rules m_taped m_latest m_size m_at_L26 m_sort o_L1 m_end m_fault m_faultAt m_read m_crowds m_traced m_here m_hand m_view m_up m_down m_ruleSize m_ruleRow m_ruleDoes m_name m_goes m_tape m_readSize m_readRow m_readDoes m_own m_crowd m_isStep m_isOfGoal m_isMet m_most m_stands m_doesHere m_from m_trace) H locs → lv_has ls 2 [(0, .ref (q 0))] → (∀ (H : Heap) (locs : List Loc) (ls : Array Slot), VJ g A s.heap (MW g q m_thrown m_n m_robots m_viewed m_rules m_taped m_latest m_size o_L26 m_sort o_L1 m_end m_fault m_faultAt m_read m_crowds m_traced m_here m_hand m_view m_up m_down m_ruleSize m_ruleRow m_ruleDoes m_name m_goes m_tape m_readSize m_readRow m_readDoes m_own m_crowd m_isStep m_isOfGoal m_isMet m_most m_stands m_doesHere m_from m_trace) H locs → lv_has ls 2 [(0, .ref (q 0))] → W p l e rm_X8_next s m args below meth c H locs 0 0 Q (F0 m 104 ls [])) → W p l e rm_X8_next s m args below meth c H locs 0 0 Q (F0 m 77 ls []) := by
        clear h ho_L26 hl J
        intro f
        induction f with
        | zero => intro m_at_L26 o_L26 h; exact absurd h (by simp [F_X8_next_L26])
        | succ f ih =>
          intro m_at_L26 o_L26 h H locs ls J hl K_L26
          rw [F_X8_next_L26.eq_2] at h
          refine lv_aload_n hx hb dX8_next_77 rfl (lv_at hl 0 rfl) ?_
          refine lv_aload_n hx hb dX8_next_78 rfl (lv_at hl 0 rfl) ?_
          refine mg_0_19 F E J fl_X8_148 dX8_next_79 ?_
          obtain ⟨p27, hp27, h⟩ := ob h
          refine onI (runV (As := [.int m_at_L26]) (rest := []) F E J (c_X8_byteAt m_at_L26 p27 hp27) cw_X8_151 ⟨rfl, rfl, Nat.le_of_ble_eq_true rfl, Nat.le_of_ble_eq_true rfl⟩ rcM0 rfl hl.1 rfl (Nat.le_of_ble_eq_true rfl) dX8_next_82) J (fun H locs J => ?_)
          obtain ⟨p28, hp28, h⟩ := ob h
          refine onZ (runS (As := [.int p27]) (rest := []) F E J (c_X8_isLetter p27 p28 hp28) cw_X8_160 ⟨rfl, rfl, Nat.le_of_ble_eq_true rfl, Nat.le_of_ble_eq_true rfl⟩ rfl hl.1 rfl (Nat.le_of_ble_eq_true rfl) dX8_next_85) J (fun hzbp28 H locs J => ?_)
          refine lv_if_eq (tgt := 104) hx hb dX8_next_88 (by decide) (fun c29 => ?_) (fun c29 => ?_)
          · have h := itp c29 h
            obtain rfl := Option.some.inj h
            exact K_L26 _ _ _ J (lv_sub hl [0] rfl)
          · have h := itn c29 h
            refine lv_aload_n hx hb dX8_next_91 rfl (lv_at hl 0 rfl) ?_
            refine lv_dup hx hb dX8_next_92 rfl ?_
            refine mg_0_19 F E J fl_X8_148 dX8_next_93 ?_
            refine lv_iconst (v := 1) hx hb dX8_next_96 (by decide) ?_
            refine lv_iadd hx hb dX8_next_97 ?_
            obtain ⟨v30, hv30, h⟩ := obs h
            refine nmI hv30 ?_
            refine mp_0_19 F E J fl_X8_148 dX8_next_98 (fun H locs J => ?_)
            refine lv_goto (tgt := 77) hx hb dX8_next_101 (by decide) ?_
            exact ih _ _ h _ _ _ J (lv_sub hl [0] rfl) K_L26
      refine T_L26 FU o_L1 o_L26 ho_L26 _ _ _ J (lv_sub hl [1] rfl) (fun H locs ls J hl => ?_)
      refine lv_aload_n hx hb dX8_next_104 rfl (lv_at hl 0 rfl) ?_
      refine lv_aload_n hx hb dX8_next_105 rfl (lv_at hl 0 rfl) ?_
      refine mg_0_19 F E J fl_X8_148 dX8_next_106 ?_
      refine lv_aload_n hx hb dX8_next_109 rfl (lv_at hl 0 rfl) ?_
      refine mg_0_21 F E J fl_X8_154 dX8_next_110 ?_
      refine lv_isub hx hb dX8_next_113 ?_
      refine lv_bipush (v := 6) hx hb dX8_next_114 (by decide) ?_
      obtain ⟨j31, hj31, h⟩ := ob h
      have Kj31 : ∀ (H : Heap) (locs : List Loc) (ls : Array Slot), VJ g A s.heap (MW g q m_thrown m_n m_robots m_viewed m_rules m_taped m_latest m_size o_L26 m_sort o_L1 m_end m_fault m_faultAt m_read m_crowds m_traced m_here m_hand m_view m_up m_down m_ruleSize m_ruleRow m_ruleDoes m_name m_goes m_tape m_readSize m_readRow m_readDoes m_own m_crowd m_isStep m_isOfGoal m_isMet m_most m_stands m_doesHere m_from m_trace) H locs → lv_has ls 2 [(0, .ref (q 0))] → W p l e rm_X8_next s m args below meth c H locs 0 0 Q (F0 m 124 ls [.int j31, .ref (q 0)]) := by
        intro H locs ls J hl
        refine mp_0_20 F E J fl_X8_157 dX8_next_124 (fun H locs J => ?_)
        refine lv_goto (tgt := 220) hx hb dX8_next_127 (by decide) ?_
        obtain rfl := Option.some.inj h
        exact Kj9 _ _ _ J (lv_sub hl [0] rfl)
      clear h
      have h := hj31
      refine lv_icmp_le (tgt := 123) hx hb dX8_next_116 (by decide) (fun c32 => ?_) (fun c32 => ?_)
      · have h := itp c32 h
        refine lv_iconst (v := 2) hx hb dX8_next_123 (by decide) ?_
        obtain rfl := Option.some.inj h
        exact Kj31 _ _ _ J (lv_sub hl [0] rfl)
      · have h := itn c32 h
        refine lv_iconst (v := 0) hx hb dX8_next_119 (by decide) ?_
        refine lv_goto (tgt := 124) hx hb dX8_next_120 (by decide) ?_
        obtain rfl := Option.some.inj h
        exact Kj31 _ _ _ J (lv_sub hl [0] rfl)
  · have h := itp c10 h
    refine lv_aload_n hx hb dX8_next_62 rfl (lv_at hl 1 rfl) ?_
    refine lv_iconst (v := 1) hx hb dX8_next_63 (by decide) ?_
    refine mp_0_20 F E J fl_X8_157 dX8_next_64 (fun H locs J => ?_)
    refine lv_goto (tgt := 220) hx hb dX8_next_67 (by decide) ?_
    obtain rfl := Option.some.inj h
    exact Kj9 _ _ _ J (lv_sub hl [1] rfl)
set_option maxHeartbeats 4000000 in
set_option maxRecDepth 100000 in
theorem c_X8_bad {l : Launch} {g : GG} {A : Nat → Prop} {q : Nat → Nat} {m_thrown m_n m_robots m_viewed m_rules m_taped m_latest m_size m_at m_sort m_place m_end m_fault m_faultAt m_read m_crowds m_traced : Int32} {m_here m_hand m_view m_up m_down m_ruleSize m_ruleRow m_ruleDoes m_name m_goes m_tape m_readSize m_readRow m_readDoes m_own m_crowd m_isStep m_isOfGoal m_isMet m_most m_stands m_doesHere m_from m_trace : Nat → Int32} (a0 : Int32) (res : Int32 × Int32) (h : F_X8_bad a0 m_place m_fault m_faultAt = some res) : Met l yX8_bad (wS yX8_bad cX8_bad 2 none) rm_X8_bad (va_Pc [.ref (q 0), .int a0] (VB g A (MW g q m_thrown m_n m_robots m_viewed m_rules m_taped m_latest m_size m_at m_sort m_place m_end m_fault m_faultAt m_read m_crowds m_traced m_here m_hand m_view m_up m_down m_ruleSize m_ruleRow m_ruleDoes m_name m_goes m_tape m_readSize m_readRow m_readDoes m_own m_crowd m_isStep m_isOfGoal m_isMet m_most m_stands m_doesHere m_from m_trace))) (va_Qv (fun (_ : Unit) => True) (fun _ => VB g A (MW g q m_thrown m_n m_robots m_viewed m_rules m_taped m_latest m_size m_at m_sort m_place m_end res.1 res.2 m_read m_crowds m_traced m_here m_hand m_view m_up m_down m_ruleSize m_ruleRow m_ruleDoes m_name m_goes m_tape m_readSize m_readRow m_readDoes m_own m_crowd m_isStep m_isOfGoal m_isMet m_most m_stands m_doesHere m_from m_trace)) A) 0 0 A := by
  unfold F_X8_bad at h
  refine MetV (own := RX8) (ws' := (MW g q m_thrown m_n m_robots m_viewed m_rules m_taped m_latest m_size m_at m_sort m_place m_end res.1 res.2 m_read m_crowds m_traced m_here m_hand m_view m_up m_down m_ruleSize m_ruleRow m_ruleDoes m_name m_goes m_tape m_readSize m_readRow m_readDoes m_own m_crowd m_isStep m_isOfGoal m_isMet m_most m_stands m_doesHere m_from m_trace)) (by decide) rfl (Nat.le_of_ble_eq_true rfl) ?_
  intro p e s m args below meth c Q F E ret ls J hl
  have hx := F.1
  have hb := F.2.1
  have hl : lv_has ls 2 [(0, .ref (q 0)), (1, .int a0)] := hl
  refine lv_aload_n hx hb dX8_bad_0 rfl (lv_at hl 0 rfl) ?_
  refine mg_0_23 F E J fl_X8_169 dX8_bad_1 ?_
  refine lv_if_ne (tgt := 20) hx hb dX8_bad_4 (by decide) (fun c1 => ?_) (fun c1 => ?_)
  · have h := itn c1 h
    obtain rfl := Option.some.inj h
    exact ret _ _ _ _ J dX8_bad_20
  · have h := itp c1 h
    refine lv_aload_n hx hb dX8_bad_7 rfl (lv_at hl 0 rfl) ?_
    refine lv_iload_n hx hb dX8_bad_8 rfl (lv_at hl 1 rfl) ?_
    refine mp_0_23 F E J fl_X8_169 dX8_bad_9 (fun H locs J => ?_)
    refine lv_aload_n hx hb dX8_bad_12 rfl (lv_at hl 0 rfl) ?_
    refine lv_aload_n hx hb dX8_bad_13 rfl (lv_at hl 0 rfl) ?_
    refine mg_0_21 F E J fl_X8_154 dX8_bad_14 ?_
    refine mp_0_24 F E J fl_X8_172 dX8_bad_17 (fun H locs J => ?_)
    obtain rfl := Option.some.inj h
    exact ret _ _ _ _ J dX8_bad_20
set_option maxHeartbeats 4000000 in
set_option maxRecDepth 100000 in
theorem c_X8_need {l : Launch} {g : GG} {A : Nat → Prop} {q : Nat → Nat} {m_thrown m_n m_robots m_viewed m_rules m_taped m_latest m_size m_at m_sort m_place m_end m_fault m_faultAt m_read m_crowds m_traced : Int32} {m_here m_hand m_view m_up m_down m_ruleSize m_ruleRow m_ruleDoes m_name m_goes m_tape m_readSize m_readRow m_readDoes m_own m_crowd m_isStep m_isOfGoal m_isMet m_most m_stands m_doesHere m_from m_trace : Nat → Int32} (a0 : Int32) (res : Int32 × Int32 × Int32 × Int32 × Int32 × Int32) (h : F_X8_need a0 m_size m_at m_sort m_place m_end m_fault m_faultAt m_tape = some res) : Met l yX8_need (wS yX8_need cX8_need 2 none) rm_X8_need (va_Pc [.ref (q 0), .int a0] (VB g A (MW g q m_thrown m_n m_robots m_viewed m_rules m_taped m_latest m_size m_at m_sort m_place m_end m_fault m_faultAt m_read m_crowds m_traced m_here m_hand m_view m_up m_down m_ruleSize m_ruleRow m_ruleDoes m_name m_goes m_tape m_readSize m_readRow m_readDoes m_own m_crowd m_isStep m_isOfGoal m_isMet m_most m_stands m_doesHere m_from m_trace))) (va_Qv (fun (_ : Unit) => True) (fun _ => VB g A (MW g q m_thrown m_n m_robots m_viewed m_rules m_taped m_latest m_size res.1 res.2.1 res.2.2.1 res.2.2.2.1 res.2.2.2.2.1 res.2.2.2.2.2 m_read m_crowds m_traced m_here m_hand m_view m_up m_down m_ruleSize m_ruleRow m_ruleDoes m_name m_goes m_tape m_readSize m_readRow m_readDoes m_own m_crowd m_isStep m_isOfGoal m_isMet m_most m_stands m_doesHere m_from m_trace)) A) 0 0 A := by
  unfold F_X8_need at h
  refine MetV (own := RX8) (ws' := (MW g q m_thrown m_n m_robots m_viewed m_rules m_taped m_latest m_size res.1 res.2.1 res.2.2.1 res.2.2.2.1 res.2.2.2.2.1 res.2.2.2.2.2 m_read m_crowds m_traced m_here m_hand m_view m_up m_down m_ruleSize m_ruleRow m_ruleDoes m_name m_goes m_tape m_readSize m_readRow m_readDoes m_own m_crowd m_isStep m_isOfGoal m_isMet m_most m_stands m_doesHere m_from m_trace)) (by decide) rfl (Nat.le_of_ble_eq_true rfl) ?_
  intro p e s m args below meth c Q F E ret ls J hl
  have hx := F.1
  have hb := F.2.1
  have hl : lv_has ls 2 [(0, .ref (q 0)), (1, .int a0)] := hl
  refine lv_iload_n hx hb dX8_need_0 rfl (lv_at hl 1 rfl) ?_
  obtain ⟨j1, hj1, h⟩ := ob h
  have Kj1 : ∀ (H : Heap) (locs : List Loc) (ls : Array Slot), VJ g A s.heap (MW g q m_thrown m_n m_robots m_viewed m_rules m_taped m_latest m_size m_at m_sort m_place m_end j1.1 j1.2 m_read m_crowds m_traced m_here m_hand m_view m_up m_down m_ruleSize m_ruleRow m_ruleDoes m_name m_goes m_tape m_readSize m_readRow m_readDoes m_own m_crowd m_isStep m_isOfGoal m_isMet m_most m_stands m_doesHere m_from m_trace) H locs → lv_has ls 2 [(0, .ref (q 0))] → W p l e rm_X8_need s m args below meth c H locs 0 0 Q (F0 m 9 ls []) := by
    intro H locs ls J hl
    refine lv_aload_n hx hb dX8_need_9 rfl (lv_at hl 0 rfl) ?_
    refine mg_0_23 F E J fl_X8_169 dX8_need_10 ?_
    refine lv_if_ne (tgt := 20) hx hb dX8_need_13 (by decide) (fun c4 => ?_) (fun c4 => ?_)
    · have h := itn c4 h
      obtain rfl := Option.some.inj h
      exact ret _ _ _ _ J dX8_need_20
    · have h := itp c4 h
      refine lv_aload_n hx hb dX8_need_16 rfl (lv_at hl 0 rfl) ?_
      obtain ⟨p5, hp5, h⟩ := ob h
      refine onV (runV (As := []) (rest := []) F E J (c_X8_next  p5 hp5) cw_X8_179 ⟨rfl, rfl, Nat.le_of_ble_eq_true rfl, Nat.le_of_ble_eq_true rfl⟩ rcM0 rfl hl.1 rfl (Nat.le_of_ble_eq_true rfl) dX8_need_17) J (fun H locs J => ?_)
      obtain rfl := Option.some.inj h
      exact ret _ _ _ _ J dX8_need_20
  clear h
  have h := hj1
  refine lv_if_ne (tgt := 9) hx hb dX8_need_1 (by decide) (fun c2 => ?_) (fun c2 => ?_)
  · have h := itn c2 h
    obtain rfl := Option.some.inj h
    exact Kj1 _ _ _ J (lv_sub hl [0] rfl)
  · have h := itp c2 h
    refine lv_aload_n hx hb dX8_need_4 rfl (lv_at hl 0 rfl) ?_
    refine lv_iconst (v := 1) hx hb dX8_need_5 (by decide) ?_
    obtain ⟨p3, hp3, h⟩ := ob h
    refine onV (runV (As := [.int 1]) (rest := []) F E J (c_X8_bad 1 p3 hp3) cw_X8_175 ⟨rfl, rfl, Nat.le_of_ble_eq_true rfl, Nat.le_of_ble_eq_true rfl⟩ rcM0 rfl hl.1 rfl (Nat.le_of_ble_eq_true rfl) dX8_need_6) J (fun H locs J => ?_)
    obtain rfl := Option.some.inj h
    exact Kj1 _ _ _ J (lv_sub hl [0] rfl)
set_option maxHeartbeats 4000000 in
set_option maxRecDepth 100000 in
theorem c_X8_is {l : Launch} {g : GG} {A : Nat → Prop} {q : Nat → Nat} {m_thrown m_n m_robots m_viewed m_rules m_taped m_latest m_size m_at m_sort m_place m_end m_fault m_faultAt m_read m_crowds m_traced : Int32} {m_here m_hand m_view m_up m_down m_ruleSize m_ruleRow m_ruleDoes m_name m_goes m_tape m_readSize m_readRow m_readDoes m_own m_crowd m_isStep m_isOfGoal m_isMet m_most m_stands m_doesHere m_from m_trace : Nat → Int32} (a0 : Int32) (res : Int32) (h : F_X8_is a0 m_sort m_place m_tape = some res) : Met l yX8_is (wS yX8_is cX8_is 2 (some .boolean)) rm_X8_is (va_Pc [.ref (q 0), .int a0] (VB g A (MW g q m_thrown m_n m_robots m_viewed m_rules m_taped m_latest m_size m_at m_sort m_place m_end m_fault m_faultAt m_read m_crowds m_traced m_here m_hand m_view m_up m_down m_ruleSize m_ruleRow m_ruleDoes m_name m_goes m_tape m_readSize m_readRow m_readDoes m_own m_crowd m_isStep m_isOfGoal m_isMet m_most m_stands m_doesHere m_from m_trace))) (va_Qi (fun r (_ : Unit) => r = res ∧ zB r) (fun _ => VB g A (MW g q m_thrown m_n m_robots m_viewed m_rules m_taped m_latest m_size m_at m_sort m_place m_end m_fault m_faultAt m_read m_crowds m_traced m_here m_hand m_view m_up m_down m_ruleSize m_ruleRow m_ruleDoes m_name m_goes m_tape m_readSize m_readRow m_readDoes m_own m_crowd m_isStep m_isOfGoal m_isMet m_most m_stands m_doesHere m_from m_trace)) A) 0 0 A := by
  unfold F_X8_is at h
  refine MetZ (res := res) (own := RX8) (ws' := (MW g q m_thrown m_n m_robots m_viewed m_rules m_taped m_latest m_size m_at m_sort m_place m_end m_fault m_faultAt m_read m_crowds m_traced m_here m_hand m_view m_up m_down m_ruleSize m_ruleRow m_ruleDoes m_name m_goes m_tape m_readSize m_readRow m_readDoes m_own m_crowd m_isStep m_isOfGoal m_isMet m_most m_stands m_doesHere m_from m_trace)) (by decide) rfl (Nat.le_of_ble_eq_true rfl) ?_
  intro p e s m args below meth c Q F E ret ls J hl
  have hx := F.1
  have hb := F.2.1
  have hl : lv_has ls 2 [(0, .ref (q 0)), (1, .int a0)] := hl
  refine lv_aload_n hx hb dX8_is_0 rfl (lv_at hl 0 rfl) ?_
  refine mg_0_20 F E J fl_X8_157 dX8_is_1 ?_
  refine lv_iconst (v := 4) hx hb dX8_is_4 (by decide) ?_
  refine lv_icmp_ne (tgt := 25) hx hb dX8_is_5 (by decide) (fun c1 => ?_) (fun c1 => ?_)
  · have h := itn c1 h
    refine lv_iconst (v := 0) hx hb dX8_is_25 (by decide) ?_
    obtain rfl := Option.some.inj h
    exact ret _ _ _ _ zB0 J dX8_is_26
  · have h := itp c1 h
    refine lv_aload_n hx hb dX8_is_8 rfl (lv_at hl 0 rfl) ?_
    refine mg_0_15 F E J fl_X8_44 dX8_is_9 ?_
    refine lv_aload_n hx hb dX8_is_12 rfl (lv_at hl 0 rfl) ?_
    refine mg_0_21 F E J fl_X8_154 dX8_is_13 ?_
    obtain ⟨hi, h⟩ := gdt h
    refine ml_11 F E J (inbt hi) dX8_is_16 ?_
    refine lv_iload_n hx hb dX8_is_17 rfl (lv_at hl 1 rfl) ?_
    refine lv_icmp_ne (tgt := 25) hx hb dX8_is_18 (by decide) (fun c2 => ?_) (fun c2 => ?_)
    · have h := itn c2 h
      refine lv_iconst (v := 0) hx hb dX8_is_25 (by decide) ?_
      obtain rfl := Option.some.inj h
      exact ret _ _ _ _ zB0 J dX8_is_26
    · have h := itp c2 h
      refine lv_iconst (v := 1) hx hb dX8_is_21 (by decide) ?_
      refine lv_goto (tgt := 26) hx hb dX8_is_22 (by decide) ?_
      obtain rfl := Option.some.inj h
      exact ret _ _ _ _ zB1 J dX8_is_26
set_option maxHeartbeats 4000000 in
set_option maxRecDepth 100000 in
theorem c_X8_word {l : Launch} {g : GG} {A : Nat → Prop} {q : Nat → Nat} {m_thrown m_n m_robots m_viewed m_rules m_taped m_latest m_size m_at m_sort m_place m_end m_fault m_faultAt m_read m_crowds m_traced : Int32} {m_here m_hand m_view m_up m_down m_ruleSize m_ruleRow m_ruleDoes m_name m_goes m_tape m_readSize m_readRow m_readDoes m_own m_crowd m_isStep m_isOfGoal m_isMet m_most m_stands m_doesHere m_from m_trace : Nat → Int32} (res : Int64) (h : F_X8_word m_sort m_place m_end m_tape = some res) : Met l yX8_word (wS yX8_word cX8_word 4 (some .long)) rm_X8_word (va_Pc [.ref (q 0)] (VB g A (MW g q m_thrown m_n m_robots m_viewed m_rules m_taped m_latest m_size m_at m_sort m_place m_end m_fault m_faultAt m_read m_crowds m_traced m_here m_hand m_view m_up m_down m_ruleSize m_ruleRow m_ruleDoes m_name m_goes m_tape m_readSize m_readRow m_readDoes m_own m_crowd m_isStep m_isOfGoal m_isMet m_most m_stands m_doesHere m_from m_trace))) (va_Ql (fun r (_ : Unit) => r = res) (fun _ => VB g A (MW g q m_thrown m_n m_robots m_viewed m_rules m_taped m_latest m_size m_at m_sort m_place m_end m_fault m_faultAt m_read m_crowds m_traced m_here m_hand m_view m_up m_down m_ruleSize m_ruleRow m_ruleDoes m_name m_goes m_tape m_readSize m_readRow m_readDoes m_own m_crowd m_isStep m_isOfGoal m_isMet m_most m_stands m_doesHere m_from m_trace)) A) 0 0 A := by
  unfold F_X8_word at h
  refine MetL (res := res) (own := RX8) (ws' := (MW g q m_thrown m_n m_robots m_viewed m_rules m_taped m_latest m_size m_at m_sort m_place m_end m_fault m_faultAt m_read m_crowds m_traced m_here m_hand m_view m_up m_down m_ruleSize m_ruleRow m_ruleDoes m_name m_goes m_tape m_readSize m_readRow m_readDoes m_own m_crowd m_isStep m_isOfGoal m_isMet m_most m_stands m_doesHere m_from m_trace)) (by decide) rfl (Nat.le_of_ble_eq_true rfl) ?_
  intro p e s m args below meth c Q F E ret ls J hl
  have hx := F.1
  have hb := F.2.1
  have hl : lv_has ls 4 [(0, .ref (q 0))] := hl
  refine lv_lconst (v := 0) hx hb dX8_word_0 (by decide) ?_
  refine lv_lstore_n (lv' := [(1, .long 0), (0, .ref (q 0))]) hx hb dX8_word_1 rfl hl (by decide) rfl (fun ls hl => ?_)
  refine lv_aload_n hx hb dX8_word_2 rfl (lv_at hl 1 rfl) ?_
  refine mg_0_21 F E J fl_X8_154 dX8_word_3 ?_
  refine lv_istore_n (lv' := [(3, .int m_place), (1, .long 0), (0, .ref (q 0))]) hx hb dX8_word_6 rfl hl (by decide) rfl (fun ls hl => ?_)
  obtain ⟨o_L1, ho_L1, h⟩ := ob h
  have T_L1 : ∀ (f : Nat) (l1_L1 : Int64) (l3_L1 : Int32) (o_L1 : Int64), F_X8_word_L1 m_sort m_end m_tape f l1_L1 l3_L1 = some o_L1 → ∀ (H : Heap) (locs : List Loc) (ls : Array Slot), VJ g A s.heap (MW g q m_thrown m_n m_robots m_viewed m_rules m_taped m_latest m_size m_at m_sort m_place m_end m_fault m_faultAt m_read m_crowds m_traced m_here m_hand m_view m_up m_down m_ruleSize m_ruleRow m_ruleDoes m_name m_goes m_tape m_readSize m_readRow m_readDoes m_own m_crowd m_isStep m_isOfGoal m_isMet m_most m_stands m_doesHere m_from m_trace) H locs → lv_has ls 4 [(0, .ref (q 0)), (1, .long l1_L1), (3, .int l3_L1)] → (∀ (H : Heap) (locs : List Loc) (ls : Array Slot), VJ g A s.heap (MW g q m_thrown m_n m_robots m_viewed m_rules m_taped m_latest m_size m_at m_sort m_place m_end m_fault m_faultAt m_read m_crowds m_traced m_here m_hand m_view m_up m_down m_ruleSize m_ruleRow m_ruleDoes m_name m_goes m_tape m_readSize m_readRow m_readDoes m_own m_crowd m_isStep m_isOfGoal m_isMet m_most m_stands m_doesHere m_from m_trace) H locs → lv_has ls 4 [(1, .long o_L1)] → W p l e rm_X8_word s m args below meth c H locs 0 0 Q (F0 m 42 ls [])) → W p l e rm_X8_word s m args below meth c H locs 0 0 Q (F0 m 7 ls []) := by
    clear h ho_L1 hl J
    intro f
    induction f with
    | zero => intro l1_L1 l3_L1 o_L1 h; exact absurd h (by simp [F_X8_word_L1])
    | succ f ih =>
      intro l1_L1 l3_L1 o_L1 h H locs ls J hl K_L1
      rw [F_X8_word_L1.eq_2] at h
      refine lv_iload_n hx hb dX8_word_7 rfl (lv_at hl 2 rfl) ?_
      refine lv_aload_n hx hb dX8_word_8 rfl (lv_at hl 0 rfl) ?_
      refine mg_0_22 F E J fl_X8_166 dX8_word_9 ?_
      refine lv_icmp_ge (tgt := 42) hx hb dX8_word_12 (by decide) (fun c2 => ?_) (fun c2 => ?_)
      · have h := itp c2 h
        obtain rfl := Option.some.inj h
        exact K_L1 _ _ _ J (lv_sub hl [1] rfl)
      · have h := itn c2 h
        refine lv_aload_n hx hb dX8_word_15 rfl (lv_at hl 0 rfl) ?_
        refine mg_0_20 F E J fl_X8_157 dX8_word_16 ?_
        refine lv_iconst (v := 2) hx hb dX8_word_19 (by decide) ?_
        refine lv_icmp_ne (tgt := 42) hx hb dX8_word_20 (by decide) (fun c3 => ?_) (fun c3 => ?_)
        · have h := itn c3 h
          obtain rfl := Option.some.inj h
          exact K_L1 _ _ _ J (lv_sub hl [1] rfl)
        · have h := itp c3 h
          refine lv_lload_n hx hb dX8_word_23 rfl (lv_at hl 1 rfl) ?_
          refine lv_bipush (v := 8) hx hb dX8_word_24 (by decide) ?_
          refine lv_lshl (v := (jlshl l1_L1 8)) hx hb dX8_word_26 rfl ?_
          refine lv_aload_n hx hb dX8_word_27 rfl (lv_at hl 0 rfl) ?_
          refine mg_0_15 F E J fl_X8_44 dX8_word_28 ?_
          refine lv_iload_n hx hb dX8_word_31 rfl (lv_at hl 2 rfl) ?_
          obtain ⟨hi, h⟩ := gdt h
          refine ml_11 F E J (inbt hi) dX8_word_32 ?_
          refine lv_i2l (v := (Int32.toInt64 (m_tape (Int32.toNatClampNeg l3_L1)))) hx hb dX8_word_33 rfl ?_
          refine lv_lor hx hb dX8_word_34 ?_
          obtain ⟨v4, hv4, h⟩ := obs h
          refine nmL hv4 ?_
          refine lv_lstore_n (lv' := [(1, .long v4), (0, .ref (q 0)), (3, .int l3_L1)]) hx hb dX8_word_35 rfl hl (by decide) rfl (fun ls hl => ?_)
          obtain ⟨v5, hv5, h⟩ := obs h
          refine lv_iinc (v := v5) (lv' := [(3, .int v5), (1, .long v4), (0, .ref (q 0))]) hx hb dX8_word_36 hl (k := 2) rfl (by rw [← hv5]; rfl) (by decide) rfl (fun ls hl => ?_)
          refine lv_goto (tgt := 7) hx hb dX8_word_39 (by decide) ?_
          exact ih _ _ _ h _ _ _ J (lv_sub hl [2, 1, 0] rfl) K_L1
  refine T_L1 FU 0 m_place o_L1 ho_L1 _ _ _ J (lv_sub hl [2, 1, 0] rfl) (fun H locs ls J hl => ?_)
  refine lv_lload_n hx hb dX8_word_42 rfl (lv_at hl 0 rfl) ?_
  obtain rfl := Option.some.inj h
  exact ret _ _ _ _ J dX8_word_43
set_option maxHeartbeats 4000000 in
set_option maxRecDepth 100000 in
theorem c_X8_aNumber {l : Launch} {g : GG} {A : Nat → Prop} {q : Nat → Nat} {m_thrown m_n m_robots m_viewed m_rules m_taped m_latest m_size m_at m_sort m_place m_end m_fault m_faultAt m_read m_crowds m_traced : Int32} {m_here m_hand m_view m_up m_down m_ruleSize m_ruleRow m_ruleDoes m_name m_goes m_tape m_readSize m_readRow m_readDoes m_own m_crowd m_isStep m_isOfGoal m_isMet m_most m_stands m_doesHere m_from m_trace : Nat → Int32} (res : Int32 × Int32 × Int32 × Int32 × Int32 × Int32 × Int32) (h : F_X8_aNumber m_size m_at m_sort m_place m_end m_fault m_faultAt m_tape = some res) : Met l yX8_aNumber (wS yX8_aNumber cX8_aNumber 3 (some .int)) rm_X8_aNumber (va_Pc [.ref (q 0)] (VB g A (MW g q m_thrown m_n m_robots m_viewed m_rules m_taped m_latest m_size m_at m_sort m_place m_end m_fault m_faultAt m_read m_crowds m_traced m_here m_hand m_view m_up m_down m_ruleSize m_ruleRow m_ruleDoes m_name m_goes m_tape m_readSize m_readRow m_readDoes m_own m_crowd m_isStep m_isOfGoal m_isMet m_most m_stands m_doesHere m_from m_trace))) (va_Qi (fun r (_ : Unit) => r = res.1) (fun _ => VB g A (MW g q m_thrown m_n m_robots m_viewed m_rules m_taped m_latest m_size res.2.1 res.2.2.1 res.2.2.2.1 res.2.2.2.2.1 res.2.2.2.2.2.1 res.2.2.2.2.2.2 m_read m_crowds m_traced m_here m_hand m_view m_up m_down m_ruleSize m_ruleRow m_ruleDoes m_name m_goes m_tape m_readSize m_readRow m_readDoes m_own m_crowd m_isStep m_isOfGoal m_isMet m_most m_stands m_doesHere m_from m_trace)) A) 0 0 A := by
  unfold F_X8_aNumber at h
  refine MetI (res := res.1) (own := RX8) (ws' := (MW g q m_thrown m_n m_robots m_viewed m_rules m_taped m_latest m_size res.2.1 res.2.2.1 res.2.2.2.1 res.2.2.2.2.1 res.2.2.2.2.2.1 res.2.2.2.2.2.2 m_read m_crowds m_traced m_here m_hand m_view m_up m_down m_ruleSize m_ruleRow m_ruleDoes m_name m_goes m_tape m_readSize m_readRow m_readDoes m_own m_crowd m_isStep m_isOfGoal m_isMet m_most m_stands m_doesHere m_from m_trace)) (by decide) rfl (Nat.le_of_ble_eq_true rfl) ?_
  intro p e s m args below meth c Q F E ret ls J hl
  have hx := F.1
  have hb := F.2.1
  have hl : lv_has ls 3 [(0, .ref (q 0))] := hl
  refine lv_iconst (v := 0) hx hb dX8_aNumber_0 (by decide) ?_
  refine lv_istore_n (lv' := [(1, .int 0), (0, .ref (q 0))]) hx hb dX8_aNumber_1 rfl hl (by decide) rfl (fun ls hl => ?_)
  refine lv_aload_n hx hb dX8_aNumber_2 rfl (lv_at hl 1 rfl) ?_
  refine mg_0_21 F E J fl_X8_154 dX8_aNumber_3 ?_
  refine lv_istore_n (lv' := [(2, .int m_place), (1, .int 0), (0, .ref (q 0))]) hx hb dX8_aNumber_6 rfl hl (by decide) rfl (fun ls hl => ?_)
  obtain ⟨o_L1, ho_L1, h⟩ := ob h
  have T_L1 : ∀ (f : Nat) (l1_L1 : Int32) (l2_L1 : Int32) (o_L1 : Int32), F_X8_aNumber_L1 m_sort m_end m_tape f l1_L1 l2_L1 = some o_L1 → ∀ (H : Heap) (locs : List Loc) (ls : Array Slot), VJ g A s.heap (MW g q m_thrown m_n m_robots m_viewed m_rules m_taped m_latest m_size m_at m_sort m_place m_end m_fault m_faultAt m_read m_crowds m_traced m_here m_hand m_view m_up m_down m_ruleSize m_ruleRow m_ruleDoes m_name m_goes m_tape m_readSize m_readRow m_readDoes m_own m_crowd m_isStep m_isOfGoal m_isMet m_most m_stands m_doesHere m_from m_trace) H locs → lv_has ls 3 [(0, .ref (q 0)), (1, .int l1_L1), (2, .int l2_L1)] → (∀ (H : Heap) (locs : List Loc) (ls : Array Slot), VJ g A s.heap (MW g q m_thrown m_n m_robots m_viewed m_rules m_taped m_latest m_size m_at m_sort m_place m_end m_fault m_faultAt m_read m_crowds m_traced m_here m_hand m_view m_up m_down m_ruleSize m_ruleRow m_ruleDoes m_name m_goes m_tape m_readSize m_readRow m_readDoes m_own m_crowd m_isStep m_isOfGoal m_isMet m_most m_stands m_doesHere m_from m_trace) H locs → lv_has ls 3 [(0, .ref (q 0)), (1, .int o_L1)] → W p l e rm_X8_aNumber s m args below meth c H locs 0 0 Q (F0 m 44 ls [])) → W p l e rm_X8_aNumber s m args below meth c H locs 0 0 Q (F0 m 7 ls []) := by
    clear h ho_L1 hl J
    intro f
    induction f with
    | zero => intro l1_L1 l2_L1 o_L1 h; exact absurd h (by simp [F_X8_aNumber_L1])
    | succ f ih =>
      intro l1_L1 l2_L1 o_L1 h H locs ls J hl K_L1
      rw [F_X8_aNumber_L1.eq_2] at h
      refine lv_iload_n hx hb dX8_aNumber_7 rfl (lv_at hl 2 rfl) ?_
      refine lv_aload_n hx hb dX8_aNumber_8 rfl (lv_at hl 0 rfl) ?_
      refine mg_0_22 F E J fl_X8_166 dX8_aNumber_9 ?_
      refine lv_icmp_ge (tgt := 44) hx hb dX8_aNumber_12 (by decide) (fun c2 => ?_) (fun c2 => ?_)
      · have h := itp c2 h
        obtain rfl := Option.some.inj h
        exact K_L1 _ _ _ J (lv_sub hl [0, 1] rfl)
      · have h := itn c2 h
        refine lv_aload_n hx hb dX8_aNumber_15 rfl (lv_at hl 0 rfl) ?_
        refine mg_0_20 F E J fl_X8_157 dX8_aNumber_16 ?_
        refine lv_iconst (v := 3) hx hb dX8_aNumber_19 (by decide) ?_
        refine lv_icmp_ne (tgt := 44) hx hb dX8_aNumber_20 (by decide) (fun c3 => ?_) (fun c3 => ?_)
        · have h := itn c3 h
          obtain rfl := Option.some.inj h
          exact K_L1 _ _ _ J (lv_sub hl [0, 1] rfl)
        · have h := itp c3 h
          refine lv_bipush (v := 10) hx hb dX8_aNumber_23 (by decide) ?_
          refine lv_iload_n hx hb dX8_aNumber_25 rfl (lv_at hl 1 rfl) ?_
          refine lv_imul hx hb dX8_aNumber_26 ?_
          refine lv_aload_n hx hb dX8_aNumber_27 rfl (lv_at hl 0 rfl) ?_
          refine mg_0_15 F E J fl_X8_44 dX8_aNumber_28 ?_
          refine lv_iload_n hx hb dX8_aNumber_31 rfl (lv_at hl 2 rfl) ?_
          obtain ⟨hi, h⟩ := gdt h
          refine ml_11 F E J (inbt hi) dX8_aNumber_32 ?_
          refine lv_iadd hx hb dX8_aNumber_33 ?_
          refine lv_bipush (v := 48) hx hb dX8_aNumber_34 (by decide) ?_
          refine lv_isub hx hb dX8_aNumber_36 ?_
          obtain ⟨v4, hv4, h⟩ := obs h
          refine nmI hv4 ?_
          refine lv_istore_n (lv' := [(1, .int v4), (0, .ref (q 0)), (2, .int l2_L1)]) hx hb dX8_aNumber_37 rfl hl (by decide) rfl (fun ls hl => ?_)
          obtain ⟨v5, hv5, h⟩ := obs h
          refine lv_iinc (v := v5) (lv' := [(2, .int v5), (1, .int v4), (0, .ref (q 0))]) hx hb dX8_aNumber_38 hl (k := 2) rfl (by rw [← hv5]; rfl) (by decide) rfl (fun ls hl => ?_)
          refine lv_goto (tgt := 7) hx hb dX8_aNumber_41 (by decide) ?_
          exact ih _ _ _ h _ _ _ J (lv_sub hl [2, 1, 0] rfl) K_L1
  refine T_L1 FU 0 m_place o_L1 ho_L1 _ _ _ J (lv_sub hl [2, 1, 0] rfl) (fun H locs ls J hl => ?_)
  refine lv_aload_n hx hb dX8_aNumber_44 rfl (lv_at hl 0 rfl) ?_
  refine mg_0_20 F E J fl_X8_157 dX8_aNumber_45 ?_
  refine lv_iconst (v := 3) hx hb dX8_aNumber_48 (by decide) ?_
  obtain ⟨j6, hj6, h⟩ := ob h
  have Kj6 : ∀ (H : Heap) (locs : List Loc) (ls : Array Slot), VJ g A s.heap (MW g q m_thrown m_n m_robots m_viewed m_rules m_taped m_latest m_size m_at m_sort m_place m_end j6.1 j6.2 m_read m_crowds m_traced m_here m_hand m_view m_up m_down m_ruleSize m_ruleRow m_ruleDoes m_name m_goes m_tape m_readSize m_readRow m_readDoes m_own m_crowd m_isStep m_isOfGoal m_isMet m_most m_stands m_doesHere m_from m_trace) H locs → lv_has ls 3 [(0, .ref (q 0)), (1, .int o_L1)] → W p l e rm_X8_aNumber s m args below meth c H locs 0 0 Q (F0 m 61 ls []) := by
    intro H locs ls J hl
    refine lv_aload_n hx hb dX8_aNumber_61 rfl (lv_at hl 0 rfl) ?_
    refine lv_aload_n hx hb dX8_aNumber_62 rfl (lv_at hl 0 rfl) ?_
    refine mg_0_20 F E J fl_X8_157 dX8_aNumber_63 ?_
    refine lv_iconst (v := 3) hx hb dX8_aNumber_66 (by decide) ?_
    refine lv_icmp_ne (tgt := 74) hx hb dX8_aNumber_67 (by decide) (fun c10 => ?_) (fun c10 => ?_)
    · have h := itn c10 h
      refine lv_iconst (v := 0) hx hb dX8_aNumber_74 (by decide) ?_
      obtain ⟨p11, hp11, h⟩ := ob h
      refine onV (runV (As := [.int 0]) (rest := []) F E J (c_X8_need 0 p11 hp11) cw_X8_182 ⟨rfl, rfl, Nat.le_of_ble_eq_true rfl, Nat.le_of_ble_eq_true rfl⟩ rcM0 rfl hl.1 rfl (Nat.le_of_ble_eq_true rfl) dX8_aNumber_75) J (fun H locs J => ?_)
      refine lv_iload_n hx hb dX8_aNumber_78 rfl (lv_at hl 1 rfl) ?_
      obtain rfl := Option.some.inj h
      exact ret _ _ _ _ J dX8_aNumber_79
    · have h := itp c10 h
      refine lv_iconst (v := 1) hx hb dX8_aNumber_70 (by decide) ?_
      refine lv_goto (tgt := 75) hx hb dX8_aNumber_71 (by decide) ?_
      obtain ⟨p12, hp12, h⟩ := ob h
      refine onV (runV (As := [.int 1]) (rest := []) F E J (c_X8_need 1 p12 hp12) cw_X8_182 ⟨rfl, rfl, Nat.le_of_ble_eq_true rfl, Nat.le_of_ble_eq_true rfl⟩ rcM0 rfl hl.1 rfl (Nat.le_of_ble_eq_true rfl) dX8_aNumber_75) J (fun H locs J => ?_)
      refine lv_iload_n hx hb dX8_aNumber_78 rfl (lv_at hl 1 rfl) ?_
      obtain rfl := Option.some.inj h
      exact ret _ _ _ _ J dX8_aNumber_79
  clear h
  have h := hj6
  refine lv_icmp_ne (tgt := 61) hx hb dX8_aNumber_49 (by decide) (fun c7 => ?_) (fun c7 => ?_)
  · have h := itn c7 h
    obtain rfl := Option.some.inj h
    exact Kj6 _ _ _ J (lv_sub hl [0, 1] rfl)
  · have h := itp c7 h
    refine lv_iload_n hx hb dX8_aNumber_52 rfl (lv_at hl 1 rfl) ?_
    refine lv_if_ne (tgt := 61) hx hb dX8_aNumber_53 (by decide) (fun c8 => ?_) (fun c8 => ?_)
    · have h := itn c8 h
      obtain rfl := Option.some.inj h
      exact Kj6 _ _ _ J (lv_sub hl [0, 1] rfl)
    · have h := itp c8 h
      refine lv_aload_n hx hb dX8_aNumber_56 rfl (lv_at hl 0 rfl) ?_
      refine lv_iconst (v := 2) hx hb dX8_aNumber_57 (by decide) ?_
      obtain ⟨p9, hp9, h⟩ := ob h
      refine onV (runV (As := [.int 2]) (rest := []) F E J (c_X8_bad 2 p9 hp9) cw_X8_175 ⟨rfl, rfl, Nat.le_of_ble_eq_true rfl, Nat.le_of_ble_eq_true rfl⟩ rcM0 rfl hl.1 rfl (Nat.le_of_ble_eq_true rfl) dX8_aNumber_58) J (fun H locs J => ?_)
      obtain rfl := Option.some.inj h
      exact Kj6 _ _ _ J (lv_sub hl [0, 1] rfl)
set_option maxHeartbeats 4000000 in
set_option maxRecDepth 100000 in
theorem c_X8_readPair {l : Launch} {g : GG} {A : Nat → Prop} {q : Nat → Nat} {m_thrown m_n m_robots m_viewed m_rules m_taped m_latest m_size m_at m_sort m_place m_end m_fault m_faultAt m_read m_crowds m_traced : Int32} {m_here m_hand m_view m_up m_down m_ruleSize m_ruleRow m_ruleDoes m_name m_goes m_tape m_readSize m_readRow m_readDoes m_own m_crowd m_isStep m_isOfGoal m_isMet m_most m_stands m_doesHere m_from m_trace : Nat → Int32} (a0 : Int32) (res : Int32 × Int32 × Int32 × Int32 × Int32 × Int32 × (Nat → Int32)) (h : F_X8_readPair a0 m_size m_at m_sort m_place m_end m_fault m_faultAt m_tape m_own = some res) : Met l yX8_readPair (wS yX8_readPair cX8_readPair 4 none) rm_X8_readPair (va_Pc [.ref (q 0), .int a0] (VB g A (MW g q m_thrown m_n m_robots m_viewed m_rules m_taped m_latest m_size m_at m_sort m_place m_end m_fault m_faultAt m_read m_crowds m_traced m_here m_hand m_view m_up m_down m_ruleSize m_ruleRow m_ruleDoes m_name m_goes m_tape m_readSize m_readRow m_readDoes m_own m_crowd m_isStep m_isOfGoal m_isMet m_most m_stands m_doesHere m_from m_trace))) (va_Qv (fun (_ : Unit) => True) (fun _ => VB g A (MW g q m_thrown m_n m_robots m_viewed m_rules m_taped m_latest m_size res.1 res.2.1 res.2.2.1 res.2.2.2.1 res.2.2.2.2.1 res.2.2.2.2.2.1 m_read m_crowds m_traced m_here m_hand m_view m_up m_down m_ruleSize m_ruleRow m_ruleDoes m_name m_goes m_tape m_readSize m_readRow m_readDoes res.2.2.2.2.2.2 m_crowd m_isStep m_isOfGoal m_isMet m_most m_stands m_doesHere m_from m_trace)) A) 0 0 A := by
  unfold F_X8_readPair at h
  refine MetV (own := RX8) (ws' := (MW g q m_thrown m_n m_robots m_viewed m_rules m_taped m_latest m_size res.1 res.2.1 res.2.2.1 res.2.2.2.1 res.2.2.2.2.1 res.2.2.2.2.2.1 m_read m_crowds m_traced m_here m_hand m_view m_up m_down m_ruleSize m_ruleRow m_ruleDoes m_name m_goes m_tape m_readSize m_readRow m_readDoes res.2.2.2.2.2.2 m_crowd m_isStep m_isOfGoal m_isMet m_most m_stands m_doesHere m_from m_trace)) (by decide) rfl (Nat.le_of_ble_eq_true rfl) ?_
  intro p e s m args below meth c Q F E ret ls J hl
  have hx := F.1
  have hb := F.2.1
  have hl : lv_has ls 4 [(0, .ref (q 0)), (1, .int a0)] := hl
  refine lv_aload_n hx hb dX8_readPair_0 rfl (lv_at hl 0 rfl) ?_
  obtain ⟨p1, hp1, h⟩ := ob h
  refine onI (runV (As := []) (rest := []) F E J (c_X8_aNumber  p1 hp1) cw_X8_186 ⟨rfl, rfl, Nat.le_of_ble_eq_true rfl, Nat.le_of_ble_eq_true rfl⟩ rcM0 rfl hl.1 rfl (Nat.le_of_ble_eq_true rfl) dX8_readPair_1) J (fun H locs J => ?_)
  refine lv_istore_n (lv' := [(2, .int p1.1), (0, .ref (q 0)), (1, .int a0)]) hx hb dX8_readPair_4 rfl hl (by decide) rfl (fun ls hl => ?_)
  refine lv_aload_n hx hb dX8_readPair_5 rfl (lv_at hl 1 rfl) ?_
  obtain ⟨p2, hp2, h⟩ := ob h
  refine onI (runV (As := []) (rest := []) F E J (c_X8_aNumber  p2 hp2) cw_X8_186 ⟨rfl, rfl, Nat.le_of_ble_eq_true rfl, Nat.le_of_ble_eq_true rfl⟩ rcM0 rfl hl.1 rfl (Nat.le_of_ble_eq_true rfl) dX8_readPair_6) J (fun H locs J => ?_)
  refine lv_istore_n (lv' := [(3, .int p2.1), (2, .int p1.1), (0, .ref (q 0)), (1, .int a0)]) hx hb dX8_readPair_9 rfl hl (by decide) rfl (fun ls hl => ?_)
  refine lv_aload_n hx hb dX8_readPair_10 rfl (lv_at hl 2 rfl) ?_
  refine mg_0_29 F E J fl_X8_56 dX8_readPair_11 ?_
  refine lv_iconst (v := 2) hx hb dX8_readPair_14 (by decide) ?_
  refine lv_iload_n hx hb dX8_readPair_15 rfl (lv_at hl 3 rfl) ?_
  refine lv_imul hx hb dX8_readPair_16 ?_
  refine lv_iload_n hx hb dX8_readPair_17 rfl (lv_at hl 1 rfl) ?_
  obtain ⟨hi, h⟩ := gdt h
  refine ms_15 F E J (inbt hi) dX8_readPair_18 (fun H locs J => ?_)
  refine lv_aload_n hx hb dX8_readPair_19 rfl (lv_at hl 2 rfl) ?_
  refine mg_0_29 F E J fl_X8_56 dX8_readPair_20 ?_
  refine lv_iconst (v := 2) hx hb dX8_readPair_23 (by decide) ?_
  refine lv_iload_n hx hb dX8_readPair_24 rfl (lv_at hl 3 rfl) ?_
  refine lv_imul hx hb dX8_readPair_25 ?_
  refine lv_iconst (v := 1) hx hb dX8_readPair_26 (by decide) ?_
  refine lv_iadd hx hb dX8_readPair_27 ?_
  refine lv_iload_n hx hb dX8_readPair_28 rfl (lv_at hl 0 rfl) ?_
  obtain ⟨hi, h⟩ := gdt h
  refine ms_15 F E J (inbt hi) dX8_readPair_29 (fun H locs J => ?_)
  obtain rfl := Option.some.inj h
  exact ret _ _ _ _ J dX8_readPair_30
