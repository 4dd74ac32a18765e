set_option maxHeartbeats 4000000 in
set_option maxRecDepth 100000 in
theorem c_X8_starts {l : Launch} {g : GG} {A : Nat → Prop} {q : Nat → Nat} {m_thrown m_n m_robots m_viewed m_rules m_taped m_latest m_size m_at m_sort m_place m_end m_fault m_faultAt m_read m_crowds m_traced : Int32} {m_here m_hand m_view m_up m_down m_ruleSize m_ruleRow m_ruleDoes m_name m_goes m_tape m_readSize m_readRow m_readDoes m_own m_crowd m_isStep m_isOfGoal m_isMet m_most m_stands m_doesHere m_from m_trace : Nat → Int32} (a0 : Int32) (a1 : Int32) (a2 : Int32) (res : Int32 × Int32 × Int32 × Int32 × (Nat → Int32) × (Nat → Int32) × (Nat → Int32) × (Nat → Int32) × (Nat → Int32) × (Nat → Int32) × (Nat → Int32) × (Nat → Int32) × (Nat → Int32) × (Nat → Int32) × (Nat → Int32) × (Nat → Int32)) (h : F_X8_starts a0 a1 a2 m_n m_robots m_viewed m_rules m_crowds m_hand m_view m_up m_down m_ruleSize m_ruleRow m_ruleDoes m_name m_crowd m_isStep m_isOfGoal m_most m_stands m_doesHere m_from = some res) : Met l yX8_starts (wS yX8_starts cX8_starts 6 (some .int)) rm_X8_starts (va_Pc [.ref (q 0), .int a0, .int a1, .int a2] (VB g A (MW g q m_thrown m_n m_robots m_viewed m_rules m_taped m_latest m_size m_at m_sort m_place m_end m_fault m_faultAt m_read m_crowds m_traced m_here m_hand m_view m_up m_down m_ruleSize m_ruleRow m_ruleDoes m_name m_goes m_tape m_readSize m_readRow m_readDoes m_own m_crowd m_isStep m_isOfGoal m_isMet m_most m_stands m_doesHere m_from m_trace))) (va_Qi (fun r (_ : Unit) => r = res.1) (fun _ => VB g A (MW g q res.2.1 m_n m_robots res.2.2.1 m_rules m_taped m_latest m_size m_at m_sort m_place m_end m_fault m_faultAt m_read res.2.2.2.1 m_traced m_here res.2.2.2.2.1 res.2.2.2.2.2.1 res.2.2.2.2.2.2.1 res.2.2.2.2.2.2.2.1 m_ruleSize m_ruleRow m_ruleDoes res.2.2.2.2.2.2.2.2.1 m_goes m_tape m_readSize m_readRow m_readDoes m_own res.2.2.2.2.2.2.2.2.2.1 res.2.2.2.2.2.2.2.2.2.2.1 res.2.2.2.2.2.2.2.2.2.2.2.1 m_isMet res.2.2.2.2.2.2.2.2.2.2.2.2.1 res.2.2.2.2.2.2.2.2.2.2.2.2.2.1 res.2.2.2.2.2.2.2.2.2.2.2.2.2.2.1 res.2.2.2.2.2.2.2.2.2.2.2.2.2.2.2 m_trace)) A) 0 0 A := by
  unfold F_X8_starts at h
  refine MetI (res := res.1) (own := RX8) (ws' := (MW g q res.2.1 m_n m_robots res.2.2.1 m_rules m_taped m_latest m_size m_at m_sort m_place m_end m_fault m_faultAt m_read res.2.2.2.1 m_traced m_here res.2.2.2.2.1 res.2.2.2.2.2.1 res.2.2.2.2.2.2.1 res.2.2.2.2.2.2.2.1 m_ruleSize m_ruleRow m_ruleDoes res.2.2.2.2.2.2.2.2.1 m_goes m_tape m_readSize m_readRow m_readDoes m_own res.2.2.2.2.2.2.2.2.2.1 res.2.2.2.2.2.2.2.2.2.2.1 res.2.2.2.2.2.2.2.2.2.2.2.1 m_isMet res.2.2.2.2.2.2.2.2.2.2.2.2.1 res.2.2.2.2.2.2.2.2.2.2.2.2.2.1 res.2.2.2.2.2.2.2.2.2.2.2.2.2.2.1 res.2.2.2.2.2.2.2.2.2.2.2.2.2.2.2 m_trace)) (by decide) rfl (Nat.le_of_ble_eq_true rfl) ?_
  intro p e s m args below meth c Q F E ret ls J hl
  have hx := F.1
  have hb := F.2.1
  have hl : lv_has ls 6 [(0, .ref (q 0)), (1, .int a0), (2, .int a1), (3, .int a2)] := hl
  refine lv_aload_n hx hb dX8_starts_0 rfl (lv_at hl 0 rfl) ?_
  refine lv_iconst (v := 0) hx hb dX8_starts_1 (by decide) ?_
  refine mp_0_0 F E J fl_X8_1 dX8_starts_2 (fun H locs J => ?_)
  refine lv_iload_n hx hb dX8_starts_5 rfl (lv_at hl 1 rfl) ?_
  refine lv_i2l (v := (Int32.toInt64 a0)) hx hb dX8_starts_6 rfl ?_
  refine lv_lconst (v := 0) hx hb dX8_starts_7 (by decide) ?_
  refine lv_ldc2 hx hb F.2.2.2.1 (F.2.2.2.2 _ kc_X8_131) dX8_starts_8 ?_
  obtain ⟨p1, hp1, h⟩ := ob h
  refine onZ (runS (As := [.long (Int32.toInt64 a0), .long 0, .long 2]) (rest := []) F E J (c_X8_in (Int32.toInt64 a0) 0 2 p1 hp1) cw_X8_90 ⟨rfl, rfl, Nat.le_of_ble_eq_true rfl, Nat.le_of_ble_eq_true rfl⟩ rfl hl.1 rfl (Nat.le_of_ble_eq_true rfl) dX8_starts_11) J (fun hzbp1 H locs J => ?_)
  refine lv_if_eq (tgt := 39) hx hb dX8_starts_14 (by decide) (fun c2 => ?_) (fun c2 => ?_)
  · have h := itp c2 h
    refine lv_ldc hx hb F.2.2.2.1 (F.2.2.2.2 _ kc_X8_98) dX8_starts_39 ?_
    obtain rfl := Option.some.inj h
    exact ret _ _ _ _ J dX8_starts_41
  · have h := itn c2 h
    refine lv_iload_n hx hb dX8_starts_17 rfl (lv_at hl 2 rfl) ?_
    refine lv_i2l (v := (Int32.toInt64 a1)) hx hb dX8_starts_18 rfl ?_
    refine lv_lconst (v := 0) hx hb dX8_starts_19 (by decide) ?_
    refine lv_ldc2 hx hb F.2.2.2.1 (F.2.2.2.2 _ kc_X8_131) dX8_starts_20 ?_
    obtain ⟨p3, hp3, h⟩ := ob h
    refine onZ (runS (As := [.long (Int32.toInt64 a1), .long 0, .long 2]) (rest := []) F E J (c_X8_in (Int32.toInt64 a1) 0 2 p3 hp3) cw_X8_90 ⟨rfl, rfl, Nat.le_of_ble_eq_true rfl, Nat.le_of_ble_eq_true rfl⟩ rfl hl.1 rfl (Nat.le_of_ble_eq_true rfl) dX8_starts_23) J (fun hzbp3 H locs J => ?_)
    refine lv_if_eq (tgt := 39) hx hb dX8_starts_26 (by decide) (fun c4 => ?_) (fun c4 => ?_)
    · have h := itp c4 h
      refine lv_ldc hx hb F.2.2.2.1 (F.2.2.2.2 _ kc_X8_98) dX8_starts_39 ?_
      obtain rfl := Option.some.inj h
      exact ret _ _ _ _ J dX8_starts_41
    · have h := itn c4 h
      refine lv_iload_n hx hb dX8_starts_29 rfl (lv_at hl 3 rfl) ?_
      refine lv_i2l (v := (Int32.toInt64 a2)) hx hb dX8_starts_30 rfl ?_
      refine lv_lconst (v := 0) hx hb dX8_starts_31 (by decide) ?_
      refine lv_lconst (v := 1) hx hb dX8_starts_32 (by decide) ?_
      obtain ⟨p5, hp5, h⟩ := ob h
      refine onZ (runS (As := [.long (Int32.toInt64 a2), .long 0, .long 1]) (rest := []) F E J (c_X8_in (Int32.toInt64 a2) 0 1 p5 hp5) cw_X8_90 ⟨rfl, rfl, Nat.le_of_ble_eq_true rfl, Nat.le_of_ble_eq_true rfl⟩ rfl hl.1 rfl (Nat.le_of_ble_eq_true rfl) dX8_starts_33) J (fun hzbp5 H locs J => ?_)
      refine lv_if_ne (tgt := 42) hx hb dX8_starts_36 (by decide) (fun c6 => ?_) (fun c6 => ?_)
      · have h := itn c6 h
        refine lv_aload_n hx hb dX8_starts_42 rfl (lv_at hl 0 rfl) ?_
        refine mg_0_2 F E J fl_X8_99 dX8_starts_43 ?_
        refine lv_if_ne (tgt := 52) hx hb dX8_starts_46 (by decide) (fun c7 => ?_) (fun c7 => ?_)
        · have h := itn c7 h
          refine lv_aload_n hx hb dX8_starts_52 rfl (lv_at hl 0 rfl) ?_
          refine lv_iload_n hx hb dX8_starts_53 rfl (lv_at hl 1 rfl) ?_
          refine lv_iload_n hx hb dX8_starts_54 rfl (lv_at hl 2 rfl) ?_
          obtain ⟨p8, hp8, h⟩ := ob h
          refine onV (runV (As := [.int a0, .int a1]) (rest := []) F E J (c_X8_prove a0 a1 p8 hp8) cw_X8_236 ⟨rfl, rfl, Nat.le_of_ble_eq_true rfl, Nat.le_of_ble_eq_true rfl⟩ rcM0 rfl hl.1 rfl (Nat.le_of_ble_eq_true rfl) dX8_starts_55) J (fun H locs J => ?_)
          refine lv_iconst (v := 0) hx hb dX8_starts_58 (by decide) ?_
          refine lv_istore (lv' := [(4, .int 0), (0, .ref (q 0)), (1, .int a0), (2, .int a1), (3, .int a2)]) hx hb dX8_starts_59 hl (by decide) rfl (fun ls hl => ?_)
          refine lv_iconst (v := 0) hx hb dX8_starts_61 (by decide) ?_
          refine lv_istore (lv' := [(5, .int 0), (4, .int 0), (0, .ref (q 0)), (1, .int a0), (2, .int a1), (3, .int a2)]) hx hb dX8_starts_62 hl (by decide) rfl (fun ls hl => ?_)
          obtain ⟨o_L9, ho_L9, h⟩ := ob h
          have T_L9 : ∀ (f : Nat) (l4_L9 : Int32) (l5_L9 : Int32) (o_L9 : Int32), F_X8_starts_L9 p8.2.1 p8.2.2.2.2.2.2.2.2.2.2.1 f l4_L9 l5_L9 = some o_L9 → ∀ (H : Heap) (locs : List Loc) (ls : Array Slot), VJ g A s.heap (MW g q 0 m_n m_robots p8.1 m_rules m_taped m_latest m_size m_at m_sort m_place m_end m_fault m_faultAt m_read p8.2.1 m_traced m_here p8.2.2.1 p8.2.2.2.1 p8.2.2.2.2.1 p8.2.2.2.2.2.1 m_ruleSize m_ruleRow m_ruleDoes p8.2.2.2.2.2.2.1 m_goes m_tape m_readSize m_readRow m_readDoes m_own p8.2.2.2.2.2.2.2.1 p8.2.2.2.2.2.2.2.2.1 p8.2.2.2.2.2.2.2.2.2.1 m_isMet p8.2.2.2.2.2.2.2.2.2.2.1 p8.2.2.2.2.2.2.2.2.2.2.2.1 p8.2.2.2.2.2.2.2.2.2.2.2.2.1 p8.2.2.2.2.2.2.2.2.2.2.2.2.2 m_trace) H locs → lv_has ls 6 [(0, .ref (q 0)), (3, .int a2), (4, .int l4_L9), (5, .int l5_L9)] → (∀ (H : Heap) (locs : List Loc) (ls : Array Slot), VJ g A s.heap (MW g q 0 m_n m_robots p8.1 m_rules m_taped m_latest m_size m_at m_sort m_place m_end m_fault m_faultAt m_read p8.2.1 m_traced m_here p8.2.2.1 p8.2.2.2.1 p8.2.2.2.2.1 p8.2.2.2.2.2.1 m_ruleSize m_ruleRow m_ruleDoes p8.2.2.2.2.2.2.1 m_goes m_tape m_readSize m_readRow m_readDoes m_own p8.2.2.2.2.2.2.2.1 p8.2.2.2.2.2.2.2.2.1 p8.2.2.2.2.2.2.2.2.2.1 m_isMet p8.2.2.2.2.2.2.2.2.2.2.1 p8.2.2.2.2.2.2.2.2.2.2.2.1 p8.2.2.2.2.2.2.2.2.2.2.2.2.1 p8.2.2.2.2.2.2.2.2.2.2.2.2.2 m_trace) H locs → lv_has ls 6 [(0, .ref (q 0)), (3, .int a2), (4, .int o_L9)] → W p l e rm_X8_starts s m args below meth c H locs 0 0 Q (F0 m 101 ls [])) → W p l e rm_X8_starts s m args below meth c H locs 0 0 Q (F0 m 64 ls []) := by
            clear h ho_L9 hl J
            intro f
            induction f with
            | zero => intro l4_L9 l5_L9 o_L9 h; exact absurd h (by simp [F_X8_starts_L9])
            | succ f ih =>
              intro l4_L9 l5_L9 o_L9 h H locs ls J hl K_L9
              rw [F_X8_starts_L9.eq_2] at h
              refine lv_iload hx hb dX8_starts_64 (lv_at hl 3 rfl) ?_
              refine lv_aload_n hx hb dX8_starts_66 rfl (lv_at hl 0 rfl) ?_
              refine mg_0_30 F E J fl_X8_221 dX8_starts_67 ?_
              refine lv_icmp_ge (tgt := 101) hx hb dX8_starts_70 (by decide) (fun c10 => ?_) (fun c10 => ?_)
              · have h := itp c10 h
                obtain rfl := Option.some.inj h
                exact K_L9 _ _ _ J (lv_sub hl [0, 1, 2] rfl)
              · have h := itn c10 h
                refine lv_iload hx hb dX8_starts_73 (lv_at hl 2 rfl) ?_
                refine lv_aload_n hx hb dX8_starts_75 rfl (lv_at hl 0 rfl) ?_
                refine mg_0_35 F E J fl_X8_72 dX8_starts_76 ?_
                refine lv_iload hx hb dX8_starts_79 (lv_at hl 3 rfl) ?_
                obtain ⟨hi, h⟩ := gdt h
                refine ml_20 F E J (inbt hi) dX8_starts_81 ?_
                refine lv_ldc hx hb F.2.2.2.1 (F.2.2.2.2 _ kc_X8_110) dX8_starts_82 ?_
                obtain ⟨j11, hj11, h⟩ := ob h
                have Kj11 : ∀ (H : Heap) (locs : List Loc) (ls : Array Slot), VJ g A s.heap (MW g q 0 m_n m_robots p8.1 m_rules m_taped m_latest m_size m_at m_sort m_place m_end m_fault m_faultAt m_read p8.2.1 m_traced m_here p8.2.2.1 p8.2.2.2.1 p8.2.2.2.2.1 p8.2.2.2.2.2.1 m_ruleSize m_ruleRow m_ruleDoes p8.2.2.2.2.2.2.1 m_goes m_tape m_readSize m_readRow m_readDoes m_own p8.2.2.2.2.2.2.2.1 p8.2.2.2.2.2.2.2.2.1 p8.2.2.2.2.2.2.2.2.2.1 m_isMet p8.2.2.2.2.2.2.2.2.2.2.1 p8.2.2.2.2.2.2.2.2.2.2.2.1 p8.2.2.2.2.2.2.2.2.2.2.2.2.1 p8.2.2.2.2.2.2.2.2.2.2.2.2.2 m_trace) H locs → lv_has ls 6 [(0, .ref (q 0)), (3, .int a2), (5, .int l5_L9)] → W p l e rm_X8_starts s m args below meth c H locs 0 0 Q (F0 m 92 ls [.int j11, .int l4_L9]) := by
                  intro H locs ls J hl
                  refine lv_iadd hx hb dX8_starts_92 ?_
                  obtain ⟨v13, hv13, h⟩ := obs h
                  refine nmI hv13 ?_
                  refine lv_istore (lv' := [(4, .int v13), (0, .ref (q 0)), (3, .int a2), (5, .int l5_L9)]) hx hb dX8_starts_93 hl (by decide) rfl (fun ls hl => ?_)
                  obtain ⟨v14, hv14, h⟩ := obs h
                  refine lv_iinc (v := v14) (lv' := [(5, .int v14), (4, .int v13), (0, .ref (q 0)), (3, .int a2)]) hx hb dX8_starts_95 hl (k := 3) rfl (by rw [← hv14]; rfl) (by decide) rfl (fun ls hl => ?_)
                  refine lv_goto (tgt := 64) hx hb dX8_starts_98 (by decide) ?_
                  exact ih _ _ _ h _ _ _ J (lv_sub hl [2, 3, 1, 0] rfl) K_L9
                clear h
                have h := hj11
                refine lv_icmp_eq (tgt := 91) hx hb dX8_starts_84 (by decide) (fun c12 => ?_) (fun c12 => ?_)
                · have h := itp c12 h
                  refine lv_iconst (v := 0) hx hb dX8_starts_91 (by decide) ?_
                  obtain rfl := Option.some.inj h
                  exact Kj11 _ _ _ J (lv_sub hl [0, 1, 3] rfl)
                · have h := itn c12 h
                  refine lv_iconst (v := 1) hx hb dX8_starts_87 (by decide) ?_
                  refine lv_goto (tgt := 92) hx hb dX8_starts_88 (by decide) ?_
                  obtain rfl := Option.some.inj h
                  exact Kj11 _ _ _ J (lv_sub hl [0, 1, 3] rfl)
          refine T_L9 FU 0 0 o_L9 ho_L9 _ _ _ J (lv_sub hl [2, 5, 1, 0] rfl) (fun H locs ls J hl => ?_)
          refine lv_iload_n hx hb dX8_starts_101 rfl (lv_at hl 1 rfl) ?_
          refine lv_if_ne (tgt := 112) hx hb dX8_starts_102 (by decide) (fun c15 => ?_) (fun c15 => ?_)
          · have h := itn c15 h
            refine lv_iload hx hb dX8_starts_112 (lv_at hl 2 rfl) ?_
            obtain rfl := Option.some.inj h
            exact ret _ _ _ _ J dX8_starts_114
          · have h := itp c15 h
            refine lv_aload_n hx hb dX8_starts_105 rfl (lv_at hl 0 rfl) ?_
            refine mg_0_30 F E J fl_X8_221 dX8_starts_106 ?_
            refine lv_goto (tgt := 114) hx hb dX8_starts_109 (by decide) ?_
            obtain rfl := Option.some.inj h
            exact ret _ _ _ _ J dX8_starts_114
        · have h := itp c7 h
          refine lv_ldc hx hb F.2.2.2.1 (F.2.2.2.2 _ kc_X8_137) dX8_starts_49 ?_
          obtain rfl := Option.some.inj h
          exact ret _ _ _ _ J dX8_starts_51
      · have h := itp c6 h
        refine lv_ldc hx hb F.2.2.2.1 (F.2.2.2.2 _ kc_X8_98) dX8_starts_39 ?_
        obtain rfl := Option.some.inj h
        exact ret _ _ _ _ J dX8_starts_41
set_option maxHeartbeats 4000000 in
set_option maxRecDepth 100000 in
theorem c_X8_kindNow {l : Launch} {g : GG} {A : Nat → Prop} {q : Nat → Nat} {m_thrown m_n m_robots m_viewed m_rules m_taped m_latest m_size m_at m_sort m_place m_end m_fault m_faultAt m_read m_crowds m_traced : Int32} {m_here m_hand m_view m_up m_down m_ruleSize m_ruleRow m_ruleDoes m_name m_goes m_tape m_readSize m_readRow m_readDoes m_own m_crowd m_isStep m_isOfGoal m_isMet m_most m_stands m_doesHere m_from m_trace : Nat → Int32} (res : Int32 × (Nat → Int32)) (h : F_X8_kindNow m_n m_here m_hand = some res) : Met l yX8_kindNow (wS yX8_kindNow cX8_kindNow 1 (some .int)) rm_X8_kindNow (va_Pc [.ref (q 0)] (VB g A (MW g q m_thrown m_n m_robots m_viewed m_rules m_taped m_latest m_size m_at m_sort m_place m_end m_fault m_faultAt m_read m_crowds m_traced m_here m_hand m_view m_up m_down m_ruleSize m_ruleRow m_ruleDoes m_name m_goes m_tape m_readSize m_readRow m_readDoes m_own m_crowd m_isStep m_isOfGoal m_isMet m_most m_stands m_doesHere m_from m_trace))) (va_Qi (fun r (_ : Unit) => r = res.1) (fun _ => VB g A (MW g q m_thrown m_n m_robots m_viewed m_rules m_taped m_latest m_size m_at m_sort m_place m_end m_fault m_faultAt m_read m_crowds m_traced m_here res.2 m_view m_up m_down m_ruleSize m_ruleRow m_ruleDoes m_name m_goes m_tape m_readSize m_readRow m_readDoes m_own m_crowd m_isStep m_isOfGoal m_isMet m_most m_stands m_doesHere m_from m_trace)) A) 0 0 A := by
  unfold F_X8_kindNow at h
  refine MetI (res := res.1) (own := RX8) (ws' := (MW g q m_thrown m_n m_robots m_viewed m_rules m_taped m_latest m_size m_at m_sort m_place m_end m_fault m_faultAt m_read m_crowds m_traced m_here res.2 m_view m_up m_down m_ruleSize m_ruleRow m_ruleDoes m_name m_goes m_tape m_readSize m_readRow m_readDoes m_own m_crowd m_isStep m_isOfGoal m_isMet m_most m_stands m_doesHere m_from m_trace)) (by decide) rfl (Nat.le_of_ble_eq_true rfl) ?_
  intro p e s m args below meth c Q F E ret ls J hl
  have hx := F.1
  have hb := F.2.1
  have hl : lv_has ls 1 [(0, .ref (q 0))] := hl
  refine lv_aload_n hx hb dX8_kindNow_0 rfl (lv_at hl 0 rfl) ?_
  obtain ⟨p1, hp1, h⟩ := ob h
  refine onV (runV (As := []) (rest := []) F E J (c_X8_take  p1 hp1) cw_X8_111 ⟨rfl, rfl, Nat.le_of_ble_eq_true rfl, Nat.le_of_ble_eq_true rfl⟩ rcM0 rfl hl.1 rfl (Nat.le_of_ble_eq_true rfl) dX8_kindNow_1) J (fun H locs J => ?_)
  refine lv_aload_n hx hb dX8_kindNow_4 rfl (lv_at hl 0 rfl) ?_
  refine lv_iconst (v := 0) hx hb dX8_kindNow_5 (by decide) ?_
  obtain ⟨p2, hp2, h⟩ := ob h
  refine onI (runV (As := [.int 0]) (rest := []) F E J (c_X8_same 0 p2 hp2) cw_X8_239 ⟨rfl, rfl, Nat.le_of_ble_eq_true rfl, Nat.le_of_ble_eq_true rfl⟩ rcM0 rfl hl.1 rfl (Nat.le_of_ble_eq_true rfl) dX8_kindNow_6) J (fun H locs J => ?_)
  refine lv_iconst (v := 1) hx hb dX8_kindNow_9 (by decide) ?_
  refine lv_icmp_le (tgt := 17) hx hb dX8_kindNow_10 (by decide) (fun c3 => ?_) (fun c3 => ?_)
  · have h := itp c3 h
    refine lv_aload_n hx hb dX8_kindNow_17 rfl (lv_at hl 0 rfl) ?_
    refine lv_iconst (v := 1) hx hb dX8_kindNow_18 (by decide) ?_
    obtain ⟨p4, hp4, h⟩ := ob h
    refine onI (runV (As := [.int 1]) (rest := []) F E J (c_X8_same 1 p4 hp4) cw_X8_239 ⟨rfl, rfl, Nat.le_of_ble_eq_true rfl, Nat.le_of_ble_eq_true rfl⟩ rcM0 rfl hl.1 rfl (Nat.le_of_ble_eq_true rfl) dX8_kindNow_19) J (fun H locs J => ?_)
    refine lv_if_le (tgt := 29) hx hb dX8_kindNow_22 (by decide) (fun c5 => ?_) (fun c5 => ?_)
    · have h := itp c5 h
      refine lv_iconst (v := 3) hx hb dX8_kindNow_29 (by decide) ?_
      obtain rfl := Option.some.inj h
      exact ret _ _ _ _ J dX8_kindNow_30
    · have h := itn c5 h
      refine lv_iconst (v := 1) hx hb dX8_kindNow_25 (by decide) ?_
      refine lv_goto (tgt := 30) hx hb dX8_kindNow_26 (by decide) ?_
      obtain rfl := Option.some.inj h
      exact ret _ _ _ _ J dX8_kindNow_30
  · have h := itn c3 h
    refine lv_iconst (v := 2) hx hb dX8_kindNow_13 (by decide) ?_
    refine lv_goto (tgt := 30) hx hb dX8_kindNow_14 (by decide) ?_
    obtain rfl := Option.some.inj h
    exact ret _ _ _ _ J dX8_kindNow_30
set_option maxHeartbeats 4000000 in
set_option maxRecDepth 100000 in
theorem c_X8_kind {l : Launch} {g : GG} {A : Nat → Prop} {q : Nat → Nat} {m_thrown m_n m_robots m_viewed m_rules m_taped m_latest m_size m_at m_sort m_place m_end m_fault m_faultAt m_read m_crowds m_traced : Int32} {m_here m_hand m_view m_up m_down m_ruleSize m_ruleRow m_ruleDoes m_name m_goes m_tape m_readSize m_readRow m_readDoes m_own m_crowd m_isStep m_isOfGoal m_isMet m_most m_stands m_doesHere m_from m_trace : Nat → Int32} (res : Int32 × Int32 × (Nat → Int32)) (h : F_X8_kind m_n m_robots m_here m_hand = some res) : Met l yX8_kind (wS yX8_kind cX8_kind 1 (some .int)) rm_X8_kind (va_Pc [.ref (q 0)] (VB g A (MW g q m_thrown m_n m_robots m_viewed m_rules m_taped m_latest m_size m_at m_sort m_place m_end m_fault m_faultAt m_read m_crowds m_traced m_here m_hand m_view m_up m_down m_ruleSize m_ruleRow m_ruleDoes m_name m_goes m_tape m_readSize m_readRow m_readDoes m_own m_crowd m_isStep m_isOfGoal m_isMet m_most m_stands m_doesHere m_from m_trace))) (va_Qi (fun r (_ : Unit) => r = res.1) (fun _ => VB g A (MW g q res.2.1 m_n m_robots m_viewed m_rules m_taped m_latest m_size m_at m_sort m_place m_end m_fault m_faultAt m_read m_crowds m_traced m_here res.2.2 m_view m_up m_down m_ruleSize m_ruleRow m_ruleDoes m_name m_goes m_tape m_readSize m_readRow m_readDoes m_own m_crowd m_isStep m_isOfGoal m_isMet m_most m_stands m_doesHere m_from m_trace)) A) 0 0 A := by
  unfold F_X8_kind at h
  refine MetI (res := res.1) (own := RX8) (ws' := (MW g q res.2.1 m_n m_robots m_viewed m_rules m_taped m_latest m_size m_at m_sort m_place m_end m_fault m_faultAt m_read m_crowds m_traced m_here res.2.2 m_view m_up m_down m_ruleSize m_ruleRow m_ruleDoes m_name m_goes m_tape m_readSize m_readRow m_readDoes m_own m_crowd m_isStep m_isOfGoal m_isMet m_most m_stands m_doesHere m_from m_trace)) (by decide) rfl (Nat.le_of_ble_eq_true rfl) ?_
  intro p e s m args below meth c Q F E ret ls J hl
  have hx := F.1
  have hb := F.2.1
  have hl : lv_has ls 1 [(0, .ref (q 0))] := hl
  refine lv_aload_n hx hb dX8_kind_0 rfl (lv_at hl 0 rfl) ?_
  refine lv_iconst (v := 0) hx hb dX8_kind_1 (by decide) ?_
  refine mp_0_0 F E J fl_X8_1 dX8_kind_2 (fun H locs J => ?_)
  refine lv_aload_n hx hb dX8_kind_5 rfl (lv_at hl 0 rfl) ?_
  refine mg_0_2 F E J fl_X8_99 dX8_kind_6 ?_
  refine lv_if_ne (tgt := 17) hx hb dX8_kind_9 (by decide) (fun c1 => ?_) (fun c1 => ?_)
  · have h := itn c1 h
    refine lv_aload_n hx hb dX8_kind_17 rfl (lv_at hl 0 rfl) ?_
    obtain ⟨p2, hp2, h⟩ := ob h
    refine onI (runV (As := []) (rest := []) F E J (c_X8_kindNow  p2 hp2) cw_X8_242 ⟨rfl, rfl, Nat.le_of_ble_eq_true rfl, Nat.le_of_ble_eq_true rfl⟩ rcM0 rfl hl.1 rfl (Nat.le_of_ble_eq_true rfl) dX8_kind_18) J (fun H locs J => ?_)
    obtain rfl := Option.some.inj h
    exact ret _ _ _ _ J dX8_kind_21
  · have h := itp c1 h
    refine lv_ldc hx hb F.2.2.2.1 (F.2.2.2.2 _ kc_X8_137) dX8_kind_12 ?_
    refine lv_goto (tgt := 21) hx hb dX8_kind_14 (by decide) ?_
    obtain rfl := Option.some.inj h
    exact ret _ _ _ _ J dX8_kind_21
set_option maxHeartbeats 4000000 in
set_option maxRecDepth 100000 in
theorem c_X8_as {l : Launch} {g : GG} {A : Nat → Prop} {q : Nat → Nat} {m_thrown m_n m_robots m_viewed m_rules m_taped m_latest m_size m_at m_sort m_place m_end m_fault m_faultAt m_read m_crowds m_traced : Int32} {m_here m_hand m_view m_up m_down m_ruleSize m_ruleRow m_ruleDoes m_name m_goes m_tape m_readSize m_readRow m_readDoes m_own m_crowd m_isStep m_isOfGoal m_isMet m_most m_stands m_doesHere m_from m_trace : Nat → Int32} (a0 : Int32) (res : Int32 × Int32 × (Nat → Int32)) (h : F_X8_as a0 m_n m_robots m_here m_hand = some res) : Met l yX8_as (wS yX8_as cX8_as 2 (some .int)) rm_X8_as (va_Pc [.ref (q 0), .int a0] (VB g A (MW g q m_thrown m_n m_robots m_viewed m_rules m_taped m_latest m_size m_at m_sort m_place m_end m_fault m_faultAt m_read m_crowds m_traced m_here m_hand m_view m_up m_down m_ruleSize m_ruleRow m_ruleDoes m_name m_goes m_tape m_readSize m_readRow m_readDoes m_own m_crowd m_isStep m_isOfGoal m_isMet m_most m_stands m_doesHere m_from m_trace))) (va_Qi (fun r (_ : Unit) => r = res.1) (fun _ => VB g A (MW g q res.2.1 m_n m_robots m_viewed m_rules m_taped m_latest m_size m_at m_sort m_place m_end m_fault m_faultAt m_read m_crowds m_traced m_here res.2.2 m_view m_up m_down m_ruleSize m_ruleRow m_ruleDoes m_name m_goes m_tape m_readSize m_readRow m_readDoes m_own m_crowd m_isStep m_isOfGoal m_isMet m_most m_stands m_doesHere m_from m_trace)) A) 0 0 A := by
  unfold F_X8_as at h
  refine MetI (res := res.1) (own := RX8) (ws' := (MW g q res.2.1 m_n m_robots m_viewed m_rules m_taped m_latest m_size m_at m_sort m_place m_end m_fault m_faultAt m_read m_crowds m_traced m_here res.2.2 m_view m_up m_down m_ruleSize m_ruleRow m_ruleDoes m_name m_goes m_tape m_readSize m_readRow m_readDoes m_own m_crowd m_isStep m_isOfGoal m_isMet m_most m_stands m_doesHere m_from m_trace)) (by decide) rfl (Nat.le_of_ble_eq_true rfl) ?_
  intro p e s m args below meth c Q F E ret ls J hl
  have hx := F.1
  have hb := F.2.1
  have hl : lv_has ls 2 [(0, .ref (q 0)), (1, .int a0)] := hl
  refine lv_aload_n hx hb dX8_as_0 rfl (lv_at hl 0 rfl) ?_
  refine lv_iconst (v := 0) hx hb dX8_as_1 (by decide) ?_
  refine mp_0_0 F E J fl_X8_1 dX8_as_2 (fun H locs J => ?_)
  refine lv_iload_n hx hb dX8_as_5 rfl (lv_at hl 1 rfl) ?_
  refine lv_i2l (v := (Int32.toInt64 a0)) hx hb dX8_as_6 rfl ?_
  refine lv_lconst (v := 0) hx hb dX8_as_7 (by decide) ?_
  refine lv_ldc2 hx hb F.2.2.2.1 (F.2.2.2.2 _ kc_X8_245) dX8_as_8 ?_
  obtain ⟨p1, hp1, h⟩ := ob h
  refine onZ (runS (As := [.long (Int32.toInt64 a0), .long 0, .long 3]) (rest := []) F E J (c_X8_in (Int32.toInt64 a0) 0 3 p1 hp1) cw_X8_90 ⟨rfl, rfl, Nat.le_of_ble_eq_true rfl, Nat.le_of_ble_eq_true rfl⟩ rfl hl.1 rfl (Nat.le_of_ble_eq_true rfl) dX8_as_11) J (fun hzbp1 H locs J => ?_)
  refine lv_if_ne (tgt := 20) hx hb dX8_as_14 (by decide) (fun c2 => ?_) (fun c2 => ?_)
  · have h := itn c2 h
    refine lv_aload_n hx hb dX8_as_20 rfl (lv_at hl 0 rfl) ?_
    refine mg_0_2 F E J fl_X8_99 dX8_as_21 ?_
    refine lv_if_ne (tgt := 30) hx hb dX8_as_24 (by decide) (fun c3 => ?_) (fun c3 => ?_)
    · have h := itn c3 h
      refine lv_iload_n hx hb dX8_as_30 rfl (lv_at hl 1 rfl) ?_
      refine lv_if_eq (tgt := 42) hx hb dX8_as_31 (by decide) (fun c4 => ?_) (fun c4 => ?_)
      · have h := itp c4 h
        refine lv_aload_n hx hb dX8_as_42 rfl (lv_at hl 0 rfl) ?_
        refine mg_0_2 F E J fl_X8_99 dX8_as_43 ?_
        refine lv_goto (tgt := 51) hx hb dX8_as_46 (by decide) ?_
        obtain rfl := Option.some.inj h
        exact ret _ _ _ _ J dX8_as_51
      · have h := itn c4 h
        refine lv_aload_n hx hb dX8_as_34 rfl (lv_at hl 0 rfl) ?_
        obtain ⟨p5, hp5, h⟩ := ob h
        refine onI (runV (As := []) (rest := []) F E J (c_X8_kindNow  p5 hp5) cw_X8_242 ⟨rfl, rfl, Nat.le_of_ble_eq_true rfl, Nat.le_of_ble_eq_true rfl⟩ rcM0 rfl hl.1 rfl (Nat.le_of_ble_eq_true rfl) dX8_as_35) J (fun H locs J => ?_)
        refine lv_iload_n hx hb dX8_as_38 rfl (lv_at hl 1 rfl) ?_
        refine lv_icmp_ne (tgt := 49) hx hb dX8_as_39 (by decide) (fun c6 => ?_) (fun c6 => ?_)
        · have h := itn c6 h
          refine lv_ldc hx hb F.2.2.2.1 (F.2.2.2.2 _ kc_X8_247) dX8_as_49 ?_
          obtain rfl := Option.some.inj h
          exact ret _ _ _ _ J dX8_as_51
        · have h := itp c6 h
          refine lv_aload_n hx hb dX8_as_42 rfl (lv_at hl 0 rfl) ?_
          refine mg_0_2 F E J fl_X8_99 dX8_as_43 ?_
          refine lv_goto (tgt := 51) hx hb dX8_as_46 (by decide) ?_
          obtain rfl := Option.some.inj h
          exact ret _ _ _ _ J dX8_as_51
    · have h := itp c3 h
      refine lv_ldc hx hb F.2.2.2.1 (F.2.2.2.2 _ kc_X8_137) dX8_as_27 ?_
      obtain rfl := Option.some.inj h
      exact ret _ _ _ _ J dX8_as_29
  · have h := itp c2 h
    refine lv_ldc hx hb F.2.2.2.1 (F.2.2.2.2 _ kc_X8_98) dX8_as_17 ?_
    obtain rfl := Option.some.inj h
    exact ret _ _ _ _ J dX8_as_19
set_option maxHeartbeats 4000000 in
set_option maxRecDepth 100000 in
theorem c_X8_began {l : Launch} {g : GG} {A : Nat → Prop} {q : Nat → Nat} {m_thrown m_n m_robots m_viewed m_rules m_taped m_latest m_size m_at m_sort m_place m_end m_fault m_faultAt m_read m_crowds m_traced : Int32} {m_here m_hand m_view m_up m_down m_ruleSize m_ruleRow m_ruleDoes m_name m_goes m_tape m_readSize m_readRow m_readDoes m_own m_crowd m_isStep m_isOfGoal m_isMet m_most m_stands m_doesHere m_from m_trace : Nat → Int32} (a0 : Int32) (res : Int32 × (Nat → Int32)) (h : F_X8_began a0 m_traced m_trace = some res) : Met l yX8_began (wS yX8_began cX8_began 2 none) rm_X8_began (va_Pc [.ref (q 0), .int a0] (VB g A (MW g q m_thrown m_n m_robots m_viewed m_rules m_taped m_latest m_size m_at m_sort m_place m_end m_fault m_faultAt m_read m_crowds m_traced m_here m_hand m_view m_up m_down m_ruleSize m_ruleRow m_ruleDoes m_name m_goes m_tape m_readSize m_readRow m_readDoes m_own m_crowd m_isStep m_isOfGoal m_isMet m_most m_stands m_doesHere m_from m_trace))) (va_Qv (fun (_ : Unit) => True) (fun _ => VB g A (MW g q m_thrown m_n m_robots m_viewed m_rules m_taped m_latest m_size m_at m_sort m_place m_end m_fault m_faultAt m_read m_crowds res.1 m_here m_hand m_view m_up m_down m_ruleSize m_ruleRow m_ruleDoes m_name m_goes m_tape m_readSize m_readRow m_readDoes m_own m_crowd m_isStep m_isOfGoal m_isMet m_most m_stands m_doesHere m_from res.2)) A) 0 0 A := by
  unfold F_X8_began at h
  refine MetV (own := RX8) (ws' := (MW g q m_thrown m_n m_robots m_viewed m_rules m_taped m_latest m_size m_at m_sort m_place m_end m_fault m_faultAt m_read m_crowds res.1 m_here m_hand m_view m_up m_down m_ruleSize m_ruleRow m_ruleDoes m_name m_goes m_tape m_readSize m_readRow m_readDoes m_own m_crowd m_isStep m_isOfGoal m_isMet m_most m_stands m_doesHere m_from res.2)) (by decide) rfl (Nat.le_of_ble_eq_true rfl) ?_
  intro p e s m args below meth c Q F E ret ls J hl
  have hx := F.1
  have hb := F.2.1
  have hl : lv_has ls 2 [(0, .ref (q 0)), (1, .int a0)] := hl
  refine lv_aload_n hx hb dX8_began_0 rfl (lv_at hl 0 rfl) ?_
  refine mg_0_40 F E J fl_X8_248 dX8_began_1 ?_
  refine lv_bipush (v := 16) hx hb dX8_began_4 (by decide) ?_
  refine lv_icmp_ge (tgt := 29) hx hb dX8_began_6 (by decide) (fun c1 => ?_) (fun c1 => ?_)
  · have h := itp c1 h
    obtain rfl := Option.some.inj h
    exact ret _ _ _ _ J dX8_began_29
  · have h := itn c1 h
    refine lv_aload_n hx hb dX8_began_9 rfl (lv_at hl 0 rfl) ?_
    refine mg_0_39 F E J fl_X8_84 dX8_began_10 ?_
    refine lv_aload_n hx hb dX8_began_13 rfl (lv_at hl 0 rfl) ?_
    refine mg_0_40 F E J fl_X8_248 dX8_began_14 ?_
    refine lv_iload_n hx hb dX8_began_17 rfl (lv_at hl 1 rfl) ?_
    obtain ⟨hi, h⟩ := gdt h
    refine ms_24 F E J (inbt hi) dX8_began_18 (fun H locs J => ?_)
    refine lv_aload_n hx hb dX8_began_19 rfl (lv_at hl 0 rfl) ?_
    refine lv_dup hx hb dX8_began_20 rfl ?_
    refine mg_0_40 F E J fl_X8_248 dX8_began_21 ?_
    refine lv_iconst (v := 1) hx hb dX8_began_24 (by decide) ?_
    refine lv_iadd hx hb dX8_began_25 ?_
    obtain ⟨v2, hv2, h⟩ := obs h
    refine nmI hv2 ?_
    refine mp_0_40 F E J fl_X8_248 dX8_began_26 (fun H locs J => ?_)
    obtain rfl := Option.some.inj h
    exact ret _ _ _ _ J dX8_began_29
set_option maxHeartbeats 4000000 in
set_option maxRecDepth 100000 in
theorem c_X8_sized {l : Launch} {g : GG} {A : Nat → Prop} {q : Nat → Nat} {m_thrown m_n m_robots m_viewed m_rules m_taped m_latest m_size m_at m_sort m_place m_end m_fault m_faultAt m_read m_crowds m_traced : Int32} {m_here m_hand m_view m_up m_down m_ruleSize m_ruleRow m_ruleDoes m_name m_goes m_tape m_readSize m_readRow m_readDoes m_own m_crowd m_isStep m_isOfGoal m_isMet m_most m_stands m_doesHere m_from m_trace : Nat → Int32} (a0 : Int32) (res : Int32 × Int32 × (Nat → Int32)) (h : F_X8_sized a0 m_n m_robots m_traced m_hand m_trace = some res) : Met l yX8_sized (wS yX8_sized cX8_sized 2 (some .int)) rm_X8_sized (va_Pc [.ref (q 0), .int a0] (VB g A (MW g q m_thrown m_n m_robots m_viewed m_rules m_taped m_latest m_size m_at m_sort m_place m_end m_fault m_faultAt m_read m_crowds m_traced m_here m_hand m_view m_up m_down m_ruleSize m_ruleRow m_ruleDoes m_name m_goes m_tape m_readSize m_readRow m_readDoes m_own m_crowd m_isStep m_isOfGoal m_isMet m_most m_stands m_doesHere m_from m_trace))) (va_Qi (fun r (_ : Unit) => r = res.1) (fun _ => VB g A (MW g q m_thrown m_n m_robots m_viewed m_rules m_taped m_latest m_size m_at m_sort m_place m_end m_fault m_faultAt m_read m_crowds res.2.1 m_here m_hand m_view m_up m_down m_ruleSize m_ruleRow m_ruleDoes m_name m_goes m_tape m_readSize m_readRow m_readDoes m_own m_crowd m_isStep m_isOfGoal m_isMet m_most m_stands m_doesHere m_from res.2.2)) A) 0 0 A := by
  unfold F_X8_sized at h
  refine MetI (res := res.1) (own := RX8) (ws' := (MW g q m_thrown m_n m_robots m_viewed m_rules m_taped m_latest m_size m_at m_sort m_place m_end m_fault m_faultAt m_read m_crowds res.2.1 m_here m_hand m_view m_up m_down m_ruleSize m_ruleRow m_ruleDoes m_name m_goes m_tape m_readSize m_readRow m_readDoes m_own m_crowd m_isStep m_isOfGoal m_isMet m_most m_stands m_doesHere m_from res.2.2)) (by decide) rfl (Nat.le_of_ble_eq_true rfl) ?_
  intro p e s m args below meth c Q F E ret ls J hl
  have hx := F.1
  have hb := F.2.1
  have hl : lv_has ls 2 [(0, .ref (q 0)), (1, .int a0)] := hl
  refine lv_iload_n hx hb dX8_sized_0 rfl (lv_at hl 1 rfl) ?_
  refine lv_iconst (v := 1) hx hb dX8_sized_1 (by decide) ?_
  obtain ⟨j1, hj1, h⟩ := ob h
  have Kj1 : ∀ (H : Heap) (locs : List Loc) (ls : Array Slot), VJ g A s.heap (MW g q m_thrown m_n m_robots m_viewed m_rules m_taped m_latest m_size m_at m_sort m_place m_end m_fault m_faultAt m_read m_crowds j1.1 m_here m_hand m_view m_up m_down m_ruleSize m_ruleRow m_ruleDoes m_name m_goes m_tape m_readSize m_readRow m_readDoes m_own m_crowd m_isStep m_isOfGoal m_isMet m_most m_stands m_doesHere m_from j1.2) H locs → lv_has ls 2 [(0, .ref (q 0)), (1, .int a0)] → W p l e rm_X8_sized s m args below meth c H locs 0 0 Q (F0 m 34 ls []) := by
    intro H locs ls J hl
    refine lv_aload_n hx hb dX8_sized_34 rfl (lv_at hl 0 rfl) ?_
    refine lv_bipush (v := 10) hx hb dX8_sized_35 (by decide) ?_
    obtain ⟨p7, hp7, h⟩ := ob h
    refine onV (runV (As := [.int 10]) (rest := []) F E J (c_X8_began 10 p7 hp7) cw_X8_251 ⟨rfl, rfl, Nat.le_of_ble_eq_true rfl, Nat.le_of_ble_eq_true rfl⟩ rcM0 rfl hl.1 rfl (Nat.le_of_ble_eq_true rfl) dX8_sized_37) J (fun H locs J => ?_)
    refine lv_iload_n hx hb dX8_sized_40 rfl (lv_at hl 1 rfl) ?_
    refine lv_iconst (v := 1) hx hb dX8_sized_41 (by decide) ?_
    refine lv_icmp_ne (tgt := 57) hx hb dX8_sized_42 (by decide) (fun c8 => ?_) (fun c8 => ?_)
    · have h := itn c8 h
      refine lv_iload_n hx hb dX8_sized_57 rfl (lv_at hl 1 rfl) ?_
      refine lv_iconst (v := 2) hx hb dX8_sized_58 (by decide) ?_
      refine lv_icmp_ne (tgt := 75) hx hb dX8_sized_59 (by decide) (fun c9 => ?_) (fun c9 => ?_)
      · have h := itn c9 h
        refine lv_iconst (v := 2) hx hb dX8_sized_75 (by decide) ?_
        refine lv_aload_n hx hb dX8_sized_76 rfl (lv_at hl 0 rfl) ?_
        refine mg_0_2 F E J fl_X8_99 dX8_sized_77 ?_
        refine lv_imul hx hb dX8_sized_80 ?_
        obtain rfl := Option.some.inj h
        exact ret _ _ _ _ J dX8_sized_81
      · have h := itp c9 h
        refine lv_aload_n hx hb dX8_sized_62 rfl (lv_at hl 0 rfl) ?_
        refine mg_0_2 F E J fl_X8_99 dX8_sized_63 ?_
        refine lv_aload_n hx hb dX8_sized_66 rfl (lv_at hl 0 rfl) ?_
        refine lv_iconst (v := 0) hx hb dX8_sized_67 (by decide) ?_
        obtain ⟨p10, hp10, h⟩ := ob h
        refine onI (runV (As := [.int 0]) (rest := [.int m_robots]) F E J (c_X8_same 0 p10 hp10) cw_X8_239 ⟨rfl, rfl, Nat.le_of_ble_eq_true rfl, Nat.le_of_ble_eq_true rfl⟩ rcM0 rfl hl.1 rfl (Nat.le_of_ble_eq_true rfl) dX8_sized_68) J (fun H locs J => ?_)
        refine lv_iadd hx hb dX8_sized_71 ?_
        refine lv_goto (tgt := 81) hx hb dX8_sized_72 (by decide) ?_
        obtain rfl := Option.some.inj h
        exact ret _ _ _ _ J dX8_sized_81
    · have h := itp c8 h
      refine lv_aload_n hx hb dX8_sized_45 rfl (lv_at hl 0 rfl) ?_
      refine mg_0_2 F E J fl_X8_99 dX8_sized_46 ?_
      refine lv_aload_n hx hb dX8_sized_49 rfl (lv_at hl 0 rfl) ?_
      refine mg_0_1 F E J fl_X8_87 dX8_sized_50 ?_
      refine lv_iadd hx hb dX8_sized_53 ?_
      refine lv_goto (tgt := 81) hx hb dX8_sized_54 (by decide) ?_
      obtain rfl := Option.some.inj h
      exact ret _ _ _ _ J dX8_sized_81
  clear h
  have h := hj1
  refine lv_icmp_ne (tgt := 14) hx hb dX8_sized_2 (by decide) (fun c2 => ?_) (fun c2 => ?_)
  · have h := itn c2 h
    refine lv_iload_n hx hb dX8_sized_14 rfl (lv_at hl 1 rfl) ?_
    refine lv_iconst (v := 2) hx hb dX8_sized_15 (by decide) ?_
    refine lv_icmp_ne (tgt := 28) hx hb dX8_sized_16 (by decide) (fun c3 => ?_) (fun c3 => ?_)
    · have h := itn c3 h
      refine lv_aload_n hx hb dX8_sized_28 rfl (lv_at hl 0 rfl) ?_
      refine lv_bipush (v := 13) hx hb dX8_sized_29 (by decide) ?_
      obtain ⟨p4, hp4, h⟩ := ob h
      refine onV (runV (As := [.int 13]) (rest := []) F E J (c_X8_began 13 p4 hp4) cw_X8_251 ⟨rfl, rfl, Nat.le_of_ble_eq_true rfl, Nat.le_of_ble_eq_true rfl⟩ rcM0 rfl hl.1 rfl (Nat.le_of_ble_eq_true rfl) dX8_sized_31) J (fun H locs J => ?_)
      obtain rfl := Option.some.inj h
      exact Kj1 _ _ _ J (lv_sub hl [0, 1] rfl)
    · have h := itp c3 h
      refine lv_aload_n hx hb dX8_sized_19 rfl (lv_at hl 0 rfl) ?_
      refine lv_bipush (v := 12) hx hb dX8_sized_20 (by decide) ?_
      obtain ⟨p5, hp5, h⟩ := ob h
      refine onV (runV (As := [.int 12]) (rest := []) F E J (c_X8_began 12 p5 hp5) cw_X8_251 ⟨rfl, rfl, Nat.le_of_ble_eq_true rfl, Nat.le_of_ble_eq_true rfl⟩ rcM0 rfl hl.1 rfl (Nat.le_of_ble_eq_true rfl) dX8_sized_22) J (fun H locs J => ?_)
      refine lv_goto (tgt := 34) hx hb dX8_sized_25 (by decide) ?_
      obtain rfl := Option.some.inj h
      exact Kj1 _ _ _ J (lv_sub hl [0, 1] rfl)
  · have h := itp c2 h
    refine lv_aload_n hx hb dX8_sized_5 rfl (lv_at hl 0 rfl) ?_
    refine lv_bipush (v := 11) hx hb dX8_sized_6 (by decide) ?_
    obtain ⟨p6, hp6, h⟩ := ob h
    refine onV (runV (As := [.int 11]) (rest := []) F E J (c_X8_began 11 p6 hp6) cw_X8_251 ⟨rfl, rfl, Nat.le_of_ble_eq_true rfl, Nat.le_of_ble_eq_true rfl⟩ rcM0 rfl hl.1 rfl (Nat.le_of_ble_eq_true rfl) dX8_sized_8) J (fun H locs J => ?_)
    refine lv_goto (tgt := 34) hx hb dX8_sized_11 (by decide) ?_
    obtain rfl := Option.some.inj h
    exact Kj1 _ _ _ J (lv_sub hl [0, 1] rfl)
set_option maxHeartbeats 4000000 in
set_option maxRecDepth 100000 in
theorem c_X8_places {l : Launch} {g : GG} {A : Nat → Prop} {q : Nat → Nat} {m_thrown m_n m_robots m_viewed m_rules m_taped m_latest m_size m_at m_sort m_place m_end m_fault m_faultAt m_read m_crowds m_traced : Int32} {m_here m_hand m_view m_up m_down m_ruleSize m_ruleRow m_ruleDoes m_name m_goes m_tape m_readSize m_readRow m_readDoes m_own m_crowd m_isStep m_isOfGoal m_isMet m_most m_stands m_doesHere m_from m_trace : Nat → Int32} (res : Int32) (h : F_X8_places m_n m_here = some res) : Met l yX8_places (wS yX8_places cX8_places 3 (some .int)) rm_X8_places (va_Pc [.ref (q 0)] (VB g A (MW g q m_thrown m_n m_robots m_viewed m_rules m_taped m_latest m_size m_at m_sort m_place m_end m_fault m_faultAt m_read m_crowds m_traced m_here m_hand m_view m_up m_down m_ruleSize m_ruleRow m_ruleDoes m_name m_goes m_tape m_readSize m_readRow m_readDoes m_own m_crowd m_isStep m_isOfGoal m_isMet m_most m_stands m_doesHere m_from m_trace))) (va_Qi (fun r (_ : Unit) => r = res) (fun _ => VB g A (MW g q m_thrown m_n m_robots m_viewed m_rules m_taped m_latest m_size m_at m_sort m_place m_end m_fault m_faultAt m_read m_crowds m_traced m_here m_hand m_view m_up m_down m_ruleSize m_ruleRow m_ruleDoes m_name m_goes m_tape m_readSize m_readRow m_readDoes m_own m_crowd m_isStep m_isOfGoal m_isMet m_most m_stands m_doesHere m_from m_trace)) A) 0 0 A := by
  unfold F_X8_places at h
  refine MetI (res := res) (own := RX8) (ws' := (MW g q m_thrown m_n m_robots m_viewed m_rules m_taped m_latest m_size m_at m_sort m_place m_end m_fault m_faultAt m_read m_crowds m_traced m_here m_hand m_view m_up m_down m_ruleSize m_ruleRow m_ruleDoes m_name m_goes m_tape m_readSize m_readRow m_readDoes m_own m_crowd m_isStep m_isOfGoal m_isMet m_most m_stands m_doesHere m_from m_trace)) (by decide) rfl (Nat.le_of_ble_eq_true rfl) ?_
  intro p e s m args below meth c Q F E ret ls J hl
  have hx := F.1
  have hb := F.2.1
  have hl : lv_has ls 3 [(0, .ref (q 0))] := hl
  refine lv_iconst (v := 0) hx hb dX8_places_0 (by decide) ?_
  refine lv_istore_n (lv' := [(1, .int 0), (0, .ref (q 0))]) hx hb dX8_places_1 rfl hl (by decide) rfl (fun ls hl => ?_)
  refine lv_iconst (v := 0) hx hb dX8_places_2 (by decide) ?_
  refine lv_istore_n (lv' := [(2, .int 0), (1, .int 0), (0, .ref (q 0))]) hx hb dX8_places_3 rfl hl (by decide) rfl (fun ls hl => ?_)
  obtain ⟨o_L1, ho_L1, h⟩ := ob h
  have T_L1 : ∀ (f : Nat) (l1_L1 : Int32) (l2_L1 : Int32) (o_L1 : Int32), F_X8_places_L1 m_n m_here f l1_L1 l2_L1 = some o_L1 → ∀ (H : Heap) (locs : List Loc) (ls : Array Slot), VJ g A s.heap (MW g q m_thrown m_n m_robots m_viewed m_rules m_taped m_latest m_size m_at m_sort m_place m_end m_fault m_faultAt m_read m_crowds m_traced m_here m_hand m_view m_up m_down m_ruleSize m_ruleRow m_ruleDoes m_name m_goes m_tape m_readSize m_readRow m_readDoes m_own m_crowd m_isStep m_isOfGoal m_isMet m_most m_stands m_doesHere m_from m_trace) H locs → lv_has ls 3 [(0, .ref (q 0)), (1, .int l1_L1), (2, .int l2_L1)] → (∀ (H : Heap) (locs : List Loc) (ls : Array Slot), VJ g A s.heap (MW g q m_thrown m_n m_robots m_viewed m_rules m_taped m_latest m_size m_at m_sort m_place m_end m_fault m_faultAt m_read m_crowds m_traced m_here m_hand m_view m_up m_down m_ruleSize m_ruleRow m_ruleDoes m_name m_goes m_tape m_readSize m_readRow m_readDoes m_own m_crowd m_isStep m_isOfGoal m_isMet m_most m_stands m_doesHere m_from m_trace) H locs → lv_has ls 3 [(1, .int o_L1)] → W p l e rm_X8_places s m args below meth c H locs 0 0 Q (F0 m 35 ls [])) → W p l e rm_X8_places s m args below meth c H locs 0 0 Q (F0 m 4 ls []) := by
    clear h ho_L1 hl J
    intro f
    induction f with
    | zero => intro l1_L1 l2_L1 o_L1 h; exact absurd h (by simp [F_X8_places_L1])
    | succ f ih =>
      intro l1_L1 l2_L1 o_L1 h H locs ls J hl K_L1
      rw [F_X8_places_L1.eq_2] at h
      refine lv_iload_n hx hb dX8_places_4 rfl (lv_at hl 2 rfl) ?_
      refine lv_aload_n hx hb dX8_places_5 rfl (lv_at hl 0 rfl) ?_
      refine mg_0_1 F E J fl_X8_87 dX8_places_6 ?_
      refine lv_icmp_ge (tgt := 35) hx hb dX8_places_9 (by decide) (fun c2 => ?_) (fun c2 => ?_)
      · have h := itp c2 h
        obtain rfl := Option.some.inj h
        exact K_L1 _ _ _ J (lv_sub hl [1] rfl)
      · have h := itn c2 h
        refine lv_iload_n hx hb dX8_places_12 rfl (lv_at hl 1 rfl) ?_
        refine lv_aload_n hx hb dX8_places_13 rfl (lv_at hl 0 rfl) ?_
        refine mg_0_3 F E J fl_X8_13 dX8_places_14 ?_
        refine lv_iload_n hx hb dX8_places_17 rfl (lv_at hl 2 rfl) ?_
        obtain ⟨hi, h⟩ := gdt h
        refine ml_1 F E J (inbt hi) dX8_places_18 ?_
        obtain ⟨j3, hj3, h⟩ := ob h
        have Kj3 : ∀ (H : Heap) (locs : List Loc) (ls : Array Slot), VJ g A s.heap (MW g q m_thrown m_n m_robots m_viewed m_rules m_taped m_latest m_size m_at m_sort m_place m_end m_fault m_faultAt m_read m_crowds m_traced m_here m_hand m_view m_up m_down m_ruleSize m_ruleRow m_ruleDoes m_name m_goes m_tape m_readSize m_readRow m_readDoes m_own m_crowd m_isStep m_isOfGoal m_isMet m_most m_stands m_doesHere m_from m_trace) H locs → lv_has ls 3 [(0, .ref (q 0)), (2, .int l2_L1)] → W p l e rm_X8_places s m args below meth c H locs 0 0 Q (F0 m 27 ls [.int j3, .int l1_L1]) := by
          intro H locs ls J hl
          refine lv_iadd hx hb dX8_places_27 ?_
          obtain ⟨v5, hv5, h⟩ := obs h
          refine nmI hv5 ?_
          refine lv_istore_n (lv' := [(1, .int v5), (0, .ref (q 0)), (2, .int l2_L1)]) hx hb dX8_places_28 rfl hl (by decide) rfl (fun ls hl => ?_)
          obtain ⟨v6, hv6, h⟩ := obs h
          refine lv_iinc (v := v6) (lv' := [(2, .int v6), (1, .int v5), (0, .ref (q 0))]) hx hb dX8_places_29 hl (k := 2) rfl (by rw [← hv6]; rfl) (by decide) rfl (fun ls hl => ?_)
          refine lv_goto (tgt := 4) hx hb dX8_places_32 (by decide) ?_
          exact ih _ _ _ h _ _ _ J (lv_sub hl [2, 1, 0] rfl) K_L1
        clear h
        have h := hj3
        refine lv_if_le (tgt := 26) hx hb dX8_places_19 (by decide) (fun c4 => ?_) (fun c4 => ?_)
        · have h := itp c4 h
          refine lv_iconst (v := 0) hx hb dX8_places_26 (by decide) ?_
          obtain rfl := Option.some.inj h
          exact Kj3 _ _ _ J (lv_sub hl [0, 2] rfl)
        · have h := itn c4 h
          refine lv_iconst (v := 1) hx hb dX8_places_22 (by decide) ?_
          refine lv_goto (tgt := 27) hx hb dX8_places_23 (by decide) ?_
          obtain rfl := Option.some.inj h
          exact Kj3 _ _ _ J (lv_sub hl [0, 2] rfl)
  refine T_L1 FU 0 0 o_L1 ho_L1 _ _ _ J (lv_sub hl [2, 1, 0] rfl) (fun H locs ls J hl => ?_)
  refine lv_iload_n hx hb dX8_places_35 rfl (lv_at hl 0 rfl) ?_
  obtain rfl := Option.some.inj h
  exact ret _ _ _ _ J dX8_places_36
set_option maxHeartbeats 4000000 in
set_option maxRecDepth 100000 in
theorem c_X8_ask {l : Launch} {g : GG} {A : Nat → Prop} {q : Nat → Nat} {m_thrown m_n m_robots m_viewed m_rules m_taped m_latest m_size m_at m_sort m_place m_end m_fault m_faultAt m_read m_crowds m_traced : Int32} {m_here m_hand m_view m_up m_down m_ruleSize m_ruleRow m_ruleDoes m_name m_goes m_tape m_readSize m_readRow m_readDoes m_own m_crowd m_isStep m_isOfGoal m_isMet m_most m_stands m_doesHere m_from m_trace : Nat → Int32} (a0 : Int32) (res : Int32 × Int32 × Int32 × (Nat → Int32) × (Nat → Int32)) (h : F_X8_ask a0 m_n m_robots m_traced m_here m_hand m_trace = some res) : Met l yX8_ask (wS yX8_ask cX8_ask 4 (some .int)) rm_X8_ask (va_Pc [.ref (q 0), .int a0] (VB g A (MW g q m_thrown m_n m_robots m_viewed m_rules m_taped m_latest m_size m_at m_sort m_place m_end m_fault m_faultAt m_read m_crowds m_traced m_here m_hand m_view m_up m_down m_ruleSize m_ruleRow m_ruleDoes m_name m_goes m_tape m_readSize m_readRow m_readDoes m_own m_crowd m_isStep m_isOfGoal m_isMet m_most m_stands m_doesHere m_from m_trace))) (va_Qi (fun r (_ : Unit) => r = res.1) (fun _ => VB g A (MW g q res.2.1 m_n m_robots m_viewed m_rules m_taped m_latest m_size m_at m_sort m_place m_end m_fault m_faultAt m_read m_crowds res.2.2.1 m_here res.2.2.2.1 m_view m_up m_down m_ruleSize m_ruleRow m_ruleDoes m_name m_goes m_tape m_readSize m_readRow m_readDoes m_own m_crowd m_isStep m_isOfGoal m_isMet m_most m_stands m_doesHere m_from res.2.2.2.2)) A) 0 0 A := by
  unfold F_X8_ask at h
  refine MetI (res := res.1) (own := RX8) (ws' := (MW g q res.2.1 m_n m_robots m_viewed m_rules m_taped m_latest m_size m_at m_sort m_place m_end m_fault m_faultAt m_read m_crowds res.2.2.1 m_here res.2.2.2.1 m_view m_up m_down m_ruleSize m_ruleRow m_ruleDoes m_name m_goes m_tape m_readSize m_readRow m_readDoes m_own m_crowd m_isStep m_isOfGoal m_isMet m_most m_stands m_doesHere m_from res.2.2.2.2)) (by decide) rfl (Nat.le_of_ble_eq_true rfl) ?_
  intro p e s m args below meth c Q F E ret ls J hl
  have hx := F.1
  have hb := F.2.1
  have hl : lv_has ls 4 [(0, .ref (q 0)), (1, .int a0)] := hl
  refine lv_aload_n hx hb dX8_ask_0 rfl (lv_at hl 0 rfl) ?_
  refine lv_iconst (v := 0) hx hb dX8_ask_1 (by decide) ?_
  refine mp_0_0 F E J fl_X8_1 dX8_ask_2 (fun H locs J => ?_)
  refine lv_iload_n hx hb dX8_ask_5 rfl (lv_at hl 1 rfl) ?_
  refine lv_i2l (v := (Int32.toInt64 a0)) hx hb dX8_ask_6 rfl ?_
  refine lv_lconst (v := 0) hx hb dX8_ask_7 (by decide) ?_
  refine lv_lconst (v := 1) hx hb dX8_ask_8 (by decide) ?_
  obtain ⟨p1, hp1, h⟩ := ob h
  refine onZ (runS (As := [.long (Int32.toInt64 a0), .long 0, .long 1]) (rest := []) F E J (c_X8_in (Int32.toInt64 a0) 0 1 p1 hp1) cw_X8_90 ⟨rfl, rfl, Nat.le_of_ble_eq_true rfl, Nat.le_of_ble_eq_true rfl⟩ rfl hl.1 rfl (Nat.le_of_ble_eq_true rfl) dX8_ask_9) J (fun hzbp1 H locs J => ?_)
  refine lv_if_ne (tgt := 18) hx hb dX8_ask_12 (by decide) (fun c2 => ?_) (fun c2 => ?_)
  · have h := itn c2 h
    refine lv_aload_n hx hb dX8_ask_18 rfl (lv_at hl 0 rfl) ?_
    refine mg_0_2 F E J fl_X8_99 dX8_ask_19 ?_
    refine lv_if_ne (tgt := 28) hx hb dX8_ask_22 (by decide) (fun c3 => ?_) (fun c3 => ?_)
    · have h := itn c3 h
      refine lv_aload_n hx hb dX8_ask_28 rfl (lv_at hl 0 rfl) ?_
      refine lv_iconst (v := 0) hx hb dX8_ask_29 (by decide) ?_
      refine mp_0_40 F E J fl_X8_248 dX8_ask_30 (fun H locs J => ?_)
      refine lv_aload_n hx hb dX8_ask_33 rfl (lv_at hl 0 rfl) ?_
      obtain ⟨p4, hp4, h⟩ := ob h
      refine onI (runV (As := []) (rest := []) F E J (c_X8_kindNow  p4 hp4) cw_X8_242 ⟨rfl, rfl, Nat.le_of_ble_eq_true rfl, Nat.le_of_ble_eq_true rfl⟩ rcM0 rfl hl.1 rfl (Nat.le_of_ble_eq_true rfl) dX8_ask_34) J (fun H locs J => ?_)
      refine lv_istore_n (lv' := [(2, .int p4.1), (0, .ref (q 0)), (1, .int a0)]) hx hb dX8_ask_37 rfl hl (by decide) rfl (fun ls hl => ?_)
      refine lv_iload_n hx hb dX8_ask_38 rfl (lv_at hl 2 rfl) ?_
      refine lv_if_ne (tgt := 48) hx hb dX8_ask_39 (by decide) (fun c5 => ?_) (fun c5 => ?_)
      · have h := itn c5 h
        refine lv_iload_n hx hb dX8_ask_48 rfl (lv_at hl 0 rfl) ?_
        refine lv_iconst (v := 2) hx hb dX8_ask_49 (by decide) ?_
        obtain ⟨j6, hj6, h⟩ := ob h
        have Kj6 : ∀ (H : Heap) (locs : List Loc) (ls : Array Slot), VJ g A s.heap (MW g q 0 m_n m_robots m_viewed m_rules m_taped m_latest m_size m_at m_sort m_place m_end m_fault m_faultAt m_read m_crowds j6.1 m_here p4.2 m_view m_up m_down m_ruleSize m_ruleRow m_ruleDoes m_name m_goes m_tape m_readSize m_readRow m_readDoes m_own m_crowd m_isStep m_isOfGoal m_isMet m_most m_stands m_doesHere m_from j6.2) H locs → lv_has ls 4 [(0, .ref (q 0)), (2, .int p4.1)] → W p l e rm_X8_ask s m args below meth c H locs 0 0 Q (F0 m 73 ls []) := by
          intro H locs ls J hl
          refine lv_aload_n hx hb dX8_ask_73 rfl (lv_at hl 0 rfl) ?_
          refine lv_bipush (v := 20) hx hb dX8_ask_74 (by decide) ?_
          obtain ⟨p11, hp11, h⟩ := ob h
          refine onV (runV (As := [.int 20]) (rest := []) F E J (c_X8_began 20 p11 hp11) cw_X8_251 ⟨rfl, rfl, Nat.le_of_ble_eq_true rfl, Nat.le_of_ble_eq_true rfl⟩ rcM0 rfl hl.1 rfl (Nat.le_of_ble_eq_true rfl) dX8_ask_76) J (fun H locs J => ?_)
          refine lv_aload_n hx hb dX8_ask_79 rfl (lv_at hl 0 rfl) ?_
          obtain ⟨p12, hp12, h⟩ := ob h
          refine onI (runV (As := []) (rest := []) F E J (c_X8_places  p12 hp12) cw_X8_257 ⟨rfl, rfl, Nat.le_of_ble_eq_true rfl, Nat.le_of_ble_eq_true rfl⟩ rcM0 rfl hl.1 rfl (Nat.le_of_ble_eq_true rfl) dX8_ask_80) J (fun H locs J => ?_)
          refine lv_istore_n (lv' := [(3, .int p12), (0, .ref (q 0)), (2, .int p4.1)]) hx hb dX8_ask_83 rfl hl (by decide) rfl (fun ls hl => ?_)
          refine lv_iload_n hx hb dX8_ask_84 rfl (lv_at hl 2 rfl) ?_
          refine lv_iconst (v := 2) hx hb dX8_ask_85 (by decide) ?_
          refine lv_icmp_ne (tgt := 99) hx hb dX8_ask_86 (by decide) (fun c13 => ?_) (fun c13 => ?_)
          · have h := itn c13 h
            refine lv_iload_n hx hb dX8_ask_99 rfl (lv_at hl 2 rfl) ?_
            refine lv_iconst (v := 3) hx hb dX8_ask_100 (by decide) ?_
            refine lv_icmp_ne (tgt := 111) hx hb dX8_ask_101 (by decide) (fun c14 => ?_) (fun c14 => ?_)
            · have h := itn c14 h
              refine lv_iload_n hx hb dX8_ask_111 rfl (lv_at hl 0 rfl) ?_
              obtain rfl := Option.some.inj h
              exact ret _ _ _ _ J dX8_ask_112
            · have h := itp c14 h
              refine lv_iload_n hx hb dX8_ask_104 rfl (lv_at hl 0 rfl) ?_
              refine lv_bipush (v := 100) hx hb dX8_ask_105 (by decide) ?_
              refine lv_iadd hx hb dX8_ask_107 ?_
              refine lv_goto (tgt := 112) hx hb dX8_ask_108 (by decide) ?_
              obtain rfl := Option.some.inj h
              exact ret _ _ _ _ J dX8_ask_112
          · have h := itp c13 h
            refine lv_iload_n hx hb dX8_ask_89 rfl (lv_at hl 0 rfl) ?_
            refine lv_aload_n hx hb dX8_ask_90 rfl (lv_at hl 1 rfl) ?_
            refine lv_iload_n hx hb dX8_ask_91 rfl (lv_at hl 2 rfl) ?_
            obtain ⟨p15, hp15, h⟩ := ob h
            refine onI (runV (As := [.int p4.1]) (rest := [.int p12]) F E J (c_X8_sized p4.1 p15 hp15) cw_X8_254 ⟨rfl, rfl, Nat.le_of_ble_eq_true rfl, Nat.le_of_ble_eq_true rfl⟩ rcM0 rfl hl.1 rfl (Nat.le_of_ble_eq_true rfl) dX8_ask_92) J (fun H locs J => ?_)
            refine lv_iadd hx hb dX8_ask_95 ?_
            refine lv_goto (tgt := 112) hx hb dX8_ask_96 (by decide) ?_
            obtain rfl := Option.some.inj h
            exact ret _ _ _ _ J dX8_ask_112
        clear h
        have h := hj6
        refine lv_icmp_ne (tgt := 62) hx hb dX8_ask_50 (by decide) (fun c7 => ?_) (fun c7 => ?_)
        · have h := itn c7 h
          refine lv_iload_n hx hb dX8_ask_62 rfl (lv_at hl 0 rfl) ?_
          refine lv_iconst (v := 3) hx hb dX8_ask_63 (by decide) ?_
          refine lv_icmp_ne (tgt := 73) hx hb dX8_ask_64 (by decide) (fun c8 => ?_) (fun c8 => ?_)
          · have h := itn c8 h
            obtain rfl := Option.some.inj h
            exact Kj6 _ _ _ J (lv_sub hl [1, 0] rfl)
          · have h := itp c8 h
            refine lv_aload_n hx hb dX8_ask_67 rfl (lv_at hl 1 rfl) ?_
            refine lv_bipush (v := 22) hx hb dX8_ask_68 (by decide) ?_
            obtain ⟨p9, hp9, h⟩ := ob h
            refine onV (runV (As := [.int 22]) (rest := []) F E J (c_X8_began 22 p9 hp9) cw_X8_251 ⟨rfl, rfl, Nat.le_of_ble_eq_true rfl, Nat.le_of_ble_eq_true rfl⟩ rcM0 rfl hl.1 rfl (Nat.le_of_ble_eq_true rfl) dX8_ask_70) J (fun H locs J => ?_)
            obtain rfl := Option.some.inj h
            exact Kj6 _ _ _ J (lv_sub hl [1, 0] rfl)
        · have h := itp c7 h
          refine lv_aload_n hx hb dX8_ask_53 rfl (lv_at hl 1 rfl) ?_
          refine lv_bipush (v := 21) hx hb dX8_ask_54 (by decide) ?_
          obtain ⟨p10, hp10, h⟩ := ob h
          refine onV (runV (As := [.int 21]) (rest := []) F E J (c_X8_began 21 p10 hp10) cw_X8_251 ⟨rfl, rfl, Nat.le_of_ble_eq_true rfl, Nat.le_of_ble_eq_true rfl⟩ rcM0 rfl hl.1 rfl (Nat.le_of_ble_eq_true rfl) dX8_ask_56) J (fun H locs J => ?_)
          refine lv_goto (tgt := 73) hx hb dX8_ask_59 (by decide) ?_
          obtain rfl := Option.some.inj h
          exact Kj6 _ _ _ J (lv_sub hl [1, 0] rfl)
      · have h := itp c5 h
        refine lv_aload_n hx hb dX8_ask_42 rfl (lv_at hl 1 rfl) ?_
        refine lv_iload_n hx hb dX8_ask_43 rfl (lv_at hl 0 rfl) ?_
        obtain ⟨p16, hp16, h⟩ := ob h
        refine onI (runV (As := [.int p4.1]) (rest := []) F E J (c_X8_sized p4.1 p16 hp16) cw_X8_254 ⟨rfl, rfl, Nat.le_of_ble_eq_true rfl, Nat.le_of_ble_eq_true rfl⟩ rcM0 rfl hl.1 rfl (Nat.le_of_ble_eq_true rfl) dX8_ask_44) J (fun H locs J => ?_)
        obtain rfl := Option.some.inj h
        exact ret _ _ _ _ J dX8_ask_47
    · have h := itp c3 h
      refine lv_ldc hx hb F.2.2.2.1 (F.2.2.2.2 _ kc_X8_137) dX8_ask_25 ?_
      obtain rfl := Option.some.inj h
      exact ret _ _ _ _ J dX8_ask_27
  · have h := itp c2 h
    refine lv_ldc hx hb F.2.2.2.1 (F.2.2.2.2 _ kc_X8_98) dX8_ask_15 ?_
    obtain rfl := Option.some.inj h
    exact ret _ _ _ _ J dX8_ask_17
set_option maxHeartbeats 4000000 in
set_option maxRecDepth 100000 in
theorem c_X8_trace {l : Launch} {g : GG} {A : Nat → Prop} {q : Nat → Nat} {m_thrown m_n m_robots m_viewed m_rules m_taped m_latest m_size m_at m_sort m_place m_end m_fault m_faultAt m_read m_crowds m_traced : Int32} {m_here m_hand m_view m_up m_down m_ruleSize m_ruleRow m_ruleDoes m_name m_goes m_tape m_readSize m_readRow m_readDoes m_own m_crowd m_isStep m_isOfGoal m_isMet m_most m_stands m_doesHere m_from m_trace : Nat → Int32} (a0 : Int32) (res : Int32 × Int32) (h : F_X8_trace a0 m_traced m_trace = some res) : Met l yX8_trace (wS yX8_trace cX8_trace 2 (some .int)) rm_X8_trace (va_Pc [.ref (q 0), .int a0] (VB g A (MW g q m_thrown m_n m_robots m_viewed m_rules m_taped m_latest m_size m_at m_sort m_place m_end m_fault m_faultAt m_read m_crowds m_traced m_here m_hand m_view m_up m_down m_ruleSize m_ruleRow m_ruleDoes m_name m_goes m_tape m_readSize m_readRow m_readDoes m_own m_crowd m_isStep m_isOfGoal m_isMet m_most m_stands m_doesHere m_from m_trace))) (va_Qi (fun r (_ : Unit) => r = res.1) (fun _ => VB g A (MW g q res.2 m_n m_robots m_viewed m_rules m_taped m_latest m_size m_at m_sort m_place m_end m_fault m_faultAt m_read m_crowds m_traced m_here m_hand m_view m_up m_down m_ruleSize m_ruleRow m_ruleDoes m_name m_goes m_tape m_readSize m_readRow m_readDoes m_own m_crowd m_isStep m_isOfGoal m_isMet m_most m_stands m_doesHere m_from m_trace)) A) 0 0 A := by
  unfold F_X8_trace at h
  refine MetI (res := res.1) (own := RX8) (ws' := (MW g q res.2 m_n m_robots m_viewed m_rules m_taped m_latest m_size m_at m_sort m_place m_end m_fault m_faultAt m_read m_crowds m_traced m_here m_hand m_view m_up m_down m_ruleSize m_ruleRow m_ruleDoes m_name m_goes m_tape m_readSize m_readRow m_readDoes m_own m_crowd m_isStep m_isOfGoal m_isMet m_most m_stands m_doesHere m_from m_trace)) (by decide) rfl (Nat.le_of_ble_eq_true rfl) ?_
  intro p e s m args below meth c Q F E ret ls J hl
  have hx := F.1
  have hb := F.2.1
  have hl : lv_has ls 2 [(0, .ref (q 0)), (1, .int a0)] := hl
  refine lv_aload_n hx hb dX8_trace_0 rfl (lv_at hl 0 rfl) ?_
  refine lv_iconst (v := 0) hx hb dX8_trace_1 (by decide) ?_
  refine mp_0_0 F E J fl_X8_1 dX8_trace_2 (fun H locs J => ?_)
  refine lv_iload_n hx hb dX8_trace_5 rfl (lv_at hl 1 rfl) ?_
  refine lv_i2l (v := (Int32.toInt64 a0)) hx hb dX8_trace_6 rfl ?_
  refine lv_lconst (v := 0) hx hb dX8_trace_7 (by decide) ?_
  refine lv_aload_n hx hb dX8_trace_8 rfl (lv_at hl 0 rfl) ?_
  refine mg_0_40 F E J fl_X8_248 dX8_trace_9 ?_
  refine lv_iconst (v := 1) hx hb dX8_trace_12 (by decide) ?_
  refine lv_isub hx hb dX8_trace_13 ?_
  refine lv_i2l (v := (Int32.toInt64 (m_traced - 1))) hx hb dX8_trace_14 rfl ?_
  obtain ⟨p1, hp1, h⟩ := ob h
  refine onZ (runS (As := [.long (Int32.toInt64 a0), .long 0, .long (Int32.toInt64 (m_traced - 1))]) (rest := []) F E J (c_X8_in (Int32.toInt64 a0) 0 (Int32.toInt64 (m_traced - 1)) p1 hp1) cw_X8_90 ⟨rfl, rfl, Nat.le_of_ble_eq_true rfl, Nat.le_of_ble_eq_true rfl⟩ rfl hl.1 rfl (Nat.le_of_ble_eq_true rfl) dX8_trace_15) J (fun hzbp1 H locs J => ?_)
  refine lv_if_eq (tgt := 30) hx hb dX8_trace_18 (by decide) (fun c2 => ?_) (fun c2 => ?_)
  · have h := itp c2 h
    refine lv_ldc hx hb F.2.2.2.1 (F.2.2.2.2 _ kc_X8_110) dX8_trace_30 ?_
    obtain rfl := Option.some.inj h
    exact ret _ _ _ _ J dX8_trace_32
  · have h := itn c2 h
    refine lv_aload_n hx hb dX8_trace_21 rfl (lv_at hl 0 rfl) ?_
    refine mg_0_39 F E J fl_X8_84 dX8_trace_22 ?_
    refine lv_iload_n hx hb dX8_trace_25 rfl (lv_at hl 1 rfl) ?_
    obtain ⟨hi, h⟩ := gdt h
    refine ml_24 F E J (inbt hi) dX8_trace_26 ?_
    refine lv_goto (tgt := 32) hx hb dX8_trace_27 (by decide) ?_
    obtain rfl := Option.some.inj h
    exact ret _ _ _ _ J dX8_trace_32
set_option maxHeartbeats 4000000 in
set_option maxRecDepth 100000 in
theorem c_X8_count {l : Launch} {g : GG} {A : Nat → Prop} {q : Nat → Nat} {m_thrown m_n m_robots m_viewed m_rules m_taped m_latest m_size m_at m_sort m_place m_end m_fault m_faultAt m_read m_crowds m_traced : Int32} {m_here m_hand m_view m_up m_down m_ruleSize m_ruleRow m_ruleDoes m_name m_goes m_tape m_readSize m_readRow m_readDoes m_own m_crowd m_isStep m_isOfGoal m_isMet m_most m_stands m_doesHere m_from m_trace : Nat → Int32} (a0 : Int32) (res : Int32 × Int32 × (Nat → Int32)) (h : F_X8_count a0 m_n m_robots m_rules m_taped m_here m_hand = some res) : Met l yX8_count (wS yX8_count cX8_count 2 (some .int)) rm_X8_count (va_Pc [.ref (q 0), .int a0] (VB g A (MW g q m_thrown m_n m_robots m_viewed m_rules m_taped m_latest m_size m_at m_sort m_place m_end m_fault m_faultAt m_read m_crowds m_traced m_here m_hand m_view m_up m_down m_ruleSize m_ruleRow m_ruleDoes m_name m_goes m_tape m_readSize m_readRow m_readDoes m_own m_crowd m_isStep m_isOfGoal m_isMet m_most m_stands m_doesHere m_from m_trace))) (va_Qi (fun r (_ : Unit) => r = res.1) (fun _ => VB g A (MW g q res.2.1 m_n m_robots m_viewed m_rules m_taped m_latest m_size m_at m_sort m_place m_end m_fault m_faultAt m_read m_crowds m_traced m_here res.2.2 m_view m_up m_down m_ruleSize m_ruleRow m_ruleDoes m_name m_goes m_tape m_readSize m_readRow m_readDoes m_own m_crowd m_isStep m_isOfGoal m_isMet m_most m_stands m_doesHere m_from m_trace)) A) 0 0 A := by
  unfold F_X8_count at h
  refine MetI (res := res.1) (own := RX8) (ws' := (MW g q res.2.1 m_n m_robots m_viewed m_rules m_taped m_latest m_size m_at m_sort m_place m_end m_fault m_faultAt m_read m_crowds m_traced m_here res.2.2 m_view m_up m_down m_ruleSize m_ruleRow m_ruleDoes m_name m_goes m_tape m_readSize m_readRow m_readDoes m_own m_crowd m_isStep m_isOfGoal m_isMet m_most m_stands m_doesHere m_from m_trace)) (by decide) rfl (Nat.le_of_ble_eq_true rfl) ?_
  intro p e s m args below meth c Q F E ret ls J hl
  have hx := F.1
  have hb := F.2.1
  have hl : lv_has ls 2 [(0, .ref (q 0)), (1, .int a0)] := hl
  refine lv_aload_n hx hb dX8_count_0 rfl (lv_at hl 0 rfl) ?_
  refine lv_iconst (v := 0) hx hb dX8_count_1 (by decide) ?_
  refine mp_0_0 F E J fl_X8_1 dX8_count_2 (fun H locs J => ?_)
  refine lv_aload_n hx hb dX8_count_5 rfl (lv_at hl 0 rfl) ?_
  obtain ⟨p1, hp1, h⟩ := ob h
  refine onV (runV (As := []) (rest := []) F E J (c_X8_take  p1 hp1) cw_X8_111 ⟨rfl, rfl, Nat.le_of_ble_eq_true rfl, Nat.le_of_ble_eq_true rfl⟩ rcM0 rfl hl.1 rfl (Nat.le_of_ble_eq_true rfl) dX8_count_6) J (fun H locs J => ?_)
  refine lv_iload_n hx hb dX8_count_9 rfl (lv_at hl 1 rfl) ?_
  by_cases c2 : a0 = (0 : Int32)
  · have h := itp c2 h
    refine lv_tableIn (tgt := 52) (off := 42) hx hb dX8_count_10 (by rw [c2]; decide) (by rw [c2]; decide) (by rw [c2]; rfl) (by decide) ?_
    refine lv_aload_n hx hb dX8_count_52 rfl (lv_at hl 0 rfl) ?_
    refine mg_0_1 F E J fl_X8_87 dX8_count_53 ?_
    obtain rfl := Option.some.inj h
    exact ret _ _ _ _ J dX8_count_56
  · have h := itn c2 h
    by_cases c3 : a0 = (1 : Int32)
    · have h := itp c3 h
      refine lv_tableIn (tgt := 57) (off := 47) hx hb dX8_count_10 (by rw [c3]; decide) (by rw [c3]; decide) (by rw [c3]; rfl) (by decide) ?_
      refine lv_aload_n hx hb dX8_count_57 rfl (lv_at hl 0 rfl) ?_
      refine mg_0_2 F E J fl_X8_99 dX8_count_58 ?_
      obtain rfl := Option.some.inj h
      exact ret _ _ _ _ J dX8_count_61
    · have h := itn c3 h
      by_cases c4 : a0 = (2 : Int32)
      · have h := itp c4 h
        refine lv_tableIn (tgt := 62) (off := 52) hx hb dX8_count_10 (by rw [c4]; decide) (by rw [c4]; decide) (by rw [c4]; rfl) (by decide) ?_
        refine lv_aload_n hx hb dX8_count_62 rfl (lv_at hl 0 rfl) ?_
        obtain ⟨p5, hp5, h⟩ := ob h
        refine onI (runV (As := []) (rest := []) F E J (c_X8_places  p5 hp5) cw_X8_257 ⟨rfl, rfl, Nat.le_of_ble_eq_true rfl, Nat.le_of_ble_eq_true rfl⟩ rcM0 rfl hl.1 rfl (Nat.le_of_ble_eq_true rfl) dX8_count_63) J (fun H locs J => ?_)
        obtain rfl := Option.some.inj h
        exact ret _ _ _ _ J dX8_count_66
      · have h := itn c4 h
        by_cases c6 : a0 = (3 : Int32)
        · have h := itp c6 h
          refine lv_tableIn (tgt := 67) (off := 57) hx hb dX8_count_10 (by rw [c6]; decide) (by rw [c6]; decide) (by rw [c6]; rfl) (by decide) ?_
          refine lv_aload_n hx hb dX8_count_67 rfl (lv_at hl 0 rfl) ?_
          refine mg_0_9 F E J fl_X8_118 dX8_count_68 ?_
          obtain rfl := Option.some.inj h
          exact ret _ _ _ _ J dX8_count_71
        · have h := itn c6 h
          by_cases c7 : a0 = (4 : Int32)
          · have h := itp c7 h
            refine lv_tableIn (tgt := 72) (off := 62) hx hb dX8_count_10 (by rw [c7]; decide) (by rw [c7]; decide) (by rw [c7]; rfl) (by decide) ?_
            refine lv_aload_n hx hb dX8_count_72 rfl (lv_at hl 0 rfl) ?_
            refine lv_iconst (v := 0) hx hb dX8_count_73 (by decide) ?_
            obtain ⟨p8, hp8, h⟩ := ob h
            refine onI (runV (As := [.int 0]) (rest := []) F E J (c_X8_same 0 p8 hp8) cw_X8_239 ⟨rfl, rfl, Nat.le_of_ble_eq_true rfl, Nat.le_of_ble_eq_true rfl⟩ rcM0 rfl hl.1 rfl (Nat.le_of_ble_eq_true rfl) dX8_count_74) J (fun H locs J => ?_)
            obtain rfl := Option.some.inj h
            exact ret _ _ _ _ J dX8_count_77
          · have h := itn c7 h
            by_cases c9 : a0 = (5 : Int32)
            · have h := itp c9 h
              refine lv_tableIn (tgt := 78) (off := 68) hx hb dX8_count_10 (by rw [c9]; decide) (by rw [c9]; decide) (by rw [c9]; rfl) (by decide) ?_
              refine lv_aload_n hx hb dX8_count_78 rfl (lv_at hl 0 rfl) ?_
              refine lv_iconst (v := 1) hx hb dX8_count_79 (by decide) ?_
              obtain ⟨p10, hp10, h⟩ := ob h
              refine onI (runV (As := [.int 1]) (rest := []) F E J (c_X8_same 1 p10 hp10) cw_X8_239 ⟨rfl, rfl, Nat.le_of_ble_eq_true rfl, Nat.le_of_ble_eq_true rfl⟩ rcM0 rfl hl.1 rfl (Nat.le_of_ble_eq_true rfl) dX8_count_80) J (fun H locs J => ?_)
              obtain rfl := Option.some.inj h
              exact ret _ _ _ _ J dX8_count_83
            · have h := itn c9 h
              by_cases c11 : a0 = (6 : Int32)
              · have h := itp c11 h
                refine lv_tableIn (tgt := 84) (off := 74) hx hb dX8_count_10 (by rw [c11]; decide) (by rw [c11]; decide) (by rw [c11]; rfl) (by decide) ?_
                refine lv_aload_n hx hb dX8_count_84 rfl (lv_at hl 0 rfl) ?_
                refine mg_0_16 F E J fl_X8_140 dX8_count_85 ?_
                obtain rfl := Option.some.inj h
                exact ret _ _ _ _ J dX8_count_88
              · have h := itn c11 h
                refine lv_tableOut (tgt := 89) hx hb dX8_count_10 (by have a0 := lv_neT (a := 0) c2 rfl; have a1 := lv_neT (a := 1) c3 rfl; have a2 := lv_neT (a := 2) c4 rfl; have a3 := lv_neT (a := 3) c6 rfl; have a4 := lv_neT (a := 4) c7 rfl; have a5 := lv_neT (a := 5) c9 rfl; have a6 := lv_neT (a := 6) c11 rfl; omega) (by decide) ?_
                refine lv_ldc hx hb F.2.2.2.1 (F.2.2.2.2 _ kc_X8_98) dX8_count_89 ?_
                obtain rfl := Option.some.inj h
                exact ret _ _ _ _ J dX8_count_91
