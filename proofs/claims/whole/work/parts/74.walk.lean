set_option maxHeartbeats 4000000 in
set_option maxRecDepth 100000 in
theorem c_X8_isRead {l : Launch} {g : GG} {A : Nat → Prop} {q : Nat → Nat} {m_thrown m_n m_robots m_viewed m_rules m_taped m_latest m_size m_at m_sort m_place m_end m_fault m_faultAt m_read m_crowds m_traced : Int32} {m_here m_hand m_view m_up m_down m_ruleSize m_ruleRow m_ruleDoes m_name m_goes m_tape m_readSize m_readRow m_readDoes m_own m_crowd m_isStep m_isOfGoal m_isMet m_most m_stands m_doesHere m_from m_trace : Nat → Int32} (a0 : Int32) (res : Int32) (h : F_X8_isRead a0 m_read m_readSize m_readRow m_own = some res) : Met l yX8_isRead (wS yX8_isRead cX8_isRead 6 (some .boolean)) rm_X8_isRead (va_Pc [.ref (q 0), .int a0] (VB g A (MW g q m_thrown m_n m_robots m_viewed m_rules m_taped m_latest m_size m_at m_sort m_place m_end m_fault m_faultAt m_read m_crowds m_traced m_here m_hand m_view m_up m_down m_ruleSize m_ruleRow m_ruleDoes m_name m_goes m_tape m_readSize m_readRow m_readDoes m_own m_crowd m_isStep m_isOfGoal m_isMet m_most m_stands m_doesHere m_from m_trace))) (va_Qi (fun r (_ : Unit) => r = res ∧ zB r) (fun _ => VB g A (MW g q m_thrown m_n m_robots m_viewed m_rules m_taped m_latest m_size m_at m_sort m_place m_end m_fault m_faultAt m_read m_crowds m_traced m_here m_hand m_view m_up m_down m_ruleSize m_ruleRow m_ruleDoes m_name m_goes m_tape m_readSize m_readRow m_readDoes m_own m_crowd m_isStep m_isOfGoal m_isMet m_most m_stands m_doesHere m_from m_trace)) A) 0 0 A := by
  unfold F_X8_isRead at h
  refine MetZ (res := res) (own := RX8) (ws' := (MW g q m_thrown m_n m_robots m_viewed m_rules m_taped m_latest m_size m_at m_sort m_place m_end m_fault m_faultAt m_read m_crowds m_traced m_here m_hand m_view m_up m_down m_ruleSize m_ruleRow m_ruleDoes m_name m_goes m_tape m_readSize m_readRow m_readDoes m_own m_crowd m_isStep m_isOfGoal m_isMet m_most m_stands m_doesHere m_from m_trace)) (by decide) rfl (Nat.le_of_ble_eq_true rfl) ?_
  intro p e s m args below meth c Q F E ret ls J hl
  have hx := F.1
  have hb := F.2.1
  have hl : lv_has ls 6 [(0, .ref (q 0)), (1, .int a0)] := hl
  refine lv_iconst (v := 0) hx hb dX8_isRead_0 (by decide) ?_
  refine lv_istore_n (lv' := [(2, .int 0), (0, .ref (q 0)), (1, .int a0)]) hx hb dX8_isRead_1 rfl hl (by decide) rfl (fun ls hl => ?_)
  refine lv_iconst (v := 0) hx hb dX8_isRead_2 (by decide) ?_
  refine lv_istore_n (lv' := [(3, .int 0), (2, .int 0), (0, .ref (q 0)), (1, .int a0)]) hx hb dX8_isRead_3 rfl hl (by decide) rfl (fun ls hl => ?_)
  obtain ⟨o_L1, ho_L1, h⟩ := ob h
  have T_L1 : ∀ (f : Nat) (l2_L1 : Int32) (l3_L1 : Int32) (o_L1 : Int32), F_X8_isRead_L1 a0 m_read m_readSize m_readRow m_own f l2_L1 l3_L1 = some o_L1 → ∀ (H : Heap) (locs : List Loc) (ls : Array Slot), VJ g A s.heap (MW g q m_thrown m_n m_robots m_viewed m_rules m_taped m_latest m_size m_at m_sort m_place m_end m_fault m_faultAt m_read m_crowds m_traced m_here m_hand m_view m_up m_down m_ruleSize m_ruleRow m_ruleDoes m_name m_goes m_tape m_readSize m_readRow m_readDoes m_own m_crowd m_isStep m_isOfGoal m_isMet m_most m_stands m_doesHere m_from m_trace) H locs → lv_has ls 6 [(0, .ref (q 0)), (1, .int a0), (2, .int l2_L1), (3, .int l3_L1)] → (∀ (H : Heap) (locs : List Loc) (ls : Array Slot), VJ g A s.heap (MW g q m_thrown m_n m_robots m_viewed m_rules m_taped m_latest m_size m_at m_sort m_place m_end m_fault m_faultAt m_read m_crowds m_traced m_here m_hand m_view m_up m_down m_ruleSize m_ruleRow m_ruleDoes m_name m_goes m_tape m_readSize m_readRow m_readDoes m_own m_crowd m_isStep m_isOfGoal m_isMet m_most m_stands m_doesHere m_from m_trace) H locs → lv_has ls 6 [(2, .int o_L1)] → W p l e rm_X8_isRead s m args below meth c H locs 0 0 Q (F0 m 103 ls [])) → W p l e rm_X8_isRead s m args below meth c H locs 0 0 Q (F0 m 4 ls []) := by
    clear h ho_L1 hl J
    intro f
    induction f with
    | zero => intro l2_L1 l3_L1 o_L1 h; exact absurd h (by simp [F_X8_isRead_L1])
    | succ f ih =>
      intro l2_L1 l3_L1 o_L1 h H locs ls J hl K_L1
      rw [F_X8_isRead_L1.eq_2] at h
      refine lv_iload_n hx hb dX8_isRead_4 rfl (lv_at hl 3 rfl) ?_
      refine lv_aload_n hx hb dX8_isRead_5 rfl (lv_at hl 0 rfl) ?_
      refine mg_0_25 F E J fl_X8_190 dX8_isRead_6 ?_
      refine lv_icmp_ge (tgt := 103) hx hb dX8_isRead_9 (by decide) (fun c2 => ?_) (fun c2 => ?_)
      · have h := itp c2 h
        obtain rfl := Option.some.inj h
        exact K_L1 _ _ _ J (lv_sub hl [2] rfl)
      · have h := itn c2 h
        refine lv_aload_n hx hb dX8_isRead_12 rfl (lv_at hl 0 rfl) ?_
        refine mg_0_26 F E J fl_X8_47 dX8_isRead_13 ?_
        refine lv_iload_n hx hb dX8_isRead_16 rfl (lv_at hl 3 rfl) ?_
        obtain ⟨hi, h⟩ := gdt h
        refine ml_12 F E J (inbt hi) dX8_isRead_17 ?_
        refine lv_iconst (v := 2) hx hb dX8_isRead_18 (by decide) ?_
        refine lv_iload_n hx hb dX8_isRead_19 rfl (lv_at hl 1 rfl) ?_
        refine lv_imul hx hb dX8_isRead_20 ?_
        obtain ⟨j3, hj3, h⟩ := ob h
        have Kj3 : ∀ (H : Heap) (locs : List Loc) (ls : Array Slot), VJ g A s.heap (MW g q m_thrown m_n m_robots m_viewed m_rules m_taped m_latest m_size m_at m_sort m_place m_end m_fault m_faultAt m_read m_crowds m_traced m_here m_hand m_view m_up m_down m_ruleSize m_ruleRow m_ruleDoes m_name m_goes m_tape m_readSize m_readRow m_readDoes m_own m_crowd m_isStep m_isOfGoal m_isMet m_most m_stands m_doesHere m_from m_trace) H locs → lv_has ls 6 [(0, .ref (q 0)), (1, .int a0), (2, .int l2_L1), (3, .int l3_L1)] → W p l e rm_X8_isRead s m args below meth c H locs 0 0 Q (F0 m 29 ls [.int j3]) := by
          intro H locs ls J hl
          refine lv_istore (lv' := [(4, .int j3), (0, .ref (q 0)), (1, .int a0), (2, .int l2_L1), (3, .int l3_L1)]) hx hb dX8_isRead_29 hl (by decide) rfl (fun ls hl => ?_)
          refine lv_iconst (v := 0) hx hb dX8_isRead_31 (by decide) ?_
          refine lv_istore (lv' := [(5, .int 0), (4, .int j3), (0, .ref (q 0)), (1, .int a0), (2, .int l2_L1), (3, .int l3_L1)]) hx hb dX8_isRead_32 hl (by decide) rfl (fun ls hl => ?_)
          obtain ⟨o_L5, ho_L5, h⟩ := ob h
          have T_L5 : ∀ (f : Nat) (l4_L5 : Int32) (l5_L5 : Int32) (o_L5 : Int32), F_X8_isRead_L5 a0 l3_L1 m_readRow m_own f l4_L5 l5_L5 = some o_L5 → ∀ (H : Heap) (locs : List Loc) (ls : Array Slot), VJ g A s.heap (MW g q m_thrown m_n m_robots m_viewed m_rules m_taped m_latest m_size m_at m_sort m_place m_end m_fault m_faultAt m_read m_crowds m_traced m_here m_hand m_view m_up m_down m_ruleSize m_ruleRow m_ruleDoes m_name m_goes m_tape m_readSize m_readRow m_readDoes m_own m_crowd m_isStep m_isOfGoal m_isMet m_most m_stands m_doesHere m_from m_trace) H locs → lv_has ls 6 [(0, .ref (q 0)), (1, .int a0), (2, .int l2_L1), (3, .int l3_L1), (4, .int l4_L5), (5, .int l5_L5)] → (∀ (H : Heap) (locs : List Loc) (ls : Array Slot), VJ g A s.heap (MW g q m_thrown m_n m_robots m_viewed m_rules m_taped m_latest m_size m_at m_sort m_place m_end m_fault m_faultAt m_read m_crowds m_traced m_here m_hand m_view m_up m_down m_ruleSize m_ruleRow m_ruleDoes m_name m_goes m_tape m_readSize m_readRow m_readDoes m_own m_crowd m_isStep m_isOfGoal m_isMet m_most m_stands m_doesHere m_from m_trace) H locs → lv_has ls 6 [(0, .ref (q 0)), (1, .int a0), (2, .int l2_L1), (3, .int l3_L1), (4, .int o_L5)] → W p l e rm_X8_isRead s m args below meth c H locs 0 0 Q (F0 m 82 ls [])) → W p l e rm_X8_isRead s m args below meth c H locs 0 0 Q (F0 m 34 ls []) := by
            clear h ho_L5 hl J
            intro f
            induction f with
            | zero => intro l4_L5 l5_L5 o_L5 h; exact absurd h (by simp [F_X8_isRead_L5])
            | succ f ih =>
              intro l4_L5 l5_L5 o_L5 h H locs ls J hl K_L5
              rw [F_X8_isRead_L5.eq_2] at h
              refine lv_iload hx hb dX8_isRead_34 (lv_at hl 5 rfl) ?_
              refine lv_iconst (v := 2) hx hb dX8_isRead_36 (by decide) ?_
              refine lv_iload_n hx hb dX8_isRead_37 rfl (lv_at hl 1 rfl) ?_
              refine lv_imul hx hb dX8_isRead_38 ?_
              refine lv_icmp_ge (tgt := 82) hx hb dX8_isRead_39 (by decide) (fun c6 => ?_) (fun c6 => ?_)
              · have h := itp c6 h
                obtain rfl := Option.some.inj h
                exact K_L5 _ _ _ J (lv_sub hl [0, 1, 2, 3, 4] rfl)
              · have h := itn c6 h
                refine lv_iload hx hb dX8_isRead_42 (lv_at hl 4 rfl) ?_
                obtain ⟨j7, hj7, h⟩ := ob h
                have Kj7 : ∀ (H : Heap) (locs : List Loc) (ls : Array Slot), VJ g A s.heap (MW g q m_thrown m_n m_robots m_viewed m_rules m_taped m_latest m_size m_at m_sort m_place m_end m_fault m_faultAt m_read m_crowds m_traced m_here m_hand m_view m_up m_down m_ruleSize m_ruleRow m_ruleDoes m_name m_goes m_tape m_readSize m_readRow m_readDoes m_own m_crowd m_isStep m_isOfGoal m_isMet m_most m_stands m_doesHere m_from m_trace) H locs → lv_has ls 6 [(0, .ref (q 0)), (1, .int a0), (2, .int l2_L1), (3, .int l3_L1), (5, .int l5_L5)] → W p l e rm_X8_isRead s m args below meth c H locs 0 0 Q (F0 m 74 ls [.int j7]) := by
                  intro H locs ls J hl
                  refine lv_istore (lv' := [(4, .int j7), (0, .ref (q 0)), (1, .int a0), (2, .int l2_L1), (3, .int l3_L1), (5, .int l5_L5)]) hx hb dX8_isRead_74 hl (by decide) rfl (fun ls hl => ?_)
                  obtain ⟨v10, hv10, h⟩ := obs h
                  refine lv_iinc (v := v10) (lv' := [(5, .int v10), (4, .int j7), (0, .ref (q 0)), (1, .int a0), (2, .int l2_L1), (3, .int l3_L1)]) hx hb dX8_isRead_76 hl (k := 5) rfl (by rw [← hv10]; rfl) (by decide) rfl (fun ls hl => ?_)
                  refine lv_goto (tgt := 34) hx hb dX8_isRead_79 (by decide) ?_
                  exact ih _ _ _ h _ _ _ J (lv_sub hl [2, 3, 4, 5, 1, 0] rfl) K_L5
                clear h
                have h := hj7
                refine lv_if_eq (tgt := 73) hx hb dX8_isRead_44 (by decide) (fun c8 => ?_) (fun c8 => ?_)
                · have h := itp c8 h
                  refine lv_iconst (v := 0) hx hb dX8_isRead_73 (by decide) ?_
                  obtain rfl := Option.some.inj h
                  exact Kj7 _ _ _ J (lv_sub hl [0, 1, 2, 3, 5] rfl)
                · have h := itn c8 h
                  refine lv_aload_n hx hb dX8_isRead_47 rfl (lv_at hl 0 rfl) ?_
                  refine mg_0_27 F E J fl_X8_50 dX8_isRead_48 ?_
                  refine lv_bipush (v := 8) hx hb dX8_isRead_51 (by decide) ?_
                  refine lv_iload_n hx hb dX8_isRead_53 rfl (lv_at hl 3 rfl) ?_
                  refine lv_imul hx hb dX8_isRead_54 ?_
                  refine lv_iload hx hb dX8_isRead_55 (lv_at hl 5 rfl) ?_
                  refine lv_iadd hx hb dX8_isRead_57 ?_
                  obtain ⟨hi, h⟩ := gdt h
                  refine ml_13 F E J (inbt hi) dX8_isRead_58 ?_
                  refine lv_aload_n hx hb dX8_isRead_59 rfl (lv_at hl 0 rfl) ?_
                  refine mg_0_29 F E J fl_X8_56 dX8_isRead_60 ?_
                  refine lv_iload hx hb dX8_isRead_63 (lv_at hl 5 rfl) ?_
                  obtain ⟨hi, h⟩ := gdt h
                  refine ml_15 F E J (inbt hi) dX8_isRead_65 ?_
                  refine lv_icmp_ne (tgt := 73) hx hb dX8_isRead_66 (by decide) (fun c9 => ?_) (fun c9 => ?_)
                  · have h := itn c9 h
                    refine lv_iconst (v := 0) hx hb dX8_isRead_73 (by decide) ?_
                    obtain rfl := Option.some.inj h
                    exact Kj7 _ _ _ J (lv_sub hl [0, 1, 2, 3, 5] rfl)
                  · have h := itp c9 h
                    refine lv_iconst (v := 1) hx hb dX8_isRead_69 (by decide) ?_
                    refine lv_goto (tgt := 74) hx hb dX8_isRead_70 (by decide) ?_
                    obtain rfl := Option.some.inj h
                    exact Kj7 _ _ _ J (lv_sub hl [0, 1, 2, 3, 5] rfl)
          refine T_L5 FU j3 0 o_L5 ho_L5 _ _ _ J (lv_sub hl [2, 3, 4, 5, 1, 0] rfl) (fun H locs ls J hl => ?_)
          refine lv_iload_n hx hb dX8_isRead_82 rfl (lv_at hl 2 rfl) ?_
          obtain ⟨j11, hj11, h⟩ := ob h
          have Kj11 : ∀ (H : Heap) (locs : List Loc) (ls : Array Slot), VJ g A s.heap (MW g q m_thrown m_n m_robots m_viewed m_rules m_taped m_latest m_size m_at m_sort m_place m_end m_fault m_faultAt m_read m_crowds m_traced m_here m_hand m_view m_up m_down m_ruleSize m_ruleRow m_ruleDoes m_name m_goes m_tape m_readSize m_readRow m_readDoes m_own m_crowd m_isStep m_isOfGoal m_isMet m_most m_stands m_doesHere m_from m_trace) H locs → lv_has ls 6 [(0, .ref (q 0)), (1, .int a0), (3, .int l3_L1)] → W p l e rm_X8_isRead s m args below meth c H locs 0 0 Q (F0 m 96 ls [.int j11]) := by
            intro H locs ls J hl
            refine lv_istore_n (lv' := [(2, .int j11), (0, .ref (q 0)), (1, .int a0), (3, .int l3_L1)]) hx hb dX8_isRead_96 rfl hl (by decide) rfl (fun ls hl => ?_)
            obtain ⟨v14, hv14, h⟩ := obs h
            refine lv_iinc (v := v14) (lv' := [(3, .int v14), (2, .int j11), (0, .ref (q 0)), (1, .int a0)]) hx hb dX8_isRead_97 hl (k := 3) rfl (by rw [← hv14]; rfl) (by decide) rfl (fun ls hl => ?_)
            refine lv_goto (tgt := 4) hx hb dX8_isRead_100 (by decide) ?_
            exact ih _ _ _ h _ _ _ J (lv_sub hl [2, 3, 1, 0] rfl) K_L1
          clear h
          have h := hj11
          refine lv_if_ne (tgt := 91) hx hb dX8_isRead_83 (by decide) (fun c12 => ?_) (fun c12 => ?_)
          · have h := itn c12 h
            refine lv_iconst (v := 1) hx hb dX8_isRead_91 (by decide) ?_
            refine lv_goto (tgt := 96) hx hb dX8_isRead_92 (by decide) ?_
            obtain rfl := Option.some.inj h
            exact Kj11 _ _ _ J (lv_sub hl [0, 1, 3] rfl)
          · have h := itp c12 h
            refine lv_iload hx hb dX8_isRead_86 (lv_at hl 4 rfl) ?_
            refine lv_if_eq (tgt := 95) hx hb dX8_isRead_88 (by decide) (fun c13 => ?_) (fun c13 => ?_)
            · have h := itp c13 h
              refine lv_iconst (v := 0) hx hb dX8_isRead_95 (by decide) ?_
              obtain rfl := Option.some.inj h
              exact Kj11 _ _ _ J (lv_sub hl [0, 1, 3] rfl)
            · have h := itn c13 h
              refine lv_iconst (v := 1) hx hb dX8_isRead_91 (by decide) ?_
              refine lv_goto (tgt := 96) hx hb dX8_isRead_92 (by decide) ?_
              obtain rfl := Option.some.inj h
              exact Kj11 _ _ _ J (lv_sub hl [0, 1, 3] rfl)
        clear h
        have h := hj3
        refine lv_icmp_ne (tgt := 28) hx hb dX8_isRead_21 (by decide) (fun c4 => ?_) (fun c4 => ?_)
        · have h := itn c4 h
          refine lv_iconst (v := 0) hx hb dX8_isRead_28 (by decide) ?_
          obtain rfl := Option.some.inj h
          exact Kj3 _ _ _ J (lv_sub hl [0, 1, 2, 3] rfl)
        · have h := itp c4 h
          refine lv_iconst (v := 1) hx hb dX8_isRead_24 (by decide) ?_
          refine lv_goto (tgt := 29) hx hb dX8_isRead_25 (by decide) ?_
          obtain rfl := Option.some.inj h
          exact Kj3 _ _ _ J (lv_sub hl [0, 1, 2, 3] rfl)
  refine T_L1 FU 0 0 o_L1 ho_L1 _ _ _ J (lv_sub hl [2, 3, 1, 0] rfl) (fun H locs ls J hl => ?_)
  refine lv_iload_n hx hb dX8_isRead_103 rfl (lv_at hl 0 rfl) ?_
  obtain ⟨hi, h⟩ := gdt h
  obtain rfl := Option.some.inj h
  exact ret _ _ _ _ (isBt hi) J dX8_isRead_104
set_option maxHeartbeats 4000000 in
set_option maxRecDepth 100000 in
theorem c_X8_readRule {l : Launch} {g : GG} {A : Nat → Prop} {q : Nat → Nat} {m_thrown m_n m_robots m_viewed m_rules m_taped m_latest m_size m_at m_sort m_place m_end m_fault m_faultAt m_read m_crowds m_traced : Int32} {m_here m_hand m_view m_up m_down m_ruleSize m_ruleRow m_ruleDoes m_name m_goes m_tape m_readSize m_readRow m_readDoes m_own m_crowd m_isStep m_isOfGoal m_isMet m_most m_stands m_doesHere m_from m_trace : Nat → Int32} (res : Int32 × Int32 × Int32 × Int32 × Int32 × Int32 × Int32 × (Nat → Int32) × (Nat → Int32) × (Nat → Int32) × (Nat → Int32)) (h : F_X8_readRule m_size m_at m_sort m_place m_end m_fault m_faultAt m_read m_tape m_readSize m_readRow m_readDoes m_own = some res) : Met l yX8_readRule (wS yX8_readRule cX8_readRule 6 none) rm_X8_readRule (va_Pc [.ref (q 0)] (VB g A (MW g q m_thrown m_n m_robots m_viewed m_rules m_taped m_latest m_size m_at m_sort m_place m_end m_fault m_faultAt m_read m_crowds m_traced m_here m_hand m_view m_up m_down m_ruleSize m_ruleRow m_ruleDoes m_name m_goes m_tape m_readSize m_readRow m_readDoes m_own m_crowd m_isStep m_isOfGoal m_isMet m_most m_stands m_doesHere m_from m_trace))) (va_Qv (fun (_ : Unit) => True) (fun _ => VB g A (MW g q m_thrown m_n m_robots m_viewed m_rules m_taped m_latest m_size res.1 res.2.1 res.2.2.1 res.2.2.2.1 res.2.2.2.2.1 res.2.2.2.2.2.1 res.2.2.2.2.2.2.1 m_crowds m_traced m_here m_hand m_view m_up m_down m_ruleSize m_ruleRow m_ruleDoes m_name m_goes m_tape res.2.2.2.2.2.2.2.1 res.2.2.2.2.2.2.2.2.1 res.2.2.2.2.2.2.2.2.2.1 res.2.2.2.2.2.2.2.2.2.2 m_crowd m_isStep m_isOfGoal m_isMet m_most m_stands m_doesHere m_from m_trace)) A) 0 0 A := by
  unfold F_X8_readRule at h
  refine MetV (own := RX8) (ws' := (MW g q m_thrown m_n m_robots m_viewed m_rules m_taped m_latest m_size res.1 res.2.1 res.2.2.1 res.2.2.2.1 res.2.2.2.2.1 res.2.2.2.2.2.1 res.2.2.2.2.2.2.1 m_crowds m_traced m_here m_hand m_view m_up m_down m_ruleSize m_ruleRow m_ruleDoes m_name m_goes m_tape res.2.2.2.2.2.2.2.1 res.2.2.2.2.2.2.2.2.1 res.2.2.2.2.2.2.2.2.2.1 res.2.2.2.2.2.2.2.2.2.2 m_crowd m_isStep m_isOfGoal m_isMet m_most m_stands m_doesHere m_from m_trace)) (by decide) rfl (Nat.le_of_ble_eq_true rfl) ?_
  intro p e s m args below meth c Q F E ret ls J hl
  have hx := F.1
  have hb := F.2.1
  have hl : lv_has ls 6 [(0, .ref (q 0))] := hl
  refine lv_aload_n hx hb dX8_readRule_0 rfl (lv_at hl 0 rfl) ?_
  obtain ⟨p1, hp1, h⟩ := ob h
  refine onL (runV (As := []) (rest := []) F E J (c_X8_word  p1 hp1) cw_X8_193 ⟨rfl, rfl, Nat.le_of_ble_eq_true rfl, Nat.le_of_ble_eq_true rfl⟩ rcM0 rfl hl.1 rfl (Nat.le_of_ble_eq_true rfl) dX8_readRule_1) J (fun H locs J => ?_)
  refine lv_ldc2 hx hb F.2.2.2.1 (F.2.2.2.2 _ kc_X8_197) dX8_readRule_4 ?_
  refine W.lcmp hx hb dX8_readRule_7 ?_
  obtain ⟨j2, hj2, h⟩ := ob h
  have Kj2 : ∀ (H : Heap) (locs : List Loc) (ls : Array Slot), VJ g A s.heap (MW g q m_thrown m_n m_robots m_viewed m_rules m_taped m_latest m_size m_at m_sort m_place m_end j2.1 j2.2 m_read m_crowds m_traced m_here m_hand m_view m_up m_down m_ruleSize m_ruleRow m_ruleDoes m_name m_goes m_tape m_readSize m_readRow m_readDoes m_own m_crowd m_isStep m_isOfGoal m_isMet m_most m_stands m_doesHere m_from m_trace) H locs → lv_has ls 6 [(0, .ref (q 0))] → W p l e rm_X8_readRule s m args below meth c H locs 0 0 Q (F0 m 25 ls []) := by
    intro H locs ls J hl
    refine lv_aload_n hx hb dX8_readRule_25 rfl (lv_at hl 0 rfl) ?_
    refine lv_aload_n hx hb dX8_readRule_26 rfl (lv_at hl 0 rfl) ?_
    obtain ⟨p6, hp6, h⟩ := ob h
    refine onL (runV (As := []) (rest := [.ref (q 0)]) F E J (c_X8_word  p6 hp6) cw_X8_193 ⟨rfl, rfl, Nat.le_of_ble_eq_true rfl, Nat.le_of_ble_eq_true rfl⟩ rcM0 rfl hl.1 rfl (Nat.le_of_ble_eq_true rfl) dX8_readRule_27) J (fun H locs J => ?_)
    refine lv_ldc2 hx hb F.2.2.2.1 (F.2.2.2.2 _ kc_X8_197) dX8_readRule_30 ?_
    refine W.lcmp hx hb dX8_readRule_33 ?_
    obtain ⟨j7, hj7, h⟩ := ob h
    have Kj7 : ∀ (H : Heap) (locs : List Loc) (ls : Array Slot), VJ g A s.heap (MW g q m_thrown m_n m_robots m_viewed m_rules m_taped m_latest m_size m_at m_sort m_place m_end j2.1 j2.2 m_read m_crowds m_traced m_here m_hand m_view m_up m_down m_ruleSize m_ruleRow m_ruleDoes m_name m_goes m_tape m_readSize m_readRow m_readDoes m_own m_crowd m_isStep m_isOfGoal m_isMet m_most m_stands m_doesHere m_from m_trace) H locs → lv_has ls 6 [(0, .ref (q 0))] → W p l e rm_X8_readRule s m args below meth c H locs 0 0 Q (F0 m 42 ls [.int j7, .ref (q 0)]) := by
      intro H locs ls J hl
      obtain ⟨p9, hp9, h⟩ := ob h
      refine onV (runV (As := [.int j7]) (rest := []) F E J (c_X8_need j7 p9 hp9) cw_X8_182 ⟨rfl, rfl, Nat.le_of_ble_eq_true rfl, Nat.le_of_ble_eq_true rfl⟩ rcM0 rfl hl.1 rfl (Nat.le_of_ble_eq_true rfl) dX8_readRule_42) J (fun H locs J => ?_)
      refine lv_iconst (v := 0) hx hb dX8_readRule_45 (by decide) ?_
      refine lv_istore_n (lv' := [(1, .int 0), (0, .ref (q 0))]) hx hb dX8_readRule_46 rfl hl (by decide) rfl (fun ls hl => ?_)
      refine lv_aload_n hx hb dX8_readRule_47 rfl (lv_at hl 1 rfl) ?_
      refine mg_0_23 F E J fl_X8_169 dX8_readRule_48 ?_
      obtain ⟨j10, hj10, h⟩ := ob h
      have Kj10 : ∀ (H : Heap) (locs : List Loc) (ls : Array Slot), VJ g A s.heap (MW g q m_thrown m_n m_robots m_viewed m_rules m_taped m_latest m_size j10.2.1 j10.2.2.1 j10.2.2.2.1 j10.2.2.2.2.1 j10.2.2.2.2.2.1 j10.2.2.2.2.2.2.1 m_read m_crowds m_traced m_here m_hand m_view m_up m_down m_ruleSize m_ruleRow m_ruleDoes m_name m_goes m_tape m_readSize m_readRow m_readDoes j10.2.2.2.2.2.2.2 m_crowd m_isStep m_isOfGoal m_isMet m_most m_stands m_doesHere m_from m_trace) H locs → lv_has ls 6 [(0, .ref (q 0)), (1, .int j10.1)] → W p l e rm_X8_readRule s m args below meth c H locs 0 0 Q (F0 m 61 ls []) := by
        intro H locs ls J hl
        obtain ⟨o_L13, ho_L13, h⟩ := ob h
        have T_L13 : ∀ (f : Nat) (l1_L13 : Int32) (m_at_L13 : Int32) (m_sort_L13 : Int32) (m_place_L13 : Int32) (m_end_L13 : Int32) (m_fault_L13 : Int32) (m_faultAt_L13 : Int32) (m_own_L13 : Nat → Int32) (o_L13 : Int32 × Int32 × Int32 × Int32 × Int32 × Int32 × Int32 × (Nat → Int32)), F_X8_readRule_L13 m_size m_tape f l1_L13 m_at_L13 m_sort_L13 m_place_L13 m_end_L13 m_fault_L13 m_faultAt_L13 m_own_L13 = some o_L13 → ∀ (H : Heap) (locs : List Loc) (ls : Array Slot), VJ g A s.heap (MW g q m_thrown m_n m_robots m_viewed m_rules m_taped m_latest m_size m_at_L13 m_sort_L13 m_place_L13 m_end_L13 m_fault_L13 m_faultAt_L13 m_read m_crowds m_traced m_here m_hand m_view m_up m_down m_ruleSize m_ruleRow m_ruleDoes m_name m_goes m_tape m_readSize m_readRow m_readDoes m_own_L13 m_crowd m_isStep m_isOfGoal m_isMet m_most m_stands m_doesHere m_from m_trace) H locs → lv_has ls 6 [(0, .ref (q 0)), (1, .int l1_L13)] → (∀ (H : Heap) (locs : List Loc) (ls : Array Slot), VJ g A s.heap (MW g q m_thrown m_n m_robots m_viewed m_rules m_taped m_latest m_size o_L13.2.1 o_L13.2.2.1 o_L13.2.2.2.1 o_L13.2.2.2.2.1 o_L13.2.2.2.2.2.1 o_L13.2.2.2.2.2.2.1 m_read m_crowds m_traced m_here m_hand m_view m_up m_down m_ruleSize m_ruleRow m_ruleDoes m_name m_goes m_tape m_readSize m_readRow m_readDoes o_L13.2.2.2.2.2.2.2 m_crowd m_isStep m_isOfGoal m_isMet m_most m_stands m_doesHere m_from m_trace) H locs → lv_has ls 6 [(0, .ref (q 0)), (1, .int o_L13.1)] → W p l e rm_X8_readRule s m args below meth c H locs 0 0 Q (F0 m 105 ls [])) → W p l e rm_X8_readRule s m args below meth c H locs 0 0 Q (F0 m 61 ls []) := by
          clear h ho_L13 hl J
          intro f
          induction f with
          | zero => intro l1_L13 m_at_L13 m_sort_L13 m_place_L13 m_end_L13 m_fault_L13 m_faultAt_L13 m_own_L13 o_L13 h; exact absurd h (by simp [F_X8_readRule_L13])
          | succ f ih =>
            intro l1_L13 m_at_L13 m_sort_L13 m_place_L13 m_end_L13 m_fault_L13 m_faultAt_L13 m_own_L13 o_L13 h H locs ls J hl K_L13
            rw [F_X8_readRule_L13.eq_2] at h
            refine lv_aload_n hx hb dX8_readRule_61 rfl (lv_at hl 0 rfl) ?_
            refine mg_0_23 F E J fl_X8_169 dX8_readRule_62 ?_
            refine lv_if_ne (tgt := 105) hx hb dX8_readRule_65 (by decide) (fun c14 => ?_) (fun c14 => ?_)
            · have h := itn c14 h
              obtain rfl := Option.some.inj h
              exact K_L13 _ _ _ J (lv_sub hl [0, 1] rfl)
            · have h := itp c14 h
              refine lv_aload_n hx hb dX8_readRule_68 rfl (lv_at hl 0 rfl) ?_
              refine lv_bipush (v := 44) hx hb dX8_readRule_69 (by decide) ?_
              obtain ⟨p15, hp15, h⟩ := ob h
              refine onZ (runV (As := [.int 44]) (rest := []) F E J (c_X8_is 44 p15 hp15) cw_X8_202 ⟨rfl, rfl, Nat.le_of_ble_eq_true rfl, Nat.le_of_ble_eq_true rfl⟩ rcM0 rfl hl.1 rfl (Nat.le_of_ble_eq_true rfl) dX8_readRule_71) J (fun hzbp15 H locs J => ?_)
              refine lv_if_eq (tgt := 105) hx hb dX8_readRule_74 (by decide) (fun c16 => ?_) (fun c16 => ?_)
              · have h := itp c16 h
                obtain rfl := Option.some.inj h
                exact K_L13 _ _ _ J (lv_sub hl [0, 1] rfl)
              · have h := itn c16 h
                refine lv_iload_n hx hb dX8_readRule_77 rfl (lv_at hl 1 rfl) ?_
                refine lv_iconst (v := 4) hx hb dX8_readRule_78 (by decide) ?_
                refine lv_icmp_ne (tgt := 90) hx hb dX8_readRule_79 (by decide) (fun c17 => ?_) (fun c17 => ?_)
                · have h := itn c17 h
                  refine lv_aload_n hx hb dX8_readRule_90 rfl (lv_at hl 0 rfl) ?_
                  obtain ⟨p18, hp18, h⟩ := ob h
                  refine onV (runV (As := []) (rest := []) F E J (c_X8_next  p18 hp18) cw_X8_179 ⟨rfl, rfl, Nat.le_of_ble_eq_true rfl, Nat.le_of_ble_eq_true rfl⟩ rcM0 rfl hl.1 rfl (Nat.le_of_ble_eq_true rfl) dX8_readRule_91) J (fun H locs J => ?_)
                  refine lv_aload_n hx hb dX8_readRule_94 rfl (lv_at hl 0 rfl) ?_
                  refine lv_iload_n hx hb dX8_readRule_95 rfl (lv_at hl 1 rfl) ?_
                  obtain ⟨p19, hp19, h⟩ := ob h
                  refine onV (runV (As := [.int l1_L13]) (rest := []) F E J (c_X8_readPair l1_L13 p19 hp19) cw_X8_199 ⟨rfl, rfl, Nat.le_of_ble_eq_true rfl, Nat.le_of_ble_eq_true rfl⟩ rcM0 rfl hl.1 rfl (Nat.le_of_ble_eq_true rfl) dX8_readRule_96) J (fun H locs J => ?_)
                  obtain ⟨v20, hv20, h⟩ := obs h
                  refine lv_iinc (v := v20) (lv' := [(1, .int v20), (0, .ref (q 0))]) hx hb dX8_readRule_99 hl (k := 1) rfl (by rw [← hv20]; rfl) (by decide) rfl (fun ls hl => ?_)
                  refine lv_goto (tgt := 61) hx hb dX8_readRule_102 (by decide) ?_
                  exact ih _ _ _ _ _ _ _ _ _ h _ _ _ J (lv_sub hl [1, 0] rfl) K_L13
                · have h := itp c17 h
                  refine lv_aload_n hx hb dX8_readRule_82 rfl (lv_at hl 0 rfl) ?_
                  refine lv_iconst (v := 3) hx hb dX8_readRule_83 (by decide) ?_
                  obtain ⟨p21, hp21, h⟩ := ob h
                  refine onV (runV (As := [.int 3]) (rest := []) F E J (c_X8_bad 3 p21 hp21) cw_X8_175 ⟨rfl, rfl, Nat.le_of_ble_eq_true rfl, Nat.le_of_ble_eq_true rfl⟩ rcM0 rfl hl.1 rfl (Nat.le_of_ble_eq_true rfl) dX8_readRule_84) J (fun H locs J => ?_)
                  refine lv_goto (tgt := 61) hx hb dX8_readRule_87 (by decide) ?_
                  exact ih _ _ _ _ _ _ _ _ _ h _ _ _ J (lv_sub hl [0, 1] rfl) K_L13
        refine T_L13 FU j10.1 j10.2.1 j10.2.2.1 j10.2.2.2.1 j10.2.2.2.2.1 j10.2.2.2.2.2.1 j10.2.2.2.2.2.2.1 j10.2.2.2.2.2.2.2 o_L13 ho_L13 _ _ _ J (lv_sub hl [0, 1] rfl) (fun H locs ls J hl => ?_)
        refine lv_aload_n hx hb dX8_readRule_105 rfl (lv_at hl 0 rfl) ?_
        refine mg_0_23 F E J fl_X8_169 dX8_readRule_106 ?_
        refine lv_if_le (tgt := 113) hx hb dX8_readRule_109 (by decide) (fun c22 => ?_) (fun c22 => ?_)
        · have h := itp c22 h
          refine lv_aload_n hx hb dX8_readRule_113 rfl (lv_at hl 0 rfl) ?_
          obtain ⟨p23, hp23, h⟩ := ob h
          refine onL (runV (As := []) (rest := []) F E J (c_X8_word  p23 hp23) cw_X8_193 ⟨rfl, rfl, Nat.le_of_ble_eq_true rfl, Nat.le_of_ble_eq_true rfl⟩ rcM0 rfl hl.1 rfl (Nat.le_of_ble_eq_true rfl) dX8_readRule_114) J (fun H locs J => ?_)
          refine lv_lstore_n (lv' := [(2, .long p23), (0, .ref (q 0)), (1, .int o_L13.1)]) hx hb dX8_readRule_117 rfl hl (by decide) rfl (fun ls hl => ?_)
          refine lv_lload_n hx hb dX8_readRule_118 rfl (lv_at hl 0 rfl) ?_
          refine lv_ldc2 hx hb F.2.2.2.1 (F.2.2.2.2 _ kc_X8_205) dX8_readRule_119 ?_
          refine W.lcmp hx hb dX8_readRule_122 ?_
          obtain ⟨j24, hj24, h⟩ := ob h
          have Kj24 : ∀ (H : Heap) (locs : List Loc) (ls : Array Slot), VJ g A s.heap (MW g q m_thrown m_n m_robots m_viewed m_rules m_taped m_latest m_size o_L13.2.1 o_L13.2.2.1 o_L13.2.2.2.1 o_L13.2.2.2.2.1 o_L13.2.2.2.2.2.1 o_L13.2.2.2.2.2.2.1 m_read m_crowds m_traced m_here m_hand m_view m_up m_down m_ruleSize m_ruleRow m_ruleDoes m_name m_goes m_tape m_readSize m_readRow m_readDoes o_L13.2.2.2.2.2.2.2 m_crowd m_isStep m_isOfGoal m_isMet m_most m_stands m_doesHere m_from m_trace) H locs → lv_has ls 6 [(0, .ref (q 0)), (1, .int o_L13.1), (2, .long p23)] → W p l e rm_X8_readRule s m args below meth c H locs 0 0 Q (F0 m 147 ls [.int j24]) := by
            intro H locs ls J hl
            refine lv_istore (lv' := [(4, .int j24), (0, .ref (q 0)), (1, .int o_L13.1), (2, .long p23)]) hx hb dX8_readRule_147 hl (by decide) rfl (fun ls hl => ?_)
            refine lv_iload hx hb dX8_readRule_149 (lv_at hl 0 rfl) ?_
            obtain ⟨j28, hj28, h⟩ := ob h
            have Kj28 : ∀ (H : Heap) (locs : List Loc) (ls : Array Slot), VJ g A s.heap (MW g q m_thrown m_n m_robots m_viewed m_rules m_taped m_latest m_size o_L13.2.1 o_L13.2.2.1 o_L13.2.2.2.1 o_L13.2.2.2.2.1 j28.1 j28.2 m_read m_crowds m_traced m_here m_hand m_view m_up m_down m_ruleSize m_ruleRow m_ruleDoes m_name m_goes m_tape m_readSize m_readRow m_readDoes o_L13.2.2.2.2.2.2.2 m_crowd m_isStep m_isOfGoal m_isMet m_most m_stands m_doesHere m_from m_trace) H locs → lv_has ls 6 [(0, .ref (q 0)), (1, .int o_L13.1), (2, .long p23), (4, .int j24)] → W p l e rm_X8_readRule s m args below meth c H locs 0 0 Q (F0 m 167 ls []) := by
              intro H locs ls J hl
              refine lv_aload_n hx hb dX8_readRule_167 rfl (lv_at hl 0 rfl) ?_
              refine lv_iload hx hb dX8_readRule_168 (lv_at hl 3 rfl) ?_
              obtain ⟨p33, hp33, h⟩ := ob h
              refine onV (runV (As := [.int j24]) (rest := []) F E J (c_X8_need j24 p33 hp33) cw_X8_182 ⟨rfl, rfl, Nat.le_of_ble_eq_true rfl, Nat.le_of_ble_eq_true rfl⟩ rcM0 rfl hl.1 rfl (Nat.le_of_ble_eq_true rfl) dX8_readRule_170) J (fun H locs J => ?_)
              refine lv_aload_n hx hb dX8_readRule_173 rfl (lv_at hl 0 rfl) ?_
              refine lv_aload_n hx hb dX8_readRule_174 rfl (lv_at hl 0 rfl) ?_
              refine lv_bipush (v := 59) hx hb dX8_readRule_175 (by decide) ?_
              obtain ⟨p34, hp34, h⟩ := ob h
              refine onZ (runV (As := [.int 59]) (rest := [.ref (q 0)]) F E J (c_X8_is 59 p34 hp34) cw_X8_202 ⟨rfl, rfl, Nat.le_of_ble_eq_true rfl, Nat.le_of_ble_eq_true rfl⟩ rcM0 rfl hl.1 rfl (Nat.le_of_ble_eq_true rfl) dX8_readRule_177) J (fun hzbp34 H locs J => ?_)
              obtain ⟨p35, hp35, h⟩ := ob h
              refine onV (runV (As := [.int p34]) (rest := []) F E J (c_X8_need p34 p35 hp35) cw_X8_182 ⟨rfl, rfl, Nat.le_of_ble_eq_true rfl, Nat.le_of_ble_eq_true rfl⟩ rcM0 rfl hl.1 rfl (Nat.le_of_ble_eq_true rfl) dX8_readRule_180) J (fun H locs J => ?_)
              refine lv_aload_n hx hb dX8_readRule_183 rfl (lv_at hl 0 rfl) ?_
              refine mg_0_23 F E J fl_X8_169 dX8_readRule_184 ?_
              refine lv_if_ne (tgt := 284) hx hb dX8_readRule_187 (by decide) (fun c36 => ?_) (fun c36 => ?_)
              · have h := itn c36 h
                obtain rfl := Option.some.inj h
                exact ret _ _ _ _ J dX8_readRule_284
              · have h := itp c36 h
                refine lv_aload_n hx hb dX8_readRule_190 rfl (lv_at hl 0 rfl) ?_
                refine mg_0_26 F E J fl_X8_47 dX8_readRule_191 ?_
                refine lv_aload_n hx hb dX8_readRule_194 rfl (lv_at hl 0 rfl) ?_
                refine mg_0_25 F E J fl_X8_190 dX8_readRule_195 ?_
                refine lv_iconst (v := 2) hx hb dX8_readRule_198 (by decide) ?_
                refine lv_iload_n hx hb dX8_readRule_199 rfl (lv_at hl 1 rfl) ?_
                refine lv_imul hx hb dX8_readRule_200 ?_
                obtain ⟨v37, hv37, h⟩ := obs h
                refine nmI hv37 ?_
                obtain ⟨hi, h⟩ := gdt h
                refine ms_12 F E J (inbt hi) dX8_readRule_201 (fun H locs J => ?_)
                refine lv_aload_n hx hb dX8_readRule_202 rfl (lv_at hl 0 rfl) ?_
                refine mg_0_28 F E J fl_X8_53 dX8_readRule_203 ?_
                refine lv_aload_n hx hb dX8_readRule_206 rfl (lv_at hl 0 rfl) ?_
                refine mg_0_25 F E J fl_X8_190 dX8_readRule_207 ?_
                refine lv_lload_n hx hb dX8_readRule_210 rfl (lv_at hl 2 rfl) ?_
                refine lv_ldc2 hx hb F.2.2.2.1 (F.2.2.2.2 _ kc_X8_205) dX8_readRule_211 ?_
                refine W.lcmp hx hb dX8_readRule_214 ?_
                obtain ⟨j38, hj38, h⟩ := ob h
                have Kj38 : ∀ (H : Heap) (locs : List Loc) (ls : Array Slot), VJ g A s.heap (MW g q m_thrown m_n m_robots m_viewed m_rules m_taped m_latest m_size p35.1 p35.2.1 p35.2.2.1 p35.2.2.2.1 p35.2.2.2.2.1 p35.2.2.2.2.2 m_read m_crowds m_traced m_here m_hand m_view m_up m_down m_ruleSize m_ruleRow m_ruleDoes m_name m_goes m_tape (upd m_readSize (Int32.toNatClampNeg m_read) v37) m_readRow m_readDoes o_L13.2.2.2.2.2.2.2 m_crowd m_isStep m_isOfGoal m_isMet m_most m_stands m_doesHere m_from m_trace) H locs → lv_has ls 6 [(0, .ref (q 0))] → W p l e rm_X8_readRule s m args below meth c H locs 0 0 Q (F0 m 235 ls [.int j38, .int m_read, .ref (q 14)]) := by
                  intro H locs ls J hl
                  obtain ⟨hi, h⟩ := gdt h
                  refine ms_14 F E J (inbt hi) dX8_readRule_235 (fun H locs J => ?_)
                  refine lv_iconst (v := 0) hx hb dX8_readRule_236 (by decide) ?_
                  refine lv_istore (lv' := [(5, .int 0), (0, .ref (q 0))]) hx hb dX8_readRule_237 hl (by decide) rfl (fun ls hl => ?_)
                  obtain ⟨o_L41, ho_L41, h⟩ := ob h
                  have T_L41 : ∀ (f : Nat) (l5_L41 : Int32) (m_readRow_L41 : Nat → Int32) (o_L41 : Nat → Int32), F_X8_readRule_L41 m_read o_L13.2.2.2.2.2.2.2 f l5_L41 m_readRow_L41 = some o_L41 → ∀ (H : Heap) (locs : List Loc) (ls : Array Slot), VJ g A s.heap (MW g q m_thrown m_n m_robots m_viewed m_rules m_taped m_latest m_size p35.1 p35.2.1 p35.2.2.1 p35.2.2.2.1 p35.2.2.2.2.1 p35.2.2.2.2.2 m_read m_crowds m_traced m_here m_hand m_view m_up m_down m_ruleSize m_ruleRow m_ruleDoes m_name m_goes m_tape (upd m_readSize (Int32.toNatClampNeg m_read) v37) m_readRow_L41 (upd m_readDoes (Int32.toNatClampNeg m_read) j38) o_L13.2.2.2.2.2.2.2 m_crowd m_isStep m_isOfGoal m_isMet m_most m_stands m_doesHere m_from m_trace) H locs → lv_has ls 6 [(0, .ref (q 0)), (5, .int l5_L41)] → (∀ (H : Heap) (locs : List Loc) (ls : Array Slot), VJ g A s.heap (MW g q m_thrown m_n m_robots m_viewed m_rules m_taped m_latest m_size p35.1 p35.2.1 p35.2.2.1 p35.2.2.2.1 p35.2.2.2.2.1 p35.2.2.2.2.2 m_read m_crowds m_traced m_here m_hand m_view m_up m_down m_ruleSize m_ruleRow m_ruleDoes m_name m_goes m_tape (upd m_readSize (Int32.toNatClampNeg m_read) v37) o_L41 (upd m_readDoes (Int32.toNatClampNeg m_read) j38) o_L13.2.2.2.2.2.2.2 m_crowd m_isStep m_isOfGoal m_isMet m_most m_stands m_doesHere m_from m_trace) H locs → lv_has ls 6 [(0, .ref (q 0))] → W p l e rm_X8_readRule s m args below meth c H locs 0 0 Q (F0 m 274 ls [])) → W p l e rm_X8_readRule s m args below meth c H locs 0 0 Q (F0 m 239 ls []) := by
                    clear h ho_L41 hl J
                    intro f
                    induction f with
                    | zero => intro l5_L41 m_readRow_L41 o_L41 h; exact absurd h (by simp [F_X8_readRule_L41])
                    | succ f ih =>
                      intro l5_L41 m_readRow_L41 o_L41 h H locs ls J hl K_L41
                      rw [F_X8_readRule_L41.eq_2] at h
                      refine lv_iload hx hb dX8_readRule_239 (lv_at hl 1 rfl) ?_
                      refine lv_bipush (v := 8) hx hb dX8_readRule_241 (by decide) ?_
                      refine lv_icmp_ge (tgt := 274) hx hb dX8_readRule_243 (by decide) (fun c42 => ?_) (fun c42 => ?_)
                      · have h := itp c42 h
                        obtain rfl := Option.some.inj h
                        exact K_L41 _ _ _ J (lv_sub hl [0] rfl)
                      · have h := itn c42 h
                        refine lv_aload_n hx hb dX8_readRule_246 rfl (lv_at hl 0 rfl) ?_
                        refine mg_0_27 F E J fl_X8_50 dX8_readRule_247 ?_
                        refine lv_bipush (v := 8) hx hb dX8_readRule_250 (by decide) ?_
                        refine lv_aload_n hx hb dX8_readRule_252 rfl (lv_at hl 0 rfl) ?_
                        refine mg_0_25 F E J fl_X8_190 dX8_readRule_253 ?_
                        refine lv_imul hx hb dX8_readRule_256 ?_
                        refine lv_iload hx hb dX8_readRule_257 (lv_at hl 1 rfl) ?_
                        refine lv_iadd hx hb dX8_readRule_259 ?_
                        refine lv_aload_n hx hb dX8_readRule_260 rfl (lv_at hl 0 rfl) ?_
                        refine mg_0_29 F E J fl_X8_56 dX8_readRule_261 ?_
                        refine lv_iload hx hb dX8_readRule_264 (lv_at hl 1 rfl) ?_
                        obtain ⟨hi, h⟩ := gdt h
                        refine ml_15 F E J (inbt hi) dX8_readRule_266 ?_
                        obtain ⟨v43, hv43, h⟩ := obs h
                        refine nmI hv43 ?_
                        obtain ⟨hi, h⟩ := gdt h
                        refine ms_13 F E J (inbt hi) dX8_readRule_267 (fun H locs J => ?_)
                        obtain ⟨v44, hv44, h⟩ := obs h
                        refine lv_iinc (v := v44) (lv' := [(5, .int v44), (0, .ref (q 0))]) hx hb dX8_readRule_268 hl (k := 1) rfl (by rw [← hv44]; rfl) (by decide) rfl (fun ls hl => ?_)
                        refine lv_goto (tgt := 239) hx hb dX8_readRule_271 (by decide) ?_
                        exact ih _ _ _ h _ _ _ J (lv_sub hl [1, 0] rfl) K_L41
                  refine T_L41 FU 0 m_readRow o_L41 ho_L41 _ _ _ J (lv_sub hl [1, 0] rfl) (fun H locs ls J hl => ?_)
                  refine lv_aload_n hx hb dX8_readRule_274 rfl (lv_at hl 0 rfl) ?_
                  refine lv_dup hx hb dX8_readRule_275 rfl ?_
                  refine mg_0_25 F E J fl_X8_190 dX8_readRule_276 ?_
                  refine lv_iconst (v := 1) hx hb dX8_readRule_279 (by decide) ?_
                  refine lv_iadd hx hb dX8_readRule_280 ?_
                  obtain ⟨v45, hv45, h⟩ := obs h
                  refine nmI hv45 ?_
                  refine mp_0_25 F E J fl_X8_190 dX8_readRule_281 (fun H locs J => ?_)
                  obtain rfl := Option.some.inj h
                  exact ret _ _ _ _ J dX8_readRule_284
                clear h
                have h := hj38
                refine lv_if_ne (tgt := 222) hx hb dX8_readRule_215 (by decide) (fun c39 => ?_) (fun c39 => ?_)
                · have h := itn c39 h
                  refine lv_lload_n hx hb dX8_readRule_222 rfl (lv_at hl 2 rfl) ?_
                  refine lv_ldc2 hx hb F.2.2.2.1 (F.2.2.2.2 _ kc_X8_207) dX8_readRule_223 ?_
                  refine W.lcmp hx hb dX8_readRule_226 ?_
                  refine lv_if_ne (tgt := 234) hx hb dX8_readRule_227 (by decide) (fun c40 => ?_) (fun c40 => ?_)
                  · have h := itn c40 h
                    refine lv_iconst (v := 0) hx hb dX8_readRule_234 (by decide) ?_
                    obtain rfl := Option.some.inj h
                    exact Kj38 _ _ _ J (lv_sub hl [0] rfl)
                  · have h := itp c40 h
                    refine lv_iconst (v := 2) hx hb dX8_readRule_230 (by decide) ?_
                    refine lv_goto (tgt := 235) hx hb dX8_readRule_231 (by decide) ?_
                    obtain rfl := Option.some.inj h
                    exact Kj38 _ _ _ J (lv_sub hl [0] rfl)
                · have h := itp c39 h
                  refine lv_iconst (v := 1) hx hb dX8_readRule_218 (by decide) ?_
                  refine lv_goto (tgt := 235) hx hb dX8_readRule_219 (by decide) ?_
                  obtain rfl := Option.some.inj h
                  exact Kj38 _ _ _ J (lv_sub hl [0] rfl)
            clear h
            have h := hj28
            refine lv_if_eq (tgt := 167) hx hb dX8_readRule_151 (by decide) (fun c29 => ?_) (fun c29 => ?_)
            · have h := itp c29 h
              obtain rfl := Option.some.inj h
              exact Kj28 _ _ _ J (lv_sub hl [1, 2, 3, 0] rfl)
            · have h := itn c29 h
              refine lv_aload_n hx hb dX8_readRule_154 rfl (lv_at hl 1 rfl) ?_
              refine lv_iload_n hx hb dX8_readRule_155 rfl (lv_at hl 2 rfl) ?_
              obtain ⟨p30, hp30, h⟩ := ob h
              refine onZ (runV (As := [.int o_L13.1]) (rest := []) F E J (c_X8_isRead o_L13.1 p30 hp30) cw_X8_211 ⟨rfl, rfl, Nat.le_of_ble_eq_true rfl, Nat.le_of_ble_eq_true rfl⟩ rcM0 rfl hl.1 rfl (Nat.le_of_ble_eq_true rfl) dX8_readRule_156) J (fun hzbp30 H locs J => ?_)
              refine lv_if_eq (tgt := 167) hx hb dX8_readRule_159 (by decide) (fun c31 => ?_) (fun c31 => ?_)
              · have h := itp c31 h
                obtain rfl := Option.some.inj h
                exact Kj28 _ _ _ J (lv_sub hl [1, 2, 3, 0] rfl)
              · have h := itn c31 h
                refine lv_aload_n hx hb dX8_readRule_162 rfl (lv_at hl 1 rfl) ?_
                refine lv_iconst (v := 3) hx hb dX8_readRule_163 (by decide) ?_
                obtain ⟨p32, hp32, h⟩ := ob h
                refine onV (runV (As := [.int 3]) (rest := []) F E J (c_X8_bad 3 p32 hp32) cw_X8_175 ⟨rfl, rfl, Nat.le_of_ble_eq_true rfl, Nat.le_of_ble_eq_true rfl⟩ rcM0 rfl hl.1 rfl (Nat.le_of_ble_eq_true rfl) dX8_readRule_164) J (fun H locs J => ?_)
                obtain rfl := Option.some.inj h
                exact Kj28 _ _ _ J (lv_sub hl [1, 2, 3, 0] rfl)
          clear h
          have h := hj24
          refine lv_if_eq (tgt := 142) hx hb dX8_readRule_123 (by decide) (fun c25 => ?_) (fun c25 => ?_)
          · have h := itp c25 h
            refine lv_iconst (v := 1) hx hb dX8_readRule_142 (by decide) ?_
            refine lv_goto (tgt := 147) hx hb dX8_readRule_143 (by decide) ?_
            obtain rfl := Option.some.inj h
            exact Kj24 _ _ _ J (lv_sub hl [1, 2, 0] rfl)
          · have h := itn c25 h
            refine lv_lload_n hx hb dX8_readRule_126 rfl (lv_at hl 0 rfl) ?_
            refine lv_ldc2 hx hb F.2.2.2.1 (F.2.2.2.2 _ kc_X8_207) dX8_readRule_127 ?_
            refine W.lcmp hx hb dX8_readRule_130 ?_
            refine lv_if_eq (tgt := 142) hx hb dX8_readRule_131 (by decide) (fun c26 => ?_) (fun c26 => ?_)
            · have h := itp c26 h
              refine lv_iconst (v := 1) hx hb dX8_readRule_142 (by decide) ?_
              refine lv_goto (tgt := 147) hx hb dX8_readRule_143 (by decide) ?_
              obtain rfl := Option.some.inj h
              exact Kj24 _ _ _ J (lv_sub hl [1, 2, 0] rfl)
            · have h := itn c26 h
              refine lv_lload_n hx hb dX8_readRule_134 rfl (lv_at hl 0 rfl) ?_
              refine lv_ldc2 hx hb F.2.2.2.1 (F.2.2.2.2 _ kc_X8_209) dX8_readRule_135 ?_
              refine W.lcmp hx hb dX8_readRule_138 ?_
              refine lv_if_ne (tgt := 146) hx hb dX8_readRule_139 (by decide) (fun c27 => ?_) (fun c27 => ?_)
              · have h := itn c27 h
                refine lv_iconst (v := 0) hx hb dX8_readRule_146 (by decide) ?_
                obtain rfl := Option.some.inj h
                exact Kj24 _ _ _ J (lv_sub hl [1, 2, 0] rfl)
              · have h := itp c27 h
                refine lv_iconst (v := 1) hx hb dX8_readRule_142 (by decide) ?_
                refine lv_goto (tgt := 147) hx hb dX8_readRule_143 (by decide) ?_
                obtain rfl := Option.some.inj h
                exact Kj24 _ _ _ J (lv_sub hl [1, 2, 0] rfl)
        · have h := itn c22 h
          obtain rfl := Option.some.inj h
          exact ret _ _ _ _ J dX8_readRule_112
      clear h
      have h := hj10
      refine lv_if_ne (tgt := 61) hx hb dX8_readRule_51 (by decide) (fun c11 => ?_) (fun c11 => ?_)
      · have h := itn c11 h
        obtain rfl := Option.some.inj h
        exact Kj10 _ _ _ J (lv_sub hl [1, 0] rfl)
      · have h := itp c11 h
        refine lv_aload_n hx hb dX8_readRule_54 rfl (lv_at hl 1 rfl) ?_
        refine lv_iconst (v := 0) hx hb dX8_readRule_55 (by decide) ?_
        obtain ⟨p12, hp12, h⟩ := ob h
        refine onV (runV (As := [.int 0]) (rest := []) F E J (c_X8_readPair 0 p12 hp12) cw_X8_199 ⟨rfl, rfl, Nat.le_of_ble_eq_true rfl, Nat.le_of_ble_eq_true rfl⟩ rcM0 rfl hl.1 rfl (Nat.le_of_ble_eq_true rfl) dX8_readRule_56) J (fun H locs J => ?_)
        refine lv_iconst (v := 1) hx hb dX8_readRule_59 (by decide) ?_
        refine lv_istore_n (lv' := [(1, .int 1), (0, .ref (q 0))]) hx hb dX8_readRule_60 rfl hl (by decide) rfl (fun ls hl => ?_)
        obtain rfl := Option.some.inj h
        exact Kj10 _ _ _ J (lv_sub hl [1, 0] rfl)
    clear h
    have h := hj7
    refine lv_if_ne (tgt := 41) hx hb dX8_readRule_34 (by decide) (fun c8 => ?_) (fun c8 => ?_)
    · have h := itn c8 h
      refine lv_iconst (v := 0) hx hb dX8_readRule_41 (by decide) ?_
      obtain rfl := Option.some.inj h
      exact Kj7 _ _ _ J (lv_sub hl [0] rfl)
    · have h := itp c8 h
      refine lv_iconst (v := 1) hx hb dX8_readRule_37 (by decide) ?_
      refine lv_goto (tgt := 42) hx hb dX8_readRule_38 (by decide) ?_
      obtain rfl := Option.some.inj h
      exact Kj7 _ _ _ J (lv_sub hl [0] rfl)
  clear h
  have h := hj2
  refine lv_if_ne (tgt := 25) hx hb dX8_readRule_8 (by decide) (fun c3 => ?_) (fun c3 => ?_)
  · have h := itn c3 h
    obtain rfl := Option.some.inj h
    exact Kj2 _ _ _ J (lv_sub hl [0] rfl)
  · have h := itp c3 h
    refine lv_aload_n hx hb dX8_readRule_11 rfl (lv_at hl 0 rfl) ?_
    refine mg_0_25 F E J fl_X8_190 dX8_readRule_12 ?_
    refine lv_bipush (v := 30) hx hb dX8_readRule_15 (by decide) ?_
    refine lv_icmp_ne (tgt := 25) hx hb dX8_readRule_17 (by decide) (fun c4 => ?_) (fun c4 => ?_)
    · have h := itn c4 h
      obtain rfl := Option.some.inj h
      exact Kj2 _ _ _ J (lv_sub hl [0] rfl)
    · have h := itp c4 h
      refine lv_aload_n hx hb dX8_readRule_20 rfl (lv_at hl 0 rfl) ?_
      refine lv_iconst (v := 3) hx hb dX8_readRule_21 (by decide) ?_
      obtain ⟨p5, hp5, h⟩ := ob h
      refine onV (runV (As := [.int 3]) (rest := []) F E J (c_X8_bad 3 p5 hp5) cw_X8_175 ⟨rfl, rfl, Nat.le_of_ble_eq_true rfl, Nat.le_of_ble_eq_true rfl⟩ rcM0 rfl hl.1 rfl (Nat.le_of_ble_eq_true rfl) dX8_readRule_22) J (fun H locs J => ?_)
      obtain rfl := Option.some.inj h
      exact Kj2 _ _ _ J (lv_sub hl [0] rfl)
set_option maxHeartbeats 4000000 in
set_option maxRecDepth 100000 in
theorem c_X8_rules {l : Launch} {g : GG} {A : Nat → Prop} {q : Nat → Nat} {m_thrown m_n m_robots m_viewed m_rules m_taped m_latest m_size m_at m_sort m_place m_end m_fault m_faultAt m_read m_crowds m_traced : Int32} {m_here m_hand m_view m_up m_down m_ruleSize m_ruleRow m_ruleDoes m_name m_goes m_tape m_readSize m_readRow m_readDoes m_own m_crowd m_isStep m_isOfGoal m_isMet m_most m_stands m_doesHere m_from m_trace : Nat → Int32} (res : Int32 × Int32 × Int32 × Int32 × Int32 × Int32 × Int32 × Int32 × Int32 × Int32 × Int32 × Int32 × Int32 × (Nat → Int32) × (Nat → Int32) × (Nat → Int32) × (Nat → Int32) × (Nat → Int32) × (Nat → Int32) × (Nat → Int32)) (h : F_X8_rules m_rules m_taped m_latest m_faultAt m_ruleSize m_ruleRow m_ruleDoes m_tape m_readSize m_readRow m_readDoes m_own = some res) : Met l yX8_rules (wS yX8_rules cX8_rules 3 (some .int)) rm_X8_rules (va_Pc [.ref (q 0)] (VB g A (MW g q m_thrown m_n m_robots m_viewed m_rules m_taped m_latest m_size m_at m_sort m_place m_end m_fault m_faultAt m_read m_crowds m_traced m_here m_hand m_view m_up m_down m_ruleSize m_ruleRow m_ruleDoes m_name m_goes m_tape m_readSize m_readRow m_readDoes m_own m_crowd m_isStep m_isOfGoal m_isMet m_most m_stands m_doesHere m_from m_trace))) (va_Qi (fun r (_ : Unit) => r = res.1) (fun _ => VB g A (MW g q res.2.1 m_n m_robots m_viewed res.2.2.1 res.2.2.2.1 res.2.2.2.2.1 res.2.2.2.2.2.1 res.2.2.2.2.2.2.1 res.2.2.2.2.2.2.2.1 res.2.2.2.2.2.2.2.2.1 res.2.2.2.2.2.2.2.2.2.1 res.2.2.2.2.2.2.2.2.2.2.1 res.2.2.2.2.2.2.2.2.2.2.2.1 res.2.2.2.2.2.2.2.2.2.2.2.2.1 m_crowds m_traced m_here m_hand m_view m_up m_down res.2.2.2.2.2.2.2.2.2.2.2.2.2.1 res.2.2.2.2.2.2.2.2.2.2.2.2.2.2.1 res.2.2.2.2.2.2.2.2.2.2.2.2.2.2.2.1 m_name m_goes m_tape res.2.2.2.2.2.2.2.2.2.2.2.2.2.2.2.2.1 res.2.2.2.2.2.2.2.2.2.2.2.2.2.2.2.2.2.1 res.2.2.2.2.2.2.2.2.2.2.2.2.2.2.2.2.2.2.1 res.2.2.2.2.2.2.2.2.2.2.2.2.2.2.2.2.2.2.2 m_crowd m_isStep m_isOfGoal m_isMet m_most m_stands m_doesHere m_from m_trace)) A) 0 0 A := by
  unfold F_X8_rules at h
  refine MetI (res := res.1) (own := RX8) (ws' := (MW g q res.2.1 m_n m_robots m_viewed res.2.2.1 res.2.2.2.1 res.2.2.2.2.1 res.2.2.2.2.2.1 res.2.2.2.2.2.2.1 res.2.2.2.2.2.2.2.1 res.2.2.2.2.2.2.2.2.1 res.2.2.2.2.2.2.2.2.2.1 res.2.2.2.2.2.2.2.2.2.2.1 res.2.2.2.2.2.2.2.2.2.2.2.1 res.2.2.2.2.2.2.2.2.2.2.2.2.1 m_crowds m_traced m_here m_hand m_view m_up m_down res.2.2.2.2.2.2.2.2.2.2.2.2.2.1 res.2.2.2.2.2.2.2.2.2.2.2.2.2.2.1 res.2.2.2.2.2.2.2.2.2.2.2.2.2.2.2.1 m_name m_goes m_tape res.2.2.2.2.2.2.2.2.2.2.2.2.2.2.2.2.1 res.2.2.2.2.2.2.2.2.2.2.2.2.2.2.2.2.2.1 res.2.2.2.2.2.2.2.2.2.2.2.2.2.2.2.2.2.2.1 res.2.2.2.2.2.2.2.2.2.2.2.2.2.2.2.2.2.2.2 m_crowd m_isStep m_isOfGoal m_isMet m_most m_stands m_doesHere m_from m_trace)) (by decide) rfl (Nat.le_of_ble_eq_true rfl) ?_
  intro p e s m args below meth c Q F E ret ls J hl
  have hx := F.1
  have hb := F.2.1
  have hl : lv_has ls 3 [(0, .ref (q 0))] := hl
  refine lv_aload_n hx hb dX8_rules_0 rfl (lv_at hl 0 rfl) ?_
  refine lv_iconst (v := 0) hx hb dX8_rules_1 (by decide) ?_
  refine mp_0_0 F E J fl_X8_1 dX8_rules_2 (fun H locs J => ?_)
  refine lv_aload_n hx hb dX8_rules_5 rfl (lv_at hl 0 rfl) ?_
  refine lv_aload_n hx hb dX8_rules_6 rfl (lv_at hl 0 rfl) ?_
  refine mg_0_16 F E J fl_X8_140 dX8_rules_7 ?_
  refine mp_0_18 F E J fl_X8_145 dX8_rules_10 (fun H locs J => ?_)
  refine lv_aload_n hx hb dX8_rules_13 rfl (lv_at hl 0 rfl) ?_
  refine lv_iconst (v := 0) hx hb dX8_rules_14 (by decide) ?_
  refine mp_0_16 F E J fl_X8_140 dX8_rules_15 (fun H locs J => ?_)
  refine lv_aload_n hx hb dX8_rules_18 rfl (lv_at hl 0 rfl) ?_
  refine lv_iconst (v := 0) hx hb dX8_rules_19 (by decide) ?_
  refine mp_0_19 F E J fl_X8_148 dX8_rules_20 (fun H locs J => ?_)
  refine lv_aload_n hx hb dX8_rules_23 rfl (lv_at hl 0 rfl) ?_
  refine lv_iconst (v := 0) hx hb dX8_rules_24 (by decide) ?_
  refine mp_0_23 F E J fl_X8_169 dX8_rules_25 (fun H locs J => ?_)
  refine lv_aload_n hx hb dX8_rules_28 rfl (lv_at hl 0 rfl) ?_
  refine lv_iconst (v := 0) hx hb dX8_rules_29 (by decide) ?_
  refine mp_0_25 F E J fl_X8_190 dX8_rules_30 (fun H locs J => ?_)
  refine lv_aload_n hx hb dX8_rules_33 rfl (lv_at hl 0 rfl) ?_
  obtain ⟨p1, hp1, h⟩ := ob h
  refine onV (runV (As := []) (rest := []) F E J (c_X8_next  p1 hp1) cw_X8_179 ⟨rfl, rfl, Nat.le_of_ble_eq_true rfl, Nat.le_of_ble_eq_true rfl⟩ rcM0 rfl hl.1 rfl (Nat.le_of_ble_eq_true rfl) dX8_rules_34) J (fun H locs J => ?_)
  obtain ⟨o_L2, ho_L2, h⟩ := ob h
  have T_L2 : ∀ (f : Nat) (m_at_L2 : Int32) (m_sort_L2 : Int32) (m_place_L2 : Int32) (m_end_L2 : Int32) (m_fault_L2 : Int32) (m_faultAt_L2 : Int32) (m_read_L2 : Int32) (m_readSize_L2 : Nat → Int32) (m_readRow_L2 : Nat → Int32) (m_readDoes_L2 : Nat → Int32) (m_own_L2 : Nat → Int32) (o_L2 : Int32 × Int32 × Int32 × Int32 × Int32 × Int32 × Int32 × (Nat → Int32) × (Nat → Int32) × (Nat → Int32) × (Nat → Int32)), F_X8_rules_L2 m_taped m_tape f m_at_L2 m_sort_L2 m_place_L2 m_end_L2 m_fault_L2 m_faultAt_L2 m_read_L2 m_readSize_L2 m_readRow_L2 m_readDoes_L2 m_own_L2 = some o_L2 → ∀ (H : Heap) (locs : List Loc) (ls : Array Slot), VJ g A s.heap (MW g q 0 m_n m_robots m_viewed m_rules 0 m_latest m_taped m_at_L2 m_sort_L2 m_place_L2 m_end_L2 m_fault_L2 m_faultAt_L2 m_read_L2 m_crowds m_traced m_here m_hand m_view m_up m_down m_ruleSize m_ruleRow m_ruleDoes m_name m_goes m_tape m_readSize_L2 m_readRow_L2 m_readDoes_L2 m_own_L2 m_crowd m_isStep m_isOfGoal m_isMet m_most m_stands m_doesHere m_from m_trace) H locs → lv_has ls 3 [(0, .ref (q 0))] → (∀ (H : Heap) (locs : List Loc) (ls : Array Slot), VJ g A s.heap (MW g q 0 m_n m_robots m_viewed m_rules 0 m_latest m_taped o_L2.1 o_L2.2.1 o_L2.2.2.1 o_L2.2.2.2.1 o_L2.2.2.2.2.1 o_L2.2.2.2.2.2.1 o_L2.2.2.2.2.2.2.1 m_crowds m_traced m_here m_hand m_view m_up m_down m_ruleSize m_ruleRow m_ruleDoes m_name m_goes m_tape o_L2.2.2.2.2.2.2.2.1 o_L2.2.2.2.2.2.2.2.2.1 o_L2.2.2.2.2.2.2.2.2.2.1 o_L2.2.2.2.2.2.2.2.2.2.2 m_crowd m_isStep m_isOfGoal m_isMet m_most m_stands m_doesHere m_from m_trace) H locs → lv_has ls 3 [(0, .ref (q 0))] → W p l e rm_X8_rules s m args below meth c H locs 0 0 Q (F0 m 59 ls [])) → W p l e rm_X8_rules s m args below meth c H locs 0 0 Q (F0 m 37 ls []) := by
    clear h ho_L2 hl J
    intro f
    induction f with
    | zero => intro m_at_L2 m_sort_L2 m_place_L2 m_end_L2 m_fault_L2 m_faultAt_L2 m_read_L2 m_readSize_L2 m_readRow_L2 m_readDoes_L2 m_own_L2 o_L2 h; exact absurd h (by simp [F_X8_rules_L2])
    | succ f ih =>
      intro m_at_L2 m_sort_L2 m_place_L2 m_end_L2 m_fault_L2 m_faultAt_L2 m_read_L2 m_readSize_L2 m_readRow_L2 m_readDoes_L2 m_own_L2 o_L2 h H locs ls J hl K_L2
      rw [F_X8_rules_L2.eq_2] at h
      refine lv_aload_n hx hb dX8_rules_37 rfl (lv_at hl 0 rfl) ?_
      refine mg_0_23 F E J fl_X8_169 dX8_rules_38 ?_
      refine lv_if_ne (tgt := 59) hx hb dX8_rules_41 (by decide) (fun c3 => ?_) (fun c3 => ?_)
      · have h := itn c3 h
        obtain rfl := Option.some.inj h
        exact K_L2 _ _ _ J (lv_sub hl [0] rfl)
      · have h := itp c3 h
        refine lv_aload_n hx hb dX8_rules_44 rfl (lv_at hl 0 rfl) ?_
        refine mg_0_20 F E J fl_X8_157 dX8_rules_45 ?_
        refine lv_iconst (v := 1) hx hb dX8_rules_48 (by decide) ?_
        refine lv_icmp_eq (tgt := 59) hx hb dX8_rules_49 (by decide) (fun c4 => ?_) (fun c4 => ?_)
        · have h := itp c4 h
          obtain rfl := Option.some.inj h
          exact K_L2 _ _ _ J (lv_sub hl [0] rfl)
        · have h := itn c4 h
          refine lv_aload_n hx hb dX8_rules_52 rfl (lv_at hl 0 rfl) ?_
          obtain ⟨p5, hp5, h⟩ := ob h
          refine onV (runV (As := []) (rest := []) F E J (c_X8_readRule  p5 hp5) cw_X8_214 ⟨rfl, rfl, Nat.le_of_ble_eq_true rfl, Nat.le_of_ble_eq_true rfl⟩ rcM0 rfl hl.1 rfl (Nat.le_of_ble_eq_true rfl) dX8_rules_53) J (fun H locs J => ?_)
          refine lv_goto (tgt := 37) hx hb dX8_rules_56 (by decide) ?_
          exact ih _ _ _ _ _ _ _ _ _ _ _ _ h _ _ _ J (lv_sub hl [0] rfl) K_L2
  refine T_L2 FU p1.1 p1.2.1 p1.2.2.1 p1.2.2.2 0 m_faultAt 0 m_readSize m_readRow m_readDoes m_own o_L2 ho_L2 _ _ _ J (lv_sub hl [0] rfl) (fun H locs ls J hl => ?_)
  refine lv_aload_n hx hb dX8_rules_59 rfl (lv_at hl 0 rfl) ?_
  refine mg_0_23 F E J fl_X8_169 dX8_rules_60 ?_
  refine lv_if_le (tgt := 82) hx hb dX8_rules_63 (by decide) (fun c6 => ?_) (fun c6 => ?_)
  · have h := itp c6 h
    refine lv_aload_n hx hb dX8_rules_82 rfl (lv_at hl 0 rfl) ?_
    refine lv_aload_n hx hb dX8_rules_83 rfl (lv_at hl 0 rfl) ?_
    refine mg_0_25 F E J fl_X8_190 dX8_rules_84 ?_
    refine mp_0_9 F E J fl_X8_118 dX8_rules_87 (fun H locs J => ?_)
    refine lv_iconst (v := 0) hx hb dX8_rules_90 (by decide) ?_
    refine lv_istore_n (lv' := [(1, .int 0), (0, .ref (q 0))]) hx hb dX8_rules_91 rfl hl (by decide) rfl (fun ls hl => ?_)
    obtain ⟨o_L7, ho_L7, h⟩ := ob h
    have T_L7 : ∀ (f : Nat) (l1_L7 : Int32) (m_ruleSize_L7 : Nat → Int32) (m_ruleRow_L7 : Nat → Int32) (m_ruleDoes_L7 : Nat → Int32) (o_L7 : (Nat → Int32) × (Nat → Int32) × (Nat → Int32)), F_X8_rules_L7 o_L2.2.2.2.2.2.2.1 o_L2.2.2.2.2.2.2.2.1 o_L2.2.2.2.2.2.2.2.2.1 o_L2.2.2.2.2.2.2.2.2.2.1 f l1_L7 m_ruleSize_L7 m_ruleRow_L7 m_ruleDoes_L7 = some o_L7 → ∀ (H : Heap) (locs : List Loc) (ls : Array Slot), VJ g A s.heap (MW g q 0 m_n m_robots m_viewed o_L2.2.2.2.2.2.2.1 0 m_latest m_taped o_L2.1 o_L2.2.1 o_L2.2.2.1 o_L2.2.2.2.1 o_L2.2.2.2.2.1 o_L2.2.2.2.2.2.1 o_L2.2.2.2.2.2.2.1 m_crowds m_traced m_here m_hand m_view m_up m_down m_ruleSize_L7 m_ruleRow_L7 m_ruleDoes_L7 m_name m_goes m_tape o_L2.2.2.2.2.2.2.2.1 o_L2.2.2.2.2.2.2.2.2.1 o_L2.2.2.2.2.2.2.2.2.2.1 o_L2.2.2.2.2.2.2.2.2.2.2 m_crowd m_isStep m_isOfGoal m_isMet m_most m_stands m_doesHere m_from m_trace) H locs → lv_has ls 3 [(0, .ref (q 0)), (1, .int l1_L7)] → (∀ (H : Heap) (locs : List Loc) (ls : Array Slot), VJ g A s.heap (MW g q 0 m_n m_robots m_viewed o_L2.2.2.2.2.2.2.1 0 m_latest m_taped o_L2.1 o_L2.2.1 o_L2.2.2.1 o_L2.2.2.2.1 o_L2.2.2.2.2.1 o_L2.2.2.2.2.2.1 o_L2.2.2.2.2.2.2.1 m_crowds m_traced m_here m_hand m_view m_up m_down o_L7.1 o_L7.2.1 o_L7.2.2 m_name m_goes m_tape o_L2.2.2.2.2.2.2.2.1 o_L2.2.2.2.2.2.2.2.2.1 o_L2.2.2.2.2.2.2.2.2.2.1 o_L2.2.2.2.2.2.2.2.2.2.2 m_crowd m_isStep m_isOfGoal m_isMet m_most m_stands m_doesHere m_from m_trace) H locs → lv_has ls 3 [(0, .ref (q 0))] → W p l e rm_X8_rules s m args below meth c H locs 0 0 Q (F0 m 166 ls [])) → W p l e rm_X8_rules s m args below meth c H locs 0 0 Q (F0 m 92 ls []) := by
      clear h ho_L7 hl J
      intro f
      induction f with
      | zero => intro l1_L7 m_ruleSize_L7 m_ruleRow_L7 m_ruleDoes_L7 o_L7 h; exact absurd h (by simp [F_X8_rules_L7])
      | succ f ih =>
        intro l1_L7 m_ruleSize_L7 m_ruleRow_L7 m_ruleDoes_L7 o_L7 h H locs ls J hl K_L7
        rw [F_X8_rules_L7.eq_2] at h
        refine lv_iload_n hx hb dX8_rules_92 rfl (lv_at hl 1 rfl) ?_
        refine lv_aload_n hx hb dX8_rules_93 rfl (lv_at hl 0 rfl) ?_
        refine mg_0_25 F E J fl_X8_190 dX8_rules_94 ?_
        refine lv_icmp_ge (tgt := 166) hx hb dX8_rules_97 (by decide) (fun c8 => ?_) (fun c8 => ?_)
        · have h := itp c8 h
          obtain rfl := Option.some.inj h
          exact K_L7 _ _ _ J (lv_sub hl [0] rfl)
        · have h := itn c8 h
          refine lv_aload_n hx hb dX8_rules_100 rfl (lv_at hl 0 rfl) ?_
          refine mg_0_10 F E J fl_X8_29 dX8_rules_101 ?_
          refine lv_iload_n hx hb dX8_rules_104 rfl (lv_at hl 1 rfl) ?_
          refine lv_aload_n hx hb dX8_rules_105 rfl (lv_at hl 0 rfl) ?_
          refine mg_0_26 F E J fl_X8_47 dX8_rules_106 ?_
          refine lv_iload_n hx hb dX8_rules_109 rfl (lv_at hl 1 rfl) ?_
          obtain ⟨hi, h⟩ := gdt h
          refine ml_12 F E J (inbt hi) dX8_rules_110 ?_
          obtain ⟨v9, hv9, h⟩ := obs h
          refine nmI hv9 ?_
          obtain ⟨hi, h⟩ := gdt h
          refine ms_6 F E J (inbt hi) dX8_rules_111 (fun H locs J => ?_)
          refine lv_aload_n hx hb dX8_rules_112 rfl (lv_at hl 0 rfl) ?_
          refine mg_0_12 F E J fl_X8_35 dX8_rules_113 ?_
          refine lv_iload_n hx hb dX8_rules_116 rfl (lv_at hl 1 rfl) ?_
          refine lv_aload_n hx hb dX8_rules_117 rfl (lv_at hl 0 rfl) ?_
          refine mg_0_28 F E J fl_X8_53 dX8_rules_118 ?_
          refine lv_iload_n hx hb dX8_rules_121 rfl (lv_at hl 1 rfl) ?_
          obtain ⟨hi, h⟩ := gdt h
          refine ml_14 F E J (inbt hi) dX8_rules_122 ?_
          obtain ⟨v10, hv10, h⟩ := obs h
          refine nmI hv10 ?_
          obtain ⟨hi, h⟩ := gdt h
          refine ms_8 F E J (inbt hi) dX8_rules_123 (fun H locs J => ?_)
          refine lv_iconst (v := 0) hx hb dX8_rules_124 (by decide) ?_
          refine lv_istore_n (lv' := [(2, .int 0), (0, .ref (q 0)), (1, .int l1_L7)]) hx hb dX8_rules_125 rfl hl (by decide) rfl (fun ls hl => ?_)
          obtain ⟨o_L11, ho_L11, h⟩ := ob h
          have T_L11 : ∀ (f : Nat) (l2_L11 : Int32) (m_ruleRow_L11 : Nat → Int32) (o_L11 : Nat → Int32), F_X8_rules_L11 l1_L7 o_L2.2.2.2.2.2.2.2.2.1 f l2_L11 m_ruleRow_L11 = some o_L11 → ∀ (H : Heap) (locs : List Loc) (ls : Array Slot), VJ g A s.heap (MW g q 0 m_n m_robots m_viewed o_L2.2.2.2.2.2.2.1 0 m_latest m_taped o_L2.1 o_L2.2.1 o_L2.2.2.1 o_L2.2.2.2.1 o_L2.2.2.2.2.1 o_L2.2.2.2.2.2.1 o_L2.2.2.2.2.2.2.1 m_crowds m_traced m_here m_hand m_view m_up m_down (upd m_ruleSize_L7 (Int32.toNatClampNeg l1_L7) v9) m_ruleRow_L11 (upd m_ruleDoes_L7 (Int32.toNatClampNeg l1_L7) v10) m_name m_goes m_tape o_L2.2.2.2.2.2.2.2.1 o_L2.2.2.2.2.2.2.2.2.1 o_L2.2.2.2.2.2.2.2.2.2.1 o_L2.2.2.2.2.2.2.2.2.2.2 m_crowd m_isStep m_isOfGoal m_isMet m_most m_stands m_doesHere m_from m_trace) H locs → lv_has ls 3 [(0, .ref (q 0)), (1, .int l1_L7), (2, .int l2_L11)] → (∀ (H : Heap) (locs : List Loc) (ls : Array Slot), VJ g A s.heap (MW g q 0 m_n m_robots m_viewed o_L2.2.2.2.2.2.2.1 0 m_latest m_taped o_L2.1 o_L2.2.1 o_L2.2.2.1 o_L2.2.2.2.1 o_L2.2.2.2.2.1 o_L2.2.2.2.2.2.1 o_L2.2.2.2.2.2.2.1 m_crowds m_traced m_here m_hand m_view m_up m_down (upd m_ruleSize_L7 (Int32.toNatClampNeg l1_L7) v9) o_L11 (upd m_ruleDoes_L7 (Int32.toNatClampNeg l1_L7) v10) m_name m_goes m_tape o_L2.2.2.2.2.2.2.2.1 o_L2.2.2.2.2.2.2.2.2.1 o_L2.2.2.2.2.2.2.2.2.2.1 o_L2.2.2.2.2.2.2.2.2.2.2 m_crowd m_isStep m_isOfGoal m_isMet m_most m_stands m_doesHere m_from m_trace) H locs → lv_has ls 3 [(0, .ref (q 0)), (1, .int l1_L7)] → W p l e rm_X8_rules s m args below meth c H locs 0 0 Q (F0 m 160 ls [])) → W p l e rm_X8_rules s m args below meth c H locs 0 0 Q (F0 m 126 ls []) := by
            clear h ho_L11 hl J
            intro f
            induction f with
            | zero => intro l2_L11 m_ruleRow_L11 o_L11 h; exact absurd h (by simp [F_X8_rules_L11])
            | succ f ih =>
              intro l2_L11 m_ruleRow_L11 o_L11 h H locs ls J hl K_L11
              rw [F_X8_rules_L11.eq_2] at h
              refine lv_iload_n hx hb dX8_rules_126 rfl (lv_at hl 2 rfl) ?_
              refine lv_bipush (v := 8) hx hb dX8_rules_127 (by decide) ?_
              refine lv_icmp_ge (tgt := 160) hx hb dX8_rules_129 (by decide) (fun c12 => ?_) (fun c12 => ?_)
              · have h := itp c12 h
                obtain rfl := Option.some.inj h
                exact K_L11 _ _ _ J (lv_sub hl [0, 1] rfl)
              · have h := itn c12 h
                refine lv_aload_n hx hb dX8_rules_132 rfl (lv_at hl 0 rfl) ?_
                refine mg_0_11 F E J fl_X8_32 dX8_rules_133 ?_
                refine lv_bipush (v := 8) hx hb dX8_rules_136 (by decide) ?_
                refine lv_iload_n hx hb dX8_rules_138 rfl (lv_at hl 1 rfl) ?_
                refine lv_imul hx hb dX8_rules_139 ?_
                refine lv_iload_n hx hb dX8_rules_140 rfl (lv_at hl 2 rfl) ?_
                refine lv_iadd hx hb dX8_rules_141 ?_
                refine lv_aload_n hx hb dX8_rules_142 rfl (lv_at hl 0 rfl) ?_
                refine mg_0_27 F E J fl_X8_50 dX8_rules_143 ?_
                refine lv_bipush (v := 8) hx hb dX8_rules_146 (by decide) ?_
                refine lv_iload_n hx hb dX8_rules_148 rfl (lv_at hl 1 rfl) ?_
                refine lv_imul hx hb dX8_rules_149 ?_
                refine lv_iload_n hx hb dX8_rules_150 rfl (lv_at hl 2 rfl) ?_
                refine lv_iadd hx hb dX8_rules_151 ?_
                obtain ⟨hi, h⟩ := gdt h
                refine ml_13 F E J (inbt hi) dX8_rules_152 ?_
                obtain ⟨v13, hv13, h⟩ := obs h
                refine nmI hv13 ?_
                obtain ⟨hi, h⟩ := gdt h
                refine ms_7 F E J (inbt hi) dX8_rules_153 (fun H locs J => ?_)
                obtain ⟨v14, hv14, h⟩ := obs h
                refine lv_iinc (v := v14) (lv' := [(2, .int v14), (0, .ref (q 0)), (1, .int l1_L7)]) hx hb dX8_rules_154 hl (k := 2) rfl (by rw [← hv14]; rfl) (by decide) rfl (fun ls hl => ?_)
                refine lv_goto (tgt := 126) hx hb dX8_rules_157 (by decide) ?_
                exact ih _ _ _ h _ _ _ J (lv_sub hl [1, 2, 0] rfl) K_L11
          refine T_L11 FU 0 m_ruleRow_L7 o_L11 ho_L11 _ _ _ J (lv_sub hl [1, 2, 0] rfl) (fun H locs ls J hl => ?_)
          obtain ⟨v15, hv15, h⟩ := obs h
          refine lv_iinc (v := v15) (lv' := [(1, .int v15), (0, .ref (q 0))]) hx hb dX8_rules_160 hl (k := 1) rfl (by rw [← hv15]; rfl) (by decide) rfl (fun ls hl => ?_)
          refine lv_goto (tgt := 92) hx hb dX8_rules_163 (by decide) ?_
          exact ih _ _ _ _ _ h _ _ _ J (lv_sub hl [1, 0] rfl) K_L7
    refine T_L7 FU 0 m_ruleSize m_ruleRow m_ruleDoes o_L7 ho_L7 _ _ _ J (lv_sub hl [1, 0] rfl) (fun H locs ls J hl => ?_)
    refine lv_aload_n hx hb dX8_rules_166 rfl (lv_at hl 0 rfl) ?_
    refine mg_0_9 F E J fl_X8_118 dX8_rules_167 ?_
    obtain rfl := Option.some.inj h
    exact ret _ _ _ _ J dX8_rules_170
  · have h := itn c6 h
    refine lv_aload_n hx hb dX8_rules_66 rfl (lv_at hl 0 rfl) ?_
    refine lv_aload_n hx hb dX8_rules_67 rfl (lv_at hl 0 rfl) ?_
    refine mg_0_23 F E J fl_X8_169 dX8_rules_68 ?_
    refine mp_0_17 F E J fl_X8_217 dX8_rules_71 (fun H locs J => ?_)
    refine lv_ldc hx hb F.2.2.2.1 (F.2.2.2.2 _ kc_X8_220) dX8_rules_74 ?_
    refine lv_aload_n hx hb dX8_rules_76 rfl (lv_at hl 0 rfl) ?_
    refine mg_0_24 F E J fl_X8_172 dX8_rules_77 ?_
    refine lv_isub hx hb dX8_rules_80 ?_
    obtain rfl := Option.some.inj h
    exact ret _ _ _ _ J dX8_rules_81
set_option maxHeartbeats 4000000 in
set_option maxRecDepth 100000 in
theorem c_X8_fault {l : Launch} {g : GG} {A : Nat → Prop} {q : Nat → Nat} {m_thrown m_n m_robots m_viewed m_rules m_taped m_latest m_size m_at m_sort m_place m_end m_fault m_faultAt m_read m_crowds m_traced : Int32} {m_here m_hand m_view m_up m_down m_ruleSize m_ruleRow m_ruleDoes m_name m_goes m_tape m_readSize m_readRow m_readDoes m_own m_crowd m_isStep m_isOfGoal m_isMet m_most m_stands m_doesHere m_from m_trace : Nat → Int32} (res : Int32 × Int32) (h : F_X8_fault m_latest = some res) : Met l yX8_fault (wS yX8_fault cX8_fault 1 (some .int)) rm_X8_fault (va_Pc [.ref (q 0)] (VB g A (MW g q m_thrown m_n m_robots m_viewed m_rules m_taped m_latest m_size m_at m_sort m_place m_end m_fault m_faultAt m_read m_crowds m_traced m_here m_hand m_view m_up m_down m_ruleSize m_ruleRow m_ruleDoes m_name m_goes m_tape m_readSize m_readRow m_readDoes m_own m_crowd m_isStep m_isOfGoal m_isMet m_most m_stands m_doesHere m_from m_trace))) (va_Qi (fun r (_ : Unit) => r = res.1) (fun _ => VB g A (MW g q res.2 m_n m_robots m_viewed m_rules m_taped m_latest m_size m_at m_sort m_place m_end m_fault m_faultAt m_read m_crowds m_traced m_here m_hand m_view m_up m_down m_ruleSize m_ruleRow m_ruleDoes m_name m_goes m_tape m_readSize m_readRow m_readDoes m_own m_crowd m_isStep m_isOfGoal m_isMet m_most m_stands m_doesHere m_from m_trace)) A) 0 0 A := by
  unfold F_X8_fault at h
  refine MetI (res := res.1) (own := RX8) (ws' := (MW g q res.2 m_n m_robots m_viewed m_rules m_taped m_latest m_size m_at m_sort m_place m_end m_fault m_faultAt m_read m_crowds m_traced m_here m_hand m_view m_up m_down m_ruleSize m_ruleRow m_ruleDoes m_name m_goes m_tape m_readSize m_readRow m_readDoes m_own m_crowd m_isStep m_isOfGoal m_isMet m_most m_stands m_doesHere m_from m_trace)) (by decide) rfl (Nat.le_of_ble_eq_true rfl) ?_
  intro p e s m args below meth c Q F E ret ls J hl
  have hx := F.1
  have hb := F.2.1
  have hl : lv_has ls 1 [(0, .ref (q 0))] := hl
  refine lv_aload_n hx hb dX8_fault_0 rfl (lv_at hl 0 rfl) ?_
  refine lv_iconst (v := 0) hx hb dX8_fault_1 (by decide) ?_
  refine mp_0_0 F E J fl_X8_1 dX8_fault_2 (fun H locs J => ?_)
  refine lv_aload_n hx hb dX8_fault_5 rfl (lv_at hl 0 rfl) ?_
  refine mg_0_17 F E J fl_X8_217 dX8_fault_6 ?_
  obtain rfl := Option.some.inj h
  exact ret _ _ _ _ J dX8_fault_9
set_option maxHeartbeats 4000000 in
set_option maxRecDepth 100000 in
theorem c_X8_numberOfName {l : Launch} {g : GG} {A : Nat → Prop} {q : Nat → Nat} {m_thrown m_n m_robots m_viewed m_rules m_taped m_latest m_size m_at m_sort m_place m_end m_fault m_faultAt m_read m_crowds m_traced : Int32} {m_here m_hand m_view m_up m_down m_ruleSize m_ruleRow m_ruleDoes m_name m_goes m_tape m_readSize m_readRow m_readDoes m_own m_crowd m_isStep m_isOfGoal m_isMet m_most m_stands m_doesHere m_from m_trace : Nat → Int32} (res : Int32) (h : F_X8_numberOfName m_n m_crowds m_name m_crowd = some res) : Met l yX8_numberOfName (wS yX8_numberOfName cX8_numberOfName 5 (some .int)) rm_X8_numberOfName (va_Pc [.ref (q 0)] (VB g A (MW g q m_thrown m_n m_robots m_viewed m_rules m_taped m_latest m_size m_at m_sort m_place m_end m_fault m_faultAt m_read m_crowds m_traced m_here m_hand m_view m_up m_down m_ruleSize m_ruleRow m_ruleDoes m_name m_goes m_tape m_readSize m_readRow m_readDoes m_own m_crowd m_isStep m_isOfGoal m_isMet m_most m_stands m_doesHere m_from m_trace))) (va_Qi (fun r (_ : Unit) => r = res) (fun _ => VB g A (MW g q m_thrown m_n m_robots m_viewed m_rules m_taped m_latest m_size m_at m_sort m_place m_end m_fault m_faultAt m_read m_crowds m_traced m_here m_hand m_view m_up m_down m_ruleSize m_ruleRow m_ruleDoes m_name m_goes m_tape m_readSize m_readRow m_readDoes m_own m_crowd m_isStep m_isOfGoal m_isMet m_most m_stands m_doesHere m_from m_trace)) A) 0 0 A := by
  unfold F_X8_numberOfName at h
  refine MetI (res := res) (own := RX8) (ws' := (MW g q m_thrown m_n m_robots m_viewed m_rules m_taped m_latest m_size m_at m_sort m_place m_end m_fault m_faultAt m_read m_crowds m_traced m_here m_hand m_view m_up m_down m_ruleSize m_ruleRow m_ruleDoes m_name m_goes m_tape m_readSize m_readRow m_readDoes m_own m_crowd m_isStep m_isOfGoal m_isMet m_most m_stands m_doesHere m_from m_trace)) (by decide) rfl (Nat.le_of_ble_eq_true rfl) ?_
  intro p e s m args below meth c Q F E ret ls J hl
  have hx := F.1
  have hb := F.2.1
  have hl : lv_has ls 5 [(0, .ref (q 0))] := hl
  refine lv_ldc hx hb F.2.2.2.1 (F.2.2.2.2 _ kc_X8_110) dX8_numberOfName_0 ?_
  refine lv_istore_n (lv' := [(1, .int (-1000000)), (0, .ref (q 0))]) hx hb dX8_numberOfName_2 rfl hl (by decide) rfl (fun ls hl => ?_)
  refine lv_iconst (v := 0) hx hb dX8_numberOfName_3 (by decide) ?_
  refine lv_istore_n (lv' := [(2, .int 0), (1, .int (-1000000)), (0, .ref (q 0))]) hx hb dX8_numberOfName_4 rfl hl (by decide) rfl (fun ls hl => ?_)
  obtain ⟨o_L1, ho_L1, h⟩ := ob h
  have T_L1 : ∀ (f : Nat) (l1_L1 : Int32) (l2_L1 : Int32) (o_L1 : Int32), F_X8_numberOfName_L1 m_n m_crowds m_name m_crowd f l1_L1 l2_L1 = some o_L1 → ∀ (H : Heap) (locs : List Loc) (ls : Array Slot), VJ g A s.heap (MW g q m_thrown m_n m_robots m_viewed m_rules m_taped m_latest m_size m_at m_sort m_place m_end m_fault m_faultAt m_read m_crowds m_traced m_here m_hand m_view m_up m_down m_ruleSize m_ruleRow m_ruleDoes m_name m_goes m_tape m_readSize m_readRow m_readDoes m_own m_crowd m_isStep m_isOfGoal m_isMet m_most m_stands m_doesHere m_from m_trace) H locs → lv_has ls 5 [(0, .ref (q 0)), (1, .int l1_L1), (2, .int l2_L1)] → (∀ (H : Heap) (locs : List Loc) (ls : Array Slot), VJ g A s.heap (MW g q m_thrown m_n m_robots m_viewed m_rules m_taped m_latest m_size m_at m_sort m_place m_end m_fault m_faultAt m_read m_crowds m_traced m_here m_hand m_view m_up m_down m_ruleSize m_ruleRow m_ruleDoes m_name m_goes m_tape m_readSize m_readRow m_readDoes m_own m_crowd m_isStep m_isOfGoal m_isMet m_most m_stands m_doesHere m_from m_trace) H locs → lv_has ls 5 [(1, .int o_L1)] → W p l e rm_X8_numberOfName s m args below meth c H locs 0 0 Q (F0 m 81 ls [])) → W p l e rm_X8_numberOfName s m args below meth c H locs 0 0 Q (F0 m 5 ls []) := by
    clear h ho_L1 hl J
    intro f
    induction f with
    | zero => intro l1_L1 l2_L1 o_L1 h; exact absurd h (by simp [F_X8_numberOfName_L1])
    | succ f ih =>
      intro l1_L1 l2_L1 o_L1 h H locs ls J hl K_L1
      rw [F_X8_numberOfName_L1.eq_2] at h
      refine lv_iload_n hx hb dX8_numberOfName_5 rfl (lv_at hl 2 rfl) ?_
      refine lv_aload_n hx hb dX8_numberOfName_6 rfl (lv_at hl 0 rfl) ?_
      refine mg_0_30 F E J fl_X8_221 dX8_numberOfName_7 ?_
      refine lv_icmp_ge (tgt := 81) hx hb dX8_numberOfName_10 (by decide) (fun c2 => ?_) (fun c2 => ?_)
      · have h := itp c2 h
        obtain rfl := Option.some.inj h
        exact K_L1 _ _ _ J (lv_sub hl [1] rfl)
      · have h := itn c2 h
        refine lv_iconst (v := 1) hx hb dX8_numberOfName_13 (by decide) ?_
        refine lv_istore_n (lv' := [(3, .int 1), (0, .ref (q 0)), (1, .int l1_L1), (2, .int l2_L1)]) hx hb dX8_numberOfName_14 rfl hl (by decide) rfl (fun ls hl => ?_)
        refine lv_iconst (v := 0) hx hb dX8_numberOfName_15 (by decide) ?_
        refine lv_istore (lv' := [(4, .int 0), (3, .int 1), (0, .ref (q 0)), (1, .int l1_L1), (2, .int l2_L1)]) hx hb dX8_numberOfName_16 hl (by decide) rfl (fun ls hl => ?_)
        obtain ⟨o_L3, ho_L3, h⟩ := ob h
        have T_L3 : ∀ (f : Nat) (l3_L3 : Int32) (l4_L3 : Int32) (o_L3 : Int32), F_X8_numberOfName_L3 l2_L1 m_n m_name m_crowd f l3_L3 l4_L3 = some o_L3 → ∀ (H : Heap) (locs : List Loc) (ls : Array Slot), VJ g A s.heap (MW g q m_thrown m_n m_robots m_viewed m_rules m_taped m_latest m_size m_at m_sort m_place m_end m_fault m_faultAt m_read m_crowds m_traced m_here m_hand m_view m_up m_down m_ruleSize m_ruleRow m_ruleDoes m_name m_goes m_tape m_readSize m_readRow m_readDoes m_own m_crowd m_isStep m_isOfGoal m_isMet m_most m_stands m_doesHere m_from m_trace) H locs → lv_has ls 5 [(0, .ref (q 0)), (1, .int l1_L1), (2, .int l2_L1), (3, .int l3_L3), (4, .int l4_L3)] → (∀ (H : Heap) (locs : List Loc) (ls : Array Slot), VJ g A s.heap (MW g q m_thrown m_n m_robots m_viewed m_rules m_taped m_latest m_size m_at m_sort m_place m_end m_fault m_faultAt m_read m_crowds m_traced m_here m_hand m_view m_up m_down m_ruleSize m_ruleRow m_ruleDoes m_name m_goes m_tape m_readSize m_readRow m_readDoes m_own m_crowd m_isStep m_isOfGoal m_isMet m_most m_stands m_doesHere m_from m_trace) H locs → lv_has ls 5 [(0, .ref (q 0)), (1, .int l1_L1), (2, .int l2_L1), (3, .int o_L3)] → W p l e rm_X8_numberOfName s m args below meth c H locs 0 0 Q (F0 m 65 ls [])) → W p l e rm_X8_numberOfName s m args below meth c H locs 0 0 Q (F0 m 18 ls []) := by
          clear h ho_L3 hl J
          intro f
          induction f with
          | zero => intro l3_L3 l4_L3 o_L3 h; exact absurd h (by simp [F_X8_numberOfName_L3])
          | succ f ih =>
            intro l3_L3 l4_L3 o_L3 h H locs ls J hl K_L3
            rw [F_X8_numberOfName_L3.eq_2] at h
            refine lv_iload hx hb dX8_numberOfName_18 (lv_at hl 4 rfl) ?_
            refine lv_aload_n hx hb dX8_numberOfName_20 rfl (lv_at hl 0 rfl) ?_
            refine mg_0_1 F E J fl_X8_87 dX8_numberOfName_21 ?_
            refine lv_icmp_ge (tgt := 65) hx hb dX8_numberOfName_24 (by decide) (fun c4 => ?_) (fun c4 => ?_)
            · have h := itp c4 h
              obtain rfl := Option.some.inj h
              exact K_L3 _ _ _ J (lv_sub hl [0, 1, 2, 3] rfl)
            · have h := itn c4 h
              refine lv_iload_n hx hb dX8_numberOfName_27 rfl (lv_at hl 3 rfl) ?_
              obtain ⟨j5, hj5, h⟩ := ob h
              have Kj5 : ∀ (H : Heap) (locs : List Loc) (ls : Array Slot), VJ g A s.heap (MW g q m_thrown m_n m_robots m_viewed m_rules m_taped m_latest m_size m_at m_sort m_place m_end m_fault m_faultAt m_read m_crowds m_traced m_here m_hand m_view m_up m_down m_ruleSize m_ruleRow m_ruleDoes m_name m_goes m_tape m_readSize m_readRow m_readDoes m_own m_crowd m_isStep m_isOfGoal m_isMet m_most m_stands m_doesHere m_from m_trace) H locs → lv_has ls 5 [(0, .ref (q 0)), (1, .int l1_L1), (2, .int l2_L1), (4, .int l4_L3)] → W p l e rm_X8_numberOfName s m args below meth c H locs 0 0 Q (F0 m 58 ls [.int j5]) := by
                intro H locs ls J hl
                refine lv_istore_n (lv' := [(3, .int j5), (0, .ref (q 0)), (1, .int l1_L1), (2, .int l2_L1), (4, .int l4_L3)]) hx hb dX8_numberOfName_58 rfl hl (by decide) rfl (fun ls hl => ?_)
                obtain ⟨v8, hv8, h⟩ := obs h
                refine lv_iinc (v := v8) (lv' := [(4, .int v8), (3, .int j5), (0, .ref (q 0)), (1, .int l1_L1), (2, .int l2_L1)]) hx hb dX8_numberOfName_59 hl (k := 4) rfl (by rw [← hv8]; rfl) (by decide) rfl (fun ls hl => ?_)
                refine lv_goto (tgt := 18) hx hb dX8_numberOfName_62 (by decide) ?_
                exact ih _ _ _ h _ _ _ J (lv_sub hl [2, 3, 4, 1, 0] rfl) K_L3
              clear h
              have h := hj5
              refine lv_if_eq (tgt := 57) hx hb dX8_numberOfName_28 (by decide) (fun c6 => ?_) (fun c6 => ?_)
              · have h := itp c6 h
                refine lv_iconst (v := 0) hx hb dX8_numberOfName_57 (by decide) ?_
                obtain rfl := Option.some.inj h
                exact Kj5 _ _ _ J (lv_sub hl [0, 1, 2, 4] rfl)
              · have h := itn c6 h
                refine lv_aload_n hx hb dX8_numberOfName_31 rfl (lv_at hl 0 rfl) ?_
                refine mg_0_31 F E J fl_X8_59 dX8_numberOfName_32 ?_
                refine lv_bipush (v := 9) hx hb dX8_numberOfName_35 (by decide) ?_
                refine lv_iload_n hx hb dX8_numberOfName_37 rfl (lv_at hl 2 rfl) ?_
                refine lv_imul hx hb dX8_numberOfName_38 ?_
                refine lv_iload hx hb dX8_numberOfName_39 (lv_at hl 4 rfl) ?_
                refine lv_iadd hx hb dX8_numberOfName_41 ?_
                obtain ⟨hi, h⟩ := gdt h
                refine ml_16 F E J (inbt hi) dX8_numberOfName_42 ?_
                refine lv_aload_n hx hb dX8_numberOfName_43 rfl (lv_at hl 0 rfl) ?_
                refine mg_0_13 F E J fl_X8_38 dX8_numberOfName_44 ?_
                refine lv_iload hx hb dX8_numberOfName_47 (lv_at hl 4 rfl) ?_
                obtain ⟨hi, h⟩ := gdt h
                refine ml_9 F E J (inbt hi) dX8_numberOfName_49 ?_
                refine lv_icmp_ne (tgt := 57) hx hb dX8_numberOfName_50 (by decide) (fun c7 => ?_) (fun c7 => ?_)
                · have h := itn c7 h
                  refine lv_iconst (v := 0) hx hb dX8_numberOfName_57 (by decide) ?_
                  obtain rfl := Option.some.inj h
                  exact Kj5 _ _ _ J (lv_sub hl [0, 1, 2, 4] rfl)
                · have h := itp c7 h
                  refine lv_iconst (v := 1) hx hb dX8_numberOfName_53 (by decide) ?_
                  refine lv_goto (tgt := 58) hx hb dX8_numberOfName_54 (by decide) ?_
                  obtain rfl := Option.some.inj h
                  exact Kj5 _ _ _ J (lv_sub hl [0, 1, 2, 4] rfl)
        refine T_L3 FU 1 0 o_L3 ho_L3 _ _ _ J (lv_sub hl [2, 3, 4, 1, 0] rfl) (fun H locs ls J hl => ?_)
        refine lv_iload_n hx hb dX8_numberOfName_65 rfl (lv_at hl 3 rfl) ?_
        obtain ⟨j9, hj9, h⟩ := ob h
        have Kj9 : ∀ (H : Heap) (locs : List Loc) (ls : Array Slot), VJ g A s.heap (MW g q m_thrown m_n m_robots m_viewed m_rules m_taped m_latest m_size m_at m_sort m_place m_end m_fault m_faultAt m_read m_crowds m_traced m_here m_hand m_view m_up m_down m_ruleSize m_ruleRow m_ruleDoes m_name m_goes m_tape m_readSize m_readRow m_readDoes m_own m_crowd m_isStep m_isOfGoal m_isMet m_most m_stands m_doesHere m_from m_trace) H locs → lv_has ls 5 [(0, .ref (q 0)), (2, .int l2_L1)] → W p l e rm_X8_numberOfName s m args below meth c H locs 0 0 Q (F0 m 74 ls [.int j9]) := by
          intro H locs ls J hl
          refine lv_istore_n (lv' := [(1, .int j9), (0, .ref (q 0)), (2, .int l2_L1)]) hx hb dX8_numberOfName_74 rfl hl (by decide) rfl (fun ls hl => ?_)
          obtain ⟨v11, hv11, h⟩ := obs h
          refine lv_iinc (v := v11) (lv' := [(2, .int v11), (1, .int j9), (0, .ref (q 0))]) hx hb dX8_numberOfName_75 hl (k := 2) rfl (by rw [← hv11]; rfl) (by decide) rfl (fun ls hl => ?_)
          refine lv_goto (tgt := 5) hx hb dX8_numberOfName_78 (by decide) ?_
          exact ih _ _ _ h _ _ _ J (lv_sub hl [2, 1, 0] rfl) K_L1
        clear h
        have h := hj9
        refine lv_if_eq (tgt := 73) hx hb dX8_numberOfName_66 (by decide) (fun c10 => ?_) (fun c10 => ?_)
        · have h := itp c10 h
          refine lv_iload_n hx hb dX8_numberOfName_73 rfl (lv_at hl 1 rfl) ?_
          obtain rfl := Option.some.inj h
          exact Kj9 _ _ _ J (lv_sub hl [0, 2] rfl)
        · have h := itn c10 h
          refine lv_iload_n hx hb dX8_numberOfName_69 rfl (lv_at hl 2 rfl) ?_
          refine lv_goto (tgt := 74) hx hb dX8_numberOfName_70 (by decide) ?_
          obtain rfl := Option.some.inj h
          exact Kj9 _ _ _ J (lv_sub hl [0, 2] rfl)
  refine T_L1 FU (-1000000) 0 o_L1 ho_L1 _ _ _ J (lv_sub hl [2, 1, 0] rfl) (fun H locs ls J hl => ?_)
  refine lv_iload_n hx hb dX8_numberOfName_81 rfl (lv_at hl 0 rfl) ?_
  obtain rfl := Option.some.inj h
  exact ret _ _ _ _ J dX8_numberOfName_82
set_option maxHeartbeats 4000000 in
set_option maxRecDepth 100000 in
theorem c_X8_listCrowds {l : Launch} {g : GG} {A : Nat → Prop} {q : Nat → Nat} {m_thrown m_n m_robots m_viewed m_rules m_taped m_latest m_size m_at m_sort m_place m_end m_fault m_faultAt m_read m_crowds m_traced : Int32} {m_here m_hand m_view m_up m_down m_ruleSize m_ruleRow m_ruleDoes m_name m_goes m_tape m_readSize m_readRow m_readDoes m_own m_crowd m_isStep m_isOfGoal m_isMet m_most m_stands m_doesHere m_from m_trace : Nat → Int32} (res : Int32 × (Nat → Int32) × (Nat → Int32) × (Nat → Int32)) (h : F_X8_listCrowds m_n m_robots m_hand m_name m_crowd = some res) : Met l yX8_listCrowds (wS yX8_listCrowds cX8_listCrowds 6 none) rm_X8_listCrowds (va_Pc [.ref (q 0)] (VB g A (MW g q m_thrown m_n m_robots m_viewed m_rules m_taped m_latest m_size m_at m_sort m_place m_end m_fault m_faultAt m_read m_crowds m_traced m_here m_hand m_view m_up m_down m_ruleSize m_ruleRow m_ruleDoes m_name m_goes m_tape m_readSize m_readRow m_readDoes m_own m_crowd m_isStep m_isOfGoal m_isMet m_most m_stands m_doesHere m_from m_trace))) (va_Qv (fun (_ : Unit) => True) (fun _ => VB g A (MW g q m_thrown m_n m_robots m_viewed m_rules m_taped m_latest m_size m_at m_sort m_place m_end m_fault m_faultAt m_read res.1 m_traced m_here res.2.1 m_view m_up m_down m_ruleSize m_ruleRow m_ruleDoes res.2.2.1 m_goes m_tape m_readSize m_readRow m_readDoes m_own res.2.2.2 m_isStep m_isOfGoal m_isMet m_most m_stands m_doesHere m_from m_trace)) A) 0 0 A := by
  unfold F_X8_listCrowds at h
  refine MetV (own := RX8) (ws' := (MW g q m_thrown m_n m_robots m_viewed m_rules m_taped m_latest m_size m_at m_sort m_place m_end m_fault m_faultAt m_read res.1 m_traced m_here res.2.1 m_view m_up m_down m_ruleSize m_ruleRow m_ruleDoes res.2.2.1 m_goes m_tape m_readSize m_readRow m_readDoes m_own res.2.2.2 m_isStep m_isOfGoal m_isMet m_most m_stands m_doesHere m_from m_trace)) (by decide) rfl (Nat.le_of_ble_eq_true rfl) ?_
  intro p e s m args below meth c Q F E ret ls J hl
  have hx := F.1
  have hb := F.2.1
  have hl : lv_has ls 6 [(0, .ref (q 0))] := hl
  refine lv_aload_n hx hb dX8_listCrowds_0 rfl (lv_at hl 0 rfl) ?_
  refine lv_iconst (v := 0) hx hb dX8_listCrowds_1 (by decide) ?_
  refine mp_0_30 F E J fl_X8_221 dX8_listCrowds_2 (fun H locs J => ?_)
  refine lv_iconst (v := 1) hx hb dX8_listCrowds_5 (by decide) ?_
  refine lv_istore_n (lv' := [(1, .int 1), (0, .ref (q 0))]) hx hb dX8_listCrowds_6 rfl hl (by decide) rfl (fun ls hl => ?_)
  refine lv_iconst (v := 0) hx hb dX8_listCrowds_7 (by decide) ?_
  refine lv_istore_n (lv' := [(2, .int 0), (1, .int 1), (0, .ref (q 0))]) hx hb dX8_listCrowds_8 rfl hl (by decide) rfl (fun ls hl => ?_)
  obtain ⟨o_L1, ho_L1, h⟩ := ob h
  have T_L1 : ∀ (f : Nat) (l1_L1 : Int32) (l2_L1 : Int32) (o_L1 : Int32), F_X8_listCrowds_L1 m_n m_robots f l1_L1 l2_L1 = some o_L1 → ∀ (H : Heap) (locs : List Loc) (ls : Array Slot), VJ g A s.heap (MW g q m_thrown m_n m_robots m_viewed m_rules m_taped m_latest m_size m_at m_sort m_place m_end m_fault m_faultAt m_read 0 m_traced m_here m_hand m_view m_up m_down m_ruleSize m_ruleRow m_ruleDoes m_name m_goes m_tape m_readSize m_readRow m_readDoes m_own m_crowd m_isStep m_isOfGoal m_isMet m_most m_stands m_doesHere m_from m_trace) H locs → lv_has ls 6 [(0, .ref (q 0)), (1, .int l1_L1), (2, .int l2_L1)] → (∀ (H : Heap) (locs : List Loc) (ls : Array Slot), VJ g A s.heap (MW g q m_thrown m_n m_robots m_viewed m_rules m_taped m_latest m_size m_at m_sort m_place m_end m_fault m_faultAt m_read 0 m_traced m_here m_hand m_view m_up m_down m_ruleSize m_ruleRow m_ruleDoes m_name m_goes m_tape m_readSize m_readRow m_readDoes m_own m_crowd m_isStep m_isOfGoal m_isMet m_most m_stands m_doesHere m_from m_trace) H locs → lv_has ls 6 [(0, .ref (q 0)), (1, .int o_L1)] → W p l e rm_X8_listCrowds s m args below meth c H locs 0 0 Q (F0 m 30 ls [])) → W p l e rm_X8_listCrowds s m args below meth c H locs 0 0 Q (F0 m 9 ls []) := by
    clear h ho_L1 hl J
    intro f
    induction f with
    | zero => intro l1_L1 l2_L1 o_L1 h; exact absurd h (by simp [F_X8_listCrowds_L1])
    | succ f ih =>
      intro l1_L1 l2_L1 o_L1 h H locs ls J hl K_L1
      rw [F_X8_listCrowds_L1.eq_2] at h
      refine lv_iload_n hx hb dX8_listCrowds_9 rfl (lv_at hl 2 rfl) ?_
      refine lv_aload_n hx hb dX8_listCrowds_10 rfl (lv_at hl 0 rfl) ?_
      refine mg_0_2 F E J fl_X8_99 dX8_listCrowds_11 ?_
      refine lv_icmp_ge (tgt := 30) hx hb dX8_listCrowds_14 (by decide) (fun c2 => ?_) (fun c2 => ?_)
      · have h := itp c2 h
        obtain rfl := Option.some.inj h
        exact K_L1 _ _ _ J (lv_sub hl [0, 1] rfl)
      · have h := itn c2 h
        refine lv_iload_n hx hb dX8_listCrowds_17 rfl (lv_at hl 1 rfl) ?_
        refine lv_aload_n hx hb dX8_listCrowds_18 rfl (lv_at hl 0 rfl) ?_
        refine mg_0_1 F E J fl_X8_87 dX8_listCrowds_19 ?_
        refine lv_imul hx hb dX8_listCrowds_22 ?_
        obtain ⟨v3, hv3, h⟩ := obs h
        refine nmI hv3 ?_
        refine lv_istore_n (lv' := [(1, .int v3), (0, .ref (q 0)), (2, .int l2_L1)]) hx hb dX8_listCrowds_23 rfl hl (by decide) rfl (fun ls hl => ?_)
        obtain ⟨v4, hv4, h⟩ := obs h
        refine lv_iinc (v := v4) (lv' := [(2, .int v4), (1, .int v3), (0, .ref (q 0))]) hx hb dX8_listCrowds_24 hl (k := 2) rfl (by rw [← hv4]; rfl) (by decide) rfl (fun ls hl => ?_)
        refine lv_goto (tgt := 9) hx hb dX8_listCrowds_27 (by decide) ?_
        exact ih _ _ _ h _ _ _ J (lv_sub hl [2, 1, 0] rfl) K_L1
  refine T_L1 FU 1 0 o_L1 ho_L1 _ _ _ J (lv_sub hl [2, 1, 0] rfl) (fun H locs ls J hl => ?_)
  refine lv_iconst (v := 0) hx hb dX8_listCrowds_30 (by decide) ?_
  refine lv_istore_n (lv' := [(2, .int 0), (0, .ref (q 0)), (1, .int o_L1)]) hx hb dX8_listCrowds_31 rfl hl (by decide) rfl (fun ls hl => ?_)
  obtain ⟨o_L5, ho_L5, h⟩ := ob h
  have T_L5 : ∀ (f : Nat) (l2_L5 : Int32) (m_crowds_L5 : Int32) (m_hand_L5 : Nat → Int32) (m_name_L5 : Nat → Int32) (m_crowd_L5 : Nat → Int32) (o_L5 : Int32 × (Nat → Int32) × (Nat → Int32) × (Nat → Int32)), F_X8_listCrowds_L5 o_L1 m_n m_robots f l2_L5 m_crowds_L5 m_hand_L5 m_name_L5 m_crowd_L5 = some o_L5 → ∀ (H : Heap) (locs : List Loc) (ls : Array Slot), VJ g A s.heap (MW g q m_thrown m_n m_robots m_viewed m_rules m_taped m_latest m_size m_at m_sort m_place m_end m_fault m_faultAt m_read m_crowds_L5 m_traced m_here m_hand_L5 m_view m_up m_down m_ruleSize m_ruleRow m_ruleDoes m_name_L5 m_goes m_tape m_readSize m_readRow m_readDoes m_own m_crowd_L5 m_isStep m_isOfGoal m_isMet m_most m_stands m_doesHere m_from m_trace) H locs → lv_has ls 6 [(0, .ref (q 0)), (1, .int o_L1), (2, .int l2_L5)] → (∀ (H : Heap) (locs : List Loc) (ls : Array Slot), VJ g A s.heap (MW g q m_thrown m_n m_robots m_viewed m_rules m_taped m_latest m_size m_at m_sort m_place m_end m_fault m_faultAt m_read o_L5.1 m_traced m_here o_L5.2.1 m_view m_up m_down m_ruleSize m_ruleRow m_ruleDoes o_L5.2.2.1 m_goes m_tape m_readSize m_readRow m_readDoes m_own o_L5.2.2.2 m_isStep m_isOfGoal m_isMet m_most m_stands m_doesHere m_from m_trace) H locs → lv_has ls 6 [] → W p l e rm_X8_listCrowds s m args below meth c H locs 0 0 Q (F0 m 222 ls [])) → W p l e rm_X8_listCrowds s m args below meth c H locs 0 0 Q (F0 m 32 ls []) := by
    clear h ho_L5 hl J
    intro f
    induction f with
    | zero => intro l2_L5 m_crowds_L5 m_hand_L5 m_name_L5 m_crowd_L5 o_L5 h; exact absurd h (by simp [F_X8_listCrowds_L5])
    | succ f ih =>
      intro l2_L5 m_crowds_L5 m_hand_L5 m_name_L5 m_crowd_L5 o_L5 h H locs ls J hl K_L5
      rw [F_X8_listCrowds_L5.eq_2] at h
      refine lv_iload_n hx hb dX8_listCrowds_32 rfl (lv_at hl 2 rfl) ?_
      refine lv_iload_n hx hb dX8_listCrowds_33 rfl (lv_at hl 1 rfl) ?_
      refine lv_icmp_ge (tgt := 222) hx hb dX8_listCrowds_34 (by decide) (fun c6 => ?_) (fun c6 => ?_)
      · have h := itp c6 h
        obtain rfl := Option.some.inj h
        exact K_L5 _ _ _ J (lv_sub hl [] rfl)
      · have h := itn c6 h
        refine lv_iconst (v := 0) hx hb dX8_listCrowds_37 (by decide) ?_
        refine lv_istore_n (lv' := [(3, .int 0), (0, .ref (q 0)), (1, .int o_L1), (2, .int l2_L5)]) hx hb dX8_listCrowds_38 rfl hl (by decide) rfl (fun ls hl => ?_)
        obtain ⟨o_L7, ho_L7, h⟩ := ob h
        have T_L7 : ∀ (f : Nat) (l3_L7 : Int32) (m_hand_L7 : Nat → Int32) (o_L7 : Nat → Int32), F_X8_listCrowds_L7 f l3_L7 m_hand_L7 = some o_L7 → ∀ (H : Heap) (locs : List Loc) (ls : Array Slot), VJ g A s.heap (MW g q m_thrown m_n m_robots m_viewed m_rules m_taped m_latest m_size m_at m_sort m_place m_end m_fault m_faultAt m_read m_crowds_L5 m_traced m_here m_hand_L7 m_view m_up m_down m_ruleSize m_ruleRow m_ruleDoes m_name_L5 m_goes m_tape m_readSize m_readRow m_readDoes m_own m_crowd_L5 m_isStep m_isOfGoal m_isMet m_most m_stands m_doesHere m_from m_trace) H locs → lv_has ls 6 [(0, .ref (q 0)), (1, .int o_L1), (2, .int l2_L5), (3, .int l3_L7)] → (∀ (H : Heap) (locs : List Loc) (ls : Array Slot), VJ g A s.heap (MW g q m_thrown m_n m_robots m_viewed m_rules m_taped m_latest m_size m_at m_sort m_place m_end m_fault m_faultAt m_read m_crowds_L5 m_traced m_here o_L7 m_view m_up m_down m_ruleSize m_ruleRow m_ruleDoes m_name_L5 m_goes m_tape m_readSize m_readRow m_readDoes m_own m_crowd_L5 m_isStep m_isOfGoal m_isMet m_most m_stands m_doesHere m_from m_trace) H locs → lv_has ls 6 [(0, .ref (q 0)), (1, .int o_L1), (2, .int l2_L5)] → W p l e rm_X8_listCrowds s m args below meth c H locs 0 0 Q (F0 m 58 ls [])) → W p l e rm_X8_listCrowds s m args below meth c H locs 0 0 Q (F0 m 39 ls []) := by
          clear h ho_L7 hl J
          intro f
          induction f with
          | zero => intro l3_L7 m_hand_L7 o_L7 h; exact absurd h (by simp [F_X8_listCrowds_L7])
          | succ f ih =>
            intro l3_L7 m_hand_L7 o_L7 h H locs ls J hl K_L7
            rw [F_X8_listCrowds_L7.eq_2] at h
            refine lv_iload_n hx hb dX8_listCrowds_39 rfl (lv_at hl 3 rfl) ?_
            refine lv_bipush (v := 9) hx hb dX8_listCrowds_40 (by decide) ?_
            refine lv_icmp_ge (tgt := 58) hx hb dX8_listCrowds_42 (by decide) (fun c8 => ?_) (fun c8 => ?_)
            · have h := itp c8 h
              obtain rfl := Option.some.inj h
              exact K_L7 _ _ _ J (lv_sub hl [0, 1, 2] rfl)
            · have h := itn c8 h
              refine lv_aload_n hx hb dX8_listCrowds_45 rfl (lv_at hl 0 rfl) ?_
              refine mg_0_4 F E J fl_X8_17 dX8_listCrowds_46 ?_
              refine lv_iload_n hx hb dX8_listCrowds_49 rfl (lv_at hl 3 rfl) ?_
              refine lv_iconst (v := 0) hx hb dX8_listCrowds_50 (by decide) ?_
              obtain ⟨hi, h⟩ := gdt h
              refine ms_2 F E J (inbt hi) dX8_listCrowds_51 (fun H locs J => ?_)
              obtain ⟨v9, hv9, h⟩ := obs h
              refine lv_iinc (v := v9) (lv' := [(3, .int v9), (0, .ref (q 0)), (1, .int o_L1), (2, .int l2_L5)]) hx hb dX8_listCrowds_52 hl (k := 3) rfl (by rw [← hv9]; rfl) (by decide) rfl (fun ls hl => ?_)
              refine lv_goto (tgt := 39) hx hb dX8_listCrowds_55 (by decide) ?_
              exact ih _ _ _ h _ _ _ J (lv_sub hl [1, 2, 3, 0] rfl) K_L7
        refine T_L7 FU 0 m_hand_L5 o_L7 ho_L7 _ _ _ J (lv_sub hl [1, 2, 3, 0] rfl) (fun H locs ls J hl => ?_)
        refine lv_iload_n hx hb dX8_listCrowds_58 rfl (lv_at hl 2 rfl) ?_
        refine lv_istore_n (lv' := [(3, .int l2_L5), (0, .ref (q 0)), (1, .int o_L1), (2, .int l2_L5)]) hx hb dX8_listCrowds_59 rfl hl (by decide) rfl (fun ls hl => ?_)
        refine lv_iconst (v := 0) hx hb dX8_listCrowds_60 (by decide) ?_
        refine lv_istore (lv' := [(4, .int 0), (3, .int l2_L5), (0, .ref (q 0)), (1, .int o_L1), (2, .int l2_L5)]) hx hb dX8_listCrowds_61 hl (by decide) rfl (fun ls hl => ?_)
        obtain ⟨o_L10, ho_L10, h⟩ := ob h
        have T_L10 : ∀ (f : Nat) (l3_L10 : Int32) (l4_L10 : Int32) (m_hand_L10 : Nat → Int32) (o_L10 : Nat → Int32), F_X8_listCrowds_L10 m_n m_robots f l3_L10 l4_L10 m_hand_L10 = some o_L10 → ∀ (H : Heap) (locs : List Loc) (ls : Array Slot), VJ g A s.heap (MW g q m_thrown m_n m_robots m_viewed m_rules m_taped m_latest m_size m_at m_sort m_place m_end m_fault m_faultAt m_read m_crowds_L5 m_traced m_here m_hand_L10 m_view m_up m_down m_ruleSize m_ruleRow m_ruleDoes m_name_L5 m_goes m_tape m_readSize m_readRow m_readDoes m_own m_crowd_L5 m_isStep m_isOfGoal m_isMet m_most m_stands m_doesHere m_from m_trace) H locs → lv_has ls 6 [(0, .ref (q 0)), (1, .int o_L1), (2, .int l2_L5), (3, .int l3_L10), (4, .int l4_L10)] → (∀ (H : Heap) (locs : List Loc) (ls : Array Slot), VJ g A s.heap (MW g q m_thrown m_n m_robots m_viewed m_rules m_taped m_latest m_size m_at m_sort m_place m_end m_fault m_faultAt m_read m_crowds_L5 m_traced m_here o_L10 m_view m_up m_down m_ruleSize m_ruleRow m_ruleDoes m_name_L5 m_goes m_tape m_readSize m_readRow m_readDoes m_own m_crowd_L5 m_isStep m_isOfGoal m_isMet m_most m_stands m_doesHere m_from m_trace) H locs → lv_has ls 6 [(0, .ref (q 0)), (1, .int o_L1), (2, .int l2_L5)] → W p l e rm_X8_listCrowds s m args below meth c H locs 0 0 Q (F0 m 100 ls [])) → W p l e rm_X8_listCrowds s m args below meth c H locs 0 0 Q (F0 m 63 ls []) := by
          clear h ho_L10 hl J
          intro f
          induction f with
          | zero => intro l3_L10 l4_L10 m_hand_L10 o_L10 h; exact absurd h (by simp [F_X8_listCrowds_L10])
          | succ f ih =>
            intro l3_L10 l4_L10 m_hand_L10 o_L10 h H locs ls J hl K_L10
            rw [F_X8_listCrowds_L10.eq_2] at h
            refine lv_iload hx hb dX8_listCrowds_63 (lv_at hl 4 rfl) ?_
            refine lv_aload_n hx hb dX8_listCrowds_65 rfl (lv_at hl 0 rfl) ?_
            refine mg_0_2 F E J fl_X8_99 dX8_listCrowds_66 ?_
            refine lv_icmp_ge (tgt := 100) hx hb dX8_listCrowds_69 (by decide) (fun c11 => ?_) (fun c11 => ?_)
            · have h := itp c11 h
              obtain rfl := Option.some.inj h
              exact K_L10 _ _ _ J (lv_sub hl [0, 1, 2] rfl)
            · have h := itn c11 h
              refine lv_aload_n hx hb dX8_listCrowds_72 rfl (lv_at hl 0 rfl) ?_
              refine mg_0_4 F E J fl_X8_17 dX8_listCrowds_73 ?_
              refine lv_iload_n hx hb dX8_listCrowds_76 rfl (lv_at hl 3 rfl) ?_
              refine lv_aload_n hx hb dX8_listCrowds_77 rfl (lv_at hl 0 rfl) ?_
              refine mg_0_1 F E J fl_X8_87 dX8_listCrowds_78 ?_
              obtain ⟨hz, h⟩ := gdt h
              refine lv_irem hx hb dX8_listCrowds_81 (nzt hz) ?_
              refine lv_dup2_11 hx hb dX8_listCrowds_82 rfl rfl ?_
              obtain ⟨hi, h⟩ := gdt h
              refine ml_2 F E J (inbt hi) dX8_listCrowds_83 ?_
              refine lv_iconst (v := 1) hx hb dX8_listCrowds_84 (by decide) ?_
              refine lv_iadd hx hb dX8_listCrowds_85 ?_
              obtain ⟨v12, hv12, h⟩ := obs h
              refine nmI hv12 ?_
              obtain ⟨hi, h⟩ := gdt h
              refine ms_2 F E J (inbt hi) dX8_listCrowds_86 (fun H locs J => ?_)
              refine lv_iload_n hx hb dX8_listCrowds_87 rfl (lv_at hl 3 rfl) ?_
              refine lv_aload_n hx hb dX8_listCrowds_88 rfl (lv_at hl 0 rfl) ?_
              refine mg_0_1 F E J fl_X8_87 dX8_listCrowds_89 ?_
              obtain ⟨hz, h⟩ := gdt h
              refine lv_idiv hx hb dX8_listCrowds_92 (nzt hz) ?_
              obtain ⟨v13, hv13, h⟩ := obs h
              refine nmI hv13 ?_
              refine lv_istore_n (lv' := [(3, .int v13), (0, .ref (q 0)), (1, .int o_L1), (2, .int l2_L5), (4, .int l4_L10)]) hx hb dX8_listCrowds_93 rfl hl (by decide) rfl (fun ls hl => ?_)
              obtain ⟨v14, hv14, h⟩ := obs h
              refine lv_iinc (v := v14) (lv' := [(4, .int v14), (3, .int v13), (0, .ref (q 0)), (1, .int o_L1), (2, .int l2_L5)]) hx hb dX8_listCrowds_94 hl (k := 4) rfl (by rw [← hv14]; rfl) (by decide) rfl (fun ls hl => ?_)
              refine lv_goto (tgt := 63) hx hb dX8_listCrowds_97 (by decide) ?_
              exact ih _ _ _ _ h _ _ _ J (lv_sub hl [2, 3, 4, 1, 0] rfl) K_L10
        refine T_L10 FU l2_L5 0 o_L7 o_L10 ho_L10 _ _ _ J (lv_sub hl [2, 3, 4, 1, 0] rfl) (fun H locs ls J hl => ?_)
        refine lv_aload_n hx hb dX8_listCrowds_100 rfl (lv_at hl 0 rfl) ?_
        obtain ⟨p15, hp15, h⟩ := ob h
        refine onV (runV (As := []) (rest := []) F E J (c_X8_findName  p15 hp15) cw_X8_128 ⟨rfl, rfl, Nat.le_of_ble_eq_true rfl, Nat.le_of_ble_eq_true rfl⟩ rcM0 rfl hl.1 rfl (Nat.le_of_ble_eq_true rfl) dX8_listCrowds_101) J (fun H locs J => ?_)
        refine lv_iconst (v := 1) hx hb dX8_listCrowds_104 (by decide) ?_
        refine lv_istore (lv' := [(4, .int 1), (0, .ref (q 0)), (1, .int o_L1), (2, .int l2_L5)]) hx hb dX8_listCrowds_105 hl (by decide) rfl (fun ls hl => ?_)
        refine lv_iconst (v := 0) hx hb dX8_listCrowds_107 (by decide) ?_
        refine lv_istore (lv' := [(5, .int 0), (4, .int 1), (0, .ref (q 0)), (1, .int o_L1), (2, .int l2_L5)]) hx hb dX8_listCrowds_108 hl (by decide) rfl (fun ls hl => ?_)
        obtain ⟨o_L16, ho_L16, h⟩ := ob h
        have T_L16 : ∀ (f : Nat) (l4_L16 : Int32) (l5_L16 : Int32) (o_L16 : Int32), F_X8_listCrowds_L16 m_n o_L10 p15 f l4_L16 l5_L16 = some o_L16 → ∀ (H : Heap) (locs : List Loc) (ls : Array Slot), VJ g A s.heap (MW g q m_thrown m_n m_robots m_viewed m_rules m_taped m_latest m_size m_at m_sort m_place m_end m_fault m_faultAt m_read m_crowds_L5 m_traced m_here o_L10 m_view m_up m_down m_ruleSize m_ruleRow m_ruleDoes p15 m_goes m_tape m_readSize m_readRow m_readDoes m_own m_crowd_L5 m_isStep m_isOfGoal m_isMet m_most m_stands m_doesHere m_from m_trace) H locs → lv_has ls 6 [(0, .ref (q 0)), (1, .int o_L1), (2, .int l2_L5), (4, .int l4_L16), (5, .int l5_L16)] → (∀ (H : Heap) (locs : List Loc) (ls : Array Slot), VJ g A s.heap (MW g q m_thrown m_n m_robots m_viewed m_rules m_taped m_latest m_size m_at m_sort m_place m_end m_fault m_faultAt m_read m_crowds_L5 m_traced m_here o_L10 m_view m_up m_down m_ruleSize m_ruleRow m_ruleDoes p15 m_goes m_tape m_readSize m_readRow m_readDoes m_own m_crowd_L5 m_isStep m_isOfGoal m_isMet m_most m_stands m_doesHere m_from m_trace) H locs → lv_has ls 6 [(0, .ref (q 0)), (1, .int o_L1), (2, .int l2_L5), (4, .int o_L16)] → W p l e rm_X8_listCrowds s m args below meth c H locs 0 0 Q (F0 m 154 ls [])) → W p l e rm_X8_listCrowds s m args below meth c H locs 0 0 Q (F0 m 110 ls []) := by
          clear h ho_L16 hl J
          intro f
          induction f with
          | zero => intro l4_L16 l5_L16 o_L16 h; exact absurd h (by simp [F_X8_listCrowds_L16])
          | succ f ih =>
            intro l4_L16 l5_L16 o_L16 h H locs ls J hl K_L16
            rw [F_X8_listCrowds_L16.eq_2] at h
            refine lv_iload hx hb dX8_listCrowds_110 (lv_at hl 4 rfl) ?_
            refine lv_aload_n hx hb dX8_listCrowds_112 rfl (lv_at hl 0 rfl) ?_
            refine mg_0_1 F E J fl_X8_87 dX8_listCrowds_113 ?_
            refine lv_icmp_ge (tgt := 154) hx hb dX8_listCrowds_116 (by decide) (fun c17 => ?_) (fun c17 => ?_)
            · have h := itp c17 h
              obtain rfl := Option.some.inj h
              exact K_L16 _ _ _ J (lv_sub hl [0, 1, 2, 3] rfl)
            · have h := itn c17 h
              refine lv_iload hx hb dX8_listCrowds_119 (lv_at hl 3 rfl) ?_
              obtain ⟨j18, hj18, h⟩ := ob h
              have Kj18 : ∀ (H : Heap) (locs : List Loc) (ls : Array Slot), VJ g A s.heap (MW g q m_thrown m_n m_robots m_viewed m_rules m_taped m_latest m_size m_at m_sort m_place m_end m_fault m_faultAt m_read m_crowds_L5 m_traced m_here o_L10 m_view m_up m_down m_ruleSize m_ruleRow m_ruleDoes p15 m_goes m_tape m_readSize m_readRow m_readDoes m_own m_crowd_L5 m_isStep m_isOfGoal m_isMet m_most m_stands m_doesHere m_from m_trace) H locs → lv_has ls 6 [(0, .ref (q 0)), (1, .int o_L1), (2, .int l2_L5), (5, .int l5_L16)] → W p l e rm_X8_listCrowds s m args below meth c H locs 0 0 Q (F0 m 146 ls [.int j18]) := by
                intro H locs ls J hl
                refine lv_istore (lv' := [(4, .int j18), (0, .ref (q 0)), (1, .int o_L1), (2, .int l2_L5), (5, .int l5_L16)]) hx hb dX8_listCrowds_146 hl (by decide) rfl (fun ls hl => ?_)
                obtain ⟨v21, hv21, h⟩ := obs h
                refine lv_iinc (v := v21) (lv' := [(5, .int v21), (4, .int j18), (0, .ref (q 0)), (1, .int o_L1), (2, .int l2_L5)]) hx hb dX8_listCrowds_148 hl (k := 4) rfl (by rw [← hv21]; rfl) (by decide) rfl (fun ls hl => ?_)
                refine lv_goto (tgt := 110) hx hb dX8_listCrowds_151 (by decide) ?_
                exact ih _ _ _ h _ _ _ J (lv_sub hl [2, 3, 4, 1, 0] rfl) K_L16
              clear h
              have h := hj18
              refine lv_if_eq (tgt := 145) hx hb dX8_listCrowds_121 (by decide) (fun c19 => ?_) (fun c19 => ?_)
              · have h := itp c19 h
                refine lv_iconst (v := 0) hx hb dX8_listCrowds_145 (by decide) ?_
                obtain rfl := Option.some.inj h
                exact Kj18 _ _ _ J (lv_sub hl [0, 1, 2, 4] rfl)
              · have h := itn c19 h
                refine lv_aload_n hx hb dX8_listCrowds_124 rfl (lv_at hl 0 rfl) ?_
                refine mg_0_13 F E J fl_X8_38 dX8_listCrowds_125 ?_
                refine lv_iload hx hb dX8_listCrowds_128 (lv_at hl 4 rfl) ?_
                obtain ⟨hi, h⟩ := gdt h
                refine ml_9 F E J (inbt hi) dX8_listCrowds_130 ?_
                refine lv_aload_n hx hb dX8_listCrowds_131 rfl (lv_at hl 0 rfl) ?_
                refine mg_0_4 F E J fl_X8_17 dX8_listCrowds_132 ?_
                refine lv_iload hx hb dX8_listCrowds_135 (lv_at hl 4 rfl) ?_
                obtain ⟨hi, h⟩ := gdt h
                refine ml_2 F E J (inbt hi) dX8_listCrowds_137 ?_
                refine lv_icmp_ne (tgt := 145) hx hb dX8_listCrowds_138 (by decide) (fun c20 => ?_) (fun c20 => ?_)
                · have h := itn c20 h
                  refine lv_iconst (v := 0) hx hb dX8_listCrowds_145 (by decide) ?_
                  obtain rfl := Option.some.inj h
                  exact Kj18 _ _ _ J (lv_sub hl [0, 1, 2, 4] rfl)
                · have h := itp c20 h
                  refine lv_iconst (v := 1) hx hb dX8_listCrowds_141 (by decide) ?_
                  refine lv_goto (tgt := 146) hx hb dX8_listCrowds_142 (by decide) ?_
                  obtain rfl := Option.some.inj h
                  exact Kj18 _ _ _ J (lv_sub hl [0, 1, 2, 4] rfl)
        refine T_L16 FU 1 0 o_L16 ho_L16 _ _ _ J (lv_sub hl [2, 3, 4, 1, 0] rfl) (fun H locs ls J hl => ?_)
        refine lv_iload hx hb dX8_listCrowds_154 (lv_at hl 3 rfl) ?_
        obtain ⟨j22, hj22, h⟩ := ob h
        have Kj22 : ∀ (H : Heap) (locs : List Loc) (ls : Array Slot), VJ g A s.heap (MW g q m_thrown m_n m_robots m_viewed m_rules m_taped m_latest m_size m_at m_sort m_place m_end m_fault m_faultAt m_read j22.1 m_traced m_here o_L10 m_view m_up m_down m_ruleSize m_ruleRow m_ruleDoes p15 m_goes m_tape m_readSize m_readRow m_readDoes m_own j22.2 m_isStep m_isOfGoal m_isMet m_most m_stands m_doesHere m_from m_trace) H locs → lv_has ls 6 [(0, .ref (q 0)), (1, .int o_L1), (2, .int l2_L5)] → W p l e rm_X8_listCrowds s m args below meth c H locs 0 0 Q (F0 m 216 ls []) := by
          intro H locs ls J hl
          obtain ⟨v31, hv31, h⟩ := obs h
          refine lv_iinc (v := v31) (lv' := [(2, .int v31), (0, .ref (q 0)), (1, .int o_L1)]) hx hb dX8_listCrowds_216 hl (k := 2) rfl (by rw [← hv31]; rfl) (by decide) rfl (fun ls hl => ?_)
          refine lv_goto (tgt := 32) hx hb dX8_listCrowds_219 (by decide) ?_
          exact ih _ _ _ _ _ _ h _ _ _ J (lv_sub hl [1, 2, 0] rfl) K_L5
        clear h
        have h := hj22
        refine lv_if_eq (tgt := 216) hx hb dX8_listCrowds_156 (by decide) (fun c23 => ?_) (fun c23 => ?_)
        · have h := itp c23 h
          obtain rfl := Option.some.inj h
          exact Kj22 _ _ _ J (lv_sub hl [0, 1, 2] rfl)
        · have h := itn c23 h
          refine lv_aload_n hx hb dX8_listCrowds_159 rfl (lv_at hl 0 rfl) ?_
          obtain ⟨p24, hp24, h⟩ := ob h
          refine onI (runV (As := []) (rest := []) F E J (c_X8_numberOfName  p24 hp24) cw_X8_224 ⟨rfl, rfl, Nat.le_of_ble_eq_true rfl, Nat.le_of_ble_eq_true rfl⟩ rcM0 rfl hl.1 rfl (Nat.le_of_ble_eq_true rfl) dX8_listCrowds_160) J (fun H locs J => ?_)
          refine lv_ldc hx hb F.2.2.2.1 (F.2.2.2.2 _ kc_X8_110) dX8_listCrowds_163 ?_
          refine lv_icmp_ne (tgt := 216) hx hb dX8_listCrowds_165 (by decide) (fun c25 => ?_) (fun c25 => ?_)
          · have h := itn c25 h
            obtain rfl := Option.some.inj h
            exact Kj22 _ _ _ J (lv_sub hl [0, 1, 2] rfl)
          · have h := itp c25 h
            refine lv_iconst (v := 0) hx hb dX8_listCrowds_168 (by decide) ?_
            refine lv_istore (lv' := [(5, .int 0), (0, .ref (q 0)), (1, .int o_L1), (2, .int l2_L5), (4, .int o_L16)]) hx hb dX8_listCrowds_169 hl (by decide) rfl (fun ls hl => ?_)
            obtain ⟨o_L26, ho_L26, h⟩ := ob h
            have T_L26 : ∀ (f : Nat) (l5_L26 : Int32) (m_crowd_L26 : Nat → Int32) (o_L26 : Nat → Int32), F_X8_listCrowds_L26 m_crowds_L5 p15 f l5_L26 m_crowd_L26 = some o_L26 → ∀ (H : Heap) (locs : List Loc) (ls : Array Slot), VJ g A s.heap (MW g q m_thrown m_n m_robots m_viewed m_rules m_taped m_latest m_size m_at m_sort m_place m_end m_fault m_faultAt m_read m_crowds_L5 m_traced m_here o_L10 m_view m_up m_down m_ruleSize m_ruleRow m_ruleDoes p15 m_goes m_tape m_readSize m_readRow m_readDoes m_own m_crowd_L26 m_isStep m_isOfGoal m_isMet m_most m_stands m_doesHere m_from m_trace) H locs → lv_has ls 6 [(0, .ref (q 0)), (1, .int o_L1), (2, .int l2_L5), (5, .int l5_L26)] → (∀ (H : Heap) (locs : List Loc) (ls : Array Slot), VJ g A s.heap (MW g q m_thrown m_n m_robots m_viewed m_rules m_taped m_latest m_size m_at m_sort m_place m_end m_fault m_faultAt m_read m_crowds_L5 m_traced m_here o_L10 m_view m_up m_down m_ruleSize m_ruleRow m_ruleDoes p15 m_goes m_tape m_readSize m_readRow m_readDoes m_own o_L26 m_isStep m_isOfGoal m_isMet m_most m_stands m_doesHere m_from m_trace) H locs → lv_has ls 6 [(0, .ref (q 0)), (1, .int o_L1), (2, .int l2_L5)] → W p l e rm_X8_listCrowds s m args below meth c H locs 0 0 Q (F0 m 206 ls [])) → W p l e rm_X8_listCrowds s m args below meth c H locs 0 0 Q (F0 m 171 ls []) := by
              clear h ho_L26 hl J
              intro f
              induction f with
              | zero => intro l5_L26 m_crowd_L26 o_L26 h; exact absurd h (by simp [F_X8_listCrowds_L26])
              | succ f ih =>
                intro l5_L26 m_crowd_L26 o_L26 h H locs ls J hl K_L26
                rw [F_X8_listCrowds_L26.eq_2] at h
                refine lv_iload hx hb dX8_listCrowds_171 (lv_at hl 3 rfl) ?_
                refine lv_bipush (v := 9) hx hb dX8_listCrowds_173 (by decide) ?_
                refine lv_icmp_ge (tgt := 206) hx hb dX8_listCrowds_175 (by decide) (fun c27 => ?_) (fun c27 => ?_)
                · have h := itp c27 h
                  obtain rfl := Option.some.inj h
                  exact K_L26 _ _ _ J (lv_sub hl [0, 1, 2] rfl)
                · have h := itn c27 h
                  refine lv_aload_n hx hb dX8_listCrowds_178 rfl (lv_at hl 0 rfl) ?_
                  refine mg_0_31 F E J fl_X8_59 dX8_listCrowds_179 ?_
                  refine lv_bipush (v := 9) hx hb dX8_listCrowds_182 (by decide) ?_
                  refine lv_aload_n hx hb dX8_listCrowds_184 rfl (lv_at hl 0 rfl) ?_
                  refine mg_0_30 F E J fl_X8_221 dX8_listCrowds_185 ?_
                  refine lv_imul hx hb dX8_listCrowds_188 ?_
                  refine lv_iload hx hb dX8_listCrowds_189 (lv_at hl 3 rfl) ?_
                  refine lv_iadd hx hb dX8_listCrowds_191 ?_
                  refine lv_aload_n hx hb dX8_listCrowds_192 rfl (lv_at hl 0 rfl) ?_
                  refine mg_0_13 F E J fl_X8_38 dX8_listCrowds_193 ?_
                  refine lv_iload hx hb dX8_listCrowds_196 (lv_at hl 3 rfl) ?_
                  obtain ⟨hi, h⟩ := gdt h
                  refine ml_9 F E J (inbt hi) dX8_listCrowds_198 ?_
                  obtain ⟨v28, hv28, h⟩ := obs h
                  refine nmI hv28 ?_
                  obtain ⟨hi, h⟩ := gdt h
                  refine ms_16 F E J (inbt hi) dX8_listCrowds_199 (fun H locs J => ?_)
                  obtain ⟨v29, hv29, h⟩ := obs h
                  refine lv_iinc (v := v29) (lv' := [(5, .int v29), (0, .ref (q 0)), (1, .int o_L1), (2, .int l2_L5)]) hx hb dX8_listCrowds_200 hl (k := 3) rfl (by rw [← hv29]; rfl) (by decide) rfl (fun ls hl => ?_)
                  refine lv_goto (tgt := 171) hx hb dX8_listCrowds_203 (by decide) ?_
                  exact ih _ _ _ h _ _ _ J (lv_sub hl [1, 2, 3, 0] rfl) K_L26
            refine T_L26 FU 0 m_crowd_L5 o_L26 ho_L26 _ _ _ J (lv_sub hl [1, 2, 3, 0] rfl) (fun H locs ls J hl => ?_)
            refine lv_aload_n hx hb dX8_listCrowds_206 rfl (lv_at hl 0 rfl) ?_
            refine lv_dup hx hb dX8_listCrowds_207 rfl ?_
            refine mg_0_30 F E J fl_X8_221 dX8_listCrowds_208 ?_
            refine lv_iconst (v := 1) hx hb dX8_listCrowds_211 (by decide) ?_
            refine lv_iadd hx hb dX8_listCrowds_212 ?_
            obtain ⟨v30, hv30, h⟩ := obs h
            refine nmI hv30 ?_
            refine mp_0_30 F E J fl_X8_221 dX8_listCrowds_213 (fun H locs J => ?_)
            obtain rfl := Option.some.inj h
            exact Kj22 _ _ _ J (lv_sub hl [0, 1, 2] rfl)
  refine T_L5 FU 0 0 m_hand m_name m_crowd o_L5 ho_L5 _ _ _ J (lv_sub hl [1, 2, 0] rfl) (fun H locs ls J hl => ?_)
  obtain rfl := Option.some.inj h
  exact ret _ _ _ _ J dX8_listCrowds_222
set_option maxHeartbeats 4000000 in
set_option maxRecDepth 100000 in
theorem c_X8_findSteps {l : Launch} {g : GG} {A : Nat → Prop} {q : Nat → Nat} {m_thrown m_n m_robots m_viewed m_rules m_taped m_latest m_size m_at m_sort m_place m_end m_fault m_faultAt m_read m_crowds m_traced : Int32} {m_here m_hand m_view m_up m_down m_ruleSize m_ruleRow m_ruleDoes m_name m_goes m_tape m_readSize m_readRow m_readDoes m_own m_crowd m_isStep m_isOfGoal m_isMet m_most m_stands m_doesHere m_from m_trace : Nat → Int32} (a0 : Int32) (a1 : Int32) (res : Int32 × (Nat → Int32) × (Nat → Int32) × (Nat → Int32) × (Nat → Int32) × (Nat → Int32) × (Nat → Int32) × (Nat → Int32) × (Nat → Int32) × (Nat → Int32)) (h : F_X8_findSteps a0 a1 m_n m_viewed m_rules m_crowds m_hand m_view m_up m_down m_ruleSize m_ruleRow m_ruleDoes m_name m_crowd m_isStep m_stands m_doesHere m_from = some res) : Met l yX8_findSteps (wS yX8_findSteps cX8_findSteps 9 none) rm_X8_findSteps (va_Pc [.ref (q 0), .int a0, .int a1] (VB g A (MW g q m_thrown m_n m_robots m_viewed m_rules m_taped m_latest m_size m_at m_sort m_place m_end m_fault m_faultAt m_read m_crowds m_traced m_here m_hand m_view m_up m_down m_ruleSize m_ruleRow m_ruleDoes m_name m_goes m_tape m_readSize m_readRow m_readDoes m_own m_crowd m_isStep m_isOfGoal m_isMet m_most m_stands m_doesHere m_from m_trace))) (va_Qv (fun (_ : Unit) => True) (fun _ => VB g A (MW g q m_thrown m_n m_robots res.1 m_rules m_taped m_latest m_size m_at m_sort m_place m_end m_fault m_faultAt m_read m_crowds m_traced m_here res.2.1 res.2.2.1 res.2.2.2.1 res.2.2.2.2.1 m_ruleSize m_ruleRow m_ruleDoes res.2.2.2.2.2.1 m_goes m_tape m_readSize m_readRow m_readDoes m_own m_crowd res.2.2.2.2.2.2.1 m_isOfGoal m_isMet m_most res.2.2.2.2.2.2.2.1 res.2.2.2.2.2.2.2.2.1 res.2.2.2.2.2.2.2.2.2 m_trace)) A) 0 0 A := by
  unfold F_X8_findSteps at h
  refine MetV (own := RX8) (ws' := (MW g q m_thrown m_n m_robots res.1 m_rules m_taped m_latest m_size m_at m_sort m_place m_end m_fault m_faultAt m_read m_crowds m_traced m_here res.2.1 res.2.2.1 res.2.2.2.1 res.2.2.2.2.1 m_ruleSize m_ruleRow m_ruleDoes res.2.2.2.2.2.1 m_goes m_tape m_readSize m_readRow m_readDoes m_own m_crowd res.2.2.2.2.2.2.1 m_isOfGoal m_isMet m_most res.2.2.2.2.2.2.2.1 res.2.2.2.2.2.2.2.2.1 res.2.2.2.2.2.2.2.2.2 m_trace)) (by decide) rfl (Nat.le_of_ble_eq_true rfl) ?_
  intro p e s m args below meth c Q F E ret ls J hl
  have hx := F.1
  have hb := F.2.1
  have hl : lv_has ls 9 [(0, .ref (q 0)), (1, .int a0), (2, .int a1)] := hl
  refine lv_iconst (v := 0) hx hb dX8_findSteps_0 (by decide) ?_
  refine lv_istore_n (lv' := [(3, .int 0), (0, .ref (q 0)), (1, .int a0), (2, .int a1)]) hx hb dX8_findSteps_1 rfl hl (by decide) rfl (fun ls hl => ?_)
  refine lv_iconst (v := 0) hx hb dX8_findSteps_2 (by decide) ?_
  refine lv_istore (lv' := [(4, .int 0), (3, .int 0), (0, .ref (q 0)), (1, .int a0), (2, .int a1)]) hx hb dX8_findSteps_3 hl (by decide) rfl (fun ls hl => ?_)
  obtain ⟨o_L1, ho_L1, h⟩ := ob h
  have T_L1 : ∀ (f : Nat) (l4_L1 : Int32) (m_hand_L1 : Nat → Int32) (m_from_L1 : Nat → Int32) (o_L1 : (Nat → Int32) × (Nat → Int32)), F_X8_findSteps_L1 a0 m_crowd f l4_L1 m_hand_L1 m_from_L1 = some o_L1 → ∀ (H : Heap) (locs : List Loc) (ls : Array Slot), VJ g A s.heap (MW g q m_thrown m_n m_robots m_viewed m_rules m_taped m_latest m_size m_at m_sort m_place m_end m_fault m_faultAt m_read m_crowds m_traced m_here m_hand_L1 m_view m_up m_down m_ruleSize m_ruleRow m_ruleDoes m_name m_goes m_tape m_readSize m_readRow m_readDoes m_own m_crowd m_isStep m_isOfGoal m_isMet m_most m_stands m_doesHere m_from_L1 m_trace) H locs → lv_has ls 9 [(0, .ref (q 0)), (1, .int a0), (2, .int a1), (3, .int 0), (4, .int l4_L1)] → (∀ (H : Heap) (locs : List Loc) (ls : Array Slot), VJ g A s.heap (MW g q m_thrown m_n m_robots m_viewed m_rules m_taped m_latest m_size m_at m_sort m_place m_end m_fault m_faultAt m_read m_crowds m_traced m_here o_L1.1 m_view m_up m_down m_ruleSize m_ruleRow m_ruleDoes m_name m_goes m_tape m_readSize m_readRow m_readDoes m_own m_crowd m_isStep m_isOfGoal m_isMet m_most m_stands m_doesHere o_L1.2 m_trace) H locs → lv_has ls 9 [(0, .ref (q 0)), (1, .int a0), (2, .int a1), (3, .int 0)] → W p l e rm_X8_findSteps s m args below meth c H locs 0 0 Q (F0 m 51 ls [])) → W p l e rm_X8_findSteps s m args below meth c H locs 0 0 Q (F0 m 5 ls []) := by
    clear h ho_L1 hl J
    intro f
    induction f with
    | zero => intro l4_L1 m_hand_L1 m_from_L1 o_L1 h; exact absurd h (by simp [F_X8_findSteps_L1])
    | succ f ih =>
      intro l4_L1 m_hand_L1 m_from_L1 o_L1 h H locs ls J hl K_L1
      rw [F_X8_findSteps_L1.eq_2] at h
      refine lv_iload hx hb dX8_findSteps_5 (lv_at hl 4 rfl) ?_
      refine lv_bipush (v := 9) hx hb dX8_findSteps_7 (by decide) ?_
      refine lv_icmp_ge (tgt := 51) hx hb dX8_findSteps_9 (by decide) (fun c2 => ?_) (fun c2 => ?_)
      · have h := itp c2 h
        obtain rfl := Option.some.inj h
        exact K_L1 _ _ _ J (lv_sub hl [0, 1, 2, 3] rfl)
      · have h := itn c2 h
        refine lv_aload_n hx hb dX8_findSteps_12 rfl (lv_at hl 0 rfl) ?_
        refine mg_0_38 F E J fl_X8_81 dX8_findSteps_13 ?_
        refine lv_iload hx hb dX8_findSteps_16 (lv_at hl 4 rfl) ?_
        refine lv_aload_n hx hb dX8_findSteps_18 rfl (lv_at hl 0 rfl) ?_
        refine mg_0_31 F E J fl_X8_59 dX8_findSteps_19 ?_
        refine lv_bipush (v := 9) hx hb dX8_findSteps_22 (by decide) ?_
        refine lv_iload_n hx hb dX8_findSteps_24 rfl (lv_at hl 1 rfl) ?_
        refine lv_imul hx hb dX8_findSteps_25 ?_
        refine lv_iload hx hb dX8_findSteps_26 (lv_at hl 4 rfl) ?_
        refine lv_iadd hx hb dX8_findSteps_28 ?_
        obtain ⟨hi, h⟩ := gdt h
        refine ml_16 F E J (inbt hi) dX8_findSteps_29 ?_
        obtain ⟨v3, hv3, h⟩ := obs h
        refine nmI hv3 ?_
        obtain ⟨hi, h⟩ := gdt h
        refine ms_23 F E J (inbt hi) dX8_findSteps_30 (fun H locs J => ?_)
        refine lv_aload_n hx hb dX8_findSteps_31 rfl (lv_at hl 0 rfl) ?_
        refine mg_0_4 F E J fl_X8_17 dX8_findSteps_32 ?_
        refine lv_iload hx hb dX8_findSteps_35 (lv_at hl 4 rfl) ?_
        refine lv_aload_n hx hb dX8_findSteps_37 rfl (lv_at hl 0 rfl) ?_
        refine mg_0_38 F E J fl_X8_81 dX8_findSteps_38 ?_
        refine lv_iload hx hb dX8_findSteps_41 (lv_at hl 4 rfl) ?_
        obtain ⟨hi, h⟩ := gdt h
        refine ml_23 F E J (inbt hi) dX8_findSteps_43 ?_
        obtain ⟨v4, hv4, h⟩ := obs h
        refine nmI hv4 ?_
        obtain ⟨hi, h⟩ := gdt h
        refine ms_2 F E J (inbt hi) dX8_findSteps_44 (fun H locs J => ?_)
        obtain ⟨v5, hv5, h⟩ := obs h
        refine lv_iinc (v := v5) (lv' := [(4, .int v5), (0, .ref (q 0)), (1, .int a0), (2, .int a1), (3, .int 0)]) hx hb dX8_findSteps_45 hl (k := 4) rfl (by rw [← hv5]; rfl) (by decide) rfl (fun ls hl => ?_)
        refine lv_goto (tgt := 5) hx hb dX8_findSteps_48 (by decide) ?_
        exact ih _ _ _ _ h _ _ _ J (lv_sub hl [1, 2, 3, 4, 0] rfl) K_L1
  refine T_L1 FU 0 m_hand m_from o_L1 ho_L1 _ _ _ J (lv_sub hl [2, 3, 4, 1, 0] rfl) (fun H locs ls J hl => ?_)
  refine lv_iconst (v := 0) hx hb dX8_findSteps_51 (by decide) ?_
  refine lv_istore (lv' := [(4, .int 0), (0, .ref (q 0)), (1, .int a0), (2, .int a1), (3, .int 0)]) hx hb dX8_findSteps_52 hl (by decide) rfl (fun ls hl => ?_)
  obtain ⟨o_L6, ho_L6, h⟩ := ob h
  have T_L6 : ∀ (f : Nat) (l3_L6 : Int32) (l4_L6 : Int32) (m_viewed_L6 : Int32) (m_view_L6 : Nat → Int32) (m_up_L6 : Nat → Int32) (m_down_L6 : Nat → Int32) (m_stands_L6 : Nat → Int32) (m_doesHere_L6 : Nat → Int32) (o_L6 : Int32 × Int32 × (Nat → Int32) × (Nat → Int32) × (Nat → Int32) × (Nat → Int32) × (Nat → Int32)), F_X8_findSteps_L6 m_n m_rules o_L1.1 m_ruleSize m_ruleRow m_ruleDoes o_L1.2 f l3_L6 l4_L6 m_viewed_L6 m_view_L6 m_up_L6 m_down_L6 m_stands_L6 m_doesHere_L6 = some o_L6 → ∀ (H : Heap) (locs : List Loc) (ls : Array Slot), VJ g A s.heap (MW g q m_thrown m_n m_robots m_viewed_L6 m_rules m_taped m_latest m_size m_at m_sort m_place m_end m_fault m_faultAt m_read m_crowds m_traced m_here o_L1.1 m_view_L6 m_up_L6 m_down_L6 m_ruleSize m_ruleRow m_ruleDoes m_name m_goes m_tape m_readSize m_readRow m_readDoes m_own m_crowd m_isStep m_isOfGoal m_isMet m_most m_stands_L6 m_doesHere_L6 o_L1.2 m_trace) H locs → lv_has ls 9 [(0, .ref (q 0)), (1, .int a0), (2, .int a1), (3, .int l3_L6), (4, .int l4_L6)] → (∀ (H : Heap) (locs : List Loc) (ls : Array Slot), VJ g A s.heap (MW g q m_thrown m_n m_robots o_L6.2.1 m_rules m_taped m_latest m_size m_at m_sort m_place m_end m_fault m_faultAt m_read m_crowds m_traced m_here o_L1.1 o_L6.2.2.1 o_L6.2.2.2.1 o_L6.2.2.2.2.1 m_ruleSize m_ruleRow m_ruleDoes m_name m_goes m_tape m_readSize m_readRow m_readDoes m_own m_crowd m_isStep m_isOfGoal m_isMet m_most o_L6.2.2.2.2.2.1 o_L6.2.2.2.2.2.2 o_L1.2 m_trace) H locs → lv_has ls 9 [(0, .ref (q 0)), (1, .int a0), (2, .int a1), (3, .int o_L6.1)] → W p l e rm_X8_findSteps s m args below meth c H locs 0 0 Q (F0 m 136 ls [])) → W p l e rm_X8_findSteps s m args below meth c H locs 0 0 Q (F0 m 54 ls []) := by
    clear h ho_L6 hl J
    intro f
    induction f with
    | zero => intro l3_L6 l4_L6 m_viewed_L6 m_view_L6 m_up_L6 m_down_L6 m_stands_L6 m_doesHere_L6 o_L6 h; exact absurd h (by simp [F_X8_findSteps_L6])
    | succ f ih =>
      intro l3_L6 l4_L6 m_viewed_L6 m_view_L6 m_up_L6 m_down_L6 m_stands_L6 m_doesHere_L6 o_L6 h H locs ls J hl K_L6
      rw [F_X8_findSteps_L6.eq_2] at h
      refine lv_iload hx hb dX8_findSteps_54 (lv_at hl 4 rfl) ?_
      refine lv_aload_n hx hb dX8_findSteps_56 rfl (lv_at hl 0 rfl) ?_
      refine mg_0_1 F E J fl_X8_87 dX8_findSteps_57 ?_
      refine lv_icmp_ge (tgt := 136) hx hb dX8_findSteps_60 (by decide) (fun c7 => ?_) (fun c7 => ?_)
      · have h := itp c7 h
        obtain rfl := Option.some.inj h
        exact K_L6 _ _ _ J (lv_sub hl [0, 1, 2, 3] rfl)
      · have h := itn c7 h
        refine lv_aload_n hx hb dX8_findSteps_63 rfl (lv_at hl 0 rfl) ?_
        refine mg_0_38 F E J fl_X8_81 dX8_findSteps_64 ?_
        refine lv_iload hx hb dX8_findSteps_67 (lv_at hl 4 rfl) ?_
        obtain ⟨hi, h⟩ := gdt h
        refine ml_23 F E J (inbt hi) dX8_findSteps_69 ?_
        obtain ⟨j8, hj8, h⟩ := ob h
        have Kj8 : ∀ (H : Heap) (locs : List Loc) (ls : Array Slot), VJ g A s.heap (MW g q m_thrown m_n m_robots j8.2.1 m_rules m_taped m_latest m_size m_at m_sort m_place m_end m_fault m_faultAt m_read m_crowds m_traced m_here o_L1.1 j8.2.2.1 j8.2.2.2.1 j8.2.2.2.2 m_ruleSize m_ruleRow m_ruleDoes m_name m_goes m_tape m_readSize m_readRow m_readDoes m_own m_crowd m_isStep m_isOfGoal m_isMet m_most m_stands_L6 m_doesHere_L6 o_L1.2 m_trace) H locs → lv_has ls 9 [(0, .ref (q 0)), (1, .int a0), (2, .int a1), (3, .int l3_L6), (4, .int l4_L6)] → W p l e rm_X8_findSteps s m args below meth c H locs 0 0 Q (F0 m 83 ls [.int j8.1]) := by
          intro H locs ls J hl
          refine lv_istore (lv' := [(5, .int j8.1), (0, .ref (q 0)), (1, .int a0), (2, .int a1), (3, .int l3_L6), (4, .int l4_L6)]) hx hb dX8_findSteps_83 hl (by decide) rfl (fun ls hl => ?_)
          refine lv_iconst (v := 0) hx hb dX8_findSteps_85 (by decide) ?_
          refine lv_istore (lv' := [(6, .int 0), (5, .int j8.1), (0, .ref (q 0)), (1, .int a0), (2, .int a1), (3, .int l3_L6), (4, .int l4_L6)]) hx hb dX8_findSteps_86 hl (by decide) rfl (fun ls hl => ?_)
          obtain ⟨o_L11, ho_L11, h⟩ := ob h
          have T_L11 : ∀ (f : Nat) (l3_L11 : Int32) (l6_L11 : Int32) (m_stands_L11 : Nat → Int32) (m_doesHere_L11 : Nat → Int32) (o_L11 : Int32 × (Nat → Int32) × (Nat → Int32)), F_X8_findSteps_L11 l4_L6 j8.1 o_L1.2 f l3_L11 l6_L11 m_stands_L11 m_doesHere_L11 = some o_L11 → ∀ (H : Heap) (locs : List Loc) (ls : Array Slot), VJ g A s.heap (MW g q m_thrown m_n m_robots j8.2.1 m_rules m_taped m_latest m_size m_at m_sort m_place m_end m_fault m_faultAt m_read m_crowds m_traced m_here o_L1.1 j8.2.2.1 j8.2.2.2.1 j8.2.2.2.2 m_ruleSize m_ruleRow m_ruleDoes m_name m_goes m_tape m_readSize m_readRow m_readDoes m_own m_crowd m_isStep m_isOfGoal m_isMet m_most m_stands_L11 m_doesHere_L11 o_L1.2 m_trace) H locs → lv_has ls 9 [(0, .ref (q 0)), (1, .int a0), (2, .int a1), (3, .int l3_L11), (4, .int l4_L6), (5, .int j8.1), (6, .int l6_L11)] → (∀ (H : Heap) (locs : List Loc) (ls : Array Slot), VJ g A s.heap (MW g q m_thrown m_n m_robots j8.2.1 m_rules m_taped m_latest m_size m_at m_sort m_place m_end m_fault m_faultAt m_read m_crowds m_traced m_here o_L1.1 j8.2.2.1 j8.2.2.2.1 j8.2.2.2.2 m_ruleSize m_ruleRow m_ruleDoes m_name m_goes m_tape m_readSize m_readRow m_readDoes m_own m_crowd m_isStep m_isOfGoal m_isMet m_most o_L11.2.1 o_L11.2.2 o_L1.2 m_trace) H locs → lv_has ls 9 [(0, .ref (q 0)), (1, .int a0), (2, .int a1), (3, .int o_L11.1), (4, .int l4_L6)] → W p l e rm_X8_findSteps s m args below meth c H locs 0 0 Q (F0 m 130 ls [])) → W p l e rm_X8_findSteps s m args below meth c H locs 0 0 Q (F0 m 88 ls []) := by
            clear h ho_L11 hl J
            intro f
            induction f with
            | zero => intro l3_L11 l6_L11 m_stands_L11 m_doesHere_L11 o_L11 h; exact absurd h (by simp [F_X8_findSteps_L11])
            | succ f ih =>
              intro l3_L11 l6_L11 m_stands_L11 m_doesHere_L11 o_L11 h H locs ls J hl K_L11
              rw [F_X8_findSteps_L11.eq_2] at h
              refine lv_iload hx hb dX8_findSteps_88 (lv_at hl 6 rfl) ?_
              refine lv_aload_n hx hb dX8_findSteps_90 rfl (lv_at hl 0 rfl) ?_
              refine mg_0_38 F E J fl_X8_81 dX8_findSteps_91 ?_
              refine lv_iload hx hb dX8_findSteps_94 (lv_at hl 4 rfl) ?_
              obtain ⟨hi, h⟩ := gdt h
              refine ml_23 F E J (inbt hi) dX8_findSteps_96 ?_
              refine lv_icmp_ge (tgt := 130) hx hb dX8_findSteps_97 (by decide) (fun c12 => ?_) (fun c12 => ?_)
              · have h := itp c12 h
                obtain rfl := Option.some.inj h
                exact K_L11 _ _ _ J (lv_sub hl [0, 1, 2, 3, 4] rfl)
              · have h := itn c12 h
                refine lv_iload hx hb dX8_findSteps_100 (lv_at hl 5 rfl) ?_
                refine lv_if_eq (tgt := 130) hx hb dX8_findSteps_102 (by decide) (fun c13 => ?_) (fun c13 => ?_)
                · have h := itp c13 h
                  obtain rfl := Option.some.inj h
                  exact K_L11 _ _ _ J (lv_sub hl [0, 1, 2, 3, 4] rfl)
                · have h := itn c13 h
                  refine lv_aload_n hx hb dX8_findSteps_105 rfl (lv_at hl 0 rfl) ?_
                  refine mg_0_36 F E J fl_X8_75 dX8_findSteps_106 ?_
                  refine lv_iload_n hx hb dX8_findSteps_109 rfl (lv_at hl 3 rfl) ?_
                  refine lv_iload hx hb dX8_findSteps_110 (lv_at hl 4 rfl) ?_
                  obtain ⟨hi, h⟩ := gdt h
                  refine ms_21 F E J (inbt hi) dX8_findSteps_112 (fun H locs J => ?_)
                  refine lv_aload_n hx hb dX8_findSteps_113 rfl (lv_at hl 0 rfl) ?_
                  refine mg_0_37 F E J fl_X8_78 dX8_findSteps_114 ?_
                  refine lv_iload_n hx hb dX8_findSteps_117 rfl (lv_at hl 3 rfl) ?_
                  refine lv_iload hx hb dX8_findSteps_118 (lv_at hl 5 rfl) ?_
                  obtain ⟨hi, h⟩ := gdt h
                  refine ms_22 F E J (inbt hi) dX8_findSteps_120 (fun H locs J => ?_)
                  obtain ⟨v14, hv14, h⟩ := obs h
                  refine lv_iinc (v := v14) (lv' := [(3, .int v14), (0, .ref (q 0)), (1, .int a0), (2, .int a1), (4, .int l4_L6), (5, .int j8.1), (6, .int l6_L11)]) hx hb dX8_findSteps_121 hl (k := 3) rfl (by rw [← hv14]; rfl) (by decide) rfl (fun ls hl => ?_)
                  obtain ⟨v15, hv15, h⟩ := obs h
                  refine lv_iinc (v := v15) (lv' := [(6, .int v15), (3, .int v14), (0, .ref (q 0)), (1, .int a0), (2, .int a1), (4, .int l4_L6), (5, .int j8.1)]) hx hb dX8_findSteps_124 hl (k := 6) rfl (by rw [← hv15]; rfl) (by decide) rfl (fun ls hl => ?_)
                  refine lv_goto (tgt := 88) hx hb dX8_findSteps_127 (by decide) ?_
                  exact ih _ _ _ _ _ h _ _ _ J (lv_sub hl [2, 3, 4, 1, 5, 6, 0] rfl) K_L11
          refine T_L11 FU l3_L6 0 m_stands_L6 m_doesHere_L6 o_L11 ho_L11 _ _ _ J (lv_sub hl [2, 3, 4, 5, 6, 1, 0] rfl) (fun H locs ls J hl => ?_)
          obtain ⟨v16, hv16, h⟩ := obs h
          refine lv_iinc (v := v16) (lv' := [(4, .int v16), (0, .ref (q 0)), (1, .int a0), (2, .int a1), (3, .int o_L11.1)]) hx hb dX8_findSteps_130 hl (k := 4) rfl (by rw [← hv16]; rfl) (by decide) rfl (fun ls hl => ?_)
          refine lv_goto (tgt := 54) hx hb dX8_findSteps_133 (by decide) ?_
          exact ih _ _ _ _ _ _ _ _ _ h _ _ _ J (lv_sub hl [1, 2, 3, 4, 0] rfl) K_L6
        clear h
        have h := hj8
        refine lv_if_ne (tgt := 77) hx hb dX8_findSteps_70 (by decide) (fun c9 => ?_) (fun c9 => ?_)
        · have h := itn c9 h
          refine lv_aload_n hx hb dX8_findSteps_77 rfl (lv_at hl 0 rfl) ?_
          refine lv_iload hx hb dX8_findSteps_78 (lv_at hl 4 rfl) ?_
          obtain ⟨p10, hp10, h⟩ := ob h
          refine onI (runV (As := [.int l4_L6]) (rest := []) F E J (c_X8_doing l4_L6 p10 hp10) cw_X8_121 ⟨rfl, rfl, Nat.le_of_ble_eq_true rfl, Nat.le_of_ble_eq_true rfl⟩ rcM0 rfl hl.1 rfl (Nat.le_of_ble_eq_true rfl) dX8_findSteps_80) J (fun H locs J => ?_)
          obtain rfl := Option.some.inj h
          exact Kj8 _ _ _ J (lv_sub hl [0, 1, 2, 3, 4] rfl)
        · have h := itp c9 h
          refine lv_iconst (v := 0) hx hb dX8_findSteps_73 (by decide) ?_
          refine lv_goto (tgt := 83) hx hb dX8_findSteps_74 (by decide) ?_
          obtain rfl := Option.some.inj h
          exact Kj8 _ _ _ J (lv_sub hl [0, 1, 2, 3, 4] rfl)
  refine T_L6 FU 0 0 m_viewed m_view m_up m_down m_stands m_doesHere o_L6 ho_L6 _ _ _ J (lv_sub hl [1, 2, 3, 4, 0] rfl) (fun H locs ls J hl => ?_)
  refine lv_iconst (v := 1) hx hb dX8_findSteps_136 (by decide) ?_
  refine lv_istore (lv' := [(4, .int 1), (0, .ref (q 0)), (1, .int a0), (2, .int a1), (3, .int o_L6.1)]) hx hb dX8_findSteps_137 hl (by decide) rfl (fun ls hl => ?_)
  obtain ⟨o_L17, ho_L17, h⟩ := ob h
  have T_L17 : ∀ (f : Nat) (l4_L17 : Int32) (m_hand_L17 : Nat → Int32) (m_name_L17 : Nat → Int32) (m_isStep_L17 : Nat → Int32) (o_L17 : (Nat → Int32) × (Nat → Int32) × (Nat → Int32)), F_X8_findSteps_L17 a0 a1 o_L6.1 m_n m_crowds m_crowd o_L6.2.2.2.2.2.1 o_L6.2.2.2.2.2.2 o_L1.2 f l4_L17 m_hand_L17 m_name_L17 m_isStep_L17 = some o_L17 → ∀ (H : Heap) (locs : List Loc) (ls : Array Slot), VJ g A s.heap (MW g q m_thrown m_n m_robots o_L6.2.1 m_rules m_taped m_latest m_size m_at m_sort m_place m_end m_fault m_faultAt m_read m_crowds m_traced m_here m_hand_L17 o_L6.2.2.1 o_L6.2.2.2.1 o_L6.2.2.2.2.1 m_ruleSize m_ruleRow m_ruleDoes m_name_L17 m_goes m_tape m_readSize m_readRow m_readDoes m_own m_crowd m_isStep_L17 m_isOfGoal m_isMet m_most o_L6.2.2.2.2.2.1 o_L6.2.2.2.2.2.2 o_L1.2 m_trace) H locs → lv_has ls 9 [(0, .ref (q 0)), (1, .int a0), (2, .int a1), (3, .int o_L6.1), (4, .int l4_L17)] → (∀ (H : Heap) (locs : List Loc) (ls : Array Slot), VJ g A s.heap (MW g q m_thrown m_n m_robots o_L6.2.1 m_rules m_taped m_latest m_size m_at m_sort m_place m_end m_fault m_faultAt m_read m_crowds m_traced m_here o_L17.1 o_L6.2.2.1 o_L6.2.2.2.1 o_L6.2.2.2.2.1 m_ruleSize m_ruleRow m_ruleDoes o_L17.2.1 m_goes m_tape m_readSize m_readRow m_readDoes m_own m_crowd o_L17.2.2 m_isOfGoal m_isMet m_most o_L6.2.2.2.2.2.1 o_L6.2.2.2.2.2.2 o_L1.2 m_trace) H locs → lv_has ls 9 [] → W p l e rm_X8_findSteps s m args below meth c H locs 0 0 Q (F0 m 375 ls [])) → W p l e rm_X8_findSteps s m args below meth c H locs 0 0 Q (F0 m 139 ls []) := by
    clear h ho_L17 hl J
    intro f
    induction f with
    | zero => intro l4_L17 m_hand_L17 m_name_L17 m_isStep_L17 o_L17 h; exact absurd h (by simp [F_X8_findSteps_L17])
    | succ f ih =>
      intro l4_L17 m_hand_L17 m_name_L17 m_isStep_L17 o_L17 h H locs ls J hl K_L17
      rw [F_X8_findSteps_L17.eq_2] at h
      refine lv_iload hx hb dX8_findSteps_139 (lv_at hl 4 rfl) ?_
      refine lv_iconst (v := 1) hx hb dX8_findSteps_141 (by decide) ?_
      refine lv_iload_n hx hb dX8_findSteps_142 rfl (lv_at hl 3 rfl) ?_
      refine lv_ishl hx hb dX8_findSteps_143 ?_
      refine lv_icmp_ge (tgt := 375) hx hb dX8_findSteps_144 (by decide) (fun c18 => ?_) (fun c18 => ?_)
      · have h := itp c18 h
        obtain rfl := Option.some.inj h
        exact K_L17 _ _ _ J (lv_sub hl [] rfl)
      · have h := itn c18 h
        refine lv_iload_n hx hb dX8_findSteps_147 rfl (lv_at hl 2 rfl) ?_
        refine lv_iconst (v := 2) hx hb dX8_findSteps_148 (by decide) ?_
        obtain ⟨j19, hj19, h⟩ := ob h
        have Kj19 : ∀ (H : Heap) (locs : List Loc) (ls : Array Slot), VJ g A s.heap (MW g q m_thrown m_n m_robots o_L6.2.1 m_rules m_taped m_latest m_size m_at m_sort m_place m_end m_fault m_faultAt m_read m_crowds m_traced m_here m_hand_L17 o_L6.2.2.1 o_L6.2.2.2.1 o_L6.2.2.2.2.1 m_ruleSize m_ruleRow m_ruleDoes m_name_L17 m_goes m_tape m_readSize m_readRow m_readDoes m_own m_crowd m_isStep_L17 m_isOfGoal m_isMet m_most o_L6.2.2.2.2.2.1 o_L6.2.2.2.2.2.2 o_L1.2 m_trace) H locs → lv_has ls 9 [(0, .ref (q 0)), (1, .int a0), (2, .int a1), (3, .int o_L6.1), (4, .int l4_L17)] → W p l e rm_X8_findSteps s m args below meth c H locs 0 0 Q (F0 m 186 ls [.int j19]) := by
          intro H locs ls J hl
          refine lv_istore (lv' := [(5, .int j19), (0, .ref (q 0)), (1, .int a0), (2, .int a1), (3, .int o_L6.1), (4, .int l4_L17)]) hx hb dX8_findSteps_186 hl (by decide) rfl (fun ls hl => ?_)
          refine lv_iconst (v := 0) hx hb dX8_findSteps_188 (by decide) ?_
          refine lv_istore (lv' := [(6, .int 0), (5, .int j19), (0, .ref (q 0)), (1, .int a0), (2, .int a1), (3, .int o_L6.1), (4, .int l4_L17)]) hx hb dX8_findSteps_189 hl (by decide) rfl (fun ls hl => ?_)
          obtain ⟨o_L27, ho_L27, h⟩ := ob h
          have T_L27 : ∀ (f : Nat) (l6_L27 : Int32) (m_hand_L27 : Nat → Int32) (m_name_L27 : Nat → Int32) (m_isStep_L27 : Nat → Int32) (o_L27 : (Nat → Int32) × (Nat → Int32) × (Nat → Int32)), F_X8_findSteps_L27 a0 o_L6.1 l4_L17 j19 m_n m_crowds m_crowd o_L6.2.2.2.2.2.1 o_L6.2.2.2.2.2.2 o_L1.2 f l6_L27 m_hand_L27 m_name_L27 m_isStep_L27 = some o_L27 → ∀ (H : Heap) (locs : List Loc) (ls : Array Slot), VJ g A s.heap (MW g q m_thrown m_n m_robots o_L6.2.1 m_rules m_taped m_latest m_size m_at m_sort m_place m_end m_fault m_faultAt m_read m_crowds m_traced m_here m_hand_L27 o_L6.2.2.1 o_L6.2.2.2.1 o_L6.2.2.2.2.1 m_ruleSize m_ruleRow m_ruleDoes m_name_L27 m_goes m_tape m_readSize m_readRow m_readDoes m_own m_crowd m_isStep_L27 m_isOfGoal m_isMet m_most o_L6.2.2.2.2.2.1 o_L6.2.2.2.2.2.2 o_L1.2 m_trace) H locs → lv_has ls 9 [(0, .ref (q 0)), (1, .int a0), (2, .int a1), (3, .int o_L6.1), (4, .int l4_L17), (5, .int j19), (6, .int l6_L27)] → (∀ (H : Heap) (locs : List Loc) (ls : Array Slot), VJ g A s.heap (MW g q m_thrown m_n m_robots o_L6.2.1 m_rules m_taped m_latest m_size m_at m_sort m_place m_end m_fault m_faultAt m_read m_crowds m_traced m_here o_L27.1 o_L6.2.2.1 o_L6.2.2.2.1 o_L6.2.2.2.2.1 m_ruleSize m_ruleRow m_ruleDoes o_L27.2.1 m_goes m_tape m_readSize m_readRow m_readDoes m_own m_crowd o_L27.2.2 m_isOfGoal m_isMet m_most o_L6.2.2.2.2.2.1 o_L6.2.2.2.2.2.2 o_L1.2 m_trace) H locs → lv_has ls 9 [(0, .ref (q 0)), (1, .int a0), (2, .int a1), (3, .int o_L6.1), (4, .int l4_L17)] → W p l e rm_X8_findSteps s m args below meth c H locs 0 0 Q (F0 m 369 ls [])) → W p l e rm_X8_findSteps s m args below meth c H locs 0 0 Q (F0 m 191 ls []) := by
            clear h ho_L27 hl J
            intro f
            induction f with
            | zero => intro l6_L27 m_hand_L27 m_name_L27 m_isStep_L27 o_L27 h; exact absurd h (by simp [F_X8_findSteps_L27])
            | succ f ih =>
              intro l6_L27 m_hand_L27 m_name_L27 m_isStep_L27 o_L27 h H locs ls J hl K_L27
              rw [F_X8_findSteps_L27.eq_2] at h
              refine lv_iload hx hb dX8_findSteps_191 (lv_at hl 6 rfl) ?_
              refine lv_iconst (v := 1) hx hb dX8_findSteps_193 (by decide) ?_
              refine lv_iload_n hx hb dX8_findSteps_194 rfl (lv_at hl 3 rfl) ?_
              refine lv_ishl hx hb dX8_findSteps_195 ?_
              refine lv_icmp_ge (tgt := 369) hx hb dX8_findSteps_196 (by decide) (fun c28 => ?_) (fun c28 => ?_)
              · have h := itp c28 h
                obtain rfl := Option.some.inj h
                exact K_L27 _ _ _ J (lv_sub hl [0, 1, 2, 3, 4] rfl)
              · have h := itn c28 h
                refine lv_iload hx hb dX8_findSteps_199 (lv_at hl 5 rfl) ?_
                refine lv_if_eq (tgt := 369) hx hb dX8_findSteps_201 (by decide) (fun c29 => ?_) (fun c29 => ?_)
                · have h := itp c29 h
                  obtain rfl := Option.some.inj h
                  exact K_L27 _ _ _ J (lv_sub hl [0, 1, 2, 3, 4] rfl)
                · have h := itn c29 h
                  refine lv_iconst (v := 0) hx hb dX8_findSteps_204 (by decide) ?_
                  refine lv_istore (lv' := [(7, .int 0), (0, .ref (q 0)), (1, .int a0), (2, .int a1), (3, .int o_L6.1), (4, .int l4_L17), (5, .int j19), (6, .int l6_L27)]) hx hb dX8_findSteps_205 hl (by decide) rfl (fun ls hl => ?_)
                  obtain ⟨o_L30, ho_L30, h⟩ := ob h
                  have T_L30 : ∀ (f : Nat) (l7_L30 : Int32) (m_hand_L30 : Nat → Int32) (o_L30 : Nat → Int32), F_X8_findSteps_L30 o_L1.2 f l7_L30 m_hand_L30 = some o_L30 → ∀ (H : Heap) (locs : List Loc) (ls : Array Slot), VJ g A s.heap (MW g q m_thrown m_n m_robots o_L6.2.1 m_rules m_taped m_latest m_size m_at m_sort m_place m_end m_fault m_faultAt m_read m_crowds m_traced m_here m_hand_L30 o_L6.2.2.1 o_L6.2.2.2.1 o_L6.2.2.2.2.1 m_ruleSize m_ruleRow m_ruleDoes m_name_L27 m_goes m_tape m_readSize m_readRow m_readDoes m_own m_crowd m_isStep_L27 m_isOfGoal m_isMet m_most o_L6.2.2.2.2.2.1 o_L6.2.2.2.2.2.2 o_L1.2 m_trace) H locs → lv_has ls 9 [(0, .ref (q 0)), (1, .int a0), (2, .int a1), (3, .int o_L6.1), (4, .int l4_L17), (5, .int j19), (6, .int l6_L27), (7, .int l7_L30)] → (∀ (H : Heap) (locs : List Loc) (ls : Array Slot), VJ g A s.heap (MW g q m_thrown m_n m_robots o_L6.2.1 m_rules m_taped m_latest m_size m_at m_sort m_place m_end m_fault m_faultAt m_read m_crowds m_traced m_here o_L30 o_L6.2.2.1 o_L6.2.2.2.1 o_L6.2.2.2.2.1 m_ruleSize m_ruleRow m_ruleDoes m_name_L27 m_goes m_tape m_readSize m_readRow m_readDoes m_own m_crowd m_isStep_L27 m_isOfGoal m_isMet m_most o_L6.2.2.2.2.2.1 o_L6.2.2.2.2.2.2 o_L1.2 m_trace) H locs → lv_has ls 9 [(0, .ref (q 0)), (1, .int a0), (2, .int a1), (3, .int o_L6.1), (4, .int l4_L17), (5, .int j19), (6, .int l6_L27)] → W p l e rm_X8_findSteps s m args below meth c H locs 0 0 Q (F0 m 234 ls [])) → W p l e rm_X8_findSteps s m args below meth c H locs 0 0 Q (F0 m 207 ls []) := by
                    clear h ho_L30 hl J
                    intro f
                    induction f with
                    | zero => intro l7_L30 m_hand_L30 o_L30 h; exact absurd h (by simp [F_X8_findSteps_L30])
                    | succ f ih =>
                      intro l7_L30 m_hand_L30 o_L30 h H locs ls J hl K_L30
                      rw [F_X8_findSteps_L30.eq_2] at h
                      refine lv_iload hx hb dX8_findSteps_207 (lv_at hl 7 rfl) ?_
                      refine lv_bipush (v := 9) hx hb dX8_findSteps_209 (by decide) ?_
                      refine lv_icmp_ge (tgt := 234) hx hb dX8_findSteps_211 (by decide) (fun c31 => ?_) (fun c31 => ?_)
                      · have h := itp c31 h
                        obtain rfl := Option.some.inj h
                        exact K_L30 _ _ _ J (lv_sub hl [0, 1, 2, 3, 4, 5, 6] rfl)
                      · have h := itn c31 h
                        refine lv_aload_n hx hb dX8_findSteps_214 rfl (lv_at hl 0 rfl) ?_
                        refine mg_0_4 F E J fl_X8_17 dX8_findSteps_215 ?_
                        refine lv_iload hx hb dX8_findSteps_218 (lv_at hl 7 rfl) ?_
                        refine lv_aload_n hx hb dX8_findSteps_220 rfl (lv_at hl 0 rfl) ?_
                        refine mg_0_38 F E J fl_X8_81 dX8_findSteps_221 ?_
                        refine lv_iload hx hb dX8_findSteps_224 (lv_at hl 7 rfl) ?_
                        obtain ⟨hi, h⟩ := gdt h
                        refine ml_23 F E J (inbt hi) dX8_findSteps_226 ?_
                        obtain ⟨v32, hv32, h⟩ := obs h
                        refine nmI hv32 ?_
                        obtain ⟨hi, h⟩ := gdt h
                        refine ms_2 F E J (inbt hi) dX8_findSteps_227 (fun H locs J => ?_)
                        obtain ⟨v33, hv33, h⟩ := obs h
                        refine lv_iinc (v := v33) (lv' := [(7, .int v33), (0, .ref (q 0)), (1, .int a0), (2, .int a1), (3, .int o_L6.1), (4, .int l4_L17), (5, .int j19), (6, .int l6_L27)]) hx hb dX8_findSteps_228 hl (k := 7) rfl (by rw [← hv33]; rfl) (by decide) rfl (fun ls hl => ?_)
                        refine lv_goto (tgt := 207) hx hb dX8_findSteps_231 (by decide) ?_
                        exact ih _ _ _ h _ _ _ J (lv_sub hl [1, 2, 3, 4, 5, 6, 7, 0] rfl) K_L30
                  refine T_L30 FU 0 m_hand_L27 o_L30 ho_L30 _ _ _ J (lv_sub hl [1, 2, 3, 4, 5, 6, 7, 0] rfl) (fun H locs ls J hl => ?_)
                  refine lv_iconst (v := 0) hx hb dX8_findSteps_234 (by decide) ?_
                  refine lv_istore (lv' := [(7, .int 0), (0, .ref (q 0)), (1, .int a0), (2, .int a1), (3, .int o_L6.1), (4, .int l4_L17), (5, .int j19), (6, .int l6_L27)]) hx hb dX8_findSteps_235 hl (by decide) rfl (fun ls hl => ?_)
                  obtain ⟨o_L34, ho_L34, h⟩ := ob h
                  have T_L34 : ∀ (f : Nat) (l7_L34 : Int32) (m_hand_L34 : Nat → Int32) (o_L34 : Nat → Int32), F_X8_findSteps_L34 o_L6.1 l4_L17 l6_L27 m_n o_L6.2.2.2.2.2.1 o_L6.2.2.2.2.2.2 f l7_L34 m_hand_L34 = some o_L34 → ∀ (H : Heap) (locs : List Loc) (ls : Array Slot), VJ g A s.heap (MW g q m_thrown m_n m_robots o_L6.2.1 m_rules m_taped m_latest m_size m_at m_sort m_place m_end m_fault m_faultAt m_read m_crowds m_traced m_here m_hand_L34 o_L6.2.2.1 o_L6.2.2.2.1 o_L6.2.2.2.2.1 m_ruleSize m_ruleRow m_ruleDoes m_name_L27 m_goes m_tape m_readSize m_readRow m_readDoes m_own m_crowd m_isStep_L27 m_isOfGoal m_isMet m_most o_L6.2.2.2.2.2.1 o_L6.2.2.2.2.2.2 o_L1.2 m_trace) H locs → lv_has ls 9 [(0, .ref (q 0)), (1, .int a0), (2, .int a1), (3, .int o_L6.1), (4, .int l4_L17), (5, .int j19), (6, .int l6_L27), (7, .int l7_L34)] → (∀ (H : Heap) (locs : List Loc) (ls : Array Slot), VJ g A s.heap (MW g q m_thrown m_n m_robots o_L6.2.1 m_rules m_taped m_latest m_size m_at m_sort m_place m_end m_fault m_faultAt m_read m_crowds m_traced m_here o_L34 o_L6.2.2.1 o_L6.2.2.2.1 o_L6.2.2.2.2.1 m_ruleSize m_ruleRow m_ruleDoes m_name_L27 m_goes m_tape m_readSize m_readRow m_readDoes m_own m_crowd m_isStep_L27 m_isOfGoal m_isMet m_most o_L6.2.2.2.2.2.1 o_L6.2.2.2.2.2.2 o_L1.2 m_trace) H locs → lv_has ls 9 [(0, .ref (q 0)), (1, .int a0), (2, .int a1), (3, .int o_L6.1), (4, .int l4_L17), (5, .int j19), (6, .int l6_L27)] → W p l e rm_X8_findSteps s m args below meth c H locs 0 0 Q (F0 m 344 ls [])) → W p l e rm_X8_findSteps s m args below meth c H locs 0 0 Q (F0 m 237 ls []) := by
                    clear h ho_L34 hl J
                    intro f
                    induction f with
                    | zero => intro l7_L34 m_hand_L34 o_L34 h; exact absurd h (by simp [F_X8_findSteps_L34])
                    | succ f ih =>
                      intro l7_L34 m_hand_L34 o_L34 h H locs ls J hl K_L34
                      rw [F_X8_findSteps_L34.eq_2] at h
                      refine lv_iload hx hb dX8_findSteps_237 (lv_at hl 7 rfl) ?_
                      refine lv_iload_n hx hb dX8_findSteps_239 rfl (lv_at hl 3 rfl) ?_
                      refine lv_icmp_ge (tgt := 344) hx hb dX8_findSteps_240 (by decide) (fun c35 => ?_) (fun c35 => ?_)
                      · have h := itp c35 h
                        obtain rfl := Option.some.inj h
                        exact K_L34 _ _ _ J (lv_sub hl [0, 1, 2, 3, 4, 5, 6] rfl)
                      · have h := itn c35 h
                        refine lv_iload hx hb dX8_findSteps_243 (lv_at hl 4 rfl) ?_
                        refine lv_iload hx hb dX8_findSteps_245 (lv_at hl 7 rfl) ?_
                        refine lv_ishr hx hb dX8_findSteps_247 ?_
                        refine lv_iconst (v := 1) hx hb dX8_findSteps_248 (by decide) ?_
                        refine lv_iand hx hb dX8_findSteps_249 ?_
                        refine lv_iconst (v := 1) hx hb dX8_findSteps_250 (by decide) ?_
                        obtain ⟨j36, hj36, h⟩ := ob h
                        have Kj36 : ∀ (H : Heap) (locs : List Loc) (ls : Array Slot), VJ g A s.heap (MW g q m_thrown m_n m_robots o_L6.2.1 m_rules m_taped m_latest m_size m_at m_sort m_place m_end m_fault m_faultAt m_read m_crowds m_traced m_here j36 o_L6.2.2.1 o_L6.2.2.2.1 o_L6.2.2.2.2.1 m_ruleSize m_ruleRow m_ruleDoes m_name_L27 m_goes m_tape m_readSize m_readRow m_readDoes m_own m_crowd m_isStep_L27 m_isOfGoal m_isMet m_most o_L6.2.2.2.2.2.1 o_L6.2.2.2.2.2.2 o_L1.2 m_trace) H locs → lv_has ls 9 [(0, .ref (q 0)), (1, .int a0), (2, .int a1), (3, .int o_L6.1), (4, .int l4_L17), (5, .int j19), (6, .int l6_L27), (7, .int l7_L34)] → W p l e rm_X8_findSteps s m args below meth c H locs 0 0 Q (F0 m 338 ls []) := by
                          intro H locs ls J hl
                          obtain ⟨v43, hv43, h⟩ := obs h
                          refine lv_iinc (v := v43) (lv' := [(7, .int v43), (0, .ref (q 0)), (1, .int a0), (2, .int a1), (3, .int o_L6.1), (4, .int l4_L17), (5, .int j19), (6, .int l6_L27)]) hx hb dX8_findSteps_338 hl (k := 7) rfl (by rw [← hv43]; rfl) (by decide) rfl (fun ls hl => ?_)
                          refine lv_goto (tgt := 237) hx hb dX8_findSteps_341 (by decide) ?_
                          exact ih _ _ _ h _ _ _ J (lv_sub hl [1, 2, 3, 4, 5, 6, 7, 0] rfl) K_L34
                        clear h
                        have h := hj36
                        refine lv_icmp_ne (tgt := 338) hx hb dX8_findSteps_251 (by decide) (fun c37 => ?_) (fun c37 => ?_)
                        · have h := itn c37 h
                          obtain rfl := Option.some.inj h
                          exact Kj36 _ _ _ J (lv_sub hl [0, 1, 2, 3, 4, 5, 6, 7] rfl)
                        · have h := itp c37 h
                          refine lv_aload_n hx hb dX8_findSteps_254 rfl (lv_at hl 0 rfl) ?_
                          refine mg_0_37 F E J fl_X8_78 dX8_findSteps_255 ?_
                          refine lv_iload hx hb dX8_findSteps_258 (lv_at hl 7 rfl) ?_
                          obtain ⟨hi, h⟩ := gdt h
                          refine ml_22 F E J (inbt hi) dX8_findSteps_260 ?_
                          refine lv_iconst (v := 2) hx hb dX8_findSteps_261 (by decide) ?_
                          obtain ⟨j38, hj38, h⟩ := ob h
                          have Kj38 : ∀ (H : Heap) (locs : List Loc) (ls : Array Slot), VJ g A s.heap (MW g q m_thrown m_n m_robots o_L6.2.1 m_rules m_taped m_latest m_size m_at m_sort m_place m_end m_fault m_faultAt m_read m_crowds m_traced m_here m_hand_L34 o_L6.2.2.1 o_L6.2.2.2.1 o_L6.2.2.2.2.1 m_ruleSize m_ruleRow m_ruleDoes m_name_L27 m_goes m_tape m_readSize m_readRow m_readDoes m_own m_crowd m_isStep_L27 m_isOfGoal m_isMet m_most o_L6.2.2.2.2.2.1 o_L6.2.2.2.2.2.2 o_L1.2 m_trace) H locs → lv_has ls 9 [(0, .ref (q 0)), (1, .int a0), (2, .int a1), (3, .int o_L6.1), (4, .int l4_L17), (5, .int j19), (6, .int l6_L27), (7, .int l7_L34)] → W p l e rm_X8_findSteps s m args below meth c H locs 0 0 Q (F0 m 291 ls [.int j38]) := by
                            intro H locs ls J hl
                            refine lv_istore (lv' := [(8, .int j38), (0, .ref (q 0)), (1, .int a0), (2, .int a1), (3, .int o_L6.1), (4, .int l4_L17), (5, .int j19), (6, .int l6_L27), (7, .int l7_L34)]) hx hb dX8_findSteps_291 hl (by decide) rfl (fun ls hl => ?_)
                            refine lv_aload_n hx hb dX8_findSteps_293 rfl (lv_at hl 1 rfl) ?_
                            refine mg_0_4 F E J fl_X8_17 dX8_findSteps_294 ?_
                            refine lv_aload_n hx hb dX8_findSteps_297 rfl (lv_at hl 1 rfl) ?_
                            refine mg_0_36 F E J fl_X8_75 dX8_findSteps_298 ?_
                            refine lv_iload hx hb dX8_findSteps_301 (lv_at hl 8 rfl) ?_
                            obtain ⟨hi, h⟩ := gdt h
                            refine ml_21 F E J (inbt hi) dX8_findSteps_303 ?_
                            refine lv_dup2_11 hx hb dX8_findSteps_304 rfl rfl ?_
                            obtain ⟨hi, h⟩ := gdt h
                            refine ml_2 F E J (inbt hi) dX8_findSteps_305 ?_
                            refine lv_iconst (v := 1) hx hb dX8_findSteps_306 (by decide) ?_
                            refine lv_isub hx hb dX8_findSteps_307 ?_
                            obtain ⟨v41, hv41, h⟩ := obs h
                            refine nmI hv41 ?_
                            obtain ⟨hi, h⟩ := gdt h
                            refine ms_2 F E J (inbt hi) dX8_findSteps_308 (fun H locs J => ?_)
                            refine lv_aload_n hx hb dX8_findSteps_309 rfl (lv_at hl 1 rfl) ?_
                            refine mg_0_4 F E J fl_X8_17 dX8_findSteps_310 ?_
                            refine lv_aload_n hx hb dX8_findSteps_313 rfl (lv_at hl 1 rfl) ?_
                            refine mg_0_36 F E J fl_X8_75 dX8_findSteps_314 ?_
                            refine lv_iload hx hb dX8_findSteps_317 (lv_at hl 8 rfl) ?_
                            obtain ⟨hi, h⟩ := gdt h
                            refine ml_21 F E J (inbt hi) dX8_findSteps_319 ?_
                            refine lv_iload hx hb dX8_findSteps_320 (lv_at hl 0 rfl) ?_
                            refine lv_iadd hx hb dX8_findSteps_322 ?_
                            refine lv_aload_n hx hb dX8_findSteps_323 rfl (lv_at hl 1 rfl) ?_
                            refine mg_0_1 F E J fl_X8_87 dX8_findSteps_324 ?_
                            refine lv_iadd hx hb dX8_findSteps_327 ?_
                            refine lv_aload_n hx hb dX8_findSteps_328 rfl (lv_at hl 1 rfl) ?_
                            refine mg_0_1 F E J fl_X8_87 dX8_findSteps_329 ?_
                            obtain ⟨hz, h⟩ := gdt h
                            refine lv_irem hx hb dX8_findSteps_332 (nzt hz) ?_
                            refine lv_dup2_11 hx hb dX8_findSteps_333 rfl rfl ?_
                            obtain ⟨hi, h⟩ := gdt h
                            refine ml_2 F E J (inbt hi) dX8_findSteps_334 ?_
                            refine lv_iconst (v := 1) hx hb dX8_findSteps_335 (by decide) ?_
                            refine lv_iadd hx hb dX8_findSteps_336 ?_
                            obtain ⟨v42, hv42, h⟩ := obs h
                            refine nmI hv42 ?_
                            obtain ⟨hi, h⟩ := gdt h
                            refine ms_2 F E J (inbt hi) dX8_findSteps_337 (fun H locs J => ?_)
                            obtain rfl := Option.some.inj h
                            exact Kj36 _ _ _ J (lv_sub hl [1, 2, 3, 4, 5, 6, 7, 8] rfl)
                          clear h
                          have h := hj38
                          refine lv_icmp_ne (tgt := 284) hx hb dX8_findSteps_262 (by decide) (fun c39 => ?_) (fun c39 => ?_)
                          · have h := itn c39 h
                            refine lv_aload_n hx hb dX8_findSteps_284 rfl (lv_at hl 0 rfl) ?_
                            refine mg_0_37 F E J fl_X8_78 dX8_findSteps_285 ?_
                            refine lv_iload hx hb dX8_findSteps_288 (lv_at hl 7 rfl) ?_
                            obtain ⟨hi, h⟩ := gdt h
                            refine ml_22 F E J (inbt hi) dX8_findSteps_290 ?_
                            obtain rfl := Option.some.inj h
                            exact Kj38 _ _ _ J (lv_sub hl [0, 1, 2, 3, 4, 5, 6, 7] rfl)
                          · have h := itp c39 h
                            refine lv_iload hx hb dX8_findSteps_265 (lv_at hl 6 rfl) ?_
                            refine lv_iload hx hb dX8_findSteps_267 (lv_at hl 7 rfl) ?_
                            refine lv_ishr hx hb dX8_findSteps_269 ?_
                            refine lv_iconst (v := 1) hx hb dX8_findSteps_270 (by decide) ?_
                            refine lv_iand hx hb dX8_findSteps_271 ?_
                            refine lv_iconst (v := 1) hx hb dX8_findSteps_272 (by decide) ?_
                            refine lv_icmp_ne (tgt := 280) hx hb dX8_findSteps_273 (by decide) (fun c40 => ?_) (fun c40 => ?_)
                            · have h := itn c40 h
                              refine lv_iconst (v := (-1)) hx hb dX8_findSteps_280 (by decide) ?_
                              refine lv_goto (tgt := 291) hx hb dX8_findSteps_281 (by decide) ?_
                              obtain rfl := Option.some.inj h
                              exact Kj38 _ _ _ J (lv_sub hl [0, 1, 2, 3, 4, 5, 6, 7] rfl)
                            · have h := itp c40 h
                              refine lv_iconst (v := 1) hx hb dX8_findSteps_276 (by decide) ?_
                              refine lv_goto (tgt := 291) hx hb dX8_findSteps_277 (by decide) ?_
                              obtain rfl := Option.some.inj h
                              exact Kj38 _ _ _ J (lv_sub hl [0, 1, 2, 3, 4, 5, 6, 7] rfl)
                  refine T_L34 FU 0 o_L30 o_L34 ho_L34 _ _ _ J (lv_sub hl [1, 2, 3, 4, 5, 6, 7, 0] rfl) (fun H locs ls J hl => ?_)
                  refine lv_aload_n hx hb dX8_findSteps_344 rfl (lv_at hl 0 rfl) ?_
                  obtain ⟨p44, hp44, h⟩ := ob h
                  refine onV (runV (As := []) (rest := []) F E J (c_X8_findName  p44 hp44) cw_X8_128 ⟨rfl, rfl, Nat.le_of_ble_eq_true rfl, Nat.le_of_ble_eq_true rfl⟩ rcM0 rfl hl.1 rfl (Nat.le_of_ble_eq_true rfl) dX8_findSteps_345) J (fun H locs J => ?_)
                  refine lv_aload_n hx hb dX8_findSteps_348 rfl (lv_at hl 0 rfl) ?_
                  refine mg_0_32 F E J fl_X8_62 dX8_findSteps_349 ?_
                  refine lv_bipush (v := 120) hx hb dX8_findSteps_352 (by decide) ?_
                  refine lv_iload_n hx hb dX8_findSteps_354 rfl (lv_at hl 1 rfl) ?_
                  refine lv_imul hx hb dX8_findSteps_355 ?_
                  refine lv_aload_n hx hb dX8_findSteps_356 rfl (lv_at hl 0 rfl) ?_
                  obtain ⟨p45, hp45, h⟩ := ob h
                  refine onI (runV (As := []) (rest := [.int (120 * a0), .ref (q 17)]) F E J (c_X8_numberOfName  p45 hp45) cw_X8_224 ⟨rfl, rfl, Nat.le_of_ble_eq_true rfl, Nat.le_of_ble_eq_true rfl⟩ rcM0 rfl hl.1 rfl (Nat.le_of_ble_eq_true rfl) dX8_findSteps_357) J (fun H locs J => ?_)
                  refine lv_iadd hx hb dX8_findSteps_360 ?_
                  refine lv_iconst (v := 1) hx hb dX8_findSteps_361 (by decide) ?_
                  obtain ⟨hi, h⟩ := gdt h
                  refine ms_17 F E J (inbt hi) dX8_findSteps_362 (fun H locs J => ?_)
                  obtain ⟨v46, hv46, h⟩ := obs h
                  refine lv_iinc (v := v46) (lv' := [(6, .int v46), (0, .ref (q 0)), (1, .int a0), (2, .int a1), (3, .int o_L6.1), (4, .int l4_L17), (5, .int j19)]) hx hb dX8_findSteps_363 hl (k := 6) rfl (by rw [← hv46]; rfl) (by decide) rfl (fun ls hl => ?_)
                  refine lv_goto (tgt := 191) hx hb dX8_findSteps_366 (by decide) ?_
                  exact ih _ _ _ _ _ h _ _ _ J (lv_sub hl [1, 2, 3, 4, 5, 6, 0] rfl) K_L27
          refine T_L27 FU 0 m_hand_L17 m_name_L17 m_isStep_L17 o_L27 ho_L27 _ _ _ J (lv_sub hl [2, 3, 4, 5, 6, 1, 0] rfl) (fun H locs ls J hl => ?_)
          obtain ⟨v47, hv47, h⟩ := obs h
          refine lv_iinc (v := v47) (lv' := [(4, .int v47), (0, .ref (q 0)), (1, .int a0), (2, .int a1), (3, .int o_L6.1)]) hx hb dX8_findSteps_369 hl (k := 4) rfl (by rw [← hv47]; rfl) (by decide) rfl (fun ls hl => ?_)
          refine lv_goto (tgt := 139) hx hb dX8_findSteps_372 (by decide) ?_
          exact ih _ _ _ _ _ h _ _ _ J (lv_sub hl [1, 2, 3, 4, 0] rfl) K_L17
        clear h
        have h := hj19
        refine lv_icmp_eq (tgt := 181) hx hb dX8_findSteps_149 (by decide) (fun c20 => ?_) (fun c20 => ?_)
        · have h := itp c20 h
          refine lv_iconst (v := 1) hx hb dX8_findSteps_181 (by decide) ?_
          refine lv_goto (tgt := 186) hx hb dX8_findSteps_182 (by decide) ?_
          obtain rfl := Option.some.inj h
          exact Kj19 _ _ _ J (lv_sub hl [0, 1, 2, 3, 4] rfl)
        · have h := itn c20 h
          refine lv_iload_n hx hb dX8_findSteps_152 rfl (lv_at hl 2 rfl) ?_
          refine lv_if_ne (tgt := 166) hx hb dX8_findSteps_153 (by decide) (fun c21 => ?_) (fun c21 => ?_)
          · have h := itn c21 h
            refine lv_iload_n hx hb dX8_findSteps_166 rfl (lv_at hl 2 rfl) ?_
            refine lv_iconst (v := 1) hx hb dX8_findSteps_167 (by decide) ?_
            refine lv_icmp_ne (tgt := 185) hx hb dX8_findSteps_168 (by decide) (fun c22 => ?_) (fun c22 => ?_)
            · have h := itn c22 h
              refine lv_iconst (v := 0) hx hb dX8_findSteps_185 (by decide) ?_
              obtain rfl := Option.some.inj h
              exact Kj19 _ _ _ J (lv_sub hl [0, 1, 2, 3, 4] rfl)
            · have h := itp c22 h
              refine lv_iload hx hb dX8_findSteps_171 (lv_at hl 4 rfl) ?_
              refine lv_iload hx hb dX8_findSteps_173 (lv_at hl 4 rfl) ?_
              refine lv_iconst (v := 1) hx hb dX8_findSteps_175 (by decide) ?_
              refine lv_isub hx hb dX8_findSteps_176 ?_
              refine lv_iand hx hb dX8_findSteps_177 ?_
              refine lv_if_ne (tgt := 185) hx hb dX8_findSteps_178 (by decide) (fun c23 => ?_) (fun c23 => ?_)
              · have h := itn c23 h
                refine lv_iconst (v := 0) hx hb dX8_findSteps_185 (by decide) ?_
                obtain rfl := Option.some.inj h
                exact Kj19 _ _ _ J (lv_sub hl [0, 1, 2, 3, 4] rfl)
              · have h := itp c23 h
                refine lv_iconst (v := 1) hx hb dX8_findSteps_181 (by decide) ?_
                refine lv_goto (tgt := 186) hx hb dX8_findSteps_182 (by decide) ?_
                obtain rfl := Option.some.inj h
                exact Kj19 _ _ _ J (lv_sub hl [0, 1, 2, 3, 4] rfl)
          · have h := itp c21 h
            refine lv_iload hx hb dX8_findSteps_156 (lv_at hl 4 rfl) ?_
            refine lv_iconst (v := 1) hx hb dX8_findSteps_158 (by decide) ?_
            refine lv_iload_n hx hb dX8_findSteps_159 rfl (lv_at hl 3 rfl) ?_
            refine lv_ishl hx hb dX8_findSteps_160 ?_
            refine lv_iconst (v := 1) hx hb dX8_findSteps_161 (by decide) ?_
            refine lv_isub hx hb dX8_findSteps_162 ?_
            refine lv_icmp_eq (tgt := 181) hx hb dX8_findSteps_163 (by decide) (fun c24 => ?_) (fun c24 => ?_)
            · have h := itp c24 h
              refine lv_iconst (v := 1) hx hb dX8_findSteps_181 (by decide) ?_
              refine lv_goto (tgt := 186) hx hb dX8_findSteps_182 (by decide) ?_
              obtain rfl := Option.some.inj h
              exact Kj19 _ _ _ J (lv_sub hl [0, 1, 2, 3, 4] rfl)
            · have h := itn c24 h
              refine lv_iload_n hx hb dX8_findSteps_166 rfl (lv_at hl 2 rfl) ?_
              refine lv_iconst (v := 1) hx hb dX8_findSteps_167 (by decide) ?_
              refine lv_icmp_ne (tgt := 185) hx hb dX8_findSteps_168 (by decide) (fun c25 => ?_) (fun c25 => ?_)
              · have h := itn c25 h
                refine lv_iconst (v := 0) hx hb dX8_findSteps_185 (by decide) ?_
                obtain rfl := Option.some.inj h
                exact Kj19 _ _ _ J (lv_sub hl [0, 1, 2, 3, 4] rfl)
              · have h := itp c25 h
                refine lv_iload hx hb dX8_findSteps_171 (lv_at hl 4 rfl) ?_
                refine lv_iload hx hb dX8_findSteps_173 (lv_at hl 4 rfl) ?_
                refine lv_iconst (v := 1) hx hb dX8_findSteps_175 (by decide) ?_
                refine lv_isub hx hb dX8_findSteps_176 ?_
                refine lv_iand hx hb dX8_findSteps_177 ?_
                refine lv_if_ne (tgt := 185) hx hb dX8_findSteps_178 (by decide) (fun c26 => ?_) (fun c26 => ?_)
                · have h := itn c26 h
                  refine lv_iconst (v := 0) hx hb dX8_findSteps_185 (by decide) ?_
                  obtain rfl := Option.some.inj h
                  exact Kj19 _ _ _ J (lv_sub hl [0, 1, 2, 3, 4] rfl)
                · have h := itp c26 h
                  refine lv_iconst (v := 1) hx hb dX8_findSteps_181 (by decide) ?_
                  refine lv_goto (tgt := 186) hx hb dX8_findSteps_182 (by decide) ?_
                  obtain rfl := Option.some.inj h
                  exact Kj19 _ _ _ J (lv_sub hl [0, 1, 2, 3, 4] rfl)
  refine T_L17 FU 1 o_L1.1 m_name m_isStep o_L17 ho_L17 _ _ _ J (lv_sub hl [1, 2, 3, 4, 0] rfl) (fun H locs ls J hl => ?_)
  obtain rfl := Option.some.inj h
  exact ret _ _ _ _ J dX8_findSteps_375
set_option maxHeartbeats 4000000 in
set_option maxRecDepth 100000 in
theorem c_X8_prove {l : Launch} {g : GG} {A : Nat → Prop} {q : Nat → Nat} {m_thrown m_n m_robots m_viewed m_rules m_taped m_latest m_size m_at m_sort m_place m_end m_fault m_faultAt m_read m_crowds m_traced : Int32} {m_here m_hand m_view m_up m_down m_ruleSize m_ruleRow m_ruleDoes m_name m_goes m_tape m_readSize m_readRow m_readDoes m_own m_crowd m_isStep m_isOfGoal m_isMet m_most m_stands m_doesHere m_from m_trace : Nat → Int32} (a0 : Int32) (a1 : Int32) (res : Int32 × Int32 × (Nat → Int32) × (Nat → Int32) × (Nat → Int32) × (Nat → Int32) × (Nat → Int32) × (Nat → Int32) × (Nat → Int32) × (Nat → Int32) × (Nat → Int32) × (Nat → Int32) × (Nat → Int32) × (Nat → Int32)) (h : F_X8_prove a0 a1 m_n m_robots m_viewed m_rules m_hand m_view m_up m_down m_ruleSize m_ruleRow m_ruleDoes m_name m_crowd m_isStep m_isOfGoal m_most m_stands m_doesHere m_from = some res) : Met l yX8_prove (wS yX8_prove cX8_prove 8 none) rm_X8_prove (va_Pc [.ref (q 0), .int a0, .int a1] (VB g A (MW g q m_thrown m_n m_robots m_viewed m_rules m_taped m_latest m_size m_at m_sort m_place m_end m_fault m_faultAt m_read m_crowds m_traced m_here m_hand m_view m_up m_down m_ruleSize m_ruleRow m_ruleDoes m_name m_goes m_tape m_readSize m_readRow m_readDoes m_own m_crowd m_isStep m_isOfGoal m_isMet m_most m_stands m_doesHere m_from m_trace))) (va_Qv (fun (_ : Unit) => True) (fun _ => VB g A (MW g q m_thrown m_n m_robots res.1 m_rules m_taped m_latest m_size m_at m_sort m_place m_end m_fault m_faultAt m_read res.2.1 m_traced m_here res.2.2.1 res.2.2.2.1 res.2.2.2.2.1 res.2.2.2.2.2.1 m_ruleSize m_ruleRow m_ruleDoes res.2.2.2.2.2.2.1 m_goes m_tape m_readSize m_readRow m_readDoes m_own res.2.2.2.2.2.2.2.1 res.2.2.2.2.2.2.2.2.1 res.2.2.2.2.2.2.2.2.2.1 m_isMet res.2.2.2.2.2.2.2.2.2.2.1 res.2.2.2.2.2.2.2.2.2.2.2.1 res.2.2.2.2.2.2.2.2.2.2.2.2.1 res.2.2.2.2.2.2.2.2.2.2.2.2.2 m_trace)) A) 0 0 A := by
  unfold F_X8_prove at h
  refine MetV (own := RX8) (ws' := (MW g q m_thrown m_n m_robots res.1 m_rules m_taped m_latest m_size m_at m_sort m_place m_end m_fault m_faultAt m_read res.2.1 m_traced m_here res.2.2.1 res.2.2.2.1 res.2.2.2.2.1 res.2.2.2.2.2.1 m_ruleSize m_ruleRow m_ruleDoes res.2.2.2.2.2.2.1 m_goes m_tape m_readSize m_readRow m_readDoes m_own res.2.2.2.2.2.2.2.1 res.2.2.2.2.2.2.2.2.1 res.2.2.2.2.2.2.2.2.2.1 m_isMet res.2.2.2.2.2.2.2.2.2.2.1 res.2.2.2.2.2.2.2.2.2.2.2.1 res.2.2.2.2.2.2.2.2.2.2.2.2.1 res.2.2.2.2.2.2.2.2.2.2.2.2.2 m_trace)) (by decide) rfl (Nat.le_of_ble_eq_true rfl) ?_
  intro p e s m args below meth c Q F E ret ls J hl
  have hx := F.1
  have hb := F.2.1
  have hl : lv_has ls 8 [(0, .ref (q 0)), (1, .int a0), (2, .int a1)] := hl
  refine lv_aload_n hx hb dX8_prove_0 rfl (lv_at hl 0 rfl) ?_
  obtain ⟨p1, hp1, h⟩ := ob h
  refine onV (runV (As := []) (rest := []) F E J (c_X8_listCrowds  p1 hp1) cw_X8_227 ⟨rfl, rfl, Nat.le_of_ble_eq_true rfl, Nat.le_of_ble_eq_true rfl⟩ rcM0 rfl hl.1 rfl (Nat.le_of_ble_eq_true rfl) dX8_prove_1) J (fun H locs J => ?_)
  refine lv_iconst (v := 0) hx hb dX8_prove_4 (by decide) ?_
  refine lv_istore_n (lv' := [(3, .int 0), (0, .ref (q 0)), (1, .int a0), (2, .int a1)]) hx hb dX8_prove_5 rfl hl (by decide) rfl (fun ls hl => ?_)
  obtain ⟨o_L2, ho_L2, h⟩ := ob h
  have T_L2 : ∀ (f : Nat) (l3_L2 : Int32) (m_isStep_L2 : Nat → Int32) (o_L2 : Nat → Int32), F_X8_prove_L2 f l3_L2 m_isStep_L2 = some o_L2 → ∀ (H : Heap) (locs : List Loc) (ls : Array Slot), VJ g A s.heap (MW g q m_thrown m_n m_robots m_viewed m_rules m_taped m_latest m_size m_at m_sort m_place m_end m_fault m_faultAt m_read p1.1 m_traced m_here p1.2.1 m_view m_up m_down m_ruleSize m_ruleRow m_ruleDoes p1.2.2.1 m_goes m_tape m_readSize m_readRow m_readDoes m_own p1.2.2.2 m_isStep_L2 m_isOfGoal m_isMet m_most m_stands m_doesHere m_from m_trace) H locs → lv_has ls 8 [(0, .ref (q 0)), (1, .int a0), (2, .int a1), (3, .int l3_L2)] → (∀ (H : Heap) (locs : List Loc) (ls : Array Slot), VJ g A s.heap (MW g q m_thrown m_n m_robots m_viewed m_rules m_taped m_latest m_size m_at m_sort m_place m_end m_fault m_faultAt m_read p1.1 m_traced m_here p1.2.1 m_view m_up m_down m_ruleSize m_ruleRow m_ruleDoes p1.2.2.1 m_goes m_tape m_readSize m_readRow m_readDoes m_own p1.2.2.2 o_L2 m_isOfGoal m_isMet m_most m_stands m_doesHere m_from m_trace) H locs → lv_has ls 8 [(0, .ref (q 0)), (1, .int a0), (2, .int a1)] → W p l e rm_X8_prove s m args below meth c H locs 0 0 Q (F0 m 26 ls [])) → W p l e rm_X8_prove s m args below meth c H locs 0 0 Q (F0 m 6 ls []) := by
    clear h ho_L2 hl J
    intro f
    induction f with
    | zero => intro l3_L2 m_isStep_L2 o_L2 h; exact absurd h (by simp [F_X8_prove_L2])
    | succ f ih =>
      intro l3_L2 m_isStep_L2 o_L2 h H locs ls J hl K_L2
      rw [F_X8_prove_L2.eq_2] at h
      refine lv_iload_n hx hb dX8_prove_6 rfl (lv_at hl 3 rfl) ?_
      refine lv_sipush (v := 14400) hx hb dX8_prove_7 (by decide) ?_
      refine lv_icmp_ge (tgt := 26) hx hb dX8_prove_10 (by decide) (fun c3 => ?_) (fun c3 => ?_)
      · have h := itp c3 h
        obtain rfl := Option.some.inj h
        exact K_L2 _ _ _ J (lv_sub hl [0, 1, 2] rfl)
      · have h := itn c3 h
        refine lv_aload_n hx hb dX8_prove_13 rfl (lv_at hl 0 rfl) ?_
        refine mg_0_32 F E J fl_X8_62 dX8_prove_14 ?_
        refine lv_iload_n hx hb dX8_prove_17 rfl (lv_at hl 3 rfl) ?_
        refine lv_iconst (v := 0) hx hb dX8_prove_18 (by decide) ?_
        obtain ⟨hi, h⟩ := gdt h
        refine ms_17 F E J (inbt hi) dX8_prove_19 (fun H locs J => ?_)
        obtain ⟨v4, hv4, h⟩ := obs h
        refine lv_iinc (v := v4) (lv' := [(3, .int v4), (0, .ref (q 0)), (1, .int a0), (2, .int a1)]) hx hb dX8_prove_20 hl (k := 3) rfl (by rw [← hv4]; rfl) (by decide) rfl (fun ls hl => ?_)
        refine lv_goto (tgt := 6) hx hb dX8_prove_23 (by decide) ?_
        exact ih _ _ _ h _ _ _ J (lv_sub hl [1, 2, 3, 0] rfl) K_L2
  refine T_L2 FU 0 m_isStep o_L2 ho_L2 _ _ _ J (lv_sub hl [1, 2, 3, 0] rfl) (fun H locs ls J hl => ?_)
  refine lv_iconst (v := 0) hx hb dX8_prove_26 (by decide) ?_
  refine lv_istore_n (lv' := [(3, .int 0), (0, .ref (q 0)), (1, .int a0), (2, .int a1)]) hx hb dX8_prove_27 rfl hl (by decide) rfl (fun ls hl => ?_)
  obtain ⟨o_L5, ho_L5, h⟩ := ob h
  have T_L5 : ∀ (f : Nat) (l3_L5 : Int32) (m_viewed_L5 : Int32) (m_hand_L5 : Nat → Int32) (m_view_L5 : Nat → Int32) (m_up_L5 : Nat → Int32) (m_down_L5 : Nat → Int32) (m_name_L5 : Nat → Int32) (m_isStep_L5 : Nat → Int32) (m_isOfGoal_L5 : Nat → Int32) (m_most_L5 : Nat → Int32) (m_stands_L5 : Nat → Int32) (m_doesHere_L5 : Nat → Int32) (m_from_L5 : Nat → Int32) (o_L5 : Int32 × (Nat → Int32) × (Nat → Int32) × (Nat → Int32) × (Nat → Int32) × (Nat → Int32) × (Nat → Int32) × (Nat → Int32) × (Nat → Int32) × (Nat → Int32) × (Nat → Int32) × (Nat → Int32)), F_X8_prove_L5 a0 a1 m_n m_robots m_rules p1.1 m_ruleSize m_ruleRow m_ruleDoes p1.2.2.2 f l3_L5 m_viewed_L5 m_hand_L5 m_view_L5 m_up_L5 m_down_L5 m_name_L5 m_isStep_L5 m_isOfGoal_L5 m_most_L5 m_stands_L5 m_doesHere_L5 m_from_L5 = some o_L5 → ∀ (H : Heap) (locs : List Loc) (ls : Array Slot), VJ g A s.heap (MW g q m_thrown m_n m_robots m_viewed_L5 m_rules m_taped m_latest m_size m_at m_sort m_place m_end m_fault m_faultAt m_read p1.1 m_traced m_here m_hand_L5 m_view_L5 m_up_L5 m_down_L5 m_ruleSize m_ruleRow m_ruleDoes m_name_L5 m_goes m_tape m_readSize m_readRow m_readDoes m_own p1.2.2.2 m_isStep_L5 m_isOfGoal_L5 m_isMet m_most_L5 m_stands_L5 m_doesHere_L5 m_from_L5 m_trace) H locs → lv_has ls 8 [(0, .ref (q 0)), (1, .int a0), (2, .int a1), (3, .int l3_L5)] → (∀ (H : Heap) (locs : List Loc) (ls : Array Slot), VJ g A s.heap (MW g q m_thrown m_n m_robots o_L5.1 m_rules m_taped m_latest m_size m_at m_sort m_place m_end m_fault m_faultAt m_read p1.1 m_traced m_here o_L5.2.1 o_L5.2.2.1 o_L5.2.2.2.1 o_L5.2.2.2.2.1 m_ruleSize m_ruleRow m_ruleDoes o_L5.2.2.2.2.2.1 m_goes m_tape m_readSize m_readRow m_readDoes m_own p1.2.2.2 o_L5.2.2.2.2.2.2.1 o_L5.2.2.2.2.2.2.2.1 m_isMet o_L5.2.2.2.2.2.2.2.2.1 o_L5.2.2.2.2.2.2.2.2.2.1 o_L5.2.2.2.2.2.2.2.2.2.2.1 o_L5.2.2.2.2.2.2.2.2.2.2.2 m_trace) H locs → lv_has ls 8 [(0, .ref (q 0))] → W p l e rm_X8_prove s m args below meth c H locs 0 0 Q (F0 m 128 ls [])) → W p l e rm_X8_prove s m args below meth c H locs 0 0 Q (F0 m 28 ls []) := by
    clear h ho_L5 hl J
    intro f
    induction f with
    | zero => intro l3_L5 m_viewed_L5 m_hand_L5 m_view_L5 m_up_L5 m_down_L5 m_name_L5 m_isStep_L5 m_isOfGoal_L5 m_most_L5 m_stands_L5 m_doesHere_L5 m_from_L5 o_L5 h; exact absurd h (by simp [F_X8_prove_L5])
    | succ f ih =>
      intro l3_L5 m_viewed_L5 m_hand_L5 m_view_L5 m_up_L5 m_down_L5 m_name_L5 m_isStep_L5 m_isOfGoal_L5 m_most_L5 m_stands_L5 m_doesHere_L5 m_from_L5 o_L5 h H locs ls J hl K_L5
      rw [F_X8_prove_L5.eq_2] at h
      refine lv_iload_n hx hb dX8_prove_28 rfl (lv_at hl 3 rfl) ?_
      refine lv_aload_n hx hb dX8_prove_29 rfl (lv_at hl 0 rfl) ?_
      refine mg_0_30 F E J fl_X8_221 dX8_prove_30 ?_
      refine lv_icmp_ge (tgt := 128) hx hb dX8_prove_33 (by decide) (fun c6 => ?_) (fun c6 => ?_)
      · have h := itp c6 h
        obtain rfl := Option.some.inj h
        exact K_L5 _ _ _ J (lv_sub hl [0] rfl)
      · have h := itn c6 h
        refine lv_iconst (v := 0) hx hb dX8_prove_36 (by decide) ?_
        refine lv_istore (lv' := [(4, .int 0), (0, .ref (q 0)), (1, .int a0), (2, .int a1), (3, .int l3_L5)]) hx hb dX8_prove_37 hl (by decide) rfl (fun ls hl => ?_)
        obtain ⟨o_L7, ho_L7, h⟩ := ob h
        have T_L7 : ∀ (f : Nat) (l4_L7 : Int32) (m_hand_L7 : Nat → Int32) (o_L7 : Nat → Int32), F_X8_prove_L7 l3_L5 p1.2.2.2 f l4_L7 m_hand_L7 = some o_L7 → ∀ (H : Heap) (locs : List Loc) (ls : Array Slot), VJ g A s.heap (MW g q m_thrown m_n m_robots m_viewed_L5 m_rules m_taped m_latest m_size m_at m_sort m_place m_end m_fault m_faultAt m_read p1.1 m_traced m_here m_hand_L7 m_view_L5 m_up_L5 m_down_L5 m_ruleSize m_ruleRow m_ruleDoes m_name_L5 m_goes m_tape m_readSize m_readRow m_readDoes m_own p1.2.2.2 m_isStep_L5 m_isOfGoal_L5 m_isMet m_most_L5 m_stands_L5 m_doesHere_L5 m_from_L5 m_trace) H locs → lv_has ls 8 [(0, .ref (q 0)), (1, .int a0), (2, .int a1), (3, .int l3_L5), (4, .int l4_L7)] → (∀ (H : Heap) (locs : List Loc) (ls : Array Slot), VJ g A s.heap (MW g q m_thrown m_n m_robots m_viewed_L5 m_rules m_taped m_latest m_size m_at m_sort m_place m_end m_fault m_faultAt m_read p1.1 m_traced m_here o_L7 m_view_L5 m_up_L5 m_down_L5 m_ruleSize m_ruleRow m_ruleDoes m_name_L5 m_goes m_tape m_readSize m_readRow m_readDoes m_own p1.2.2.2 m_isStep_L5 m_isOfGoal_L5 m_isMet m_most_L5 m_stands_L5 m_doesHere_L5 m_from_L5 m_trace) H locs → lv_has ls 8 [(0, .ref (q 0)), (1, .int a0), (2, .int a1), (3, .int l3_L5)] → W p l e rm_X8_prove s m args below meth c H locs 0 0 Q (F0 m 71 ls [])) → W p l e rm_X8_prove s m args below meth c H locs 0 0 Q (F0 m 39 ls []) := by
          clear h ho_L7 hl J
          intro f
          induction f with
          | zero => intro l4_L7 m_hand_L7 o_L7 h; exact absurd h (by simp [F_X8_prove_L7])
          | succ f ih =>
            intro l4_L7 m_hand_L7 o_L7 h H locs ls J hl K_L7
            rw [F_X8_prove_L7.eq_2] at h
            refine lv_iload hx hb dX8_prove_39 (lv_at hl 4 rfl) ?_
            refine lv_bipush (v := 9) hx hb dX8_prove_41 (by decide) ?_
            refine lv_icmp_ge (tgt := 71) hx hb dX8_prove_43 (by decide) (fun c8 => ?_) (fun c8 => ?_)
            · have h := itp c8 h
              obtain rfl := Option.some.inj h
              exact K_L7 _ _ _ J (lv_sub hl [0, 1, 2, 3] rfl)
            · have h := itn c8 h
              refine lv_aload_n hx hb dX8_prove_46 rfl (lv_at hl 0 rfl) ?_
              refine mg_0_4 F E J fl_X8_17 dX8_prove_47 ?_
              refine lv_iload hx hb dX8_prove_50 (lv_at hl 4 rfl) ?_
              refine lv_aload_n hx hb dX8_prove_52 rfl (lv_at hl 0 rfl) ?_
              refine mg_0_31 F E J fl_X8_59 dX8_prove_53 ?_
              refine lv_bipush (v := 9) hx hb dX8_prove_56 (by decide) ?_
              refine lv_iload_n hx hb dX8_prove_58 rfl (lv_at hl 3 rfl) ?_
              refine lv_imul hx hb dX8_prove_59 ?_
              refine lv_iload hx hb dX8_prove_60 (lv_at hl 4 rfl) ?_
              refine lv_iadd hx hb dX8_prove_62 ?_
              obtain ⟨hi, h⟩ := gdt h
              refine ml_16 F E J (inbt hi) dX8_prove_63 ?_
              obtain ⟨v9, hv9, h⟩ := obs h
              refine nmI hv9 ?_
              obtain ⟨hi, h⟩ := gdt h
              refine ms_2 F E J (inbt hi) dX8_prove_64 (fun H locs J => ?_)
              obtain ⟨v10, hv10, h⟩ := obs h
              refine lv_iinc (v := v10) (lv' := [(4, .int v10), (0, .ref (q 0)), (1, .int a0), (2, .int a1), (3, .int l3_L5)]) hx hb dX8_prove_65 hl (k := 4) rfl (by rw [← hv10]; rfl) (by decide) rfl (fun ls hl => ?_)
              refine lv_goto (tgt := 39) hx hb dX8_prove_68 (by decide) ?_
              exact ih _ _ _ h _ _ _ J (lv_sub hl [1, 2, 3, 4, 0] rfl) K_L7
        refine T_L7 FU 0 m_hand_L5 o_L7 ho_L7 _ _ _ J (lv_sub hl [1, 2, 3, 4, 0] rfl) (fun H locs ls J hl => ?_)
        refine lv_aload_n hx hb dX8_prove_71 rfl (lv_at hl 0 rfl) ?_
        refine mg_0_33 F E J fl_X8_66 dX8_prove_72 ?_
        refine lv_iload_n hx hb dX8_prove_75 rfl (lv_at hl 3 rfl) ?_
        refine lv_aload_n hx hb dX8_prove_76 rfl (lv_at hl 0 rfl) ?_
        refine lv_iload_n hx hb dX8_prove_77 rfl (lv_at hl 2 rfl) ?_
        refine lv_aload_n hx hb dX8_prove_78 rfl (lv_at hl 0 rfl) ?_
        refine mg_0_2 F E J fl_X8_99 dX8_prove_79 ?_
        obtain ⟨p11, hp11, h⟩ := ob h
        refine onZ (runV (As := [.int a1, .int m_robots]) (rest := [.int l3_L5, .ref (q 18)]) F E J (c_X8_isGoal a1 m_robots p11 hp11) cw_X8_133 ⟨rfl, rfl, Nat.le_of_ble_eq_true rfl, Nat.le_of_ble_eq_true rfl⟩ rcM0 rfl hl.1 rfl (Nat.le_of_ble_eq_true rfl) dX8_prove_82) J (fun hzbp11 H locs J => ?_)
        obtain ⟨hi, h⟩ := gdt h
        refine ms_18 F E J (inbt hi) dX8_prove_85 (fun H locs J => ?_)
        refine lv_aload_n hx hb dX8_prove_86 rfl (lv_at hl 0 rfl) ?_
        refine mg_0_35 F E J fl_X8_72 dX8_prove_87 ?_
        refine lv_iload_n hx hb dX8_prove_90 rfl (lv_at hl 3 rfl) ?_
        refine lv_aload_n hx hb dX8_prove_91 rfl (lv_at hl 0 rfl) ?_
        refine mg_0_33 F E J fl_X8_66 dX8_prove_92 ?_
        refine lv_iload_n hx hb dX8_prove_95 rfl (lv_at hl 3 rfl) ?_
        obtain ⟨hi, h⟩ := gdt h
        refine ml_18 F E J (inbt hi) dX8_prove_96 ?_
        obtain ⟨j12, hj12, h⟩ := ob h
        have Kj12 : ∀ (H : Heap) (locs : List Loc) (ls : Array Slot), VJ g A s.heap (MW g q m_thrown m_n m_robots m_viewed_L5 m_rules m_taped m_latest m_size m_at m_sort m_place m_end m_fault m_faultAt m_read p1.1 m_traced m_here o_L7 m_view_L5 m_up_L5 m_down_L5 m_ruleSize m_ruleRow m_ruleDoes m_name_L5 m_goes m_tape m_readSize m_readRow m_readDoes m_own p1.2.2.2 m_isStep_L5 (upd m_isOfGoal_L5 (Int32.toNatClampNeg l3_L5) (vp_nar .boolean p11)) m_isMet m_most_L5 m_stands_L5 m_doesHere_L5 m_from_L5 m_trace) H locs → lv_has ls 8 [(0, .ref (q 0)), (1, .int a0), (2, .int a1), (3, .int l3_L5)] → W p l e rm_X8_prove s m args below meth c H locs 0 0 Q (F0 m 106 ls [.int j12, .int l3_L5, .ref (q 20)]) := by
          intro H locs ls J hl
          obtain ⟨hi, h⟩ := gdt h
          refine ms_20 F E J (inbt hi) dX8_prove_106 (fun H locs J => ?_)
          refine lv_aload_n hx hb dX8_prove_107 rfl (lv_at hl 0 rfl) ?_
          refine mg_0_33 F E J fl_X8_66 dX8_prove_108 ?_
          refine lv_iload_n hx hb dX8_prove_111 rfl (lv_at hl 3 rfl) ?_
          obtain ⟨hi, h⟩ := gdt h
          refine ml_18 F E J (inbt hi) dX8_prove_112 ?_
          obtain ⟨j14, hj14, h⟩ := ob h
          have Kj14 : ∀ (H : Heap) (locs : List Loc) (ls : Array Slot), VJ g A s.heap (MW g q m_thrown m_n m_robots j14.1 m_rules m_taped m_latest m_size m_at m_sort m_place m_end m_fault m_faultAt m_read p1.1 m_traced m_here j14.2.1 j14.2.2.1 j14.2.2.2.1 j14.2.2.2.2.1 m_ruleSize m_ruleRow m_ruleDoes j14.2.2.2.2.2.1 m_goes m_tape m_readSize m_readRow m_readDoes m_own p1.2.2.2 j14.2.2.2.2.2.2.1 (upd m_isOfGoal_L5 (Int32.toNatClampNeg l3_L5) (vp_nar .boolean p11)) m_isMet (upd m_most_L5 (Int32.toNatClampNeg l3_L5) j12) j14.2.2.2.2.2.2.2.1 j14.2.2.2.2.2.2.2.2.1 j14.2.2.2.2.2.2.2.2.2 m_trace) H locs → lv_has ls 8 [(0, .ref (q 0)), (1, .int a0), (2, .int a1), (3, .int l3_L5)] → W p l e rm_X8_prove s m args below meth c H locs 0 0 Q (F0 m 122 ls []) := by
            intro H locs ls J hl
            obtain ⟨v17, hv17, h⟩ := obs h
            refine lv_iinc (v := v17) (lv' := [(3, .int v17), (0, .ref (q 0)), (1, .int a0), (2, .int a1)]) hx hb dX8_prove_122 hl (k := 3) rfl (by rw [← hv17]; rfl) (by decide) rfl (fun ls hl => ?_)
            refine lv_goto (tgt := 28) hx hb dX8_prove_125 (by decide) ?_
            exact ih _ _ _ _ _ _ _ _ _ _ _ _ _ _ h _ _ _ J (lv_sub hl [1, 2, 3, 0] rfl) K_L5
          clear h
          have h := hj14
          refine lv_if_ne (tgt := 122) hx hb dX8_prove_113 (by decide) (fun c15 => ?_) (fun c15 => ?_)
          · have h := itn c15 h
            obtain rfl := Option.some.inj h
            exact Kj14 _ _ _ J (lv_sub hl [0, 1, 2, 3] rfl)
          · have h := itp c15 h
            refine lv_aload_n hx hb dX8_prove_116 rfl (lv_at hl 0 rfl) ?_
            refine lv_iload_n hx hb dX8_prove_117 rfl (lv_at hl 3 rfl) ?_
            refine lv_iload_n hx hb dX8_prove_118 rfl (lv_at hl 1 rfl) ?_
            obtain ⟨p16, hp16, h⟩ := ob h
            refine onV (runV (As := [.int l3_L5, .int a0]) (rest := []) F E J (c_X8_findSteps l3_L5 a0 p16 hp16) cw_X8_230 ⟨rfl, rfl, Nat.le_of_ble_eq_true rfl, Nat.le_of_ble_eq_true rfl⟩ rcM0 rfl hl.1 rfl (Nat.le_of_ble_eq_true rfl) dX8_prove_119) J (fun H locs J => ?_)
            obtain rfl := Option.some.inj h
            exact Kj14 _ _ _ J (lv_sub hl [0, 1, 2, 3] rfl)
        clear h
        have h := hj12
        refine lv_if_eq (tgt := 104) hx hb dX8_prove_97 (by decide) (fun c13 => ?_) (fun c13 => ?_)
        · have h := itp c13 h
          refine lv_ldc hx hb F.2.2.2.1 (F.2.2.2.2 _ kc_X8_110) dX8_prove_104 ?_
          obtain rfl := Option.some.inj h
          exact Kj12 _ _ _ J (lv_sub hl [0, 1, 2, 3] rfl)
        · have h := itn c13 h
          refine lv_iconst (v := 0) hx hb dX8_prove_100 (by decide) ?_
          refine lv_goto (tgt := 106) hx hb dX8_prove_101 (by decide) ?_
          obtain rfl := Option.some.inj h
          exact Kj12 _ _ _ J (lv_sub hl [0, 1, 2, 3] rfl)
  refine T_L5 FU 0 m_viewed p1.2.1 m_view m_up m_down p1.2.2.1 o_L2 m_isOfGoal m_most m_stands m_doesHere m_from o_L5 ho_L5 _ _ _ J (lv_sub hl [1, 2, 3, 0] rfl) (fun H locs ls J hl => ?_)
  refine lv_iconst (v := 1) hx hb dX8_prove_128 (by decide) ?_
  refine lv_istore_n (lv' := [(3, .int 1), (0, .ref (q 0))]) hx hb dX8_prove_129 rfl hl (by decide) rfl (fun ls hl => ?_)
  obtain ⟨o_L18, ho_L18, h⟩ := ob h
  have T_L18 : ∀ (f : Nat) (l3_L18 : Int32) (m_most_L18 : Nat → Int32) (o_L18 : Nat → Int32), F_X8_prove_L18 p1.1 o_L5.2.2.2.2.2.2.1 f l3_L18 m_most_L18 = some o_L18 → ∀ (H : Heap) (locs : List Loc) (ls : Array Slot), VJ g A s.heap (MW g q m_thrown m_n m_robots o_L5.1 m_rules m_taped m_latest m_size m_at m_sort m_place m_end m_fault m_faultAt m_read p1.1 m_traced m_here o_L5.2.1 o_L5.2.2.1 o_L5.2.2.2.1 o_L5.2.2.2.2.1 m_ruleSize m_ruleRow m_ruleDoes o_L5.2.2.2.2.2.1 m_goes m_tape m_readSize m_readRow m_readDoes m_own p1.2.2.2 o_L5.2.2.2.2.2.2.1 o_L5.2.2.2.2.2.2.2.1 m_isMet m_most_L18 o_L5.2.2.2.2.2.2.2.2.2.1 o_L5.2.2.2.2.2.2.2.2.2.2.1 o_L5.2.2.2.2.2.2.2.2.2.2.2 m_trace) H locs → lv_has ls 8 [(0, .ref (q 0)), (3, .int l3_L18)] → (∀ (H : Heap) (locs : List Loc) (ls : Array Slot), VJ g A s.heap (MW g q m_thrown m_n m_robots o_L5.1 m_rules m_taped m_latest m_size m_at m_sort m_place m_end m_fault m_faultAt m_read p1.1 m_traced m_here o_L5.2.1 o_L5.2.2.1 o_L5.2.2.2.1 o_L5.2.2.2.2.1 m_ruleSize m_ruleRow m_ruleDoes o_L5.2.2.2.2.2.1 m_goes m_tape m_readSize m_readRow m_readDoes m_own p1.2.2.2 o_L5.2.2.2.2.2.2.1 o_L5.2.2.2.2.2.2.2.1 m_isMet o_L18 o_L5.2.2.2.2.2.2.2.2.2.1 o_L5.2.2.2.2.2.2.2.2.2.2.1 o_L5.2.2.2.2.2.2.2.2.2.2.2 m_trace) H locs → lv_has ls 8 [] → W p l e rm_X8_prove s m args below meth c H locs 0 0 Q (F0 m 289 ls [])) → W p l e rm_X8_prove s m args below meth c H locs 0 0 Q (F0 m 130 ls []) := by
    clear h ho_L18 hl J
    intro f
    induction f with
    | zero => intro l3_L18 m_most_L18 o_L18 h; exact absurd h (by simp [F_X8_prove_L18])
    | succ f ih =>
      intro l3_L18 m_most_L18 o_L18 h H locs ls J hl K_L18
      rw [F_X8_prove_L18.eq_2] at h
      refine lv_iload_n hx hb dX8_prove_130 rfl (lv_at hl 1 rfl) ?_
      refine lv_if_eq (tgt := 289) hx hb dX8_prove_131 (by decide) (fun c19 => ?_) (fun c19 => ?_)
      · have h := itp c19 h
        obtain rfl := Option.some.inj h
        exact K_L18 _ _ _ J (lv_sub hl [] rfl)
      · have h := itn c19 h
        refine lv_iconst (v := 0) hx hb dX8_prove_134 (by decide) ?_
        refine lv_istore_n (lv' := [(3, .int 0), (0, .ref (q 0))]) hx hb dX8_prove_135 rfl hl (by decide) rfl (fun ls hl => ?_)
        refine lv_iconst (v := 0) hx hb dX8_prove_136 (by decide) ?_
        refine lv_istore (lv' := [(4, .int 0), (3, .int 0), (0, .ref (q 0))]) hx hb dX8_prove_137 hl (by decide) rfl (fun ls hl => ?_)
        obtain ⟨o_L20, ho_L20, h⟩ := ob h
        have T_L20 : ∀ (f : Nat) (l3_L20 : Int32) (l4_L20 : Int32) (m_most_L20 : Nat → Int32) (o_L20 : Int32 × (Nat → Int32)), F_X8_prove_L20 p1.1 o_L5.2.2.2.2.2.2.1 f l3_L20 l4_L20 m_most_L20 = some o_L20 → ∀ (H : Heap) (locs : List Loc) (ls : Array Slot), VJ g A s.heap (MW g q m_thrown m_n m_robots o_L5.1 m_rules m_taped m_latest m_size m_at m_sort m_place m_end m_fault m_faultAt m_read p1.1 m_traced m_here o_L5.2.1 o_L5.2.2.1 o_L5.2.2.2.1 o_L5.2.2.2.2.1 m_ruleSize m_ruleRow m_ruleDoes o_L5.2.2.2.2.2.1 m_goes m_tape m_readSize m_readRow m_readDoes m_own p1.2.2.2 o_L5.2.2.2.2.2.2.1 o_L5.2.2.2.2.2.2.2.1 m_isMet m_most_L20 o_L5.2.2.2.2.2.2.2.2.2.1 o_L5.2.2.2.2.2.2.2.2.2.2.1 o_L5.2.2.2.2.2.2.2.2.2.2.2 m_trace) H locs → lv_has ls 8 [(0, .ref (q 0)), (3, .int l3_L20), (4, .int l4_L20)] → (∀ (H : Heap) (locs : List Loc) (ls : Array Slot), VJ g A s.heap (MW g q m_thrown m_n m_robots o_L5.1 m_rules m_taped m_latest m_size m_at m_sort m_place m_end m_fault m_faultAt m_read p1.1 m_traced m_here o_L5.2.1 o_L5.2.2.1 o_L5.2.2.2.1 o_L5.2.2.2.2.1 m_ruleSize m_ruleRow m_ruleDoes o_L5.2.2.2.2.2.1 m_goes m_tape m_readSize m_readRow m_readDoes m_own p1.2.2.2 o_L5.2.2.2.2.2.2.1 o_L5.2.2.2.2.2.2.2.1 m_isMet o_L20.2 o_L5.2.2.2.2.2.2.2.2.2.1 o_L5.2.2.2.2.2.2.2.2.2.2.1 o_L5.2.2.2.2.2.2.2.2.2.2.2 m_trace) H locs → lv_has ls 8 [(0, .ref (q 0)), (3, .int o_L20.1)] → W p l e rm_X8_prove s m args below meth c H locs 0 0 Q (F0 m 286 ls [])) → W p l e rm_X8_prove s m args below meth c H locs 0 0 Q (F0 m 139 ls []) := by
          clear h ho_L20 hl J
          intro f
          induction f with
          | zero => intro l3_L20 l4_L20 m_most_L20 o_L20 h; exact absurd h (by simp [F_X8_prove_L20])
          | succ f ih =>
            intro l3_L20 l4_L20 m_most_L20 o_L20 h H locs ls J hl K_L20
            rw [F_X8_prove_L20.eq_2] at h
            refine lv_iload hx hb dX8_prove_139 (lv_at hl 2 rfl) ?_
            refine lv_aload_n hx hb dX8_prove_141 rfl (lv_at hl 0 rfl) ?_
            refine mg_0_30 F E J fl_X8_221 dX8_prove_142 ?_
            refine lv_icmp_ge (tgt := 286) hx hb dX8_prove_145 (by decide) (fun c21 => ?_) (fun c21 => ?_)
            · have h := itp c21 h
              obtain rfl := Option.some.inj h
              exact K_L20 _ _ _ J (lv_sub hl [0, 1] rfl)
            · have h := itn c21 h
              refine lv_ldc hx hb F.2.2.2.1 (F.2.2.2.2 _ kc_X8_110) dX8_prove_148 ?_
              refine lv_istore (lv' := [(5, .int (-1000000)), (0, .ref (q 0)), (3, .int l3_L20), (4, .int l4_L20)]) hx hb dX8_prove_150 hl (by decide) rfl (fun ls hl => ?_)
              refine lv_aload_n hx hb dX8_prove_152 rfl (lv_at hl 1 rfl) ?_
              refine mg_0_35 F E J fl_X8_72 dX8_prove_153 ?_
              refine lv_iload hx hb dX8_prove_156 (lv_at hl 3 rfl) ?_
              obtain ⟨hi, h⟩ := gdt h
              refine ml_20 F E J (inbt hi) dX8_prove_158 ?_
              refine lv_ldc hx hb F.2.2.2.1 (F.2.2.2.2 _ kc_X8_110) dX8_prove_159 ?_
              obtain ⟨j22, hj22, h⟩ := ob h
              have Kj22 : ∀ (H : Heap) (locs : List Loc) (ls : Array Slot), VJ g A s.heap (MW g q m_thrown m_n m_robots o_L5.1 m_rules m_taped m_latest m_size m_at m_sort m_place m_end m_fault m_faultAt m_read p1.1 m_traced m_here o_L5.2.1 o_L5.2.2.1 o_L5.2.2.2.1 o_L5.2.2.2.2.1 m_ruleSize m_ruleRow m_ruleDoes o_L5.2.2.2.2.2.1 m_goes m_tape m_readSize m_readRow m_readDoes m_own p1.2.2.2 o_L5.2.2.2.2.2.2.1 o_L5.2.2.2.2.2.2.2.1 m_isMet m_most_L20 o_L5.2.2.2.2.2.2.2.2.2.1 o_L5.2.2.2.2.2.2.2.2.2.2.1 o_L5.2.2.2.2.2.2.2.2.2.2.2 m_trace) H locs → lv_has ls 8 [(0, .ref (q 0)), (3, .int l3_L20), (4, .int l4_L20), (5, .int (-1000000))] → W p l e rm_X8_prove s m args below meth c H locs 0 0 Q (F0 m 169 ls [.int j22]) := by
                intro H locs ls J hl
                refine lv_istore (lv' := [(6, .int j22), (0, .ref (q 0)), (3, .int l3_L20), (4, .int l4_L20), (5, .int (-1000000))]) hx hb dX8_prove_169 hl (by decide) rfl (fun ls hl => ?_)
                refine lv_iconst (v := 0) hx hb dX8_prove_171 (by decide) ?_
                refine lv_istore (lv' := [(7, .int 0), (6, .int j22), (0, .ref (q 0)), (3, .int l3_L20), (4, .int l4_L20), (5, .int (-1000000))]) hx hb dX8_prove_172 hl (by decide) rfl (fun ls hl => ?_)
                obtain ⟨o_L24, ho_L24, h⟩ := ob h
                have T_L24 : ∀ (f : Nat) (l5_L24 : Int32) (l6_L24 : Int32) (l7_L24 : Int32) (o_L24 : Int32 × Int32), F_X8_prove_L24 l4_L20 p1.1 o_L5.2.2.2.2.2.2.1 m_most_L20 f l5_L24 l6_L24 l7_L24 = some o_L24 → ∀ (H : Heap) (locs : List Loc) (ls : Array Slot), VJ g A s.heap (MW g q m_thrown m_n m_robots o_L5.1 m_rules m_taped m_latest m_size m_at m_sort m_place m_end m_fault m_faultAt m_read p1.1 m_traced m_here o_L5.2.1 o_L5.2.2.1 o_L5.2.2.2.1 o_L5.2.2.2.2.1 m_ruleSize m_ruleRow m_ruleDoes o_L5.2.2.2.2.2.1 m_goes m_tape m_readSize m_readRow m_readDoes m_own p1.2.2.2 o_L5.2.2.2.2.2.2.1 o_L5.2.2.2.2.2.2.2.1 m_isMet m_most_L20 o_L5.2.2.2.2.2.2.2.2.2.1 o_L5.2.2.2.2.2.2.2.2.2.2.1 o_L5.2.2.2.2.2.2.2.2.2.2.2 m_trace) H locs → lv_has ls 8 [(0, .ref (q 0)), (3, .int l3_L20), (4, .int l4_L20), (5, .int l5_L24), (6, .int l6_L24), (7, .int l7_L24)] → (∀ (H : Heap) (locs : List Loc) (ls : Array Slot), VJ g A s.heap (MW g q m_thrown m_n m_robots o_L5.1 m_rules m_taped m_latest m_size m_at m_sort m_place m_end m_fault m_faultAt m_read p1.1 m_traced m_here o_L5.2.1 o_L5.2.2.1 o_L5.2.2.2.1 o_L5.2.2.2.2.1 m_ruleSize m_ruleRow m_ruleDoes o_L5.2.2.2.2.2.1 m_goes m_tape m_readSize m_readRow m_readDoes m_own p1.2.2.2 o_L5.2.2.2.2.2.2.1 o_L5.2.2.2.2.2.2.2.1 m_isMet m_most_L20 o_L5.2.2.2.2.2.2.2.2.2.1 o_L5.2.2.2.2.2.2.2.2.2.2.1 o_L5.2.2.2.2.2.2.2.2.2.2.2 m_trace) H locs → lv_has ls 8 [(0, .ref (q 0)), (3, .int l3_L20), (4, .int l4_L20), (5, .int o_L24.1), (6, .int o_L24.2)] → W p l e rm_X8_prove s m args below meth c H locs 0 0 Q (F0 m 255 ls [])) → W p l e rm_X8_prove s m args below meth c H locs 0 0 Q (F0 m 174 ls []) := by
                  clear h ho_L24 hl J
                  intro f
                  induction f with
                  | zero => intro l5_L24 l6_L24 l7_L24 o_L24 h; exact absurd h (by simp [F_X8_prove_L24])
                  | succ f ih =>
                    intro l5_L24 l6_L24 l7_L24 o_L24 h H locs ls J hl K_L24
                    rw [F_X8_prove_L24.eq_2] at h
                    refine lv_iload hx hb dX8_prove_174 (lv_at hl 5 rfl) ?_
                    refine lv_aload_n hx hb dX8_prove_176 rfl (lv_at hl 0 rfl) ?_
                    refine mg_0_30 F E J fl_X8_221 dX8_prove_177 ?_
                    refine lv_icmp_ge (tgt := 255) hx hb dX8_prove_180 (by decide) (fun c25 => ?_) (fun c25 => ?_)
                    · have h := itp c25 h
                      obtain rfl := Option.some.inj h
                      exact K_L24 _ _ _ J (lv_sub hl [0, 1, 2, 3, 4] rfl)
                    · have h := itn c25 h
                      refine lv_iload hx hb dX8_prove_183 (lv_at hl 4 rfl) ?_
                      refine lv_if_eq (tgt := 255) hx hb dX8_prove_185 (by decide) (fun c26 => ?_) (fun c26 => ?_)
                      · have h := itp c26 h
                        obtain rfl := Option.some.inj h
                        exact K_L24 _ _ _ J (lv_sub hl [0, 1, 2, 3, 4] rfl)
                      · have h := itn c26 h
                        refine lv_aload_n hx hb dX8_prove_188 rfl (lv_at hl 0 rfl) ?_
                        refine mg_0_32 F E J fl_X8_62 dX8_prove_189 ?_
                        refine lv_bipush (v := 120) hx hb dX8_prove_192 (by decide) ?_
                        refine lv_iload hx hb dX8_prove_194 (lv_at hl 2 rfl) ?_
                        refine lv_imul hx hb dX8_prove_196 ?_
                        refine lv_iload hx hb dX8_prove_197 (lv_at hl 5 rfl) ?_
                        refine lv_iadd hx hb dX8_prove_199 ?_
                        obtain ⟨hi, h⟩ := gdt h
                        refine ml_17 F E J (inbt hi) dX8_prove_200 ?_
                        obtain ⟨j27, hj27, h⟩ := ob h
                        have Kj27 : ∀ (H : Heap) (locs : List Loc) (ls : Array Slot), VJ g A s.heap (MW g q m_thrown m_n m_robots o_L5.1 m_rules m_taped m_latest m_size m_at m_sort m_place m_end m_fault m_faultAt m_read p1.1 m_traced m_here o_L5.2.1 o_L5.2.2.1 o_L5.2.2.2.1 o_L5.2.2.2.2.1 m_ruleSize m_ruleRow m_ruleDoes o_L5.2.2.2.2.2.1 m_goes m_tape m_readSize m_readRow m_readDoes m_own p1.2.2.2 o_L5.2.2.2.2.2.2.1 o_L5.2.2.2.2.2.2.2.1 m_isMet m_most_L20 o_L5.2.2.2.2.2.2.2.2.2.1 o_L5.2.2.2.2.2.2.2.2.2.2.1 o_L5.2.2.2.2.2.2.2.2.2.2.2 m_trace) H locs → lv_has ls 8 [(0, .ref (q 0)), (3, .int l3_L20), (4, .int l4_L20), (5, .int j27.1), (6, .int j27.2), (7, .int l7_L24)] → W p l e rm_X8_prove s m args below meth c H locs 0 0 Q (F0 m 249 ls []) := by
                          intro H locs ls J hl
                          obtain ⟨v33, hv33, h⟩ := obs h
                          refine lv_iinc (v := v33) (lv' := [(7, .int v33), (0, .ref (q 0)), (3, .int l3_L20), (4, .int l4_L20), (5, .int j27.1), (6, .int j27.2)]) hx hb dX8_prove_249 hl (k := 5) rfl (by rw [← hv33]; rfl) (by decide) rfl (fun ls hl => ?_)
                          refine lv_goto (tgt := 174) hx hb dX8_prove_252 (by decide) ?_
                          exact ih _ _ _ _ h _ _ _ J (lv_sub hl [1, 2, 3, 4, 5, 0] rfl) K_L24
                        clear h
                        have h := hj27
                        refine lv_if_eq (tgt := 249) hx hb dX8_prove_201 (by decide) (fun c28 => ?_) (fun c28 => ?_)
                        · have h := itp c28 h
                          obtain rfl := Option.some.inj h
                          exact Kj27 _ _ _ J (lv_sub hl [0, 1, 2, 3, 4, 5] rfl)
                        · have h := itn c28 h
                          refine lv_aload_n hx hb dX8_prove_204 rfl (lv_at hl 0 rfl) ?_
                          refine mg_0_35 F E J fl_X8_72 dX8_prove_205 ?_
                          refine lv_iload hx hb dX8_prove_208 (lv_at hl 5 rfl) ?_
                          obtain ⟨hi, h⟩ := gdt h
                          refine ml_20 F E J (inbt hi) dX8_prove_210 ?_
                          refine lv_ldc hx hb F.2.2.2.1 (F.2.2.2.2 _ kc_X8_110) dX8_prove_211 ?_
                          obtain ⟨j29, hj29, h⟩ := ob h
                          have Kj29 : ∀ (H : Heap) (locs : List Loc) (ls : Array Slot), VJ g A s.heap (MW g q m_thrown m_n m_robots o_L5.1 m_rules m_taped m_latest m_size m_at m_sort m_place m_end m_fault m_faultAt m_read p1.1 m_traced m_here o_L5.2.1 o_L5.2.2.1 o_L5.2.2.2.1 o_L5.2.2.2.2.1 m_ruleSize m_ruleRow m_ruleDoes o_L5.2.2.2.2.2.1 m_goes m_tape m_readSize m_readRow m_readDoes m_own p1.2.2.2 o_L5.2.2.2.2.2.2.1 o_L5.2.2.2.2.2.2.2.1 m_isMet m_most_L20 o_L5.2.2.2.2.2.2.2.2.2.1 o_L5.2.2.2.2.2.2.2.2.2.2.1 o_L5.2.2.2.2.2.2.2.2.2.2.2 m_trace) H locs → lv_has ls 8 [(0, .ref (q 0)), (3, .int l3_L20), (4, .int l4_L20), (5, .int l5_L24), (7, .int l7_L24)] → W p l e rm_X8_prove s m args below meth c H locs 0 0 Q (F0 m 221 ls [.int j29]) := by
                            intro H locs ls J hl
                            refine lv_istore (lv' := [(6, .int j29), (0, .ref (q 0)), (3, .int l3_L20), (4, .int l4_L20), (5, .int l5_L24), (7, .int l7_L24)]) hx hb dX8_prove_221 hl (by decide) rfl (fun ls hl => ?_)
                            refine lv_aload_n hx hb dX8_prove_223 rfl (lv_at hl 1 rfl) ?_
                            refine mg_0_35 F E J fl_X8_72 dX8_prove_224 ?_
                            refine lv_iload hx hb dX8_prove_227 (lv_at hl 5 rfl) ?_
                            obtain ⟨hi, h⟩ := gdt h
                            refine ml_20 F E J (inbt hi) dX8_prove_229 ?_
                            refine lv_iload hx hb dX8_prove_230 (lv_at hl 4 rfl) ?_
                            obtain ⟨j31, hj31, h⟩ := ob h
                            have Kj31 : ∀ (H : Heap) (locs : List Loc) (ls : Array Slot), VJ g A s.heap (MW g q m_thrown m_n m_robots o_L5.1 m_rules m_taped m_latest m_size m_at m_sort m_place m_end m_fault m_faultAt m_read p1.1 m_traced m_here o_L5.2.1 o_L5.2.2.1 o_L5.2.2.2.1 o_L5.2.2.2.2.1 m_ruleSize m_ruleRow m_ruleDoes o_L5.2.2.2.2.2.1 m_goes m_tape m_readSize m_readRow m_readDoes m_own p1.2.2.2 o_L5.2.2.2.2.2.2.1 o_L5.2.2.2.2.2.2.2.1 m_isMet m_most_L20 o_L5.2.2.2.2.2.2.2.2.2.1 o_L5.2.2.2.2.2.2.2.2.2.2.1 o_L5.2.2.2.2.2.2.2.2.2.2.2 m_trace) H locs → lv_has ls 8 [(0, .ref (q 0)), (3, .int l3_L20), (4, .int l4_L20), (6, .int j29), (7, .int l7_L24)] → W p l e rm_X8_prove s m args below meth c H locs 0 0 Q (F0 m 247 ls [.int j31]) := by
                              intro H locs ls J hl
                              refine lv_istore (lv' := [(5, .int j31), (0, .ref (q 0)), (3, .int l3_L20), (4, .int l4_L20), (6, .int j29), (7, .int l7_L24)]) hx hb dX8_prove_247 hl (by decide) rfl (fun ls hl => ?_)
                              obtain rfl := Option.some.inj h
                              exact Kj27 _ _ _ J (lv_sub hl [1, 2, 3, 0, 4, 5] rfl)
                            clear h
                            have h := hj31
                            refine lv_icmp_le (tgt := 245) hx hb dX8_prove_232 (by decide) (fun c32 => ?_) (fun c32 => ?_)
                            · have h := itp c32 h
                              refine lv_iload hx hb dX8_prove_245 (lv_at hl 4 rfl) ?_
                              obtain rfl := Option.some.inj h
                              exact Kj31 _ _ _ J (lv_sub hl [1, 2, 3, 0, 5] rfl)
                            · have h := itn c32 h
                              refine lv_aload_n hx hb dX8_prove_235 rfl (lv_at hl 1 rfl) ?_
                              refine mg_0_35 F E J fl_X8_72 dX8_prove_236 ?_
                              refine lv_iload hx hb dX8_prove_239 (lv_at hl 5 rfl) ?_
                              obtain ⟨hi, h⟩ := gdt h
                              refine ml_20 F E J (inbt hi) dX8_prove_241 ?_
                              refine lv_goto (tgt := 247) hx hb dX8_prove_242 (by decide) ?_
                              obtain rfl := Option.some.inj h
                              exact Kj31 _ _ _ J (lv_sub hl [1, 2, 3, 0, 5] rfl)
                          clear h
                          have h := hj29
                          refine lv_icmp_eq (tgt := 220) hx hb dX8_prove_213 (by decide) (fun c30 => ?_) (fun c30 => ?_)
                          · have h := itp c30 h
                            refine lv_iconst (v := 0) hx hb dX8_prove_220 (by decide) ?_
                            obtain rfl := Option.some.inj h
                            exact Kj29 _ _ _ J (lv_sub hl [0, 1, 2, 3, 5] rfl)
                          · have h := itn c30 h
                            refine lv_iconst (v := 1) hx hb dX8_prove_216 (by decide) ?_
                            refine lv_goto (tgt := 221) hx hb dX8_prove_217 (by decide) ?_
                            obtain rfl := Option.some.inj h
                            exact Kj29 _ _ _ J (lv_sub hl [0, 1, 2, 3, 5] rfl)
                refine T_L24 FU (-1000000) j22 0 o_L24 ho_L24 _ _ _ J (lv_sub hl [2, 3, 4, 5, 1, 0] rfl) (fun H locs ls J hl => ?_)
                refine lv_iload hx hb dX8_prove_255 (lv_at hl 4 rfl) ?_
                obtain ⟨j34, hj34, h⟩ := ob h
                have Kj34 : ∀ (H : Heap) (locs : List Loc) (ls : Array Slot), VJ g A s.heap (MW g q m_thrown m_n m_robots o_L5.1 m_rules m_taped m_latest m_size m_at m_sort m_place m_end m_fault m_faultAt m_read p1.1 m_traced m_here o_L5.2.1 o_L5.2.2.1 o_L5.2.2.2.1 o_L5.2.2.2.2.1 m_ruleSize m_ruleRow m_ruleDoes o_L5.2.2.2.2.2.1 m_goes m_tape m_readSize m_readRow m_readDoes m_own p1.2.2.2 o_L5.2.2.2.2.2.2.1 o_L5.2.2.2.2.2.2.2.1 m_isMet j34.2 o_L5.2.2.2.2.2.2.2.2.2.1 o_L5.2.2.2.2.2.2.2.2.2.2.1 o_L5.2.2.2.2.2.2.2.2.2.2.2 m_trace) H locs → lv_has ls 8 [(0, .ref (q 0)), (3, .int j34.1), (4, .int l4_L20)] → W p l e rm_X8_prove s m args below meth c H locs 0 0 Q (F0 m 280 ls []) := by
                  intro H locs ls J hl
                  obtain ⟨v38, hv38, h⟩ := obs h
                  refine lv_iinc (v := v38) (lv' := [(4, .int v38), (0, .ref (q 0)), (3, .int j34.1)]) hx hb dX8_prove_280 hl (k := 2) rfl (by rw [← hv38]; rfl) (by decide) rfl (fun ls hl => ?_)
                  refine lv_goto (tgt := 139) hx hb dX8_prove_283 (by decide) ?_
                  exact ih _ _ _ _ h _ _ _ J (lv_sub hl [1, 2, 0] rfl) K_L20
                clear h
                have h := hj34
                refine lv_if_eq (tgt := 280) hx hb dX8_prove_257 (by decide) (fun c35 => ?_) (fun c35 => ?_)
                · have h := itp c35 h
                  obtain rfl := Option.some.inj h
                  exact Kj34 _ _ _ J (lv_sub hl [0, 1, 2] rfl)
                · have h := itn c35 h
                  refine lv_iload hx hb dX8_prove_260 (lv_at hl 3 rfl) ?_
                  refine lv_ldc hx hb F.2.2.2.1 (F.2.2.2.2 _ kc_X8_110) dX8_prove_262 ?_
                  refine lv_icmp_eq (tgt := 280) hx hb dX8_prove_264 (by decide) (fun c36 => ?_) (fun c36 => ?_)
                  · have h := itp c36 h
                    obtain rfl := Option.some.inj h
                    exact Kj34 _ _ _ J (lv_sub hl [0, 1, 2] rfl)
                  · have h := itn c36 h
                    refine lv_aload_n hx hb dX8_prove_267 rfl (lv_at hl 0 rfl) ?_
                    refine mg_0_35 F E J fl_X8_72 dX8_prove_268 ?_
                    refine lv_iload hx hb dX8_prove_271 (lv_at hl 2 rfl) ?_
                    refine lv_iload hx hb dX8_prove_273 (lv_at hl 3 rfl) ?_
                    refine lv_iconst (v := 1) hx hb dX8_prove_275 (by decide) ?_
                    refine lv_iadd hx hb dX8_prove_276 ?_
                    obtain ⟨v37, hv37, h⟩ := obs h
                    refine nmI hv37 ?_
                    obtain ⟨hi, h⟩ := gdt h
                    refine ms_20 F E J (inbt hi) dX8_prove_277 (fun H locs J => ?_)
                    refine lv_iconst (v := 1) hx hb dX8_prove_278 (by decide) ?_
                    refine lv_istore_n (lv' := [(3, .int 1), (0, .ref (q 0)), (4, .int l4_L20), (5, .int o_L24.1), (6, .int o_L24.2)]) hx hb dX8_prove_279 rfl hl (by decide) rfl (fun ls hl => ?_)
                    obtain rfl := Option.some.inj h
                    exact Kj34 _ _ _ J (lv_sub hl [1, 0, 2] rfl)
              clear h
              have h := hj22
              refine lv_icmp_ne (tgt := 168) hx hb dX8_prove_161 (by decide) (fun c23 => ?_) (fun c23 => ?_)
              · have h := itn c23 h
                refine lv_iconst (v := 0) hx hb dX8_prove_168 (by decide) ?_
                obtain rfl := Option.some.inj h
                exact Kj22 _ _ _ J (lv_sub hl [1, 2, 3, 0] rfl)
              · have h := itp c23 h
                refine lv_iconst (v := 1) hx hb dX8_prove_164 (by decide) ?_
                refine lv_goto (tgt := 169) hx hb dX8_prove_165 (by decide) ?_
                obtain rfl := Option.some.inj h
                exact Kj22 _ _ _ J (lv_sub hl [1, 2, 3, 0] rfl)
        refine T_L20 FU 0 0 m_most_L18 o_L20 ho_L20 _ _ _ J (lv_sub hl [2, 1, 0] rfl) (fun H locs ls J hl => ?_)
        refine lv_goto (tgt := 130) hx hb dX8_prove_286 (by decide) ?_
        exact ih _ _ _ h _ _ _ J (lv_sub hl [0, 1] rfl) K_L18
  refine T_L18 FU 1 o_L5.2.2.2.2.2.2.2.2.1 o_L18 ho_L18 _ _ _ J (lv_sub hl [1, 0] rfl) (fun H locs ls J hl => ?_)
  obtain rfl := Option.some.inj h
  exact ret _ _ _ _ J dX8_prove_289
set_option maxHeartbeats 4000000 in
set_option maxRecDepth 100000 in
theorem c_X8_proves {l : Launch} {g : GG} {A : Nat → Prop} {q : Nat → Nat} {m_thrown m_n m_robots m_viewed m_rules m_taped m_latest m_size m_at m_sort m_place m_end m_fault m_faultAt m_read m_crowds m_traced : Int32} {m_here m_hand m_view m_up m_down m_ruleSize m_ruleRow m_ruleDoes m_name m_goes m_tape m_readSize m_readRow m_readDoes m_own m_crowd m_isStep m_isOfGoal m_isMet m_most m_stands m_doesHere m_from m_trace : Nat → Int32} (a0 : Int32) (a1 : Int32) (a2 : Int32) (res : Int32 × Int32 × Int32 × Int32 × (Nat → Int32) × (Nat → Int32) × (Nat → Int32) × (Nat → Int32) × (Nat → Int32) × (Nat → Int32) × (Nat → Int32) × (Nat → Int32) × (Nat → Int32) × (Nat → Int32) × (Nat → Int32) × (Nat → Int32) × (Nat → Int32)) (h : F_X8_proves a0 a1 a2 m_n m_robots m_viewed m_rules m_crowds m_here m_hand m_view m_up m_down m_ruleSize m_ruleRow m_ruleDoes m_name m_crowd m_isStep m_isOfGoal m_isMet m_most m_stands m_doesHere m_from = some res) : Met l yX8_proves (wS yX8_proves cX8_proves 10 (some .int)) rm_X8_proves (va_Pc [.ref (q 0), .int a0, .int a1, .int a2] (VB g A (MW g q m_thrown m_n m_robots m_viewed m_rules m_taped m_latest m_size m_at m_sort m_place m_end m_fault m_faultAt m_read m_crowds m_traced m_here m_hand m_view m_up m_down m_ruleSize m_ruleRow m_ruleDoes m_name m_goes m_tape m_readSize m_readRow m_readDoes m_own m_crowd m_isStep m_isOfGoal m_isMet m_most m_stands m_doesHere m_from m_trace))) (va_Qi (fun r (_ : Unit) => r = res.1) (fun _ => VB g A (MW g q res.2.1 m_n m_robots res.2.2.1 m_rules m_taped m_latest m_size m_at m_sort m_place m_end m_fault m_faultAt m_read res.2.2.2.1 m_traced m_here res.2.2.2.2.1 res.2.2.2.2.2.1 res.2.2.2.2.2.2.1 res.2.2.2.2.2.2.2.1 m_ruleSize m_ruleRow m_ruleDoes res.2.2.2.2.2.2.2.2.1 m_goes m_tape m_readSize m_readRow m_readDoes m_own res.2.2.2.2.2.2.2.2.2.1 res.2.2.2.2.2.2.2.2.2.2.1 res.2.2.2.2.2.2.2.2.2.2.2.1 res.2.2.2.2.2.2.2.2.2.2.2.2.1 res.2.2.2.2.2.2.2.2.2.2.2.2.2.1 res.2.2.2.2.2.2.2.2.2.2.2.2.2.2.1 res.2.2.2.2.2.2.2.2.2.2.2.2.2.2.2.1 res.2.2.2.2.2.2.2.2.2.2.2.2.2.2.2.2 m_trace)) A) 0 0 A := by
  unfold F_X8_proves at h
  refine MetI (res := res.1) (own := RX8) (ws' := (MW g q res.2.1 m_n m_robots res.2.2.1 m_rules m_taped m_latest m_size m_at m_sort m_place m_end m_fault m_faultAt m_read res.2.2.2.1 m_traced m_here res.2.2.2.2.1 res.2.2.2.2.2.1 res.2.2.2.2.2.2.1 res.2.2.2.2.2.2.2.1 m_ruleSize m_ruleRow m_ruleDoes res.2.2.2.2.2.2.2.2.1 m_goes m_tape m_readSize m_readRow m_readDoes m_own res.2.2.2.2.2.2.2.2.2.1 res.2.2.2.2.2.2.2.2.2.2.1 res.2.2.2.2.2.2.2.2.2.2.2.1 res.2.2.2.2.2.2.2.2.2.2.2.2.1 res.2.2.2.2.2.2.2.2.2.2.2.2.2.1 res.2.2.2.2.2.2.2.2.2.2.2.2.2.2.1 res.2.2.2.2.2.2.2.2.2.2.2.2.2.2.2.1 res.2.2.2.2.2.2.2.2.2.2.2.2.2.2.2.2 m_trace)) (by decide) rfl (Nat.le_of_ble_eq_true rfl) ?_
  intro p e s m args below meth c Q F E ret ls J hl
  have hx := F.1
  have hb := F.2.1
  have hl : lv_has ls 10 [(0, .ref (q 0)), (1, .int a0), (2, .int a1), (3, .int a2)] := hl
  refine lv_aload_n hx hb dX8_proves_0 rfl (lv_at hl 0 rfl) ?_
  refine lv_iconst (v := 0) hx hb dX8_proves_1 (by decide) ?_
  refine mp_0_0 F E J fl_X8_1 dX8_proves_2 (fun H locs J => ?_)
  refine lv_iload_n hx hb dX8_proves_5 rfl (lv_at hl 1 rfl) ?_
  refine lv_i2l (v := (Int32.toInt64 a0)) hx hb dX8_proves_6 rfl ?_
  refine lv_lconst (v := 0) hx hb dX8_proves_7 (by decide) ?_
  refine lv_ldc2 hx hb F.2.2.2.1 (F.2.2.2.2 _ kc_X8_131) dX8_proves_8 ?_
  obtain ⟨p1, hp1, h⟩ := ob h
  refine onZ (runS (As := [.long (Int32.toInt64 a0), .long 0, .long 2]) (rest := []) F E J (c_X8_in (Int32.toInt64 a0) 0 2 p1 hp1) cw_X8_90 ⟨rfl, rfl, Nat.le_of_ble_eq_true rfl, Nat.le_of_ble_eq_true rfl⟩ rfl hl.1 rfl (Nat.le_of_ble_eq_true rfl) dX8_proves_11) J (fun hzbp1 H locs J => ?_)
  refine lv_if_eq (tgt := 41) hx hb dX8_proves_14 (by decide) (fun c2 => ?_) (fun c2 => ?_)
  · have h := itp c2 h
    refine lv_ldc hx hb F.2.2.2.1 (F.2.2.2.2 _ kc_X8_98) dX8_proves_41 ?_
    obtain rfl := Option.some.inj h
    exact ret _ _ _ _ J dX8_proves_43
  · have h := itn c2 h
    refine lv_iload_n hx hb dX8_proves_17 rfl (lv_at hl 2 rfl) ?_
    refine lv_i2l (v := (Int32.toInt64 a1)) hx hb dX8_proves_18 rfl ?_
    refine lv_lconst (v := 0) hx hb dX8_proves_19 (by decide) ?_
    refine lv_ldc2 hx hb F.2.2.2.1 (F.2.2.2.2 _ kc_X8_131) dX8_proves_20 ?_
    obtain ⟨p3, hp3, h⟩ := ob h
    refine onZ (runS (As := [.long (Int32.toInt64 a1), .long 0, .long 2]) (rest := []) F E J (c_X8_in (Int32.toInt64 a1) 0 2 p3 hp3) cw_X8_90 ⟨rfl, rfl, Nat.le_of_ble_eq_true rfl, Nat.le_of_ble_eq_true rfl⟩ rfl hl.1 rfl (Nat.le_of_ble_eq_true rfl) dX8_proves_23) J (fun hzbp3 H locs J => ?_)
    refine lv_if_eq (tgt := 41) hx hb dX8_proves_26 (by decide) (fun c4 => ?_) (fun c4 => ?_)
    · have h := itp c4 h
      refine lv_ldc hx hb F.2.2.2.1 (F.2.2.2.2 _ kc_X8_98) dX8_proves_41 ?_
      obtain rfl := Option.some.inj h
      exact ret _ _ _ _ J dX8_proves_43
    · have h := itn c4 h
      refine lv_iload_n hx hb dX8_proves_29 rfl (lv_at hl 3 rfl) ?_
      refine lv_i2l (v := (Int32.toInt64 a2)) hx hb dX8_proves_30 rfl ?_
      refine lv_lconst (v := 0) hx hb dX8_proves_31 (by decide) ?_
      refine lv_ldc2 hx hb F.2.2.2.1 (F.2.2.2.2 _ kc_X8_234) dX8_proves_32 ?_
      obtain ⟨p5, hp5, h⟩ := ob h
      refine onZ (runS (As := [.long (Int32.toInt64 a2), .long 0, .long 4]) (rest := []) F E J (c_X8_in (Int32.toInt64 a2) 0 4 p5 hp5) cw_X8_90 ⟨rfl, rfl, Nat.le_of_ble_eq_true rfl, Nat.le_of_ble_eq_true rfl⟩ rfl hl.1 rfl (Nat.le_of_ble_eq_true rfl) dX8_proves_35) J (fun hzbp5 H locs J => ?_)
      refine lv_if_ne (tgt := 44) hx hb dX8_proves_38 (by decide) (fun c6 => ?_) (fun c6 => ?_)
      · have h := itn c6 h
        refine lv_aload_n hx hb dX8_proves_44 rfl (lv_at hl 0 rfl) ?_
        refine mg_0_2 F E J fl_X8_99 dX8_proves_45 ?_
        refine lv_if_ne (tgt := 54) hx hb dX8_proves_48 (by decide) (fun c7 => ?_) (fun c7 => ?_)
        · have h := itn c7 h
          refine lv_aload_n hx hb dX8_proves_54 rfl (lv_at hl 0 rfl) ?_
          refine lv_iload_n hx hb dX8_proves_55 rfl (lv_at hl 1 rfl) ?_
          refine lv_iload_n hx hb dX8_proves_56 rfl (lv_at hl 2 rfl) ?_
          obtain ⟨p8, hp8, h⟩ := ob h
          refine onV (runV (As := [.int a0, .int a1]) (rest := []) F E J (c_X8_prove a0 a1 p8 hp8) cw_X8_236 ⟨rfl, rfl, Nat.le_of_ble_eq_true rfl, Nat.le_of_ble_eq_true rfl⟩ rcM0 rfl hl.1 rfl (Nat.le_of_ble_eq_true rfl) dX8_proves_57) J (fun H locs J => ?_)
          refine lv_aload_n hx hb dX8_proves_60 rfl (lv_at hl 0 rfl) ?_
          obtain ⟨p9, hp9, h⟩ := ob h
          refine onV (runV (As := []) (rest := []) F E J (c_X8_take  p9 hp9) cw_X8_111 ⟨rfl, rfl, Nat.le_of_ble_eq_true rfl, Nat.le_of_ble_eq_true rfl⟩ rcM0 rfl hl.1 rfl (Nat.le_of_ble_eq_true rfl) dX8_proves_61) J (fun H locs J => ?_)
          refine lv_aload_n hx hb dX8_proves_64 rfl (lv_at hl 0 rfl) ?_
          obtain ⟨p10, hp10, h⟩ := ob h
          refine onV (runV (As := []) (rest := []) F E J (c_X8_findName  p10 hp10) cw_X8_128 ⟨rfl, rfl, Nat.le_of_ble_eq_true rfl, Nat.le_of_ble_eq_true rfl⟩ rcM0 rfl hl.1 rfl (Nat.le_of_ble_eq_true rfl) dX8_proves_65) J (fun H locs J => ?_)
          refine lv_aload_n hx hb dX8_proves_68 rfl (lv_at hl 0 rfl) ?_
          obtain ⟨p11, hp11, h⟩ := ob h
          refine onI (runV (As := []) (rest := []) F E J (c_X8_numberOfName  p11 hp11) cw_X8_224 ⟨rfl, rfl, Nat.le_of_ble_eq_true rfl, Nat.le_of_ble_eq_true rfl⟩ rcM0 rfl hl.1 rfl (Nat.le_of_ble_eq_true rfl) dX8_proves_69) J (fun H locs J => ?_)
          refine lv_istore (lv' := [(4, .int p11), (0, .ref (q 0)), (1, .int a0), (2, .int a1), (3, .int a2)]) hx hb dX8_proves_72 hl (by decide) rfl (fun ls hl => ?_)
          refine lv_iload_n hx hb dX8_proves_74 rfl (lv_at hl 4 rfl) ?_
          refine lv_if_ne (tgt := 96) hx hb dX8_proves_75 (by decide) (fun c12 => ?_) (fun c12 => ?_)
          · have h := itn c12 h
            refine lv_iload_n hx hb dX8_proves_96 rfl (lv_at hl 4 rfl) ?_
            refine lv_iconst (v := 4) hx hb dX8_proves_97 (by decide) ?_
            refine lv_icmp_ne (tgt := 109) hx hb dX8_proves_98 (by decide) (fun c13 => ?_) (fun c13 => ?_)
            · have h := itn c13 h
              refine lv_iconst (v := 0) hx hb dX8_proves_109 (by decide) ?_
              refine lv_istore (lv' := [(5, .int 0), (4, .int p11), (0, .ref (q 0)), (1, .int a0), (2, .int a1), (3, .int a2)]) hx hb dX8_proves_110 hl (by decide) rfl (fun ls hl => ?_)
              obtain ⟨o_L14, ho_L14, h⟩ := ob h
              have T_L14 : ∀ (f : Nat) (l5_L14 : Int32) (m_isMet_L14 : Nat → Int32) (o_L14 : Nat → Int32), F_X8_proves_L14 p11 p8.2.1 f l5_L14 m_isMet_L14 = some o_L14 → ∀ (H : Heap) (locs : List Loc) (ls : Array Slot), VJ g A s.heap (MW g q 0 m_n m_robots p8.1 m_rules m_taped m_latest m_size m_at m_sort m_place m_end m_fault m_faultAt m_read p8.2.1 m_traced m_here p9 p8.2.2.2.1 p8.2.2.2.2.1 p8.2.2.2.2.2.1 m_ruleSize m_ruleRow m_ruleDoes p10 m_goes m_tape m_readSize m_readRow m_readDoes m_own p8.2.2.2.2.2.2.2.1 p8.2.2.2.2.2.2.2.2.1 p8.2.2.2.2.2.2.2.2.2.1 m_isMet_L14 p8.2.2.2.2.2.2.2.2.2.2.1 p8.2.2.2.2.2.2.2.2.2.2.2.1 p8.2.2.2.2.2.2.2.2.2.2.2.2.1 p8.2.2.2.2.2.2.2.2.2.2.2.2.2 m_trace) H locs → lv_has ls 10 [(0, .ref (q 0)), (3, .int a2), (4, .int p11), (5, .int l5_L14)] → (∀ (H : Heap) (locs : List Loc) (ls : Array Slot), VJ g A s.heap (MW g q 0 m_n m_robots p8.1 m_rules m_taped m_latest m_size m_at m_sort m_place m_end m_fault m_faultAt m_read p8.2.1 m_traced m_here p9 p8.2.2.2.1 p8.2.2.2.2.1 p8.2.2.2.2.2.1 m_ruleSize m_ruleRow m_ruleDoes p10 m_goes m_tape m_readSize m_readRow m_readDoes m_own p8.2.2.2.2.2.2.2.1 p8.2.2.2.2.2.2.2.2.1 p8.2.2.2.2.2.2.2.2.2.1 o_L14 p8.2.2.2.2.2.2.2.2.2.2.1 p8.2.2.2.2.2.2.2.2.2.2.2.1 p8.2.2.2.2.2.2.2.2.2.2.2.2.1 p8.2.2.2.2.2.2.2.2.2.2.2.2.2 m_trace) H locs → lv_has ls 10 [(0, .ref (q 0)), (3, .int a2)] → W p l e rm_X8_proves s m args below meth c H locs 0 0 Q (F0 m 146 ls [])) → W p l e rm_X8_proves s m args below meth c H locs 0 0 Q (F0 m 112 ls []) := by
                clear h ho_L14 hl J
                intro f
                induction f with
                | zero => intro l5_L14 m_isMet_L14 o_L14 h; exact absurd h (by simp [F_X8_proves_L14])
                | succ f ih =>
                  intro l5_L14 m_isMet_L14 o_L14 h H locs ls J hl K_L14
                  rw [F_X8_proves_L14.eq_2] at h
                  refine lv_iload hx hb dX8_proves_112 (lv_at hl 3 rfl) ?_
                  refine lv_aload_n hx hb dX8_proves_114 rfl (lv_at hl 0 rfl) ?_
                  refine mg_0_30 F E J fl_X8_221 dX8_proves_115 ?_
                  refine lv_icmp_ge (tgt := 146) hx hb dX8_proves_118 (by decide) (fun c15 => ?_) (fun c15 => ?_)
                  · have h := itp c15 h
                    obtain rfl := Option.some.inj h
                    exact K_L14 _ _ _ J (lv_sub hl [0, 1] rfl)
                  · have h := itn c15 h
                    refine lv_aload_n hx hb dX8_proves_121 rfl (lv_at hl 0 rfl) ?_
                    refine mg_0_34 F E J fl_X8_69 dX8_proves_122 ?_
                    refine lv_iload hx hb dX8_proves_125 (lv_at hl 3 rfl) ?_
                    refine lv_iload hx hb dX8_proves_127 (lv_at hl 3 rfl) ?_
                    refine lv_iload hx hb dX8_proves_129 (lv_at hl 2 rfl) ?_
                    obtain ⟨j16, hj16, h⟩ := ob h
                    have Kj16 : ∀ (H : Heap) (locs : List Loc) (ls : Array Slot), VJ g A s.heap (MW g q 0 m_n m_robots p8.1 m_rules m_taped m_latest m_size m_at m_sort m_place m_end m_fault m_faultAt m_read p8.2.1 m_traced m_here p9 p8.2.2.2.1 p8.2.2.2.2.1 p8.2.2.2.2.2.1 m_ruleSize m_ruleRow m_ruleDoes p10 m_goes m_tape m_readSize m_readRow m_readDoes m_own p8.2.2.2.2.2.2.2.1 p8.2.2.2.2.2.2.2.2.1 p8.2.2.2.2.2.2.2.2.2.1 m_isMet_L14 p8.2.2.2.2.2.2.2.2.2.2.1 p8.2.2.2.2.2.2.2.2.2.2.2.1 p8.2.2.2.2.2.2.2.2.2.2.2.2.1 p8.2.2.2.2.2.2.2.2.2.2.2.2.2 m_trace) H locs → lv_has ls 10 [(0, .ref (q 0)), (3, .int a2), (4, .int p11), (5, .int l5_L14)] → W p l e rm_X8_proves s m args below meth c H locs 0 0 Q (F0 m 139 ls [.int j16, .int l5_L14, .ref (q 19)]) := by
                      intro H locs ls J hl
                      obtain ⟨hi, h⟩ := gdt h
                      refine ms_19 F E J (inbt hi) dX8_proves_139 (fun H locs J => ?_)
                      obtain ⟨v18, hv18, h⟩ := obs h
                      refine lv_iinc (v := v18) (lv' := [(5, .int v18), (0, .ref (q 0)), (3, .int a2), (4, .int p11)]) hx hb dX8_proves_140 hl (k := 3) rfl (by rw [← hv18]; rfl) (by decide) rfl (fun ls hl => ?_)
                      refine lv_goto (tgt := 112) hx hb dX8_proves_143 (by decide) ?_
                      exact ih _ _ _ h _ _ _ J (lv_sub hl [1, 2, 3, 0] rfl) K_L14
                    clear h
                    have h := hj16
                    refine lv_icmp_ne (tgt := 138) hx hb dX8_proves_131 (by decide) (fun c17 => ?_) (fun c17 => ?_)
                    · have h := itn c17 h
                      refine lv_iconst (v := 0) hx hb dX8_proves_138 (by decide) ?_
                      obtain rfl := Option.some.inj h
                      exact Kj16 _ _ _ J (lv_sub hl [0, 1, 2, 3] rfl)
                    · have h := itp c17 h
                      refine lv_iconst (v := 1) hx hb dX8_proves_134 (by decide) ?_
                      refine lv_goto (tgt := 139) hx hb dX8_proves_135 (by decide) ?_
                      obtain rfl := Option.some.inj h
                      exact Kj16 _ _ _ J (lv_sub hl [0, 1, 2, 3] rfl)
              refine T_L14 FU 0 m_isMet o_L14 ho_L14 _ _ _ J (lv_sub hl [2, 5, 1, 0] rfl) (fun H locs ls J hl => ?_)
              refine lv_iconst (v := 1) hx hb dX8_proves_146 (by decide) ?_
              refine lv_istore (lv' := [(5, .int 1), (0, .ref (q 0)), (3, .int a2)]) hx hb dX8_proves_147 hl (by decide) rfl (fun ls hl => ?_)
              obtain ⟨o_L19, ho_L19, h⟩ := ob h
              have T_L19 : ∀ (f : Nat) (l5_L19 : Int32) (m_isMet_L19 : Nat → Int32) (o_L19 : Nat → Int32), F_X8_proves_L19 p8.2.1 p8.2.2.2.2.2.2.2.2.1 f l5_L19 m_isMet_L19 = some o_L19 → ∀ (H : Heap) (locs : List Loc) (ls : Array Slot), VJ g A s.heap (MW g q 0 m_n m_robots p8.1 m_rules m_taped m_latest m_size m_at m_sort m_place m_end m_fault m_faultAt m_read p8.2.1 m_traced m_here p9 p8.2.2.2.1 p8.2.2.2.2.1 p8.2.2.2.2.2.1 m_ruleSize m_ruleRow m_ruleDoes p10 m_goes m_tape m_readSize m_readRow m_readDoes m_own p8.2.2.2.2.2.2.2.1 p8.2.2.2.2.2.2.2.2.1 p8.2.2.2.2.2.2.2.2.2.1 m_isMet_L19 p8.2.2.2.2.2.2.2.2.2.2.1 p8.2.2.2.2.2.2.2.2.2.2.2.1 p8.2.2.2.2.2.2.2.2.2.2.2.2.1 p8.2.2.2.2.2.2.2.2.2.2.2.2.2 m_trace) H locs → lv_has ls 10 [(0, .ref (q 0)), (3, .int a2), (5, .int l5_L19)] → (∀ (H : Heap) (locs : List Loc) (ls : Array Slot), VJ g A s.heap (MW g q 0 m_n m_robots p8.1 m_rules m_taped m_latest m_size m_at m_sort m_place m_end m_fault m_faultAt m_read p8.2.1 m_traced m_here p9 p8.2.2.2.1 p8.2.2.2.2.1 p8.2.2.2.2.2.1 m_ruleSize m_ruleRow m_ruleDoes p10 m_goes m_tape m_readSize m_readRow m_readDoes m_own p8.2.2.2.2.2.2.2.1 p8.2.2.2.2.2.2.2.2.1 p8.2.2.2.2.2.2.2.2.2.1 o_L19 p8.2.2.2.2.2.2.2.2.2.2.1 p8.2.2.2.2.2.2.2.2.2.2.2.1 p8.2.2.2.2.2.2.2.2.2.2.2.2.1 p8.2.2.2.2.2.2.2.2.2.2.2.2.2 m_trace) H locs → lv_has ls 10 [(0, .ref (q 0)), (3, .int a2)] → W p l e rm_X8_proves s m args below meth c H locs 0 0 Q (F0 m 243 ls [])) → W p l e rm_X8_proves s m args below meth c H locs 0 0 Q (F0 m 149 ls []) := by
                clear h ho_L19 hl J
                intro f
                induction f with
                | zero => intro l5_L19 m_isMet_L19 o_L19 h; exact absurd h (by simp [F_X8_proves_L19])
                | succ f ih =>
                  intro l5_L19 m_isMet_L19 o_L19 h H locs ls J hl K_L19
                  rw [F_X8_proves_L19.eq_2] at h
                  refine lv_iload hx hb dX8_proves_149 (lv_at hl 2 rfl) ?_
                  refine lv_if_eq (tgt := 243) hx hb dX8_proves_151 (by decide) (fun c20 => ?_) (fun c20 => ?_)
                  · have h := itp c20 h
                    obtain rfl := Option.some.inj h
                    exact K_L19 _ _ _ J (lv_sub hl [0, 1] rfl)
                  · have h := itn c20 h
                    refine lv_iconst (v := 0) hx hb dX8_proves_154 (by decide) ?_
                    refine lv_istore (lv' := [(5, .int 0), (0, .ref (q 0)), (3, .int a2)]) hx hb dX8_proves_155 hl (by decide) rfl (fun ls hl => ?_)
                    refine lv_iconst (v := 0) hx hb dX8_proves_157 (by decide) ?_
                    refine lv_istore (lv' := [(6, .int 0), (5, .int 0), (0, .ref (q 0)), (3, .int a2)]) hx hb dX8_proves_158 hl (by decide) rfl (fun ls hl => ?_)
                    obtain ⟨o_L21, ho_L21, h⟩ := ob h
                    have T_L21 : ∀ (f : Nat) (l5_L21 : Int32) (l6_L21 : Int32) (m_isMet_L21 : Nat → Int32) (o_L21 : Int32 × (Nat → Int32)), F_X8_proves_L21 p8.2.1 p8.2.2.2.2.2.2.2.2.1 f l5_L21 l6_L21 m_isMet_L21 = some o_L21 → ∀ (H : Heap) (locs : List Loc) (ls : Array Slot), VJ g A s.heap (MW g q 0 m_n m_robots p8.1 m_rules m_taped m_latest m_size m_at m_sort m_place m_end m_fault m_faultAt m_read p8.2.1 m_traced m_here p9 p8.2.2.2.1 p8.2.2.2.2.1 p8.2.2.2.2.2.1 m_ruleSize m_ruleRow m_ruleDoes p10 m_goes m_tape m_readSize m_readRow m_readDoes m_own p8.2.2.2.2.2.2.2.1 p8.2.2.2.2.2.2.2.2.1 p8.2.2.2.2.2.2.2.2.2.1 m_isMet_L21 p8.2.2.2.2.2.2.2.2.2.2.1 p8.2.2.2.2.2.2.2.2.2.2.2.1 p8.2.2.2.2.2.2.2.2.2.2.2.2.1 p8.2.2.2.2.2.2.2.2.2.2.2.2.2 m_trace) H locs → lv_has ls 10 [(0, .ref (q 0)), (3, .int a2), (5, .int l5_L21), (6, .int l6_L21)] → (∀ (H : Heap) (locs : List Loc) (ls : Array Slot), VJ g A s.heap (MW g q 0 m_n m_robots p8.1 m_rules m_taped m_latest m_size m_at m_sort m_place m_end m_fault m_faultAt m_read p8.2.1 m_traced m_here p9 p8.2.2.2.1 p8.2.2.2.2.1 p8.2.2.2.2.2.1 m_ruleSize m_ruleRow m_ruleDoes p10 m_goes m_tape m_readSize m_readRow m_readDoes m_own p8.2.2.2.2.2.2.2.1 p8.2.2.2.2.2.2.2.2.1 p8.2.2.2.2.2.2.2.2.2.1 o_L21.2 p8.2.2.2.2.2.2.2.2.2.2.1 p8.2.2.2.2.2.2.2.2.2.2.2.1 p8.2.2.2.2.2.2.2.2.2.2.2.2.1 p8.2.2.2.2.2.2.2.2.2.2.2.2.2 m_trace) H locs → lv_has ls 10 [(0, .ref (q 0)), (3, .int a2), (5, .int o_L21.1)] → W p l e rm_X8_proves s m args below meth c H locs 0 0 Q (F0 m 240 ls [])) → W p l e rm_X8_proves s m args below meth c H locs 0 0 Q (F0 m 160 ls []) := by
                      clear h ho_L21 hl J
                      intro f
                      induction f with
                      | zero => intro l5_L21 l6_L21 m_isMet_L21 o_L21 h; exact absurd h (by simp [F_X8_proves_L21])
                      | succ f ih =>
                        intro l5_L21 l6_L21 m_isMet_L21 o_L21 h H locs ls J hl K_L21
                        rw [F_X8_proves_L21.eq_2] at h
                        refine lv_iload hx hb dX8_proves_160 (lv_at hl 3 rfl) ?_
                        refine lv_aload_n hx hb dX8_proves_162 rfl (lv_at hl 0 rfl) ?_
                        refine mg_0_30 F E J fl_X8_221 dX8_proves_163 ?_
                        refine lv_icmp_ge (tgt := 240) hx hb dX8_proves_166 (by decide) (fun c22 => ?_) (fun c22 => ?_)
                        · have h := itp c22 h
                          obtain rfl := Option.some.inj h
                          exact K_L21 _ _ _ J (lv_sub hl [0, 1, 2] rfl)
                        · have h := itn c22 h
                          refine lv_iconst (v := 0) hx hb dX8_proves_169 (by decide) ?_
                          refine lv_istore (lv' := [(7, .int 0), (0, .ref (q 0)), (3, .int a2), (5, .int l5_L21), (6, .int l6_L21)]) hx hb dX8_proves_170 hl (by decide) rfl (fun ls hl => ?_)
                          obtain ⟨o_L23, ho_L23, h⟩ := ob h
                          have T_L23 : ∀ (f : Nat) (l5_L23 : Int32) (l7_L23 : Int32) (m_isMet_L23 : Nat → Int32) (o_L23 : Int32 × (Nat → Int32)), F_X8_proves_L23 l6_L21 p8.2.1 p8.2.2.2.2.2.2.2.2.1 f l5_L23 l7_L23 m_isMet_L23 = some o_L23 → ∀ (H : Heap) (locs : List Loc) (ls : Array Slot), VJ g A s.heap (MW g q 0 m_n m_robots p8.1 m_rules m_taped m_latest m_size m_at m_sort m_place m_end m_fault m_faultAt m_read p8.2.1 m_traced m_here p9 p8.2.2.2.1 p8.2.2.2.2.1 p8.2.2.2.2.2.1 m_ruleSize m_ruleRow m_ruleDoes p10 m_goes m_tape m_readSize m_readRow m_readDoes m_own p8.2.2.2.2.2.2.2.1 p8.2.2.2.2.2.2.2.2.1 p8.2.2.2.2.2.2.2.2.2.1 m_isMet_L23 p8.2.2.2.2.2.2.2.2.2.2.1 p8.2.2.2.2.2.2.2.2.2.2.2.1 p8.2.2.2.2.2.2.2.2.2.2.2.2.1 p8.2.2.2.2.2.2.2.2.2.2.2.2.2 m_trace) H locs → lv_has ls 10 [(0, .ref (q 0)), (3, .int a2), (5, .int l5_L23), (6, .int l6_L21), (7, .int l7_L23)] → (∀ (H : Heap) (locs : List Loc) (ls : Array Slot), VJ g A s.heap (MW g q 0 m_n m_robots p8.1 m_rules m_taped m_latest m_size m_at m_sort m_place m_end m_fault m_faultAt m_read p8.2.1 m_traced m_here p9 p8.2.2.2.1 p8.2.2.2.2.1 p8.2.2.2.2.2.1 m_ruleSize m_ruleRow m_ruleDoes p10 m_goes m_tape m_readSize m_readRow m_readDoes m_own p8.2.2.2.2.2.2.2.1 p8.2.2.2.2.2.2.2.2.1 p8.2.2.2.2.2.2.2.2.2.1 o_L23.2 p8.2.2.2.2.2.2.2.2.2.2.1 p8.2.2.2.2.2.2.2.2.2.2.2.1 p8.2.2.2.2.2.2.2.2.2.2.2.2.1 p8.2.2.2.2.2.2.2.2.2.2.2.2.2 m_trace) H locs → lv_has ls 10 [(0, .ref (q 0)), (3, .int a2), (5, .int o_L23.1), (6, .int l6_L21)] → W p l e rm_X8_proves s m args below meth c H locs 0 0 Q (F0 m 234 ls [])) → W p l e rm_X8_proves s m args below meth c H locs 0 0 Q (F0 m 172 ls []) := by
                            clear h ho_L23 hl J
                            intro f
                            induction f with
                            | zero => intro l5_L23 l7_L23 m_isMet_L23 o_L23 h; exact absurd h (by simp [F_X8_proves_L23])
                            | succ f ih =>
                              intro l5_L23 l7_L23 m_isMet_L23 o_L23 h H locs ls J hl K_L23
                              rw [F_X8_proves_L23.eq_2] at h
                              refine lv_iload hx hb dX8_proves_172 (lv_at hl 4 rfl) ?_
                              refine lv_aload_n hx hb dX8_proves_174 rfl (lv_at hl 0 rfl) ?_
                              refine mg_0_30 F E J fl_X8_221 dX8_proves_175 ?_
                              refine lv_icmp_ge (tgt := 234) hx hb dX8_proves_178 (by decide) (fun c24 => ?_) (fun c24 => ?_)
                              · have h := itp c24 h
                                obtain rfl := Option.some.inj h
                                exact K_L23 _ _ _ J (lv_sub hl [0, 1, 2, 3] rfl)
                              · have h := itn c24 h
                                refine lv_aload_n hx hb dX8_proves_181 rfl (lv_at hl 0 rfl) ?_
                                refine mg_0_34 F E J fl_X8_69 dX8_proves_182 ?_
                                refine lv_iload hx hb dX8_proves_185 (lv_at hl 3 rfl) ?_
                                obtain ⟨hi, h⟩ := gdt h
                                refine ml_19 F E J (inbt hi) dX8_proves_187 ?_
                                refine lv_if_eq (tgt := 234) hx hb dX8_proves_188 (by decide) (fun c25 => ?_) (fun c25 => ?_)
                                · have h := itp c25 h
                                  obtain rfl := Option.some.inj h
                                  exact K_L23 _ _ _ J (lv_sub hl [0, 1, 2, 3] rfl)
                                · have h := itn c25 h
                                  refine lv_aload_n hx hb dX8_proves_191 rfl (lv_at hl 0 rfl) ?_
                                  refine mg_0_32 F E J fl_X8_62 dX8_proves_192 ?_
                                  refine lv_bipush (v := 120) hx hb dX8_proves_195 (by decide) ?_
                                  refine lv_iload hx hb dX8_proves_197 (lv_at hl 3 rfl) ?_
                                  refine lv_imul hx hb dX8_proves_199 ?_
                                  refine lv_iload hx hb dX8_proves_200 (lv_at hl 4 rfl) ?_
                                  refine lv_iadd hx hb dX8_proves_202 ?_
                                  obtain ⟨hi, h⟩ := gdt h
                                  refine ml_17 F E J (inbt hi) dX8_proves_203 ?_
                                  obtain ⟨j26, hj26, h⟩ := ob h
                                  have Kj26 : ∀ (H : Heap) (locs : List Loc) (ls : Array Slot), VJ g A s.heap (MW g q 0 m_n m_robots p8.1 m_rules m_taped m_latest m_size m_at m_sort m_place m_end m_fault m_faultAt m_read p8.2.1 m_traced m_here p9 p8.2.2.2.1 p8.2.2.2.2.1 p8.2.2.2.2.2.1 m_ruleSize m_ruleRow m_ruleDoes p10 m_goes m_tape m_readSize m_readRow m_readDoes m_own p8.2.2.2.2.2.2.2.1 p8.2.2.2.2.2.2.2.2.1 p8.2.2.2.2.2.2.2.2.2.1 j26.2 p8.2.2.2.2.2.2.2.2.2.2.1 p8.2.2.2.2.2.2.2.2.2.2.2.1 p8.2.2.2.2.2.2.2.2.2.2.2.2.1 p8.2.2.2.2.2.2.2.2.2.2.2.2.2 m_trace) H locs → lv_has ls 10 [(0, .ref (q 0)), (3, .int a2), (5, .int j26.1), (6, .int l6_L21), (7, .int l7_L23)] → W p l e rm_X8_proves s m args below meth c H locs 0 0 Q (F0 m 228 ls []) := by
                                    intro H locs ls J hl
                                    obtain ⟨v29, hv29, h⟩ := obs h
                                    refine lv_iinc (v := v29) (lv' := [(7, .int v29), (0, .ref (q 0)), (3, .int a2), (5, .int j26.1), (6, .int l6_L21)]) hx hb dX8_proves_228 hl (k := 4) rfl (by rw [← hv29]; rfl) (by decide) rfl (fun ls hl => ?_)
                                    refine lv_goto (tgt := 172) hx hb dX8_proves_231 (by decide) ?_
                                    exact ih _ _ _ _ h _ _ _ J (lv_sub hl [1, 2, 3, 4, 0] rfl) K_L23
                                  clear h
                                  have h := hj26
                                  refine lv_if_eq (tgt := 228) hx hb dX8_proves_204 (by decide) (fun c27 => ?_) (fun c27 => ?_)
                                  · have h := itp c27 h
                                    obtain rfl := Option.some.inj h
                                    exact Kj26 _ _ _ J (lv_sub hl [0, 1, 2, 3, 4] rfl)
                                  · have h := itn c27 h
                                    refine lv_aload_n hx hb dX8_proves_207 rfl (lv_at hl 0 rfl) ?_
                                    refine mg_0_34 F E J fl_X8_69 dX8_proves_208 ?_
                                    refine lv_iload hx hb dX8_proves_211 (lv_at hl 4 rfl) ?_
                                    obtain ⟨hi, h⟩ := gdt h
                                    refine ml_19 F E J (inbt hi) dX8_proves_213 ?_
                                    refine lv_if_ne (tgt := 228) hx hb dX8_proves_214 (by decide) (fun c28 => ?_) (fun c28 => ?_)
                                    · have h := itn c28 h
                                      obtain rfl := Option.some.inj h
                                      exact Kj26 _ _ _ J (lv_sub hl [0, 1, 2, 3, 4] rfl)
                                    · have h := itp c28 h
                                      refine lv_aload_n hx hb dX8_proves_217 rfl (lv_at hl 0 rfl) ?_
                                      refine mg_0_34 F E J fl_X8_69 dX8_proves_218 ?_
                                      refine lv_iload hx hb dX8_proves_221 (lv_at hl 4 rfl) ?_
                                      refine lv_iconst (v := 1) hx hb dX8_proves_223 (by decide) ?_
                                      obtain ⟨hi, h⟩ := gdt h
                                      refine ms_19 F E J (inbt hi) dX8_proves_224 (fun H locs J => ?_)
                                      refine lv_iconst (v := 1) hx hb dX8_proves_225 (by decide) ?_
                                      refine lv_istore (lv' := [(5, .int 1), (0, .ref (q 0)), (3, .int a2), (6, .int l6_L21), (7, .int l7_L23)]) hx hb dX8_proves_226 hl (by decide) rfl (fun ls hl => ?_)
                                      obtain rfl := Option.some.inj h
                                      exact Kj26 _ _ _ J (lv_sub hl [1, 2, 0, 3, 4] rfl)
                          refine T_L23 FU l5_L21 0 m_isMet_L21 o_L23 ho_L23 _ _ _ J (lv_sub hl [1, 2, 3, 4, 0] rfl) (fun H locs ls J hl => ?_)
                          obtain ⟨v30, hv30, h⟩ := obs h
                          refine lv_iinc (v := v30) (lv' := [(6, .int v30), (0, .ref (q 0)), (3, .int a2), (5, .int o_L23.1)]) hx hb dX8_proves_234 hl (k := 3) rfl (by rw [← hv30]; rfl) (by decide) rfl (fun ls hl => ?_)
                          refine lv_goto (tgt := 160) hx hb dX8_proves_237 (by decide) ?_
                          exact ih _ _ _ _ h _ _ _ J (lv_sub hl [1, 2, 3, 0] rfl) K_L21
                    refine T_L21 FU 0 0 m_isMet_L19 o_L21 ho_L21 _ _ _ J (lv_sub hl [2, 3, 1, 0] rfl) (fun H locs ls J hl => ?_)
                    refine lv_goto (tgt := 149) hx hb dX8_proves_240 (by decide) ?_
                    exact ih _ _ _ h _ _ _ J (lv_sub hl [0, 1, 2] rfl) K_L19
              refine T_L19 FU 1 o_L14 o_L19 ho_L19 _ _ _ J (lv_sub hl [1, 2, 0] rfl) (fun H locs ls J hl => ?_)
              refine lv_iconst (v := 0) hx hb dX8_proves_243 (by decide) ?_
              refine lv_istore (lv' := [(6, .int 0), (0, .ref (q 0)), (3, .int a2)]) hx hb dX8_proves_244 hl (by decide) rfl (fun ls hl => ?_)
              refine lv_iconst (v := 0) hx hb dX8_proves_246 (by decide) ?_
              refine lv_istore (lv' := [(7, .int 0), (6, .int 0), (0, .ref (q 0)), (3, .int a2)]) hx hb dX8_proves_247 hl (by decide) rfl (fun ls hl => ?_)
              obtain ⟨o_L31, ho_L31, h⟩ := ob h
              have T_L31 : ∀ (f : Nat) (l6_L31 : Int32) (l7_L31 : Int32) (o_L31 : Int32), F_X8_proves_L31 a2 p8.2.1 p8.2.2.2.2.2.2.2.2.1 p8.2.2.2.2.2.2.2.2.2.1 o_L19 f l6_L31 l7_L31 = some o_L31 → ∀ (H : Heap) (locs : List Loc) (ls : Array Slot), VJ g A s.heap (MW g q 0 m_n m_robots p8.1 m_rules m_taped m_latest m_size m_at m_sort m_place m_end m_fault m_faultAt m_read p8.2.1 m_traced m_here p9 p8.2.2.2.1 p8.2.2.2.2.1 p8.2.2.2.2.2.1 m_ruleSize m_ruleRow m_ruleDoes p10 m_goes m_tape m_readSize m_readRow m_readDoes m_own p8.2.2.2.2.2.2.2.1 p8.2.2.2.2.2.2.2.2.1 p8.2.2.2.2.2.2.2.2.2.1 o_L19 p8.2.2.2.2.2.2.2.2.2.2.1 p8.2.2.2.2.2.2.2.2.2.2.2.1 p8.2.2.2.2.2.2.2.2.2.2.2.2.1 p8.2.2.2.2.2.2.2.2.2.2.2.2.2 m_trace) H locs → lv_has ls 10 [(0, .ref (q 0)), (3, .int a2), (6, .int l6_L31), (7, .int l7_L31)] → (∀ (H : Heap) (locs : List Loc) (ls : Array Slot), VJ g A s.heap (MW g q 0 m_n m_robots p8.1 m_rules m_taped m_latest m_size m_at m_sort m_place m_end m_fault m_faultAt m_read p8.2.1 m_traced m_here p9 p8.2.2.2.1 p8.2.2.2.2.1 p8.2.2.2.2.2.1 m_ruleSize m_ruleRow m_ruleDoes p10 m_goes m_tape m_readSize m_readRow m_readDoes m_own p8.2.2.2.2.2.2.2.1 p8.2.2.2.2.2.2.2.2.1 p8.2.2.2.2.2.2.2.2.2.1 o_L19 p8.2.2.2.2.2.2.2.2.2.2.1 p8.2.2.2.2.2.2.2.2.2.2.2.1 p8.2.2.2.2.2.2.2.2.2.2.2.2.1 p8.2.2.2.2.2.2.2.2.2.2.2.2.2 m_trace) H locs → lv_has ls 10 [(6, .int o_L31)] → W p l e rm_X8_proves s m args below meth c H locs 0 0 Q (F0 m 373 ls [])) → W p l e rm_X8_proves s m args below meth c H locs 0 0 Q (F0 m 249 ls []) := by
                clear h ho_L31 hl J
                intro f
                induction f with
                | zero => intro l6_L31 l7_L31 o_L31 h; exact absurd h (by simp [F_X8_proves_L31])
                | succ f ih =>
                  intro l6_L31 l7_L31 o_L31 h H locs ls J hl K_L31
                  rw [F_X8_proves_L31.eq_2] at h
                  refine lv_iload hx hb dX8_proves_249 (lv_at hl 3 rfl) ?_
                  refine lv_aload_n hx hb dX8_proves_251 rfl (lv_at hl 0 rfl) ?_
                  refine mg_0_30 F E J fl_X8_221 dX8_proves_252 ?_
                  refine lv_icmp_ge (tgt := 373) hx hb dX8_proves_255 (by decide) (fun c32 => ?_) (fun c32 => ?_)
                  · have h := itp c32 h
                    obtain rfl := Option.some.inj h
                    exact K_L31 _ _ _ J (lv_sub hl [2] rfl)
                  · have h := itn c32 h
                    refine lv_iconst (v := 0) hx hb dX8_proves_258 (by decide) ?_
                    refine lv_istore (lv' := [(8, .int 0), (0, .ref (q 0)), (3, .int a2), (6, .int l6_L31), (7, .int l7_L31)]) hx hb dX8_proves_259 hl (by decide) rfl (fun ls hl => ?_)
                    refine lv_iconst (v := 0) hx hb dX8_proves_261 (by decide) ?_
                    refine lv_istore (lv' := [(9, .int 0), (8, .int 0), (0, .ref (q 0)), (3, .int a2), (6, .int l6_L31), (7, .int l7_L31)]) hx hb dX8_proves_262 hl (by decide) rfl (fun ls hl => ?_)
                    obtain ⟨o_L33, ho_L33, h⟩ := ob h
                    have T_L33 : ∀ (f : Nat) (l8_L33 : Int32) (l9_L33 : Int32) (o_L33 : Int32), F_X8_proves_L33 l7_L31 p8.2.1 p8.2.2.2.2.2.2.2.2.1 f l8_L33 l9_L33 = some o_L33 → ∀ (H : Heap) (locs : List Loc) (ls : Array Slot), VJ g A s.heap (MW g q 0 m_n m_robots p8.1 m_rules m_taped m_latest m_size m_at m_sort m_place m_end m_fault m_faultAt m_read p8.2.1 m_traced m_here p9 p8.2.2.2.1 p8.2.2.2.2.1 p8.2.2.2.2.2.1 m_ruleSize m_ruleRow m_ruleDoes p10 m_goes m_tape m_readSize m_readRow m_readDoes m_own p8.2.2.2.2.2.2.2.1 p8.2.2.2.2.2.2.2.2.1 p8.2.2.2.2.2.2.2.2.2.1 o_L19 p8.2.2.2.2.2.2.2.2.2.2.1 p8.2.2.2.2.2.2.2.2.2.2.2.1 p8.2.2.2.2.2.2.2.2.2.2.2.2.1 p8.2.2.2.2.2.2.2.2.2.2.2.2.2 m_trace) H locs → lv_has ls 10 [(0, .ref (q 0)), (3, .int a2), (6, .int l6_L31), (7, .int l7_L31), (8, .int l8_L33), (9, .int l9_L33)] → (∀ (H : Heap) (locs : List Loc) (ls : Array Slot), VJ g A s.heap (MW g q 0 m_n m_robots p8.1 m_rules m_taped m_latest m_size m_at m_sort m_place m_end m_fault m_faultAt m_read p8.2.1 m_traced m_here p9 p8.2.2.2.1 p8.2.2.2.2.1 p8.2.2.2.2.2.1 m_ruleSize m_ruleRow m_ruleDoes p10 m_goes m_tape m_readSize m_readRow m_readDoes m_own p8.2.2.2.2.2.2.2.1 p8.2.2.2.2.2.2.2.2.1 p8.2.2.2.2.2.2.2.2.2.1 o_L19 p8.2.2.2.2.2.2.2.2.2.2.1 p8.2.2.2.2.2.2.2.2.2.2.2.1 p8.2.2.2.2.2.2.2.2.2.2.2.2.1 p8.2.2.2.2.2.2.2.2.2.2.2.2.2 m_trace) H locs → lv_has ls 10 [(0, .ref (q 0)), (3, .int a2), (6, .int l6_L31), (7, .int l7_L31), (8, .int o_L33)] → W p l e rm_X8_proves s m args below meth c H locs 0 0 Q (F0 m 307 ls [])) → W p l e rm_X8_proves s m args below meth c H locs 0 0 Q (F0 m 264 ls []) := by
                      clear h ho_L33 hl J
                      intro f
                      induction f with
                      | zero => intro l8_L33 l9_L33 o_L33 h; exact absurd h (by simp [F_X8_proves_L33])
                      | succ f ih =>
                        intro l8_L33 l9_L33 o_L33 h H locs ls J hl K_L33
                        rw [F_X8_proves_L33.eq_2] at h
                        refine lv_iload hx hb dX8_proves_264 (lv_at hl 5 rfl) ?_
                        refine lv_aload_n hx hb dX8_proves_266 rfl (lv_at hl 0 rfl) ?_
                        refine mg_0_30 F E J fl_X8_221 dX8_proves_267 ?_
                        refine lv_icmp_ge (tgt := 307) hx hb dX8_proves_270 (by decide) (fun c34 => ?_) (fun c34 => ?_)
                        · have h := itp c34 h
                          obtain rfl := Option.some.inj h
                          exact K_L33 _ _ _ J (lv_sub hl [0, 1, 2, 3, 4] rfl)
                        · have h := itn c34 h
                          refine lv_iload hx hb dX8_proves_273 (lv_at hl 4 rfl) ?_
                          obtain ⟨j35, hj35, h⟩ := ob h
                          have Kj35 : ∀ (H : Heap) (locs : List Loc) (ls : Array Slot), VJ g A s.heap (MW g q 0 m_n m_robots p8.1 m_rules m_taped m_latest m_size m_at m_sort m_place m_end m_fault m_faultAt m_read p8.2.1 m_traced m_here p9 p8.2.2.2.1 p8.2.2.2.2.1 p8.2.2.2.2.2.1 m_ruleSize m_ruleRow m_ruleDoes p10 m_goes m_tape m_readSize m_readRow m_readDoes m_own p8.2.2.2.2.2.2.2.1 p8.2.2.2.2.2.2.2.2.1 p8.2.2.2.2.2.2.2.2.2.1 o_L19 p8.2.2.2.2.2.2.2.2.2.2.1 p8.2.2.2.2.2.2.2.2.2.2.2.1 p8.2.2.2.2.2.2.2.2.2.2.2.2.1 p8.2.2.2.2.2.2.2.2.2.2.2.2.2 m_trace) H locs → lv_has ls 10 [(0, .ref (q 0)), (3, .int a2), (6, .int l6_L31), (7, .int l7_L31), (9, .int l9_L33)] → W p l e rm_X8_proves s m args below meth c H locs 0 0 Q (F0 m 299 ls [.int j35]) := by
                            intro H locs ls J hl
                            refine lv_istore (lv' := [(8, .int j35), (0, .ref (q 0)), (3, .int a2), (6, .int l6_L31), (7, .int l7_L31), (9, .int l9_L33)]) hx hb dX8_proves_299 hl (by decide) rfl (fun ls hl => ?_)
                            obtain ⟨v38, hv38, h⟩ := obs h
                            refine lv_iinc (v := v38) (lv' := [(9, .int v38), (8, .int j35), (0, .ref (q 0)), (3, .int a2), (6, .int l6_L31), (7, .int l7_L31)]) hx hb dX8_proves_301 hl (k := 5) rfl (by rw [← hv38]; rfl) (by decide) rfl (fun ls hl => ?_)
                            refine lv_goto (tgt := 264) hx hb dX8_proves_304 (by decide) ?_
                            exact ih _ _ _ h _ _ _ J (lv_sub hl [2, 3, 4, 5, 1, 0] rfl) K_L33
                          clear h
                          have h := hj35
                          refine lv_if_ne (tgt := 294) hx hb dX8_proves_275 (by decide) (fun c36 => ?_) (fun c36 => ?_)
                          · have h := itn c36 h
                            refine lv_iconst (v := 1) hx hb dX8_proves_294 (by decide) ?_
                            refine lv_goto (tgt := 299) hx hb dX8_proves_295 (by decide) ?_
                            obtain rfl := Option.some.inj h
                            exact Kj35 _ _ _ J (lv_sub hl [0, 1, 2, 3, 5] rfl)
                          · have h := itp c36 h
                            refine lv_aload_n hx hb dX8_proves_278 rfl (lv_at hl 0 rfl) ?_
                            refine mg_0_32 F E J fl_X8_62 dX8_proves_279 ?_
                            refine lv_bipush (v := 120) hx hb dX8_proves_282 (by decide) ?_
                            refine lv_iload hx hb dX8_proves_284 (lv_at hl 3 rfl) ?_
                            refine lv_imul hx hb dX8_proves_286 ?_
                            refine lv_iload hx hb dX8_proves_287 (lv_at hl 5 rfl) ?_
                            refine lv_iadd hx hb dX8_proves_289 ?_
                            obtain ⟨hi, h⟩ := gdt h
                            refine ml_17 F E J (inbt hi) dX8_proves_290 ?_
                            refine lv_if_eq (tgt := 298) hx hb dX8_proves_291 (by decide) (fun c37 => ?_) (fun c37 => ?_)
                            · have h := itp c37 h
                              refine lv_iconst (v := 0) hx hb dX8_proves_298 (by decide) ?_
                              obtain rfl := Option.some.inj h
                              exact Kj35 _ _ _ J (lv_sub hl [0, 1, 2, 3, 5] rfl)
                            · have h := itn c37 h
                              refine lv_iconst (v := 1) hx hb dX8_proves_294 (by decide) ?_
                              refine lv_goto (tgt := 299) hx hb dX8_proves_295 (by decide) ?_
                              obtain rfl := Option.some.inj h
                              exact Kj35 _ _ _ J (lv_sub hl [0, 1, 2, 3, 5] rfl)
                    refine T_L33 FU 0 0 o_L33 ho_L33 _ _ _ J (lv_sub hl [2, 3, 4, 5, 1, 0] rfl) (fun H locs ls J hl => ?_)
                    refine lv_iload hx hb dX8_proves_307 (lv_at hl 2 rfl) ?_
                    refine lv_aload_n hx hb dX8_proves_309 rfl (lv_at hl 0 rfl) ?_
                    refine mg_0_34 F E J fl_X8_69 dX8_proves_310 ?_
                    refine lv_iload hx hb dX8_proves_313 (lv_at hl 3 rfl) ?_
                    obtain ⟨hi, h⟩ := gdt h
                    refine ml_19 F E J (inbt hi) dX8_proves_315 ?_
                    obtain ⟨j39, hj39, h⟩ := ob h
                    have Kj39 : ∀ (H : Heap) (locs : List Loc) (ls : Array Slot), VJ g A s.heap (MW g q 0 m_n m_robots p8.1 m_rules m_taped m_latest m_size m_at m_sort m_place m_end m_fault m_faultAt m_read p8.2.1 m_traced m_here p9 p8.2.2.2.1 p8.2.2.2.2.1 p8.2.2.2.2.2.1 m_ruleSize m_ruleRow m_ruleDoes p10 m_goes m_tape m_readSize m_readRow m_readDoes m_own p8.2.2.2.2.2.2.2.1 p8.2.2.2.2.2.2.2.2.1 p8.2.2.2.2.2.2.2.2.2.1 o_L19 p8.2.2.2.2.2.2.2.2.2.2.1 p8.2.2.2.2.2.2.2.2.2.2.2.1 p8.2.2.2.2.2.2.2.2.2.2.2.2.1 p8.2.2.2.2.2.2.2.2.2.2.2.2.2 m_trace) H locs → lv_has ls 10 [(0, .ref (q 0)), (3, .int a2), (7, .int l7_L31)] → W p l e rm_X8_proves s m args below meth c H locs 0 0 Q (F0 m 364 ls [.int j39, .int l6_L31]) := by
                      intro H locs ls J hl
                      refine lv_iadd hx hb dX8_proves_364 ?_
                      obtain ⟨v50, hv50, h⟩ := obs h
                      refine nmI hv50 ?_
                      refine lv_istore (lv' := [(6, .int v50), (0, .ref (q 0)), (3, .int a2), (7, .int l7_L31)]) hx hb dX8_proves_365 hl (by decide) rfl (fun ls hl => ?_)
                      obtain ⟨v51, hv51, h⟩ := obs h
                      refine lv_iinc (v := v51) (lv' := [(7, .int v51), (6, .int v50), (0, .ref (q 0)), (3, .int a2)]) hx hb dX8_proves_367 hl (k := 3) rfl (by rw [← hv51]; rfl) (by decide) rfl (fun ls hl => ?_)
                      refine lv_goto (tgt := 249) hx hb dX8_proves_370 (by decide) ?_
                      exact ih _ _ _ h _ _ _ J (lv_sub hl [2, 3, 1, 0] rfl) K_L31
                    clear h
                    have h := hj39
                    refine lv_if_eq (tgt := 363) hx hb dX8_proves_316 (by decide) (fun c40 => ?_) (fun c40 => ?_)
                    · have h := itp c40 h
                      refine lv_iconst (v := 0) hx hb dX8_proves_363 (by decide) ?_
                      obtain rfl := Option.some.inj h
                      exact Kj39 _ _ _ J (lv_sub hl [0, 1, 3] rfl)
                    · have h := itn c40 h
                      refine lv_iload_n hx hb dX8_proves_319 rfl (lv_at hl 1 rfl) ?_
                      refine lv_iconst (v := 1) hx hb dX8_proves_320 (by decide) ?_
                      refine lv_icmp_eq (tgt := 359) hx hb dX8_proves_321 (by decide) (fun c41 => ?_) (fun c41 => ?_)
                      · have h := itp c41 h
                        refine lv_iconst (v := 1) hx hb dX8_proves_359 (by decide) ?_
                        refine lv_goto (tgt := 364) hx hb dX8_proves_360 (by decide) ?_
                        obtain rfl := Option.some.inj h
                        exact Kj39 _ _ _ J (lv_sub hl [0, 1, 3] rfl)
                      · have h := itn c41 h
                        refine lv_iload_n hx hb dX8_proves_324 rfl (lv_at hl 1 rfl) ?_
                        refine lv_iconst (v := 2) hx hb dX8_proves_325 (by decide) ?_
                        refine lv_icmp_ne (tgt := 339) hx hb dX8_proves_326 (by decide) (fun c42 => ?_) (fun c42 => ?_)
                        · have h := itn c42 h
                          refine lv_iload_n hx hb dX8_proves_339 rfl (lv_at hl 1 rfl) ?_
                          refine lv_iconst (v := 3) hx hb dX8_proves_340 (by decide) ?_
                          refine lv_icmp_ne (tgt := 363) hx hb dX8_proves_341 (by decide) (fun c43 => ?_) (fun c43 => ?_)
                          · have h := itn c43 h
                            refine lv_iconst (v := 0) hx hb dX8_proves_363 (by decide) ?_
                            obtain rfl := Option.some.inj h
                            exact Kj39 _ _ _ J (lv_sub hl [0, 1, 3] rfl)
                          · have h := itp c43 h
                            refine lv_aload_n hx hb dX8_proves_344 rfl (lv_at hl 0 rfl) ?_
                            refine mg_0_33 F E J fl_X8_66 dX8_proves_345 ?_
                            refine lv_iload hx hb dX8_proves_348 (lv_at hl 3 rfl) ?_
                            obtain ⟨hi, h⟩ := gdt h
                            refine ml_18 F E J (inbt hi) dX8_proves_350 ?_
                            refine lv_if_ne (tgt := 363) hx hb dX8_proves_351 (by decide) (fun c44 => ?_) (fun c44 => ?_)
                            · have h := itn c44 h
                              refine lv_iconst (v := 0) hx hb dX8_proves_363 (by decide) ?_
                              obtain rfl := Option.some.inj h
                              exact Kj39 _ _ _ J (lv_sub hl [0, 1, 3] rfl)
                            · have h := itp c44 h
                              refine lv_iload hx hb dX8_proves_354 (lv_at hl 4 rfl) ?_
                              refine lv_if_ne (tgt := 363) hx hb dX8_proves_356 (by decide) (fun c45 => ?_) (fun c45 => ?_)
                              · have h := itn c45 h
                                refine lv_iconst (v := 0) hx hb dX8_proves_363 (by decide) ?_
                                obtain rfl := Option.some.inj h
                                exact Kj39 _ _ _ J (lv_sub hl [0, 1, 3] rfl)
                              · have h := itp c45 h
                                refine lv_iconst (v := 1) hx hb dX8_proves_359 (by decide) ?_
                                refine lv_goto (tgt := 364) hx hb dX8_proves_360 (by decide) ?_
                                obtain rfl := Option.some.inj h
                                exact Kj39 _ _ _ J (lv_sub hl [0, 1, 3] rfl)
                        · have h := itp c42 h
                          refine lv_aload_n hx hb dX8_proves_329 rfl (lv_at hl 0 rfl) ?_
                          refine mg_0_33 F E J fl_X8_66 dX8_proves_330 ?_
                          refine lv_iload hx hb dX8_proves_333 (lv_at hl 3 rfl) ?_
                          obtain ⟨hi, h⟩ := gdt h
                          refine ml_18 F E J (inbt hi) dX8_proves_335 ?_
                          refine lv_if_ne (tgt := 359) hx hb dX8_proves_336 (by decide) (fun c46 => ?_) (fun c46 => ?_)
                          · have h := itn c46 h
                            refine lv_iconst (v := 1) hx hb dX8_proves_359 (by decide) ?_
                            refine lv_goto (tgt := 364) hx hb dX8_proves_360 (by decide) ?_
                            obtain rfl := Option.some.inj h
                            exact Kj39 _ _ _ J (lv_sub hl [0, 1, 3] rfl)
                          · have h := itp c46 h
                            refine lv_iload_n hx hb dX8_proves_339 rfl (lv_at hl 1 rfl) ?_
                            refine lv_iconst (v := 3) hx hb dX8_proves_340 (by decide) ?_
                            refine lv_icmp_ne (tgt := 363) hx hb dX8_proves_341 (by decide) (fun c47 => ?_) (fun c47 => ?_)
                            · have h := itn c47 h
                              refine lv_iconst (v := 0) hx hb dX8_proves_363 (by decide) ?_
                              obtain rfl := Option.some.inj h
                              exact Kj39 _ _ _ J (lv_sub hl [0, 1, 3] rfl)
                            · have h := itp c47 h
                              refine lv_aload_n hx hb dX8_proves_344 rfl (lv_at hl 0 rfl) ?_
                              refine mg_0_33 F E J fl_X8_66 dX8_proves_345 ?_
                              refine lv_iload hx hb dX8_proves_348 (lv_at hl 3 rfl) ?_
                              obtain ⟨hi, h⟩ := gdt h
                              refine ml_18 F E J (inbt hi) dX8_proves_350 ?_
                              refine lv_if_ne (tgt := 363) hx hb dX8_proves_351 (by decide) (fun c48 => ?_) (fun c48 => ?_)
                              · have h := itn c48 h
                                refine lv_iconst (v := 0) hx hb dX8_proves_363 (by decide) ?_
                                obtain rfl := Option.some.inj h
                                exact Kj39 _ _ _ J (lv_sub hl [0, 1, 3] rfl)
                              · have h := itp c48 h
                                refine lv_iload hx hb dX8_proves_354 (lv_at hl 4 rfl) ?_
                                refine lv_if_ne (tgt := 363) hx hb dX8_proves_356 (by decide) (fun c49 => ?_) (fun c49 => ?_)
                                · have h := itn c49 h
                                  refine lv_iconst (v := 0) hx hb dX8_proves_363 (by decide) ?_
                                  obtain rfl := Option.some.inj h
                                  exact Kj39 _ _ _ J (lv_sub hl [0, 1, 3] rfl)
                                · have h := itp c49 h
                                  refine lv_iconst (v := 1) hx hb dX8_proves_359 (by decide) ?_
                                  refine lv_goto (tgt := 364) hx hb dX8_proves_360 (by decide) ?_
                                  obtain rfl := Option.some.inj h
                                  exact Kj39 _ _ _ J (lv_sub hl [0, 1, 3] rfl)
              refine T_L31 FU 0 0 o_L31 ho_L31 _ _ _ J (lv_sub hl [2, 3, 1, 0] rfl) (fun H locs ls J hl => ?_)
              refine lv_iload hx hb dX8_proves_373 (lv_at hl 0 rfl) ?_
              obtain rfl := Option.some.inj h
              exact ret _ _ _ _ J dX8_proves_375
            · have h := itp c13 h
              refine lv_aload_n hx hb dX8_proves_101 rfl (lv_at hl 1 rfl) ?_
              refine mg_0_35 F E J fl_X8_72 dX8_proves_102 ?_
              refine lv_iload hx hb dX8_proves_105 (lv_at hl 0 rfl) ?_
              obtain ⟨hi, h⟩ := gdt h
              refine ml_20 F E J (inbt hi) dX8_proves_107 ?_
              obtain rfl := Option.some.inj h
              exact ret _ _ _ _ J dX8_proves_108
          · have h := itp c12 h
            refine lv_aload_n hx hb dX8_proves_78 rfl (lv_at hl 1 rfl) ?_
            refine mg_0_35 F E J fl_X8_72 dX8_proves_79 ?_
            refine lv_iload hx hb dX8_proves_82 (lv_at hl 0 rfl) ?_
            obtain ⟨hi, h⟩ := gdt h
            refine ml_20 F E J (inbt hi) dX8_proves_84 ?_
            refine lv_ldc hx hb F.2.2.2.1 (F.2.2.2.2 _ kc_X8_110) dX8_proves_85 ?_
            refine lv_icmp_ne (tgt := 94) hx hb dX8_proves_87 (by decide) (fun c52 => ?_) (fun c52 => ?_)
            · have h := itn c52 h
              refine lv_iconst (v := 1) hx hb dX8_proves_94 (by decide) ?_
              obtain rfl := Option.some.inj h
              exact ret _ _ _ _ J dX8_proves_95
            · have h := itp c52 h
              refine lv_iconst (v := 0) hx hb dX8_proves_90 (by decide) ?_
              refine lv_goto (tgt := 95) hx hb dX8_proves_91 (by decide) ?_
              obtain rfl := Option.some.inj h
              exact ret _ _ _ _ J dX8_proves_95
        · have h := itp c7 h
          refine lv_ldc hx hb F.2.2.2.1 (F.2.2.2.2 _ kc_X8_137) dX8_proves_51 ?_
          obtain rfl := Option.some.inj h
          exact ret _ _ _ _ J dX8_proves_53
      · have h := itp c6 h
        refine lv_ldc hx hb F.2.2.2.1 (F.2.2.2.2 _ kc_X8_98) dX8_proves_41 ?_
        obtain rfl := Option.some.inj h
        exact ret _ _ _ _ J dX8_proves_43
