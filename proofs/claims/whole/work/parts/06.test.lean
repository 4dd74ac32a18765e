def F_X3_manyAt (a0 : Int32) (a1 : Int32) (x_places : Int32) : Option (Int32) :=
  some ((jushr a0 (3 * ((x_places - 1) - a1))) &&& 7)
def rm_X3_manyAt : Room := { frames := 0, cells := 0, slots := 0, locals := 0 }
set_option maxHeartbeats 4000000 in
set_option maxRecDepth 100000 in
theorem c_X3_manyAt {l : Launch} {g : GG} {q : Nat → Nat} {A : Nat → Prop} {x_crowd x_latestFault x_places x_mask x_w_robots x_w_size x_w_nexts x_a_length x_t_length x_t_token x_t_from x_t_value x_t_behind x_r_wants x_r_pairs x_r_sees : Int32} {x_r_row : Int64} {x_b_size x_s_size : Int32} {x_w_names : Nat → Int32} {x_w_goals x_w_links : Nat → Int64} {x_w_linked x_w_ups x_w_downs x_w_next x_a_begun x_t_bytes : Nat → Int32} {x_b_rows : Nat → Int64} {x_b_acts : Nat → Int32} {x_s_rows : Nat → Int64} {x_s_acts : Nat → Int32} (a0 : Int32) (a1 : Int32) (res : Int32) (h : F_X3_manyAt a0 a1 x_places = some res) : Met l yX3_manyAt (wS yX3_manyAt cX3_manyAt 3 (some .int)) rm_X3_manyAt (va_Pc [.ref (q 1), .int a0, .int a1] (VB g A (XW g q x_crowd x_latestFault x_places x_mask x_w_robots x_w_size x_w_nexts x_a_length x_t_length x_t_token x_t_from x_t_value x_t_behind x_r_wants x_r_pairs x_r_sees x_r_row x_b_size x_s_size x_w_names x_w_goals x_w_links x_w_linked x_w_ups x_w_downs x_w_next x_a_begun x_t_bytes x_b_rows x_b_acts x_s_rows x_s_acts))) (va_Qi (fun r (_ : Unit) => r = res) (fun _ => VB g A (XW g q x_crowd x_latestFault x_places x_mask x_w_robots x_w_size x_w_nexts x_a_length x_t_length x_t_token x_t_from x_t_value x_t_behind x_r_wants x_r_pairs x_r_sees x_r_row x_b_size x_s_size x_w_names x_w_goals x_w_links x_w_linked x_w_ups x_w_downs x_w_next x_a_begun x_t_bytes x_b_rows x_b_acts x_s_rows x_s_acts)) A) 0 0 A := by
  unfold F_X3_manyAt at h
  refine MetI (res := res) (own := RX3) (ws' := (XW g q x_crowd x_latestFault x_places x_mask x_w_robots x_w_size x_w_nexts x_a_length x_t_length x_t_token x_t_from x_t_value x_t_behind x_r_wants x_r_pairs x_r_sees x_r_row x_b_size x_s_size x_w_names x_w_goals x_w_links x_w_linked x_w_ups x_w_downs x_w_next x_a_begun x_t_bytes x_b_rows x_b_acts x_s_rows x_s_acts)) (by decide) rfl (Nat.le_of_ble_eq_true rfl) ?_
  intro p e s m args below meth c Q F E ret ls J hl
  have hx := F.1
  have hb := F.2.1
  have hl : lv_has ls 3 [(0, .ref (q 1)), (1, .int a0), (2, .int a1)] := hl
  refine lv_iload_n hx hb dX3_manyAt_0 rfl (lv_at hl 1 rfl) ?_
  refine lv_iconst (v := 3) hx hb dX3_manyAt_1 (by decide) ?_
  refine lv_aload_n hx hb dX3_manyAt_2 rfl (lv_at hl 0 rfl) ?_
  refine xg_1_0 F E J fl_X3_9 dX3_manyAt_3 ?_
  refine lv_iconst (v := 1) hx hb dX3_manyAt_6 (by decide) ?_
  refine lv_isub hx hb dX3_manyAt_7 ?_
  refine lv_iload_n hx hb dX3_manyAt_8 rfl (lv_at hl 2 rfl) ?_
  refine lv_isub hx hb dX3_manyAt_9 ?_
  refine lv_imul hx hb dX3_manyAt_10 ?_
  refine lv_iushr (v := (jushr a0 (3 * ((x_places - 1) - a1)))) hx hb dX3_manyAt_11 rfl ?_
  refine lv_bipush (v := 7) hx hb dX3_manyAt_12 (by decide) ?_
  refine lv_iand hx hb dX3_manyAt_14 ?_
  obtain rfl := Option.some.inj h
  exact ret _ _ _ _ J dX3_manyAt_15
def F_X3_robotsIn_L1 (l1_L1 : Int32) (x_places_L1 : Int32) : Nat → Int32 → Int32 →  Option (Int32)
  | 0, _, _ => none
  | f+1, l2_L1, l3_L1 =>
    (if x_places_L1 ≤ l3_L1 then some l2_L1 else Option.bind (F_X3_manyAt l1_L1 l3_L1 x_places_L1) fun p3 => Option.bind (some (l2_L1 + p3)) fun v4 => Option.bind (some (l3_L1 + 1)) fun v5 => F_X3_robotsIn_L1 l1_L1 x_places_L1 f v4 v5)
def F_X3_robotsIn (a0 : Int32) (x_places : Int32) : Option (Int32) :=
  Option.bind (F_X3_robotsIn_L1 a0 x_places FU 0 0) fun o_L1 => some o_L1
def rm_X3_robotsIn : Room := { frames := 1, cells := 0, slots := 0, locals := 22 }
set_option maxHeartbeats 4000000 in
set_option maxRecDepth 100000 in
theorem c_X3_robotsIn {l : Launch} {g : GG} {q : Nat → Nat} {A : Nat → Prop} {x_crowd x_latestFault x_places x_mask x_w_robots x_w_size x_w_nexts x_a_length x_t_length x_t_token x_t_from x_t_value x_t_behind x_r_wants x_r_pairs x_r_sees : Int32} {x_r_row : Int64} {x_b_size x_s_size : Int32} {x_w_names : Nat → Int32} {x_w_goals x_w_links : Nat → Int64} {x_w_linked x_w_ups x_w_downs x_w_next x_a_begun x_t_bytes : Nat → Int32} {x_b_rows : Nat → Int64} {x_b_acts : Nat → Int32} {x_s_rows : Nat → Int64} {x_s_acts : Nat → Int32} (a0 : Int32) (res : Int32) (h : F_X3_robotsIn a0 x_places = some res) : Met l yX3_robotsIn (wS yX3_robotsIn cX3_robotsIn 4 (some .int)) rm_X3_robotsIn (va_Pc [.ref (q 1), .int a0] (VB g A (XW g q x_crowd x_latestFault x_places x_mask x_w_robots x_w_size x_w_nexts x_a_length x_t_length x_t_token x_t_from x_t_value x_t_behind x_r_wants x_r_pairs x_r_sees x_r_row x_b_size x_s_size x_w_names x_w_goals x_w_links x_w_linked x_w_ups x_w_downs x_w_next x_a_begun x_t_bytes x_b_rows x_b_acts x_s_rows x_s_acts))) (va_Qi (fun r (_ : Unit) => r = res) (fun _ => VB g A (XW g q x_crowd x_latestFault x_places x_mask x_w_robots x_w_size x_w_nexts x_a_length x_t_length x_t_token x_t_from x_t_value x_t_behind x_r_wants x_r_pairs x_r_sees x_r_row x_b_size x_s_size x_w_names x_w_goals x_w_links x_w_linked x_w_ups x_w_downs x_w_next x_a_begun x_t_bytes x_b_rows x_b_acts x_s_rows x_s_acts)) A) 0 0 A := by
  unfold F_X3_robotsIn at h
  refine MetI (res := res) (own := RX3) (ws' := (XW g q x_crowd x_latestFault x_places x_mask x_w_robots x_w_size x_w_nexts x_a_length x_t_length x_t_token x_t_from x_t_value x_t_behind x_r_wants x_r_pairs x_r_sees x_r_row x_b_size x_s_size x_w_names x_w_goals x_w_links x_w_linked x_w_ups x_w_downs x_w_next x_a_begun x_t_bytes x_b_rows x_b_acts x_s_rows x_s_acts)) (by decide) rfl (Nat.le_of_ble_eq_true rfl) ?_
  intro p e s m args below meth c Q F E ret ls J hl
  have hx := F.1
  have hb := F.2.1
  have hl : lv_has ls 4 [(0, .ref (q 1)), (1, .int a0)] := hl
  refine lv_iconst (v := 0) hx hb dX3_robotsIn_0 (by decide) ?_
  refine lv_istore_n (lv' := [(2, .int 0), (0, .ref (q 1)), (1, .int a0)]) hx hb dX3_robotsIn_1 rfl hl (by decide) rfl (fun ls hl => ?_)
  refine lv_iconst (v := 0) hx hb dX3_robotsIn_2 (by decide) ?_
  refine lv_istore_n (lv' := [(3, .int 0), (2, .int 0), (0, .ref (q 1)), (1, .int a0)]) hx hb dX3_robotsIn_3 rfl hl (by decide) rfl (fun ls hl => ?_)
  obtain ⟨o_L1, ho_L1, h⟩ := ob h
  have T_L1 : ∀ (f : Nat) (l2_L1 : Int32) (l3_L1 : Int32) (o_L1 : Int32), F_X3_robotsIn_L1 a0 x_places f l2_L1 l3_L1 = some o_L1 → ∀ (H : Heap) (locs : List Loc) (ls : Array Slot), VJ g A s.heap (XW g q x_crowd x_latestFault x_places x_mask x_w_robots x_w_size x_w_nexts x_a_length x_t_length x_t_token x_t_from x_t_value x_t_behind x_r_wants x_r_pairs x_r_sees x_r_row x_b_size x_s_size x_w_names x_w_goals x_w_links x_w_linked x_w_ups x_w_downs x_w_next x_a_begun x_t_bytes x_b_rows x_b_acts x_s_rows x_s_acts) H locs → lv_has ls 4 [(0, .ref (q 1)), (1, .int a0), (2, .int l2_L1), (3, .int l3_L1)] → (∀ (H : Heap) (locs : List Loc) (ls : Array Slot), VJ g A s.heap (XW g q x_crowd x_latestFault x_places x_mask x_w_robots x_w_size x_w_nexts x_a_length x_t_length x_t_token x_t_from x_t_value x_t_behind x_r_wants x_r_pairs x_r_sees x_r_row x_b_size x_s_size x_w_names x_w_goals x_w_links x_w_linked x_w_ups x_w_downs x_w_next x_a_begun x_t_bytes x_b_rows x_b_acts x_s_rows x_s_acts) H locs → lv_has ls 4 [(2, .int o_L1)] → W p l e rm_X3_robotsIn s m args below meth c H locs 0 0 Q (F0 m 27 ls [])) → W p l e rm_X3_robotsIn s m args below meth c H locs 0 0 Q (F0 m 4 ls []) := by
    clear h ho_L1 hl J
    intro f
    induction f with
    | zero => intro l2_L1 l3_L1 o_L1 h; exact absurd h (by simp [F_X3_robotsIn_L1])
    | succ f ih =>
      intro l2_L1 l3_L1 o_L1 h H locs ls J hl K_L1
      rw [F_X3_robotsIn_L1.eq_2] at h
      refine lv_iload_n hx hb dX3_robotsIn_4 rfl (lv_at hl 3 rfl) ?_
      refine lv_aload_n hx hb dX3_robotsIn_5 rfl (lv_at hl 0 rfl) ?_
      refine xg_1_0 F E J fl_X3_9 dX3_robotsIn_6 ?_
      refine lv_icmp_ge (tgt := 27) hx hb dX3_robotsIn_9 (by decide) (fun c2 => ?_) (fun c2 => ?_)
      · have h := itp c2 h
        obtain rfl := Option.some.inj h
        exact K_L1 _ _ _ J (lv_sub hl [2] rfl)
      · have h := itn c2 h
        refine lv_iload_n hx hb dX3_robotsIn_12 rfl (lv_at hl 2 rfl) ?_
        refine lv_aload_n hx hb dX3_robotsIn_13 rfl (lv_at hl 0 rfl) ?_
        refine lv_iload_n hx hb dX3_robotsIn_14 rfl (lv_at hl 1 rfl) ?_
        refine lv_iload_n hx hb dX3_robotsIn_15 rfl (lv_at hl 3 rfl) ?_
        obtain ⟨p3, hp3, h⟩ := ob h
        refine onI (runV (As := [.int a0, .int l3_L1]) (rest := [.int l2_L1]) F E J (c_X3_manyAt a0 l3_L1 p3 hp3) cw_X3_26 ⟨rfl, rfl, Nat.le_of_ble_eq_true rfl, Nat.le_of_ble_eq_true rfl⟩ rcX1 rfl hl.1 rfl (Nat.le_of_ble_eq_true rfl) dX3_robotsIn_16) J (fun H locs J => ?_)
        refine lv_iadd hx hb dX3_robotsIn_19 ?_
        obtain ⟨v4, hv4, h⟩ := obs h
        refine nmI hv4 ?_
        refine lv_istore_n (lv' := [(2, .int v4), (0, .ref (q 1)), (1, .int a0), (3, .int l3_L1)]) hx hb dX3_robotsIn_20 rfl hl (by decide) rfl (fun ls hl => ?_)
        obtain ⟨v5, hv5, h⟩ := obs h
        refine lv_iinc (v := v5) (lv' := [(3, .int v5), (2, .int v4), (0, .ref (q 1)), (1, .int a0)]) hx hb dX3_robotsIn_21 hl (k := 3) rfl (by rw [← hv5]; rfl) (by decide) rfl (fun ls hl => ?_)
        refine lv_goto (tgt := 4) hx hb dX3_robotsIn_24 (by decide) ?_
        exact ih _ _ _ h _ _ _ J (lv_sub hl [2, 3, 1, 0] rfl) K_L1
  refine T_L1 FU 0 0 o_L1 ho_L1 _ _ _ J (lv_sub hl [2, 3, 1, 0] rfl) (fun H locs ls J hl => ?_)
  refine lv_iload_n hx hb dX3_robotsIn_27 rfl (lv_at hl 0 rfl) ?_
  obtain rfl := Option.some.inj h
  exact ret _ _ _ _ J dX3_robotsIn_28
def F_X8_take_L1 (m_here_L1 : Nat → Int32) : Nat → Int32 → (Nat → Int32) →  Option (Nat → Int32)
  | 0, _, _ => none
  | f+1, l1_L1, m_hand_L1 =>
    (if 9 ≤ l1_L1 then some m_hand_L1 else gd (inb l1_L1 9) (Option.bind (some (m_here_L1 (Int32.toNatClampNeg l1_L1))) fun v3 => gd (inb l1_L1 9) (Option.bind (some (l1_L1 + 1)) fun v4 => F_X8_take_L1 m_here_L1 f v4 (upd m_hand_L1 (Int32.toNatClampNeg l1_L1) v3))))
def F_X8_take (m_here : Nat → Int32) (m_hand : Nat → Int32) : Option (Nat → Int32) :=
  Option.bind (F_X8_take_L1 m_here FU 0 m_hand) fun o_L1 => some o_L1
def rm_X8_take : Room := { frames := 0, cells := 0, slots := 0, locals := 0 }
set_option maxHeartbeats 4000000 in
set_option maxRecDepth 100000 in
theorem c_X8_take {l : Launch} {g : GG} {q : Nat → Nat} {A : Nat → Prop} {m_thrown m_n m_robots m_viewed m_rules m_taped m_latest m_size m_at m_sort m_place m_end m_fault m_faultAt m_read m_crowds m_traced : Int32} {m_here m_hand m_view m_up m_down m_ruleSize m_ruleRow m_ruleDoes m_name m_goes m_tape m_readSize m_readRow m_readDoes m_own m_crowd m_isStep m_isOfGoal m_isMet m_most m_stands m_doesHere m_from m_trace : Nat → Int32} (res : Nat → Int32) (h : F_X8_take m_here m_hand = some res) : Met l yX8_take (wS yX8_take cX8_take 2 none) rm_X8_take (va_Pc [.ref (q 0)] (VB g A (MW g q m_thrown m_n m_robots m_viewed m_rules m_taped m_latest m_size m_at m_sort m_place m_end m_fault m_faultAt m_read m_crowds m_traced m_here m_hand m_view m_up m_down m_ruleSize m_ruleRow m_ruleDoes m_name m_goes m_tape m_readSize m_readRow m_readDoes m_own m_crowd m_isStep m_isOfGoal m_isMet m_most m_stands m_doesHere m_from m_trace))) (va_Qv (fun (_ : Unit) => True) (fun _ => VB g A (MW g q m_thrown m_n m_robots m_viewed m_rules m_taped m_latest m_size m_at m_sort m_place m_end m_fault m_faultAt m_read m_crowds m_traced m_here res m_view m_up m_down m_ruleSize m_ruleRow m_ruleDoes m_name m_goes m_tape m_readSize m_readRow m_readDoes m_own m_crowd m_isStep m_isOfGoal m_isMet m_most m_stands m_doesHere m_from m_trace)) A) 0 0 A := by
  unfold F_X8_take at h
  refine MetV (own := RX8) (ws' := (MW g q m_thrown m_n m_robots m_viewed m_rules m_taped m_latest m_size m_at m_sort m_place m_end m_fault m_faultAt m_read m_crowds m_traced m_here res m_view m_up m_down m_ruleSize m_ruleRow m_ruleDoes m_name m_goes m_tape m_readSize m_readRow m_readDoes m_own m_crowd m_isStep m_isOfGoal m_isMet m_most m_stands m_doesHere m_from m_trace)) (by decide) rfl (Nat.le_of_ble_eq_true rfl) ?_
  intro p e s m args below meth c Q F E ret ls J hl
  have hx := F.1
  have hb := F.2.1
  have hl : lv_has ls 2 [(0, .ref (q 0))] := hl
  refine lv_iconst (v := 0) hx hb dX8_take_0 (by decide) ?_
  refine lv_istore_n (lv' := [(1, .int 0), (0, .ref (q 0))]) hx hb dX8_take_1 rfl hl (by decide) rfl (fun ls hl => ?_)
  obtain ⟨o_L1, ho_L1, h⟩ := ob h
  have T_L1 : ∀ (f : Nat) (l1_L1 : Int32) (m_hand_L1 : Nat → Int32) (o_L1 : Nat → Int32), F_X8_take_L1 m_here f l1_L1 m_hand_L1 = some o_L1 → ∀ (H : Heap) (locs : List Loc) (ls : Array Slot), VJ g A s.heap (MW g q m_thrown m_n m_robots m_viewed m_rules m_taped m_latest m_size m_at m_sort m_place m_end m_fault m_faultAt m_read m_crowds m_traced m_here m_hand_L1 m_view m_up m_down m_ruleSize m_ruleRow m_ruleDoes m_name m_goes m_tape m_readSize m_readRow m_readDoes m_own m_crowd m_isStep m_isOfGoal m_isMet m_most m_stands m_doesHere m_from m_trace) H locs → lv_has ls 2 [(0, .ref (q 0)), (1, .int l1_L1)] → (∀ (H : Heap) (locs : List Loc) (ls : Array Slot), VJ g A s.heap (MW g q m_thrown m_n m_robots m_viewed m_rules m_taped m_latest m_size m_at m_sort m_place m_end m_fault m_faultAt m_read m_crowds m_traced m_here o_L1 m_view m_up m_down m_ruleSize m_ruleRow m_ruleDoes m_name m_goes m_tape m_readSize m_readRow m_readDoes m_own m_crowd m_isStep m_isOfGoal m_isMet m_most m_stands m_doesHere m_from m_trace) H locs → lv_has ls 2 [] → W p l e rm_X8_take s m args below meth c H locs 0 0 Q (F0 m 26 ls [])) → W p l e rm_X8_take s m args below meth c H locs 0 0 Q (F0 m 2 ls []) := by
    clear h ho_L1 hl J
    intro f
    induction f with
    | zero => intro l1_L1 m_hand_L1 o_L1 h; exact absurd h (by simp [F_X8_take_L1])
    | succ f ih =>
      intro l1_L1 m_hand_L1 o_L1 h H locs ls J hl K_L1
      rw [F_X8_take_L1.eq_2] at h
      refine lv_iload_n hx hb dX8_take_2 rfl (lv_at hl 1 rfl) ?_
      refine lv_bipush (v := 9) hx hb dX8_take_3 (by decide) ?_
      refine lv_icmp_ge (tgt := 26) hx hb dX8_take_5 (by decide) (fun c2 => ?_) (fun c2 => ?_)
      · have h := itp c2 h
        obtain rfl := Option.some.inj h
        exact K_L1 _ _ _ J (lv_sub hl [] rfl)
      · have h := itn c2 h
        refine lv_aload_n hx hb dX8_take_8 rfl (lv_at hl 0 rfl) ?_
        refine mg_0_4 F E J fl_X8_17 dX8_take_9 ?_
        refine lv_iload_n hx hb dX8_take_12 rfl (lv_at hl 1 rfl) ?_
        refine lv_aload_n hx hb dX8_take_13 rfl (lv_at hl 0 rfl) ?_
        refine mg_0_3 F E J fl_X8_13 dX8_take_14 ?_
        refine lv_iload_n hx hb dX8_take_17 rfl (lv_at hl 1 rfl) ?_
        obtain ⟨hi, h⟩ := gdt h
        refine ml_1 F E J (inbt hi) dX8_take_18 ?_
        obtain ⟨v3, hv3, h⟩ := obs h
        refine nmI hv3 ?_
        obtain ⟨hi, h⟩ := gdt h
        refine ms_2 F E J (inbt hi) dX8_take_19 (fun H locs J => ?_)
        obtain ⟨v4, hv4, h⟩ := obs h
        refine lv_iinc (v := v4) (lv' := [(1, .int v4), (0, .ref (q 0))]) hx hb dX8_take_20 hl (k := 1) rfl (by rw [← hv4]; rfl) (by decide) rfl (fun ls hl => ?_)
        refine lv_goto (tgt := 2) hx hb dX8_take_23 (by decide) ?_
        exact ih _ _ _ h _ _ _ J (lv_sub hl [1, 0] rfl) K_L1
  refine T_L1 FU 0 m_hand o_L1 ho_L1 _ _ _ J (lv_sub hl [1, 0] rfl) (fun H locs ls J hl => ?_)
  obtain rfl := Option.some.inj h
  exact ret _ _ _ _ J dX8_take_26
def F_X3_beside (a0 : Int32) (a1 : Int32) (x_places : Int32) : Option (Int32) :=
  Option.bind (some (a0 + a1)) fun v1 => (if v1 < x_places then (if 0 ≤ v1 then some v1 else some (x_places - 1)) else some 0)
def rm_X3_beside : Room := { frames := 0, cells := 0, slots := 0, locals := 0 }
set_option maxHeartbeats 4000000 in
set_option maxRecDepth 100000 in
theorem c_X3_beside {l : Launch} {g : GG} {q : Nat → Nat} {A : Nat → Prop} {x_crowd x_latestFault x_places x_mask x_w_robots x_w_size x_w_nexts x_a_length x_t_length x_t_token x_t_from x_t_value x_t_behind x_r_wants x_r_pairs x_r_sees : Int32} {x_r_row : Int64} {x_b_size x_s_size : Int32} {x_w_names : Nat → Int32} {x_w_goals x_w_links : Nat → Int64} {x_w_linked x_w_ups x_w_downs x_w_next x_a_begun x_t_bytes : Nat → Int32} {x_b_rows : Nat → Int64} {x_b_acts : Nat → Int32} {x_s_rows : Nat → Int64} {x_s_acts : Nat → Int32} (a0 : Int32) (a1 : Int32) (res : Int32) (h : F_X3_beside a0 a1 x_places = some res) : Met l yX3_beside (wS yX3_beside cX3_beside 4 (some .int)) rm_X3_beside (va_Pc [.ref (q 1), .int a0, .int a1] (VB g A (XW g q x_crowd x_latestFault x_places x_mask x_w_robots x_w_size x_w_nexts x_a_length x_t_length x_t_token x_t_from x_t_value x_t_behind x_r_wants x_r_pairs x_r_sees x_r_row x_b_size x_s_size x_w_names x_w_goals x_w_links x_w_linked x_w_ups x_w_downs x_w_next x_a_begun x_t_bytes x_b_rows x_b_acts x_s_rows x_s_acts))) (va_Qi (fun r (_ : Unit) => r = res) (fun _ => VB g A (XW g q x_crowd x_latestFault x_places x_mask x_w_robots x_w_size x_w_nexts x_a_length x_t_length x_t_token x_t_from x_t_value x_t_behind x_r_wants x_r_pairs x_r_sees x_r_row x_b_size x_s_size x_w_names x_w_goals x_w_links x_w_linked x_w_ups x_w_downs x_w_next x_a_begun x_t_bytes x_b_rows x_b_acts x_s_rows x_s_acts)) A) 0 0 A := by
  unfold F_X3_beside at h
  refine MetI (res := res) (own := RX3) (ws' := (XW g q x_crowd x_latestFault x_places x_mask x_w_robots x_w_size x_w_nexts x_a_length x_t_length x_t_token x_t_from x_t_value x_t_behind x_r_wants x_r_pairs x_r_sees x_r_row x_b_size x_s_size x_w_names x_w_goals x_w_links x_w_linked x_w_ups x_w_downs x_w_next x_a_begun x_t_bytes x_b_rows x_b_acts x_s_rows x_s_acts)) (by decide) rfl (Nat.le_of_ble_eq_true rfl) ?_
  intro p e s m args below meth c Q F E ret ls J hl
  have hx := F.1
  have hb := F.2.1
  have hl : lv_has ls 4 [(0, .ref (q 1)), (1, .int a0), (2, .int a1)] := hl
  refine lv_iload_n hx hb dX3_beside_0 rfl (lv_at hl 1 rfl) ?_
  refine lv_iload_n hx hb dX3_beside_1 rfl (lv_at hl 2 rfl) ?_
  refine lv_iadd hx hb dX3_beside_2 ?_
  obtain ⟨v1, hv1, h⟩ := obs h
  refine nmI hv1 ?_
  refine lv_istore_n (lv' := [(3, .int v1), (0, .ref (q 1)), (1, .int a0), (2, .int a1)]) hx hb dX3_beside_3 rfl hl (by decide) rfl (fun ls hl => ?_)
  refine lv_iload_n hx hb dX3_beside_4 rfl (lv_at hl 0 rfl) ?_
  refine lv_aload_n hx hb dX3_beside_5 rfl (lv_at hl 1 rfl) ?_
  refine xg_1_0 F E J fl_X3_9 dX3_beside_6 ?_
  refine lv_icmp_lt (tgt := 14) hx hb dX3_beside_9 (by decide) (fun c2 => ?_) (fun c2 => ?_)
  · have h := itp c2 h
    refine lv_iload_n hx hb dX3_beside_14 rfl (lv_at hl 0 rfl) ?_
    refine lv_if_ge (tgt := 27) hx hb dX3_beside_15 (by decide) (fun c3 => ?_) (fun c3 => ?_)
    · have h := itp c3 h
      refine lv_iload_n hx hb dX3_beside_27 rfl (lv_at hl 0 rfl) ?_
      obtain rfl := Option.some.inj h
      exact ret _ _ _ _ J dX3_beside_28
    · have h := itn c3 h
      refine lv_aload_n hx hb dX3_beside_18 rfl (lv_at hl 1 rfl) ?_
      refine xg_1_0 F E J fl_X3_9 dX3_beside_19 ?_
      refine lv_iconst (v := 1) hx hb dX3_beside_22 (by decide) ?_
      refine lv_isub hx hb dX3_beside_23 ?_
      refine lv_goto (tgt := 28) hx hb dX3_beside_24 (by decide) ?_
      obtain rfl := Option.some.inj h
      exact ret _ _ _ _ J dX3_beside_28
  · have h := itn c2 h
    refine lv_iconst (v := 0) hx hb dX3_beside_12 (by decide) ?_
    obtain rfl := Option.some.inj h
    exact ret _ _ _ _ J dX3_beside_13
def F_X3_gapAbove_L1 (l1_L1 : Int32) (x_places_L1 : Int32) : Nat → Int32 → Int32 →  Option (Sum (Int32) (Unit))
  | 0, _, _ => none
  | f+1, l3_L1, l4_L1 =>
    (if x_places_L1 ≤ l4_L1 then some (.inr ()) else Option.bind (F_X3_beside l3_L1 1 x_places_L1) fun p3 => Option.bind (F_X3_manyAt l1_L1 p3 x_places_L1) fun p4 => (if p4 ≤ 0 then Option.bind (some (l4_L1 + 1)) fun v6 => F_X3_gapAbove_L1 l1_L1 x_places_L1 f p3 v6 else some (.inl l4_L1)))
def F_X3_gapAbove (a0 : Int32) (a1 : Int32) (x_places : Int32) : Option (Int32) :=
  Option.bind (F_X3_gapAbove_L1 a0 x_places FU a1 1) fun o_L1s => Sum.elim (fun x => some x) (fun o_L1 => some x_places) o_L1s
def rm_X3_gapAbove : Room := { frames := 1, cells := 0, slots := 0, locals := 23 }
set_option maxHeartbeats 4000000 in
set_option maxRecDepth 100000 in
theorem c_X3_gapAbove {l : Launch} {g : GG} {q : Nat → Nat} {A : Nat → Prop} {x_crowd x_latestFault x_places x_mask x_w_robots x_w_size x_w_nexts x_a_length x_t_length x_t_token x_t_from x_t_value x_t_behind x_r_wants x_r_pairs x_r_sees : Int32} {x_r_row : Int64} {x_b_size x_s_size : Int32} {x_w_names : Nat → Int32} {x_w_goals x_w_links : Nat → Int64} {x_w_linked x_w_ups x_w_downs x_w_next x_a_begun x_t_bytes : Nat → Int32} {x_b_rows : Nat → Int64} {x_b_acts : Nat → Int32} {x_s_rows : Nat → Int64} {x_s_acts : Nat → Int32} (a0 : Int32) (a1 : Int32) (res : Int32) (h : F_X3_gapAbove a0 a1 x_places = some res) : Met l yX3_gapAbove (wS yX3_gapAbove cX3_gapAbove 5 (some .int)) rm_X3_gapAbove (va_Pc [.ref (q 1), .int a0, .int a1] (VB g A (XW g q x_crowd x_latestFault x_places x_mask x_w_robots x_w_size x_w_nexts x_a_length x_t_length x_t_token x_t_from x_t_value x_t_behind x_r_wants x_r_pairs x_r_sees x_r_row x_b_size x_s_size x_w_names x_w_goals x_w_links x_w_linked x_w_ups x_w_downs x_w_next x_a_begun x_t_bytes x_b_rows x_b_acts x_s_rows x_s_acts))) (va_Qi (fun r (_ : Unit) => r = res) (fun _ => VB g A (XW g q x_crowd x_latestFault x_places x_mask x_w_robots x_w_size x_w_nexts x_a_length x_t_length x_t_token x_t_from x_t_value x_t_behind x_r_wants x_r_pairs x_r_sees x_r_row x_b_size x_s_size x_w_names x_w_goals x_w_links x_w_linked x_w_ups x_w_downs x_w_next x_a_begun x_t_bytes x_b_rows x_b_acts x_s_rows x_s_acts)) A) 0 0 A := by
  unfold F_X3_gapAbove at h
  refine MetI (res := res) (own := RX3) (ws' := (XW g q x_crowd x_latestFault x_places x_mask x_w_robots x_w_size x_w_nexts x_a_length x_t_length x_t_token x_t_from x_t_value x_t_behind x_r_wants x_r_pairs x_r_sees x_r_row x_b_size x_s_size x_w_names x_w_goals x_w_links x_w_linked x_w_ups x_w_downs x_w_next x_a_begun x_t_bytes x_b_rows x_b_acts x_s_rows x_s_acts)) (by decide) rfl (Nat.le_of_ble_eq_true rfl) ?_
  intro p e s m args below meth c Q F E ret ls J hl
  have hx := F.1
  have hb := F.2.1
  have hl : lv_has ls 5 [(0, .ref (q 1)), (1, .int a0), (2, .int a1)] := hl
  refine lv_iload_n hx hb dX3_gapAbove_0 rfl (lv_at hl 2 rfl) ?_
  refine lv_istore_n (lv' := [(3, .int a1), (0, .ref (q 1)), (1, .int a0), (2, .int a1)]) hx hb dX3_gapAbove_1 rfl hl (by decide) rfl (fun ls hl => ?_)
  refine lv_iconst (v := 1) hx hb dX3_gapAbove_2 (by decide) ?_
  refine lv_istore (lv' := [(4, .int 1), (3, .int a1), (0, .ref (q 1)), (1, .int a0), (2, .int a1)]) hx hb dX3_gapAbove_3 hl (by decide) rfl (fun ls hl => ?_)
  obtain ⟨o_L1s, ho_L1, h⟩ := ob h
  have T_L1 : ∀ (f : Nat) (l3_L1 : Int32) (l4_L1 : Int32) (o_L1s : Sum (Int32) (Unit)), F_X3_gapAbove_L1 a0 x_places f l3_L1 l4_L1 = some o_L1s → ∀ (H : Heap) (locs : List Loc) (ls : Array Slot), VJ g A s.heap (XW g q x_crowd x_latestFault x_places x_mask x_w_robots x_w_size x_w_nexts x_a_length x_t_length x_t_token x_t_from x_t_value x_t_behind x_r_wants x_r_pairs x_r_sees x_r_row x_b_size x_s_size x_w_names x_w_goals x_w_links x_w_linked x_w_ups x_w_downs x_w_next x_a_begun x_t_bytes x_b_rows x_b_acts x_s_rows x_s_acts) H locs → lv_has ls 5 [(0, .ref (q 1)), (1, .int a0), (3, .int l3_L1), (4, .int l4_L1)] → (∀ (o_L1 : Unit), o_L1s = .inr o_L1 → ∀ (H : Heap) (locs : List Loc) (ls : Array Slot), VJ g A s.heap (XW g q x_crowd x_latestFault x_places x_mask x_w_robots x_w_size x_w_nexts x_a_length x_t_length x_t_token x_t_from x_t_value x_t_behind x_r_wants x_r_pairs x_r_sees x_r_row x_b_size x_s_size x_w_names x_w_goals x_w_links x_w_linked x_w_ups x_w_downs x_w_next x_a_begun x_t_bytes x_b_rows x_b_acts x_s_rows x_s_acts) H locs → lv_has ls 5 [(0, .ref (q 1))] → W p l e rm_X3_gapAbove s m args below meth c H locs 0 0 Q (F0 m 39 ls [])) → (∀ x, o_L1s = .inl x → x = res) → W p l e rm_X3_gapAbove s m args below meth c H locs 0 0 Q (F0 m 5 ls []) := by
    clear h ho_L1 hl J
    intro f
    induction f with
    | zero => intro l3_L1 l4_L1 o_L1s h; exact absurd h (by simp [F_X3_gapAbove_L1])
    | succ f ih =>
      intro l3_L1 l4_L1 o_L1s h H locs ls J hl K_L1 kr_L1
      rw [F_X3_gapAbove_L1.eq_2] at h
      refine lv_iload hx hb dX3_gapAbove_5 (lv_at hl 3 rfl) ?_
      refine lv_aload_n hx hb dX3_gapAbove_7 rfl (lv_at hl 0 rfl) ?_
      refine xg_1_0 F E J fl_X3_9 dX3_gapAbove_8 ?_
      refine lv_icmp_ge (tgt := 39) hx hb dX3_gapAbove_11 (by decide) (fun c2 => ?_) (fun c2 => ?_)
      · have h := itp c2 h
        obtain rfl := Option.some.inj h
        exact K_L1 _ rfl _ _ _ J (lv_sub hl [0] rfl)
      · have h := itn c2 h
        refine lv_aload_n hx hb dX3_gapAbove_14 rfl (lv_at hl 0 rfl) ?_
        refine lv_iload_n hx hb dX3_gapAbove_15 rfl (lv_at hl 2 rfl) ?_
        refine lv_iconst (v := 1) hx hb dX3_gapAbove_16 (by decide) ?_
        obtain ⟨p3, hp3, h⟩ := ob h
        refine onI (runV (As := [.int l3_L1, .int 1]) (rest := []) F E J (c_X3_beside l3_L1 1 p3 hp3) cw_X3_18 ⟨rfl, rfl, Nat.le_of_ble_eq_true rfl, Nat.le_of_ble_eq_true rfl⟩ rcX1 rfl hl.1 rfl (Nat.le_of_ble_eq_true rfl) dX3_gapAbove_17) J (fun H locs J => ?_)
        refine lv_istore_n (lv' := [(3, .int p3), (0, .ref (q 1)), (1, .int a0), (4, .int l4_L1)]) hx hb dX3_gapAbove_20 rfl hl (by decide) rfl (fun ls hl => ?_)
        refine lv_aload_n hx hb dX3_gapAbove_21 rfl (lv_at hl 1 rfl) ?_
        refine lv_iload_n hx hb dX3_gapAbove_22 rfl (lv_at hl 2 rfl) ?_
        refine lv_iload_n hx hb dX3_gapAbove_23 rfl (lv_at hl 0 rfl) ?_
        obtain ⟨p4, hp4, h⟩ := ob h
        refine onI (runV (As := [.int a0, .int p3]) (rest := []) F E J (c_X3_manyAt a0 p3 p4 hp4) cw_X3_26 ⟨rfl, rfl, Nat.le_of_ble_eq_true rfl, Nat.le_of_ble_eq_true rfl⟩ rcX1 rfl hl.1 rfl (Nat.le_of_ble_eq_true rfl) dX3_gapAbove_24) J (fun H locs J => ?_)
        refine lv_if_le (tgt := 33) hx hb dX3_gapAbove_27 (by decide) (fun c5 => ?_) (fun c5 => ?_)
        · have h := itp c5 h
          obtain ⟨v6, hv6, h⟩ := obs h
          refine lv_iinc (v := v6) (lv' := [(4, .int v6), (3, .int p3), (0, .ref (q 1)), (1, .int a0)]) hx hb dX3_gapAbove_33 hl (k := 3) rfl (by rw [← hv6]; rfl) (by decide) rfl (fun ls hl => ?_)
          refine lv_goto (tgt := 5) hx hb dX3_gapAbove_36 (by decide) ?_
          exact ih _ _ _ h _ _ _ J (lv_sub hl [2, 3, 1, 0] rfl) K_L1 kr_L1
        · have h := itn c5 h
          refine lv_iload hx hb dX3_gapAbove_30 (lv_at hl 3 rfl) ?_
          obtain rfl := Option.some.inj h
          obtain rfl := kr_L1 _ rfl
          exact ret _ _ _ _ J dX3_gapAbove_32
  refine T_L1 FU a1 1 o_L1s ho_L1 _ _ _ J (lv_sub hl [2, 3, 1, 0] rfl) (fun o_L1 eo H locs ls J hl => ?_) (fun x ex => ?_)
  · subst eo
    have h := elimR h
    refine lv_aload_n hx hb dX3_gapAbove_39 rfl (lv_at hl 0 rfl) ?_
    refine xg_1_0 F E J fl_X3_9 dX3_gapAbove_40 ?_
    obtain rfl := Option.some.inj h
    exact ret _ _ _ _ J dX3_gapAbove_43
  · subst ex
    exact Option.some.inj (elimL h)
