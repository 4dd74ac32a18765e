set_option maxHeartbeats 4000000 in
set_option maxRecDepth 100000 in
theorem c_X7_outside {l : Launch} {g : GG} {A : Nat → Prop} {ws : va_W} (a0 : Int32) (a1 : Int32) (res : Int32) (h : F_X7_outside a0 a1 = some res) : Met l yX7_outside (wS yX7_outside cX7_outside 2 (some .boolean)) rm_X7_outside (va_Pc [.int a0, .int a1] (VB g A ws)) (va_Qi (fun r (_ : Unit) => r = res ∧ zB r) (fun _ => VB g A ws) A) 0 0 A := by
  unfold F_X7_outside at h
  refine MetZ (res := res) (own := RX7) (ws' := ws) (by decide) rfl (Nat.le_of_ble_eq_true rfl) ?_
  intro p e s m args below meth c Q F E ret ls J hl
  have hx := F.1
  have hb := F.2.1
  have hl : lv_has ls 2 [(0, .int a0), (1, .int a1)] := hl
  refine lv_iload_n hx hb dX7_outside_0 rfl (lv_at hl 0 rfl) ?_
  refine lv_if_lt (tgt := 9) hx hb dX7_outside_1 (by decide) (fun c1 => ?_) (fun c1 => ?_)
  · have h := itp c1 h
    refine lv_iconst (v := 1) hx hb dX7_outside_9 (by decide) ?_
    refine lv_goto (tgt := 14) hx hb dX7_outside_10 (by decide) ?_
    obtain rfl := Option.some.inj h
    exact ret _ _ _ _ zB1 J dX7_outside_14
  · have h := itn c1 h
    refine lv_iload_n hx hb dX7_outside_4 rfl (lv_at hl 0 rfl) ?_
    refine lv_iload_n hx hb dX7_outside_5 rfl (lv_at hl 1 rfl) ?_
    refine lv_icmp_lt (tgt := 13) hx hb dX7_outside_6 (by decide) (fun c2 => ?_) (fun c2 => ?_)
    · have h := itp c2 h
      refine lv_iconst (v := 0) hx hb dX7_outside_13 (by decide) ?_
      obtain rfl := Option.some.inj h
      exact ret _ _ _ _ zB0 J dX7_outside_14
    · have h := itn c2 h
      refine lv_iconst (v := 1) hx hb dX7_outside_9 (by decide) ?_
      refine lv_goto (tgt := 14) hx hb dX7_outside_10 (by decide) ?_
      obtain rfl := Option.some.inj h
      exact ret _ _ _ _ zB1 J dX7_outside_14
set_option maxHeartbeats 4000000 in
set_option maxRecDepth 100000 in
theorem c_X7_noPlace {l : Launch} {g : GG} {A : Nat → Prop} {q : Nat → Nat} {x_crowd x_latestFault x_places x_mask x_w_robots x_w_size x_w_nexts x_a_length x_t_length x_t_token x_t_from x_t_value x_t_behind x_r_wants x_r_pairs x_r_sees : Int32} {x_r_row : Int64} {x_b_size x_s_size : Int32} {x_w_names : Nat → Int32} {x_w_goals x_w_links : Nat → Int64} {x_w_linked x_w_ups x_w_downs x_w_next x_a_begun x_t_bytes : Nat → Int32} {x_b_rows : Nat → Int64} {x_b_acts : Nat → Int32} {x_s_rows : Nat → Int64} {x_s_acts : Nat → Int32} (a0 : Int32) (res : Int32) (h : F_X7_noPlace a0 x_places = some res) : Met l yX7_noPlace (wS yX7_noPlace cX7_noPlace 2 (some .boolean)) rm_X7_noPlace (va_Pc [.ref (q 0), .int a0] (VB g A (XW g q x_crowd x_latestFault x_places x_mask x_w_robots x_w_size x_w_nexts x_a_length x_t_length x_t_token x_t_from x_t_value x_t_behind x_r_wants x_r_pairs x_r_sees x_r_row x_b_size x_s_size x_w_names x_w_goals x_w_links x_w_linked x_w_ups x_w_downs x_w_next x_a_begun x_t_bytes x_b_rows x_b_acts x_s_rows x_s_acts))) (va_Qi (fun r (_ : Unit) => r = res ∧ zB r) (fun _ => VB g A (XW g q x_crowd x_latestFault x_places x_mask x_w_robots x_w_size x_w_nexts x_a_length x_t_length x_t_token x_t_from x_t_value x_t_behind x_r_wants x_r_pairs x_r_sees x_r_row x_b_size x_s_size x_w_names x_w_goals x_w_links x_w_linked x_w_ups x_w_downs x_w_next x_a_begun x_t_bytes x_b_rows x_b_acts x_s_rows x_s_acts)) A) 0 0 A := by
  unfold F_X7_noPlace at h
  refine MetZ (res := res) (own := RX7) (ws' := (XW g q x_crowd x_latestFault x_places x_mask x_w_robots x_w_size x_w_nexts x_a_length x_t_length x_t_token x_t_from x_t_value x_t_behind x_r_wants x_r_pairs x_r_sees x_r_row x_b_size x_s_size x_w_names x_w_goals x_w_links x_w_linked x_w_ups x_w_downs x_w_next x_a_begun x_t_bytes x_b_rows x_b_acts x_s_rows x_s_acts)) (by decide) rfl (Nat.le_of_ble_eq_true rfl) ?_
  intro p e s m args below meth c Q F E ret ls J hl
  have hx := F.1
  have hb := F.2.1
  have hl : lv_has ls 2 [(0, .ref (q 0)), (1, .int a0)] := hl
  refine lv_iload_n hx hb dX7_noPlace_0 rfl (lv_at hl 1 rfl) ?_
  refine lv_aload_n hx hb dX7_noPlace_1 rfl (lv_at hl 0 rfl) ?_
  refine xg_0_0 F E J fl_X7_23 dX7_noPlace_2 ?_
  refine xgN_1_0 (host := RX7) F E J (by decide +kernel) dX7_noPlace_5 ?_
  obtain ⟨p1, hp1, h⟩ := ob h
  refine onZ (runS (As := [.int a0, .int x_places]) (rest := []) F E J (c_X7_outside a0 x_places p1 hp1) cw_X7_110 ⟨rfl, rfl, Nat.le_of_ble_eq_true rfl, Nat.le_of_ble_eq_true rfl⟩ rfl hl.1 rfl (Nat.le_of_ble_eq_true rfl) dX7_noPlace_8) J (fun hzbp1 H locs J => ?_)
  obtain rfl := Option.some.inj h
  exact ret _ _ _ _ (by assumption) J dX7_noPlace_11
set_option maxHeartbeats 4000000 in
set_option maxRecDepth 100000 in
theorem c_X3_manyAt {l : Launch} {g : GG} {A : Nat → Prop} {q : Nat → Nat} {x_crowd x_latestFault x_places x_mask x_w_robots x_w_size x_w_nexts x_a_length x_t_length x_t_token x_t_from x_t_value x_t_behind x_r_wants x_r_pairs x_r_sees : Int32} {x_r_row : Int64} {x_b_size x_s_size : Int32} {x_w_names : Nat → Int32} {x_w_goals x_w_links : Nat → Int64} {x_w_linked x_w_ups x_w_downs x_w_next x_a_begun x_t_bytes : Nat → Int32} {x_b_rows : Nat → Int64} {x_b_acts : Nat → Int32} {x_s_rows : Nat → Int64} {x_s_acts : Nat → Int32} (a0 : Int32) (a1 : Int32) (res : Int32) (h : F_X3_manyAt a0 a1 x_places = some res) : Met l yX3_manyAt (wS yX3_manyAt cX3_manyAt 3 (some .int)) rm_X3_manyAt (va_Pc [.ref (q 1), .int a0, .int a1] (VB g A (XW g q x_crowd x_latestFault x_places x_mask x_w_robots x_w_size x_w_nexts x_a_length x_t_length x_t_token x_t_from x_t_value x_t_behind x_r_wants x_r_pairs x_r_sees x_r_row x_b_size x_s_size x_w_names x_w_goals x_w_links x_w_linked x_w_ups x_w_downs x_w_next x_a_begun x_t_bytes x_b_rows x_b_acts x_s_rows x_s_acts))) (va_Qi (fun r (_ : Unit) => r = res) (fun _ => VB g A (XW g q x_crowd x_latestFault x_places x_mask x_w_robots x_w_size x_w_nexts x_a_length x_t_length x_t_token x_t_from x_t_value x_t_behind x_r_wants x_r_pairs x_r_sees x_r_row x_b_size x_s_size x_w_names x_w_goals x_w_links x_w_linked x_w_ups x_w_downs x_w_next x_a_begun x_t_bytes x_b_rows x_b_acts x_s_rows x_s_acts)) A) 0 0 A := by
  unfold F_X3_manyAt at h
  refine MetI (res := res) (own := RX3) (ws' := (XW g q x_crowd x_latestFault x_places x_mask x_w_robots x_w_size x_w_nexts x_a_length x_t_length x_t_token x_t_from x_t_value x_t_behind x_r_wants x_r_pairs x_r_sees x_r_row x_b_size x_s_size x_w_names x_w_goals x_w_links x_w_linked x_w_ups x_w_downs x_w_next x_a_begun x_t_bytes x_b_rows x_b_acts x_s_rows x_s_acts)) (by decide) rfl (Nat.le_of_ble_eq_true rfl) ?_
  intro p e s m args below meth c Q F E ret ls J hl
  have hx := F.1
  have hb := F.2.1
  have hl : lv_has ls 3 [(0, .ref (q 1)), (1, .int a0), (2, .int a1)] := hl
  refine lv_iload_n hx hb dX3_manyAt_0 rfl (lv_at hl 1 rfl) ?_
  refine lv_iconst (v := 3) hx hb dX3_manyAt_1 (by decide) ?_
  refine lv_aload_n hx hb dX3_manyAt_2 rfl (lv_at hl 0 rfl) ?_
  refine xg_1_0 F E J fl_X3_9 dX3_manyAt_3 ?_
  refine lv_iconst (v := 1) hx hb dX3_manyAt_6 (by decide) ?_
  refine lv_isub hx hb dX3_manyAt_7 ?_
  refine lv_iload_n hx hb dX3_manyAt_8 rfl (lv_at hl 2 rfl) ?_
  refine lv_isub hx hb dX3_manyAt_9 ?_
  refine lv_imul hx hb dX3_manyAt_10 ?_
  refine lv_iushr (v := (jushr a0 (3 * ((x_places - 1) - a1)))) hx hb dX3_manyAt_11 rfl ?_
  refine lv_bipush (v := 7) hx hb dX3_manyAt_12 (by decide) ?_
  refine lv_iand hx hb dX3_manyAt_14 ?_
  obtain rfl := Option.some.inj h
  exact ret _ _ _ _ J dX3_manyAt_15
set_option maxHeartbeats 4000000 in
set_option maxRecDepth 100000 in
theorem c_X3_robotsIn {l : Launch} {g : GG} {A : Nat → Prop} {q : Nat → Nat} {x_crowd x_latestFault x_places x_mask x_w_robots x_w_size x_w_nexts x_a_length x_t_length x_t_token x_t_from x_t_value x_t_behind x_r_wants x_r_pairs x_r_sees : Int32} {x_r_row : Int64} {x_b_size x_s_size : Int32} {x_w_names : Nat → Int32} {x_w_goals x_w_links : Nat → Int64} {x_w_linked x_w_ups x_w_downs x_w_next x_a_begun x_t_bytes : Nat → Int32} {x_b_rows : Nat → Int64} {x_b_acts : Nat → Int32} {x_s_rows : Nat → Int64} {x_s_acts : Nat → Int32} (a0 : Int32) (res : Int32) (h : F_X3_robotsIn a0 x_places = some res) : Met l yX3_robotsIn (wS yX3_robotsIn cX3_robotsIn 4 (some .int)) rm_X3_robotsIn (va_Pc [.ref (q 1), .int a0] (VB g A (XW g q x_crowd x_latestFault x_places x_mask x_w_robots x_w_size x_w_nexts x_a_length x_t_length x_t_token x_t_from x_t_value x_t_behind x_r_wants x_r_pairs x_r_sees x_r_row x_b_size x_s_size x_w_names x_w_goals x_w_links x_w_linked x_w_ups x_w_downs x_w_next x_a_begun x_t_bytes x_b_rows x_b_acts x_s_rows x_s_acts))) (va_Qi (fun r (_ : Unit) => r = res) (fun _ => VB g A (XW g q x_crowd x_latestFault x_places x_mask x_w_robots x_w_size x_w_nexts x_a_length x_t_length x_t_token x_t_from x_t_value x_t_behind x_r_wants x_r_pairs x_r_sees x_r_row x_b_size x_s_size x_w_names x_w_goals x_w_links x_w_linked x_w_ups x_w_downs x_w_next x_a_begun x_t_bytes x_b_rows x_b_acts x_s_rows x_s_acts)) A) 0 0 A := by
  unfold F_X3_robotsIn at h
  refine MetI (res := res) (own := RX3) (ws' := (XW g q x_crowd x_latestFault x_places x_mask x_w_robots x_w_size x_w_nexts x_a_length x_t_length x_t_token x_t_from x_t_value x_t_behind x_r_wants x_r_pairs x_r_sees x_r_row x_b_size x_s_size x_w_names x_w_goals x_w_links x_w_linked x_w_ups x_w_downs x_w_next x_a_begun x_t_bytes x_b_rows x_b_acts x_s_rows x_s_acts)) (by decide) rfl (Nat.le_of_ble_eq_true rfl) ?_
  intro p e s m args below meth c Q F E ret ls J hl
  have hx := F.1
  have hb := F.2.1
  have hl : lv_has ls 4 [(0, .ref (q 1)), (1, .int a0)] := hl
  refine lv_iconst (v := 0) hx hb dX3_robotsIn_0 (by decide) ?_
  refine lv_istore_n (lv' := [(2, .int 0), (0, .ref (q 1)), (1, .int a0)]) hx hb dX3_robotsIn_1 rfl hl (by decide) rfl (fun ls hl => ?_)
  refine lv_iconst (v := 0) hx hb dX3_robotsIn_2 (by decide) ?_
  refine lv_istore_n (lv' := [(3, .int 0), (2, .int 0), (0, .ref (q 1)), (1, .int a0)]) hx hb dX3_robotsIn_3 rfl hl (by decide) rfl (fun ls hl => ?_)
  obtain ⟨o_L1, ho_L1, h⟩ := ob h
  have T_L1 : ∀ (f : Nat) (l2_L1 : Int32) (l3_L1 : Int32) (o_L1 : Int32), F_X3_robotsIn_L1 a0 x_places f l2_L1 l3_L1 = some o_L1 → ∀ (H : Heap) (locs : List Loc) (ls : Array Slot), VJ g A s.heap (XW g q x_crowd x_latestFault x_places x_mask x_w_robots x_w_size x_w_nexts x_a_length x_t_length x_t_token x_t_from x_t_value x_t_behind x_r_wants x_r_pairs x_r_sees x_r_row x_b_size x_s_size x_w_names x_w_goals x_w_links x_w_linked x_w_ups x_w_downs x_w_next x_a_begun x_t_bytes x_b_rows x_b_acts x_s_rows x_s_acts) H locs → lv_has ls 4 [(0, .ref (q 1)), (1, .int a0), (2, .int l2_L1), (3, .int l3_L1)] → (∀ (H : Heap) (locs : List Loc) (ls : Array Slot), VJ g A s.heap (XW g q x_crowd x_latestFault x_places x_mask x_w_robots x_w_size x_w_nexts x_a_length x_t_length x_t_token x_t_from x_t_value x_t_behind x_r_wants x_r_pairs x_r_sees x_r_row x_b_size x_s_size x_w_names x_w_goals x_w_links x_w_linked x_w_ups x_w_downs x_w_next x_a_begun x_t_bytes x_b_rows x_b_acts x_s_rows x_s_acts) H locs → lv_has ls 4 [(2, .int o_L1)] → W p l e rm_X3_robotsIn s m args below meth c H locs 0 0 Q (F0 m 27 ls [])) → W p l e rm_X3_robotsIn s m args below meth c H locs 0 0 Q (F0 m 4 ls []) := by
    clear h ho_L1 hl J
    intro f
    induction f with
    | zero => intro l2_L1 l3_L1 o_L1 h; exact absurd h (by simp [F_X3_robotsIn_L1])
    | succ f ih =>
      intro l2_L1 l3_L1 o_L1 h H locs ls J hl K_L1
      rw [F_X3_robotsIn_L1.eq_2] at h
      refine lv_iload_n hx hb dX3_robotsIn_4 rfl (lv_at hl 3 rfl) ?_
      refine lv_aload_n hx hb dX3_robotsIn_5 rfl (lv_at hl 0 rfl) ?_
      refine xg_1_0 F E J fl_X3_9 dX3_robotsIn_6 ?_
      refine lv_icmp_ge (tgt := 27) hx hb dX3_robotsIn_9 (by decide) (fun c2 => ?_) (fun c2 => ?_)
      · have h := itp c2 h
        obtain rfl := Option.some.inj h
        exact K_L1 _ _ _ J (lv_sub hl [2] rfl)
      · have h := itn c2 h
        refine lv_iload_n hx hb dX3_robotsIn_12 rfl (lv_at hl 2 rfl) ?_
        refine lv_aload_n hx hb dX3_robotsIn_13 rfl (lv_at hl 0 rfl) ?_
        refine lv_iload_n hx hb dX3_robotsIn_14 rfl (lv_at hl 1 rfl) ?_
        refine lv_iload_n hx hb dX3_robotsIn_15 rfl (lv_at hl 3 rfl) ?_
        obtain ⟨p3, hp3, h⟩ := ob h
        refine onI (runV (As := [.int a0, .int l3_L1]) (rest := [.int l2_L1]) F E J (c_X3_manyAt a0 l3_L1 p3 hp3) cw_X3_26 ⟨rfl, rfl, Nat.le_of_ble_eq_true rfl, Nat.le_of_ble_eq_true rfl⟩ rcX1 rfl hl.1 rfl (Nat.le_of_ble_eq_true rfl) dX3_robotsIn_16) J (fun H locs J => ?_)
        refine lv_iadd hx hb dX3_robotsIn_19 ?_
        obtain ⟨v4, hv4, h⟩ := obs h
        refine nmI hv4 ?_
        refine lv_istore_n (lv' := [(2, .int v4), (0, .ref (q 1)), (1, .int a0), (3, .int l3_L1)]) hx hb dX3_robotsIn_20 rfl hl (by decide) rfl (fun ls hl => ?_)
        obtain ⟨v5, hv5, h⟩ := obs h
        refine lv_iinc (v := v5) (lv' := [(3, .int v5), (2, .int v4), (0, .ref (q 1)), (1, .int a0)]) hx hb dX3_robotsIn_21 hl (k := 3) rfl (by rw [← hv5]; rfl) (by decide) rfl (fun ls hl => ?_)
        refine lv_goto (tgt := 4) hx hb dX3_robotsIn_24 (by decide) ?_
        exact ih _ _ _ h _ _ _ J (lv_sub hl [2, 3, 1, 0] rfl) K_L1
  refine T_L1 FU 0 0 o_L1 ho_L1 _ _ _ J (lv_sub hl [2, 3, 1, 0] rfl) (fun H locs ls J hl => ?_)
  refine lv_iload_n hx hb dX3_robotsIn_27 rfl (lv_at hl 0 rfl) ?_
  obtain rfl := Option.some.inj h
  exact ret _ _ _ _ J dX3_robotsIn_28
set_option maxHeartbeats 4000000 in
set_option maxRecDepth 100000 in
theorem c_X3_oneAt {l : Launch} {g : GG} {A : Nat → Prop} {q : Nat → Nat} {x_crowd x_latestFault x_places x_mask x_w_robots x_w_size x_w_nexts x_a_length x_t_length x_t_token x_t_from x_t_value x_t_behind x_r_wants x_r_pairs x_r_sees : Int32} {x_r_row : Int64} {x_b_size x_s_size : Int32} {x_w_names : Nat → Int32} {x_w_goals x_w_links : Nat → Int64} {x_w_linked x_w_ups x_w_downs x_w_next x_a_begun x_t_bytes : Nat → Int32} {x_b_rows : Nat → Int64} {x_b_acts : Nat → Int32} {x_s_rows : Nat → Int64} {x_s_acts : Nat → Int32} (a0 : Int32) (res : Int32) (h : F_X3_oneAt a0 x_places = some res) : Met l yX3_oneAt (wS yX3_oneAt cX3_oneAt 2 (some .int)) rm_X3_oneAt (va_Pc [.ref (q 1), .int a0] (VB g A (XW g q x_crowd x_latestFault x_places x_mask x_w_robots x_w_size x_w_nexts x_a_length x_t_length x_t_token x_t_from x_t_value x_t_behind x_r_wants x_r_pairs x_r_sees x_r_row x_b_size x_s_size x_w_names x_w_goals x_w_links x_w_linked x_w_ups x_w_downs x_w_next x_a_begun x_t_bytes x_b_rows x_b_acts x_s_rows x_s_acts))) (va_Qi (fun r (_ : Unit) => r = res) (fun _ => VB g A (XW g q x_crowd x_latestFault x_places x_mask x_w_robots x_w_size x_w_nexts x_a_length x_t_length x_t_token x_t_from x_t_value x_t_behind x_r_wants x_r_pairs x_r_sees x_r_row x_b_size x_s_size x_w_names x_w_goals x_w_links x_w_linked x_w_ups x_w_downs x_w_next x_a_begun x_t_bytes x_b_rows x_b_acts x_s_rows x_s_acts)) A) 0 0 A := by
  unfold F_X3_oneAt at h
  refine MetI (res := res) (own := RX3) (ws' := (XW g q x_crowd x_latestFault x_places x_mask x_w_robots x_w_size x_w_nexts x_a_length x_t_length x_t_token x_t_from x_t_value x_t_behind x_r_wants x_r_pairs x_r_sees x_r_row x_b_size x_s_size x_w_names x_w_goals x_w_links x_w_linked x_w_ups x_w_downs x_w_next x_a_begun x_t_bytes x_b_rows x_b_acts x_s_rows x_s_acts)) (by decide) rfl (Nat.le_of_ble_eq_true rfl) ?_
  intro p e s m args below meth c Q F E ret ls J hl
  have hx := F.1
  have hb := F.2.1
  have hl : lv_has ls 2 [(0, .ref (q 1)), (1, .int a0)] := hl
  refine lv_iconst (v := 1) hx hb dX3_oneAt_0 (by decide) ?_
  refine lv_iconst (v := 3) hx hb dX3_oneAt_1 (by decide) ?_
  refine lv_aload_n hx hb dX3_oneAt_2 rfl (lv_at hl 0 rfl) ?_
  refine xg_1_0 F E J fl_X3_9 dX3_oneAt_3 ?_
  refine lv_iconst (v := 1) hx hb dX3_oneAt_6 (by decide) ?_
  refine lv_isub hx hb dX3_oneAt_7 ?_
  refine lv_iload_n hx hb dX3_oneAt_8 rfl (lv_at hl 1 rfl) ?_
  refine lv_isub hx hb dX3_oneAt_9 ?_
  refine lv_imul hx hb dX3_oneAt_10 ?_
  refine lv_ishl hx hb dX3_oneAt_11 ?_
  obtain rfl := Option.some.inj h
  exact ret _ _ _ _ J dX3_oneAt_12
set_option maxHeartbeats 4000000 in
set_option maxRecDepth 100000 in
theorem c_X7_robot {l : Launch} {g : GG} {A : Nat → Prop} {q : Nat → Nat} {x_crowd x_latestFault x_places x_mask x_w_robots x_w_size x_w_nexts x_a_length x_t_length x_t_token x_t_from x_t_value x_t_behind x_r_wants x_r_pairs x_r_sees : Int32} {x_r_row : Int64} {x_b_size x_s_size : Int32} {x_w_names : Nat → Int32} {x_w_goals x_w_links : Nat → Int64} {x_w_linked x_w_ups x_w_downs x_w_next x_a_begun x_t_bytes : Nat → Int32} {x_b_rows : Nat → Int64} {x_b_acts : Nat → Int32} {x_s_rows : Nat → Int64} {x_s_acts : Nat → Int32} (a0 : Int32) (res : Int32 × Int32) (h : F_X7_robot a0 x_crowd x_places = some res) : Met l yX7_robot (wS yX7_robot cX7_robot 3 (some .int)) rm_X7_robot (va_Pc [.ref (q 0), .int a0] (VB g A (XW g q x_crowd x_latestFault x_places x_mask x_w_robots x_w_size x_w_nexts x_a_length x_t_length x_t_token x_t_from x_t_value x_t_behind x_r_wants x_r_pairs x_r_sees x_r_row x_b_size x_s_size x_w_names x_w_goals x_w_links x_w_linked x_w_ups x_w_downs x_w_next x_a_begun x_t_bytes x_b_rows x_b_acts x_s_rows x_s_acts))) (va_Qi (fun r (_ : Unit) => r = res.1) (fun _ => VB g A (XW g q res.2 x_latestFault x_places x_mask x_w_robots x_w_size x_w_nexts x_a_length x_t_length x_t_token x_t_from x_t_value x_t_behind x_r_wants x_r_pairs x_r_sees x_r_row x_b_size x_s_size x_w_names x_w_goals x_w_links x_w_linked x_w_ups x_w_downs x_w_next x_a_begun x_t_bytes x_b_rows x_b_acts x_s_rows x_s_acts)) A) 0 0 A := by
  unfold F_X7_robot at h
  refine MetI (res := res.1) (own := RX7) (ws' := (XW g q res.2 x_latestFault x_places x_mask x_w_robots x_w_size x_w_nexts x_a_length x_t_length x_t_token x_t_from x_t_value x_t_behind x_r_wants x_r_pairs x_r_sees x_r_row x_b_size x_s_size x_w_names x_w_goals x_w_links x_w_linked x_w_ups x_w_downs x_w_next x_a_begun x_t_bytes x_b_rows x_b_acts x_s_rows x_s_acts)) (by decide) rfl (Nat.le_of_ble_eq_true rfl) ?_
  intro p e s m args below meth c Q F E ret ls J hl
  have hx := F.1
  have hb := F.2.1
  have hl : lv_has ls 3 [(0, .ref (q 0)), (1, .int a0)] := hl
  refine lv_aload_n hx hb dX7_robot_0 rfl (lv_at hl 0 rfl) ?_
  refine lv_iload_n hx hb dX7_robot_1 rfl (lv_at hl 1 rfl) ?_
  obtain ⟨p1, hp1, h⟩ := ob h
  refine onZ (runV (As := [.int a0]) (rest := []) F E J (c_X7_noPlace a0 p1 hp1) cw_X7_76 ⟨rfl, rfl, Nat.le_of_ble_eq_true rfl, Nat.le_of_ble_eq_true rfl⟩ rcX0 rfl hl.1 rfl (Nat.le_of_ble_eq_true rfl) dX7_robot_2) J (fun hzbp1 H locs J => ?_)
  refine lv_if_eq (tgt := 11) hx hb dX7_robot_5 (by decide) (fun c2 => ?_) (fun c2 => ?_)
  · have h := itp c2 h
    refine lv_aload_n hx hb dX7_robot_11 rfl (lv_at hl 0 rfl) ?_
    refine xg_0_0 F E J fl_X7_23 dX7_robot_12 ?_
    refine lv_aload_n hx hb dX7_robot_15 rfl (lv_at hl 0 rfl) ?_
    refine xg_0_7 F E J fl_X7_69 dX7_robot_16 ?_
    obtain ⟨p3, hp3, h⟩ := ob h
    refine onI (runV (As := [.int x_crowd]) (rest := []) F E J (c_X3_robotsIn x_crowd p3 hp3) cw_X7_81 ⟨rfl, rfl, Nat.le_of_ble_eq_true rfl, Nat.le_of_ble_eq_true rfl⟩ rcX1 rfl hl.1 rfl (Nat.le_of_ble_eq_true rfl) dX7_robot_19) J (fun H locs J => ?_)
    refine lv_istore_n (lv' := [(2, .int p3), (0, .ref (q 0)), (1, .int a0)]) hx hb dX7_robot_22 rfl hl (by decide) rfl (fun ls hl => ?_)
    refine lv_iload_n hx hb dX7_robot_23 rfl (lv_at hl 0 rfl) ?_
    refine lv_iconst (v := 4) hx hb dX7_robot_24 (by decide) ?_
    refine lv_icmp_lt (tgt := 31) hx hb dX7_robot_25 (by decide) (fun c4 => ?_) (fun c4 => ?_)
    · have h := itp c4 h
      refine lv_aload_n hx hb dX7_robot_31 rfl (lv_at hl 1 rfl) ?_
      refine lv_dup hx hb dX7_robot_32 rfl ?_
      refine xg_0_7 F E J fl_X7_69 dX7_robot_33 ?_
      refine lv_aload_n hx hb dX7_robot_36 rfl (lv_at hl 1 rfl) ?_
      refine xg_0_0 F E J fl_X7_23 dX7_robot_37 ?_
      refine lv_iload_n hx hb dX7_robot_40 rfl (lv_at hl 2 rfl) ?_
      obtain ⟨p5, hp5, h⟩ := ob h
      refine onI (runV (As := [.int a0]) (rest := [.int x_crowd, .ref (q 0)]) F E J (c_X3_oneAt a0 p5 hp5) cw_X7_86 ⟨rfl, rfl, Nat.le_of_ble_eq_true rfl, Nat.le_of_ble_eq_true rfl⟩ rcX1 rfl hl.1 rfl (Nat.le_of_ble_eq_true rfl) dX7_robot_41) J (fun H locs J => ?_)
      refine lv_iadd hx hb dX7_robot_44 ?_
      obtain ⟨v6, hv6, h⟩ := obs h
      refine nmI hv6 ?_
      refine xp_0_7 F E J fl_X7_69 dX7_robot_45 (fun H locs J => ?_)
      refine lv_iload_n hx hb dX7_robot_48 rfl (lv_at hl 0 rfl) ?_
      refine lv_iconst (v := 1) hx hb dX7_robot_49 (by decide) ?_
      refine lv_iadd hx hb dX7_robot_50 ?_
      obtain rfl := Option.some.inj h
      exact ret _ _ _ _ J dX7_robot_51
    · have h := itn c4 h
      refine lv_ldc hx hb F.2.2.2.1 (F.2.2.2.2 _ kc_X7_85) dX7_robot_28 ?_
      obtain rfl := Option.some.inj h
      exact ret _ _ _ _ J dX7_robot_30
  · have h := itn c2 h
    refine lv_ldc hx hb F.2.2.2.1 (F.2.2.2.2 _ kc_X7_80) dX7_robot_8 ?_
    obtain rfl := Option.some.inj h
    exact ret _ _ _ _ J dX7_robot_10
set_option maxHeartbeats 4000000 in
set_option maxRecDepth 100000 in
theorem c_X7_wipe {l : Launch} {g : GG} {A : Nat → Prop} {q : Nat → Nat} {x_crowd x_latestFault x_places x_mask x_w_robots x_w_size x_w_nexts x_a_length x_t_length x_t_token x_t_from x_t_value x_t_behind x_r_wants x_r_pairs x_r_sees : Int32} {x_r_row : Int64} {x_b_size x_s_size : Int32} {x_w_names : Nat → Int32} {x_w_goals x_w_links : Nat → Int64} {x_w_linked x_w_ups x_w_downs x_w_next x_a_begun x_t_bytes : Nat → Int32} {x_b_rows : Nat → Int64} {x_b_acts : Nat → Int32} {x_s_rows : Nat → Int64} {x_s_acts : Nat → Int32} (res : Int32 × Int32) (h : F_X7_wipe x_crowd x_places = some res) : Met l yX7_wipe (wS yX7_wipe cX7_wipe 2 (some .int)) rm_X7_wipe (va_Pc [.ref (q 0)] (VB g A (XW g q x_crowd x_latestFault x_places x_mask x_w_robots x_w_size x_w_nexts x_a_length x_t_length x_t_token x_t_from x_t_value x_t_behind x_r_wants x_r_pairs x_r_sees x_r_row x_b_size x_s_size x_w_names x_w_goals x_w_links x_w_linked x_w_ups x_w_downs x_w_next x_a_begun x_t_bytes x_b_rows x_b_acts x_s_rows x_s_acts))) (va_Qi (fun r (_ : Unit) => r = res.1) (fun _ => VB g A (XW g q res.2 x_latestFault x_places x_mask x_w_robots x_w_size x_w_nexts x_a_length x_t_length x_t_token x_t_from x_t_value x_t_behind x_r_wants x_r_pairs x_r_sees x_r_row x_b_size x_s_size x_w_names x_w_goals x_w_links x_w_linked x_w_ups x_w_downs x_w_next x_a_begun x_t_bytes x_b_rows x_b_acts x_s_rows x_s_acts)) A) 0 0 A := by
  unfold F_X7_wipe at h
  refine MetI (res := res.1) (own := RX7) (ws' := (XW g q res.2 x_latestFault x_places x_mask x_w_robots x_w_size x_w_nexts x_a_length x_t_length x_t_token x_t_from x_t_value x_t_behind x_r_wants x_r_pairs x_r_sees x_r_row x_b_size x_s_size x_w_names x_w_goals x_w_links x_w_linked x_w_ups x_w_downs x_w_next x_a_begun x_t_bytes x_b_rows x_b_acts x_s_rows x_s_acts)) (by decide) rfl (Nat.le_of_ble_eq_true rfl) ?_
  intro p e s m args below meth c Q F E ret ls J hl
  have hx := F.1
  have hb := F.2.1
  have hl : lv_has ls 2 [(0, .ref (q 0))] := hl
  refine lv_aload_n hx hb dX7_wipe_0 rfl (lv_at hl 0 rfl) ?_
  refine xg_0_0 F E J fl_X7_23 dX7_wipe_1 ?_
  refine lv_aload_n hx hb dX7_wipe_4 rfl (lv_at hl 0 rfl) ?_
  refine xg_0_7 F E J fl_X7_69 dX7_wipe_5 ?_
  obtain ⟨p1, hp1, h⟩ := ob h
  refine onI (runV (As := [.int x_crowd]) (rest := []) F E J (c_X3_robotsIn x_crowd p1 hp1) cw_X7_81 ⟨rfl, rfl, Nat.le_of_ble_eq_true rfl, Nat.le_of_ble_eq_true rfl⟩ rcX1 rfl hl.1 rfl (Nat.le_of_ble_eq_true rfl) dX7_wipe_8) J (fun H locs J => ?_)
  refine lv_istore_n (lv' := [(1, .int p1), (0, .ref (q 0))]) hx hb dX7_wipe_11 rfl hl (by decide) rfl (fun ls hl => ?_)
  refine lv_aload_n hx hb dX7_wipe_12 rfl (lv_at hl 1 rfl) ?_
  refine lv_iconst (v := 0) hx hb dX7_wipe_13 (by decide) ?_
  refine xp_0_7 F E J fl_X7_69 dX7_wipe_14 (fun H locs J => ?_)
  refine lv_iload_n hx hb dX7_wipe_17 rfl (lv_at hl 0 rfl) ?_
  obtain rfl := Option.some.inj h
  exact ret _ _ _ _ J dX7_wipe_18
set_option maxHeartbeats 4000000 in
set_option maxRecDepth 100000 in
theorem c_X7_at {l : Launch} {g : GG} {A : Nat → Prop} {q : Nat → Nat} {x_crowd x_latestFault x_places x_mask x_w_robots x_w_size x_w_nexts x_a_length x_t_length x_t_token x_t_from x_t_value x_t_behind x_r_wants x_r_pairs x_r_sees : Int32} {x_r_row : Int64} {x_b_size x_s_size : Int32} {x_w_names : Nat → Int32} {x_w_goals x_w_links : Nat → Int64} {x_w_linked x_w_ups x_w_downs x_w_next x_a_begun x_t_bytes : Nat → Int32} {x_b_rows : Nat → Int64} {x_b_acts : Nat → Int32} {x_s_rows : Nat → Int64} {x_s_acts : Nat → Int32} (a0 : Int32) (res : Int32) (h : F_X7_at a0 x_crowd x_places = some res) : Met l yX7_at (wS yX7_at cX7_at 2 (some .int)) rm_X7_at (va_Pc [.ref (q 0), .int a0] (VB g A (XW g q x_crowd x_latestFault x_places x_mask x_w_robots x_w_size x_w_nexts x_a_length x_t_length x_t_token x_t_from x_t_value x_t_behind x_r_wants x_r_pairs x_r_sees x_r_row x_b_size x_s_size x_w_names x_w_goals x_w_links x_w_linked x_w_ups x_w_downs x_w_next x_a_begun x_t_bytes x_b_rows x_b_acts x_s_rows x_s_acts))) (va_Qi (fun r (_ : Unit) => r = res) (fun _ => VB g A (XW g q x_crowd x_latestFault x_places x_mask x_w_robots x_w_size x_w_nexts x_a_length x_t_length x_t_token x_t_from x_t_value x_t_behind x_r_wants x_r_pairs x_r_sees x_r_row x_b_size x_s_size x_w_names x_w_goals x_w_links x_w_linked x_w_ups x_w_downs x_w_next x_a_begun x_t_bytes x_b_rows x_b_acts x_s_rows x_s_acts)) A) 0 0 A := by
  unfold F_X7_at at h
  refine MetI (res := res) (own := RX7) (ws' := (XW g q x_crowd x_latestFault x_places x_mask x_w_robots x_w_size x_w_nexts x_a_length x_t_length x_t_token x_t_from x_t_value x_t_behind x_r_wants x_r_pairs x_r_sees x_r_row x_b_size x_s_size x_w_names x_w_goals x_w_links x_w_linked x_w_ups x_w_downs x_w_next x_a_begun x_t_bytes x_b_rows x_b_acts x_s_rows x_s_acts)) (by decide) rfl (Nat.le_of_ble_eq_true rfl) ?_
  intro p e s m args below meth c Q F E ret ls J hl
  have hx := F.1
  have hb := F.2.1
  have hl : lv_has ls 2 [(0, .ref (q 0)), (1, .int a0)] := hl
  refine lv_aload_n hx hb dX7_at_0 rfl (lv_at hl 0 rfl) ?_
  refine lv_iload_n hx hb dX7_at_1 rfl (lv_at hl 1 rfl) ?_
  obtain ⟨p1, hp1, h⟩ := ob h
  refine onZ (runV (As := [.int a0]) (rest := []) F E J (c_X7_noPlace a0 p1 hp1) cw_X7_76 ⟨rfl, rfl, Nat.le_of_ble_eq_true rfl, Nat.le_of_ble_eq_true rfl⟩ rcX0 rfl hl.1 rfl (Nat.le_of_ble_eq_true rfl) dX7_at_2) J (fun hzbp1 H locs J => ?_)
  refine lv_if_eq (tgt := 13) hx hb dX7_at_5 (by decide) (fun c2 => ?_) (fun c2 => ?_)
  · have h := itp c2 h
    refine lv_aload_n hx hb dX7_at_13 rfl (lv_at hl 0 rfl) ?_
    refine xg_0_0 F E J fl_X7_23 dX7_at_14 ?_
    refine lv_aload_n hx hb dX7_at_17 rfl (lv_at hl 0 rfl) ?_
    refine xg_0_7 F E J fl_X7_69 dX7_at_18 ?_
    refine lv_iload_n hx hb dX7_at_21 rfl (lv_at hl 1 rfl) ?_
    obtain ⟨p3, hp3, h⟩ := ob h
    refine onI (runV (As := [.int x_crowd, .int a0]) (rest := []) F E J (c_X3_manyAt x_crowd a0 p3 hp3) cw_X7_89 ⟨rfl, rfl, Nat.le_of_ble_eq_true rfl, Nat.le_of_ble_eq_true rfl⟩ rcX1 rfl hl.1 rfl (Nat.le_of_ble_eq_true rfl) dX7_at_22) J (fun H locs J => ?_)
    obtain rfl := Option.some.inj h
    exact ret _ _ _ _ J dX7_at_25
  · have h := itn c2 h
    refine lv_ldc hx hb F.2.2.2.1 (F.2.2.2.2 _ kc_X7_80) dX7_at_8 ?_
    refine lv_goto (tgt := 25) hx hb dX7_at_10 (by decide) ?_
    obtain rfl := Option.some.inj h
    exact ret _ _ _ _ J dX7_at_25
set_option maxHeartbeats 4000000 in
set_option maxRecDepth 100000 in
theorem c_X3_beside {l : Launch} {g : GG} {A : Nat → Prop} {q : Nat → Nat} {x_crowd x_latestFault x_places x_mask x_w_robots x_w_size x_w_nexts x_a_length x_t_length x_t_token x_t_from x_t_value x_t_behind x_r_wants x_r_pairs x_r_sees : Int32} {x_r_row : Int64} {x_b_size x_s_size : Int32} {x_w_names : Nat → Int32} {x_w_goals x_w_links : Nat → Int64} {x_w_linked x_w_ups x_w_downs x_w_next x_a_begun x_t_bytes : Nat → Int32} {x_b_rows : Nat → Int64} {x_b_acts : Nat → Int32} {x_s_rows : Nat → Int64} {x_s_acts : Nat → Int32} (a0 : Int32) (a1 : Int32) (res : Int32) (h : F_X3_beside a0 a1 x_places = some res) : Met l yX3_beside (wS yX3_beside cX3_beside 4 (some .int)) rm_X3_beside (va_Pc [.ref (q 1), .int a0, .int a1] (VB g A (XW g q x_crowd x_latestFault x_places x_mask x_w_robots x_w_size x_w_nexts x_a_length x_t_length x_t_token x_t_from x_t_value x_t_behind x_r_wants x_r_pairs x_r_sees x_r_row x_b_size x_s_size x_w_names x_w_goals x_w_links x_w_linked x_w_ups x_w_downs x_w_next x_a_begun x_t_bytes x_b_rows x_b_acts x_s_rows x_s_acts))) (va_Qi (fun r (_ : Unit) => r = res) (fun _ => VB g A (XW g q x_crowd x_latestFault x_places x_mask x_w_robots x_w_size x_w_nexts x_a_length x_t_length x_t_token x_t_from x_t_value x_t_behind x_r_wants x_r_pairs x_r_sees x_r_row x_b_size x_s_size x_w_names x_w_goals x_w_links x_w_linked x_w_ups x_w_downs x_w_next x_a_begun x_t_bytes x_b_rows x_b_acts x_s_rows x_s_acts)) A) 0 0 A := by
  unfold F_X3_beside at h
  refine MetI (res := res) (own := RX3) (ws' := (XW g q x_crowd x_latestFault x_places x_mask x_w_robots x_w_size x_w_nexts x_a_length x_t_length x_t_token x_t_from x_t_value x_t_behind x_r_wants x_r_pairs x_r_sees x_r_row x_b_size x_s_size x_w_names x_w_goals x_w_links x_w_linked x_w_ups x_w_downs x_w_next x_a_begun x_t_bytes x_b_rows x_b_acts x_s_rows x_s_acts)) (by decide) rfl (Nat.le_of_ble_eq_true rfl) ?_
  intro p e s m args below meth c Q F E ret ls J hl
  have hx := F.1
  have hb := F.2.1
  have hl : lv_has ls 4 [(0, .ref (q 1)), (1, .int a0), (2, .int a1)] := hl
  refine lv_iload_n hx hb dX3_beside_0 rfl (lv_at hl 1 rfl) ?_
  refine lv_iload_n hx hb dX3_beside_1 rfl (lv_at hl 2 rfl) ?_
  refine lv_iadd hx hb dX3_beside_2 ?_
  obtain ⟨v1, hv1, h⟩ := obs h
  refine nmI hv1 ?_
  refine lv_istore_n (lv' := [(3, .int v1), (0, .ref (q 1)), (1, .int a0), (2, .int a1)]) hx hb dX3_beside_3 rfl hl (by decide) rfl (fun ls hl => ?_)
  refine lv_iload_n hx hb dX3_beside_4 rfl (lv_at hl 0 rfl) ?_
  refine lv_aload_n hx hb dX3_beside_5 rfl (lv_at hl 1 rfl) ?_
  refine xg_1_0 F E J fl_X3_9 dX3_beside_6 ?_
  refine lv_icmp_lt (tgt := 14) hx hb dX3_beside_9 (by decide) (fun c2 => ?_) (fun c2 => ?_)
  · have h := itp c2 h
    refine lv_iload_n hx hb dX3_beside_14 rfl (lv_at hl 0 rfl) ?_
    refine lv_if_ge (tgt := 27) hx hb dX3_beside_15 (by decide) (fun c3 => ?_) (fun c3 => ?_)
    · have h := itp c3 h
      refine lv_iload_n hx hb dX3_beside_27 rfl (lv_at hl 0 rfl) ?_
      obtain rfl := Option.some.inj h
      exact ret _ _ _ _ J dX3_beside_28
    · have h := itn c3 h
      refine lv_aload_n hx hb dX3_beside_18 rfl (lv_at hl 1 rfl) ?_
      refine xg_1_0 F E J fl_X3_9 dX3_beside_19 ?_
      refine lv_iconst (v := 1) hx hb dX3_beside_22 (by decide) ?_
      refine lv_isub hx hb dX3_beside_23 ?_
      refine lv_goto (tgt := 28) hx hb dX3_beside_24 (by decide) ?_
      obtain rfl := Option.some.inj h
      exact ret _ _ _ _ J dX3_beside_28
  · have h := itn c2 h
    refine lv_iconst (v := 0) hx hb dX3_beside_12 (by decide) ?_
    obtain rfl := Option.some.inj h
    exact ret _ _ _ _ J dX3_beside_13
set_option maxHeartbeats 4000000 in
set_option maxRecDepth 100000 in
theorem c_X4_with {l : Launch} {g : GG} {A : Nat → Prop} {ws : va_W} (a0 : Int64) (a1 : Int32) (res : Int64) (h : F_X4_with a0 a1 = some res) : Met l yX4_with (wS yX4_with cX4_with 3 (some .long)) rm_X4_with (va_Pc [.long a0, .int a1] (VB g A ws)) (va_Ql (fun r (_ : Unit) => r = res) (fun _ => VB g A ws) A) 0 0 A := by
  unfold F_X4_with at h
  refine MetL (res := res) (own := RX4) (ws' := ws) (by decide) rfl (Nat.le_of_ble_eq_true rfl) ?_
  intro p e s m args below meth c Q F E ret ls J hl
  have hx := F.1
  have hb := F.2.1
  have hl : lv_has ls 3 [(0, .long a0), (2, .int a1)] := hl
  refine lv_lload_n hx hb dX4_with_0 rfl (lv_at hl 0 rfl) ?_
  refine lv_bipush (v := 7) hx hb dX4_with_1 (by decide) ?_
  refine lv_lshl (v := (jlshl a0 7)) hx hb dX4_with_3 rfl ?_
  refine lv_iload_n hx hb dX4_with_4 rfl (lv_at hl 1 rfl) ?_
  refine lv_bipush (v := 127) hx hb dX4_with_5 (by decide) ?_
  refine lv_iand hx hb dX4_with_7 ?_
  refine lv_i2l (v := (Int32.toInt64 (a1 &&& 127))) hx hb dX4_with_8 rfl ?_
  refine lv_lor hx hb dX4_with_9 ?_
  obtain rfl := Option.some.inj h
  exact ret _ _ _ _ J dX4_with_10
set_option maxHeartbeats 4000000 in
set_option maxRecDepth 100000 in
theorem c_X3_rowFrom {l : Launch} {g : GG} {A : Nat → Prop} {q : Nat → Nat} {x_crowd x_latestFault x_places x_mask x_w_robots x_w_size x_w_nexts x_a_length x_t_length x_t_token x_t_from x_t_value x_t_behind x_r_wants x_r_pairs x_r_sees : Int32} {x_r_row : Int64} {x_b_size x_s_size : Int32} {x_w_names : Nat → Int32} {x_w_goals x_w_links : Nat → Int64} {x_w_linked x_w_ups x_w_downs x_w_next x_a_begun x_t_bytes : Nat → Int32} {x_b_rows : Nat → Int64} {x_b_acts : Nat → Int32} {x_s_rows : Nat → Int64} {x_s_acts : Nat → Int32} (a0 : Int32) (a1 : Int32) (a2 : Int32) (res : Int64) (h : F_X3_rowFrom a0 a1 a2 x_places = some res) : Met l yX3_rowFrom (wS yX3_rowFrom cX3_rowFrom 10 (some .long)) rm_X3_rowFrom (va_Pc [.ref (q 1), .int a0, .int a1, .int a2] (VB g A (XW g q x_crowd x_latestFault x_places x_mask x_w_robots x_w_size x_w_nexts x_a_length x_t_length x_t_token x_t_from x_t_value x_t_behind x_r_wants x_r_pairs x_r_sees x_r_row x_b_size x_s_size x_w_names x_w_goals x_w_links x_w_linked x_w_ups x_w_downs x_w_next x_a_begun x_t_bytes x_b_rows x_b_acts x_s_rows x_s_acts))) (va_Ql (fun r (_ : Unit) => r = res) (fun _ => VB g A (XW g q x_crowd x_latestFault x_places x_mask x_w_robots x_w_size x_w_nexts x_a_length x_t_length x_t_token x_t_from x_t_value x_t_behind x_r_wants x_r_pairs x_r_sees x_r_row x_b_size x_s_size x_w_names x_w_goals x_w_links x_w_linked x_w_ups x_w_downs x_w_next x_a_begun x_t_bytes x_b_rows x_b_acts x_s_rows x_s_acts)) A) 0 0 A := by
  unfold F_X3_rowFrom at h
  refine MetL (res := res) (own := RX3) (ws' := (XW g q x_crowd x_latestFault x_places x_mask x_w_robots x_w_size x_w_nexts x_a_length x_t_length x_t_token x_t_from x_t_value x_t_behind x_r_wants x_r_pairs x_r_sees x_r_row x_b_size x_s_size x_w_names x_w_goals x_w_links x_w_linked x_w_ups x_w_downs x_w_next x_a_begun x_t_bytes x_b_rows x_b_acts x_s_rows x_s_acts)) (by decide) rfl (Nat.le_of_ble_eq_true rfl) ?_
  intro p e s m args below meth c Q F E ret ls J hl
  have hx := F.1
  have hb := F.2.1
  have hl : lv_has ls 10 [(0, .ref (q 1)), (1, .int a0), (2, .int a1), (3, .int a2)] := hl
  refine lv_lconst (v := 0) hx hb dX3_rowFrom_0 (by decide) ?_
  refine lv_lstore (lv' := [(4, .long 0), (0, .ref (q 1)), (1, .int a0), (2, .int a1), (3, .int a2)]) hx hb dX3_rowFrom_1 hl (by decide) rfl (fun ls hl => ?_)
  refine lv_iconst (v := 0) hx hb dX3_rowFrom_3 (by decide) ?_
  refine lv_istore (lv' := [(6, .int 0), (4, .long 0), (0, .ref (q 1)), (1, .int a0), (2, .int a1), (3, .int a2)]) hx hb dX3_rowFrom_4 hl (by decide) rfl (fun ls hl => ?_)
  refine lv_iload_n hx hb dX3_rowFrom_6 rfl (lv_at hl 4 rfl) ?_
  refine lv_istore (lv' := [(7, .int a1), (6, .int 0), (4, .long 0), (0, .ref (q 1)), (1, .int a0), (2, .int a1), (3, .int a2)]) hx hb dX3_rowFrom_7 hl (by decide) rfl (fun ls hl => ?_)
  refine lv_iconst (v := 0) hx hb dX3_rowFrom_9 (by decide) ?_
  refine lv_istore (lv' := [(8, .int 0), (7, .int a1), (6, .int 0), (4, .long 0), (0, .ref (q 1)), (1, .int a0), (2, .int a1), (3, .int a2)]) hx hb dX3_rowFrom_10 hl (by decide) rfl (fun ls hl => ?_)
  obtain ⟨o_L1, ho_L1, h⟩ := ob h
  have T_L1 : ∀ (f : Nat) (l4_L1 : Int64) (l6_L1 : Int32) (l7_L1 : Int32) (l8_L1 : Int32) (o_L1 : Int64), F_X3_rowFrom_L1 a0 a2 x_places f l4_L1 l6_L1 l7_L1 l8_L1 = some o_L1 → ∀ (H : Heap) (locs : List Loc) (ls : Array Slot), VJ g A s.heap (XW g q x_crowd x_latestFault x_places x_mask x_w_robots x_w_size x_w_nexts x_a_length x_t_length x_t_token x_t_from x_t_value x_t_behind x_r_wants x_r_pairs x_r_sees x_r_row x_b_size x_s_size x_w_names x_w_goals x_w_links x_w_linked x_w_ups x_w_downs x_w_next x_a_begun x_t_bytes x_b_rows x_b_acts x_s_rows x_s_acts) H locs → lv_has ls 10 [(0, .ref (q 1)), (1, .int a0), (3, .int a2), (4, .long l4_L1), (6, .int l6_L1), (7, .int l7_L1), (8, .int l8_L1)] → (∀ (H : Heap) (locs : List Loc) (ls : Array Slot), VJ g A s.heap (XW g q x_crowd x_latestFault x_places x_mask x_w_robots x_w_size x_w_nexts x_a_length x_t_length x_t_token x_t_from x_t_value x_t_behind x_r_wants x_r_pairs x_r_sees x_r_row x_b_size x_s_size x_w_names x_w_goals x_w_links x_w_linked x_w_ups x_w_downs x_w_next x_a_begun x_t_bytes x_b_rows x_b_acts x_s_rows x_s_acts) H locs → lv_has ls 10 [(4, .long o_L1)] → W p l e rm_X3_rowFrom s m args below meth c H locs 0 0 Q (F0 m 70 ls [])) → W p l e rm_X3_rowFrom s m args below meth c H locs 0 0 Q (F0 m 12 ls []) := by
    clear h ho_L1 hl J
    intro f
    induction f with
    | zero => intro l4_L1 l6_L1 l7_L1 l8_L1 o_L1 h; exact absurd h (by simp [F_X3_rowFrom_L1])
    | succ f ih =>
      intro l4_L1 l6_L1 l7_L1 l8_L1 o_L1 h H locs ls J hl K_L1
      rw [F_X3_rowFrom_L1.eq_2] at h
      refine lv_iload hx hb dX3_rowFrom_12 (lv_at hl 6 rfl) ?_
      refine lv_aload_n hx hb dX3_rowFrom_14 rfl (lv_at hl 0 rfl) ?_
      refine xg_1_0 F E J fl_X3_9 dX3_rowFrom_15 ?_
      refine lv_icmp_ge (tgt := 70) hx hb dX3_rowFrom_18 (by decide) (fun c2 => ?_) (fun c2 => ?_)
      · have h := itp c2 h
        obtain rfl := Option.some.inj h
        exact K_L1 _ _ _ J (lv_sub hl [3] rfl)
      · have h := itn c2 h
        refine lv_aload_n hx hb dX3_rowFrom_21 rfl (lv_at hl 0 rfl) ?_
        refine lv_iload hx hb dX3_rowFrom_22 (lv_at hl 5 rfl) ?_
        refine lv_iload_n hx hb dX3_rowFrom_24 rfl (lv_at hl 2 rfl) ?_
        obtain ⟨p3, hp3, h⟩ := ob h
        refine onI (runV (As := [.int l7_L1, .int a2]) (rest := []) F E J (c_X3_beside l7_L1 a2 p3 hp3) cw_X3_18 ⟨rfl, rfl, Nat.le_of_ble_eq_true rfl, Nat.le_of_ble_eq_true rfl⟩ rcX1 rfl hl.1 rfl (Nat.le_of_ble_eq_true rfl) dX3_rowFrom_25) J (fun H locs J => ?_)
        refine lv_istore (lv' := [(7, .int p3), (0, .ref (q 1)), (1, .int a0), (3, .int a2), (4, .long l4_L1), (6, .int l6_L1), (8, .int l8_L1)]) hx hb dX3_rowFrom_28 hl (by decide) rfl (fun ls hl => ?_)
        obtain ⟨v4, hv4, h⟩ := obs h
        refine lv_iinc (v := v4) (lv' := [(6, .int v4), (7, .int p3), (0, .ref (q 1)), (1, .int a0), (3, .int a2), (4, .long l4_L1), (8, .int l8_L1)]) hx hb dX3_rowFrom_30 hl (k := 5) rfl (by rw [← hv4]; rfl) (by decide) rfl (fun ls hl => ?_)
        refine lv_aload_n hx hb dX3_rowFrom_33 rfl (lv_at hl 2 rfl) ?_
        refine lv_iload_n hx hb dX3_rowFrom_34 rfl (lv_at hl 3 rfl) ?_
        refine lv_iload hx hb dX3_rowFrom_35 (lv_at hl 1 rfl) ?_
        obtain ⟨p5, hp5, h⟩ := ob h
        refine onI (runV (As := [.int a0, .int p3]) (rest := []) F E J (c_X3_manyAt a0 p3 p5 hp5) cw_X3_26 ⟨rfl, rfl, Nat.le_of_ble_eq_true rfl, Nat.le_of_ble_eq_true rfl⟩ rcX1 rfl hl.1 rfl (Nat.le_of_ble_eq_true rfl) dX3_rowFrom_37) J (fun H locs J => ?_)
        refine lv_istore (lv' := [(9, .int p5), (6, .int v4), (7, .int p3), (0, .ref (q 1)), (1, .int a0), (3, .int a2), (4, .long l4_L1), (8, .int l8_L1)]) hx hb dX3_rowFrom_40 hl (by decide) rfl (fun ls hl => ?_)
        refine lv_iload hx hb dX3_rowFrom_42 (lv_at hl 0 rfl) ?_
        obtain ⟨j6, hj6, h⟩ := ob h
        have Kj6 : ∀ (H : Heap) (locs : List Loc) (ls : Array Slot), VJ g A s.heap (XW g q x_crowd x_latestFault x_places x_mask x_w_robots x_w_size x_w_nexts x_a_length x_t_length x_t_token x_t_from x_t_value x_t_behind x_r_wants x_r_pairs x_r_sees x_r_row x_b_size x_s_size x_w_names x_w_goals x_w_links x_w_linked x_w_ups x_w_downs x_w_next x_a_begun x_t_bytes x_b_rows x_b_acts x_s_rows x_s_acts) H locs → lv_has ls 10 [(0, .ref (q 1)), (1, .int a0), (3, .int a2), (4, .long j6.1), (6, .int j6.2), (7, .int p3), (8, .int l8_L1)] → W p l e rm_X3_rowFrom s m args below meth c H locs 0 0 Q (F0 m 64 ls []) := by
          intro H locs ls J hl
          obtain ⟨v10, hv10, h⟩ := obs h
          refine lv_iinc (v := v10) (lv' := [(8, .int v10), (0, .ref (q 1)), (1, .int a0), (3, .int a2), (4, .long j6.1), (6, .int j6.2), (7, .int p3)]) hx hb dX3_rowFrom_64 hl (k := 6) rfl (by rw [← hv10]; rfl) (by decide) rfl (fun ls hl => ?_)
          refine lv_goto (tgt := 12) hx hb dX3_rowFrom_67 (by decide) ?_
          exact ih _ _ _ _ _ h _ _ _ J (lv_sub hl [1, 2, 3, 4, 5, 6, 0] rfl) K_L1
        clear h
        have h := hj6
        refine lv_if_le (tgt := 64) hx hb dX3_rowFrom_44 (by decide) (fun c7 => ?_) (fun c7 => ?_)
        · have h := itp c7 h
          obtain rfl := Option.some.inj h
          exact Kj6 _ _ _ J (lv_sub hl [3, 4, 5, 6, 1, 2, 7] rfl)
        · have h := itn c7 h
          refine lv_lload hx hb dX3_rowFrom_47 (lv_at hl 6 rfl) ?_
          refine lv_iload hx hb dX3_rowFrom_49 (lv_at hl 1 rfl) ?_
          obtain ⟨p8, hp8, h⟩ := ob h
          refine onL (runS (As := [.long l4_L1, .int v4]) (rest := []) F E J (c_X4_with l4_L1 v4 p8 hp8) cw_X3_49 ⟨rfl, rfl, Nat.le_of_ble_eq_true rfl, Nat.le_of_ble_eq_true rfl⟩ rfl hl.1 rfl (Nat.le_of_ble_eq_true rfl) dX3_rowFrom_51) J (fun H locs J => ?_)
          refine lv_iload hx hb dX3_rowFrom_54 (lv_at hl 0 rfl) ?_
          obtain ⟨p9, hp9, h⟩ := ob h
          refine onL (runS (As := [.long p8, .int p5]) (rest := []) F E J (c_X4_with p8 p5 p9 hp9) cw_X3_49 ⟨rfl, rfl, Nat.le_of_ble_eq_true rfl, Nat.le_of_ble_eq_true rfl⟩ rfl hl.1 rfl (Nat.le_of_ble_eq_true rfl) dX3_rowFrom_56) J (fun H locs J => ?_)
          refine lv_lstore (lv' := [(4, .long p9), (9, .int p5), (6, .int v4), (7, .int p3), (0, .ref (q 1)), (1, .int a0), (3, .int a2), (8, .int l8_L1)]) hx hb dX3_rowFrom_59 hl (by decide) rfl (fun ls hl => ?_)
          refine lv_iconst (v := 0) hx hb dX3_rowFrom_61 (by decide) ?_
          refine lv_istore (lv' := [(6, .int 0), (4, .long p9), (9, .int p5), (7, .int p3), (0, .ref (q 1)), (1, .int a0), (3, .int a2), (8, .int l8_L1)]) hx hb dX3_rowFrom_62 hl (by decide) rfl (fun ls hl => ?_)
          obtain rfl := Option.some.inj h
          exact Kj6 _ _ _ J (lv_sub hl [4, 5, 6, 1, 0, 3, 7] rfl)
  refine T_L1 FU 0 0 a1 0 o_L1 ho_L1 _ _ _ J (lv_sub hl [4, 5, 7, 3, 2, 1, 0] rfl) (fun H locs ls J hl => ?_)
  refine lv_lload hx hb dX3_rowFrom_70 (lv_at hl 0 rfl) ?_
  obtain rfl := Option.some.inj h
  exact ret _ _ _ _ J dX3_rowFrom_72
set_option maxHeartbeats 4000000 in
set_option maxRecDepth 100000 in
theorem c_J9_min_f86c9 {l : Launch} {g : GG} {A : Nat → Prop} {ws : va_W} (a0 : Int64) (a1 : Int64) (res : Int64) (h : F_J9_min_f86c9 a0 a1 = some res) : Met l yJ9_min_f86c9 (wS yJ9_min_f86c9 cJ9_min_f86c9 4 (some .long)) rm_J9_min_f86c9 (va_Pc [.long a0, .long a1] (VB g A ws)) (va_Ql (fun r (_ : Unit) => r = res) (fun _ => VB g A ws) A) 0 0 A := by
  unfold F_J9_min_f86c9 at h
  refine MetLF (res := res) (own := RJ9) (ws' := ws) (by decide +kernel) rfl (Nat.le_of_ble_eq_true rfl) ?_
  intro p e s m args below meth c Q F E ret ls J hl
  have hx := F.1
  have hb := F.2.1
  have hl : lv_has ls 4 [(0, .long a0), (2, .long a1)] := hl
  refine lv_lload_n hx hb dJ9_min_f86c9_0 rfl (lv_at hl 0 rfl) ?_
  refine lv_lload_n hx hb dJ9_min_f86c9_1 rfl (lv_at hl 1 rfl) ?_
  refine W.lcmp hx hb dJ9_min_f86c9_2 ?_
  refine lv_if_gt (tgt := 10) hx hb dJ9_min_f86c9_3 (by decide) (fun c1 => ?_) (fun c1 => ?_)
  · have h := itp c1 h
    refine lv_lload_n hx hb dJ9_min_f86c9_10 rfl (lv_at hl 1 rfl) ?_
    obtain rfl := Option.some.inj h
    exact ret _ _ _ _ J dJ9_min_f86c9_11
  · have h := itn c1 h
    refine lv_lload_n hx hb dJ9_min_f86c9_6 rfl (lv_at hl 0 rfl) ?_
    refine lv_goto (tgt := 11) hx hb dJ9_min_f86c9_7 (by decide) ?_
    obtain rfl := Option.some.inj h
    exact ret _ _ _ _ J dJ9_min_f86c9_11
set_option maxHeartbeats 4000000 in
set_option maxRecDepth 100000 in
theorem c_X3_viewFrom {l : Launch} {g : GG} {A : Nat → Prop} {q : Nat → Nat} {x_crowd x_latestFault x_places x_mask x_w_robots x_w_size x_w_nexts x_a_length x_t_length x_t_token x_t_from x_t_value x_t_behind x_r_wants x_r_pairs x_r_sees : Int32} {x_r_row : Int64} {x_b_size x_s_size : Int32} {x_w_names : Nat → Int32} {x_w_goals x_w_links : Nat → Int64} {x_w_linked x_w_ups x_w_downs x_w_next x_a_begun x_t_bytes : Nat → Int32} {x_b_rows : Nat → Int64} {x_b_acts : Nat → Int32} {x_s_rows : Nat → Int64} {x_s_acts : Nat → Int32} (a0 : Int32) (a1 : Int32) (res : Int64) (h : F_X3_viewFrom a0 a1 x_places = some res) : Met l yX3_viewFrom (wS yX3_viewFrom cX3_viewFrom 3 (some .long)) rm_X3_viewFrom (va_Pc [.ref (q 1), .int a0, .int a1] (VB g A (XW g q x_crowd x_latestFault x_places x_mask x_w_robots x_w_size x_w_nexts x_a_length x_t_length x_t_token x_t_from x_t_value x_t_behind x_r_wants x_r_pairs x_r_sees x_r_row x_b_size x_s_size x_w_names x_w_goals x_w_links x_w_linked x_w_ups x_w_downs x_w_next x_a_begun x_t_bytes x_b_rows x_b_acts x_s_rows x_s_acts))) (va_Ql (fun r (_ : Unit) => r = res) (fun _ => VB g A (XW g q x_crowd x_latestFault x_places x_mask x_w_robots x_w_size x_w_nexts x_a_length x_t_length x_t_token x_t_from x_t_value x_t_behind x_r_wants x_r_pairs x_r_sees x_r_row x_b_size x_s_size x_w_names x_w_goals x_w_links x_w_linked x_w_ups x_w_downs x_w_next x_a_begun x_t_bytes x_b_rows x_b_acts x_s_rows x_s_acts)) A) 0 0 A := by
  unfold F_X3_viewFrom at h
  refine MetL (res := res) (own := RX3) (ws' := (XW g q x_crowd x_latestFault x_places x_mask x_w_robots x_w_size x_w_nexts x_a_length x_t_length x_t_token x_t_from x_t_value x_t_behind x_r_wants x_r_pairs x_r_sees x_r_row x_b_size x_s_size x_w_names x_w_goals x_w_links x_w_linked x_w_ups x_w_downs x_w_next x_a_begun x_t_bytes x_b_rows x_b_acts x_s_rows x_s_acts)) (by decide) rfl (Nat.le_of_ble_eq_true rfl) ?_
  intro p e s m args below meth c Q F E ret ls J hl
  have hx := F.1
  have hb := F.2.1
  have hl : lv_has ls 3 [(0, .ref (q 1)), (1, .int a0), (2, .int a1)] := hl
  refine lv_aload_n hx hb dX3_viewFrom_0 rfl (lv_at hl 0 rfl) ?_
  refine lv_iload_n hx hb dX3_viewFrom_1 rfl (lv_at hl 1 rfl) ?_
  refine lv_iload_n hx hb dX3_viewFrom_2 rfl (lv_at hl 2 rfl) ?_
  refine lv_iconst (v := 1) hx hb dX3_viewFrom_3 (by decide) ?_
  obtain ⟨p1, hp1, h⟩ := ob h
  refine onL (runV (As := [.int a0, .int a1, .int 1]) (rest := []) F E J (c_X3_rowFrom a0 a1 1 p1 hp1) cw_X3_55 ⟨rfl, rfl, Nat.le_of_ble_eq_true rfl, Nat.le_of_ble_eq_true rfl⟩ rcX1 rfl hl.1 rfl (Nat.le_of_ble_eq_true rfl) dX3_viewFrom_4) J (fun H locs J => ?_)
  refine lv_aload_n hx hb dX3_viewFrom_7 rfl (lv_at hl 0 rfl) ?_
  refine lv_iload_n hx hb dX3_viewFrom_8 rfl (lv_at hl 1 rfl) ?_
  refine lv_iload_n hx hb dX3_viewFrom_9 rfl (lv_at hl 2 rfl) ?_
  refine lv_iconst (v := (-1)) hx hb dX3_viewFrom_10 (by decide) ?_
  obtain ⟨p2, hp2, h⟩ := ob h
  refine onL (runV (As := [.int a0, .int a1, .int (-1)]) (rest := [.long p1]) F E J (c_X3_rowFrom a0 a1 (-1) p2 hp2) cw_X3_55 ⟨rfl, rfl, Nat.le_of_ble_eq_true rfl, Nat.le_of_ble_eq_true rfl⟩ rcX1 rfl hl.1 rfl (Nat.le_of_ble_eq_true rfl) dX3_viewFrom_11) J (fun H locs J => ?_)
  obtain ⟨p3, hp3, h⟩ := ob h
  refine onL (runS (As := [.long p1, .long p2]) (rest := []) F E J (c_J9_min_f86c9 p1 p2 p3 hp3) cw_X3_59 ⟨rfl, rfl, Nat.le_of_ble_eq_true rfl, Nat.le_of_ble_eq_true rfl⟩ rfl hl.1 rfl (Nat.le_of_ble_eq_true rfl) dX3_viewFrom_14) J (fun H locs J => ?_)
  obtain rfl := Option.some.inj h
  exact ret _ _ _ _ J dX3_viewFrom_17
set_option maxHeartbeats 4000000 in
set_option maxRecDepth 100000 in
theorem c_X4_item {l : Launch} {g : GG} {A : Nat → Prop} {ws : va_W} (a0 : Int64) (a1 : Int32) (res : Int32) (h : F_X4_item a0 a1 = some res) : Met l yX4_item (wS yX4_item cX4_item 6 (some .int)) rm_X4_item (va_Pc [.long a0, .int a1] (VB g A ws)) (va_Qi (fun r (_ : Unit) => r = res) (fun _ => VB g A ws) A) 0 0 A := by
  unfold F_X4_item at h
  refine MetI (res := res) (own := RX4) (ws' := ws) (by decide) rfl (Nat.le_of_ble_eq_true rfl) ?_
  intro p e s m args below meth c Q F E ret ls J hl
  have hx := F.1
  have hb := F.2.1
  have hl : lv_has ls 6 [(0, .long a0), (2, .int a1)] := hl
  refine lv_iconst (v := 0) hx hb dX4_item_0 (by decide) ?_
  refine lv_istore_n (lv' := [(3, .int 0), (0, .long a0), (2, .int a1)]) hx hb dX4_item_1 rfl hl (by decide) rfl (fun ls hl => ?_)
  refine lv_lload_n hx hb dX4_item_2 rfl (lv_at hl 1 rfl) ?_
  refine lv_lstore (lv' := [(4, .long a0), (3, .int 0), (0, .long a0), (2, .int a1)]) hx hb dX4_item_3 hl (by decide) rfl (fun ls hl => ?_)
  obtain ⟨o_L1, ho_L1, h⟩ := ob h
  have T_L1 : ∀ (f : Nat) (l3_L1 : Int32) (l4_L1 : Int64) (o_L1 : Int32), F_X4_item_L1 f l3_L1 l4_L1 = some o_L1 → ∀ (H : Heap) (locs : List Loc) (ls : Array Slot), VJ g A s.heap ws H locs → lv_has ls 6 [(0, .long a0), (2, .int a1), (3, .int l3_L1), (4, .long l4_L1)] → (∀ (H : Heap) (locs : List Loc) (ls : Array Slot), VJ g A s.heap ws H locs → lv_has ls 6 [(0, .long a0), (2, .int a1), (3, .int o_L1)] → W p l e rm_X4_item s m args below meth c H locs 0 0 Q (F0 m 31 ls [])) → W p l e rm_X4_item s m args below meth c H locs 0 0 Q (F0 m 5 ls []) := by
    clear h ho_L1 hl J
    intro f
    induction f with
    | zero => intro l3_L1 l4_L1 o_L1 h; exact absurd h (by simp [F_X4_item_L1])
    | succ f ih =>
      intro l3_L1 l4_L1 o_L1 h H locs ls J hl K_L1
      rw [F_X4_item_L1.eq_2] at h
      refine lv_lload hx hb dX4_item_5 (lv_at hl 3 rfl) ?_
      refine lv_lconst (v := 0) hx hb dX4_item_7 (by decide) ?_
      refine W.lcmp hx hb dX4_item_8 ?_
      refine lv_if_eq (tgt := 31) hx hb dX4_item_9 (by decide) (fun c2 => ?_) (fun c2 => ?_)
      · have h := itp c2 h
        obtain rfl := Option.some.inj h
        exact K_L1 _ _ _ J (lv_sub hl [0, 1, 2] rfl)
      · have h := itn c2 h
        refine lv_iload_n hx hb dX4_item_12 rfl (lv_at hl 2 rfl) ?_
        refine lv_bipush (v := 8) hx hb dX4_item_13 (by decide) ?_
        refine lv_icmp_ge (tgt := 31) hx hb dX4_item_15 (by decide) (fun c3 => ?_) (fun c3 => ?_)
        · have h := itp c3 h
          obtain rfl := Option.some.inj h
          exact K_L1 _ _ _ J (lv_sub hl [0, 1, 2] rfl)
        · have h := itn c3 h
          obtain ⟨v4, hv4, h⟩ := obs h
          refine lv_iinc (v := v4) (lv' := [(3, .int v4), (0, .long a0), (2, .int a1), (4, .long l4_L1)]) hx hb dX4_item_18 hl (k := 2) rfl (by rw [← hv4]; rfl) (by decide) rfl (fun ls hl => ?_)
          refine lv_lload hx hb dX4_item_21 (lv_at hl 3 rfl) ?_
          refine lv_bipush (v := 7) hx hb dX4_item_23 (by decide) ?_
          refine lv_lushr (v := (jlushr l4_L1 7)) hx hb dX4_item_25 rfl ?_
          obtain ⟨v5, hv5, h⟩ := obs h
          refine nmL hv5 ?_
          refine lv_lstore (lv' := [(4, .long v5), (3, .int v4), (0, .long a0), (2, .int a1)]) hx hb dX4_item_26 hl (by decide) rfl (fun ls hl => ?_)
          refine lv_goto (tgt := 5) hx hb dX4_item_28 (by decide) ?_
          exact ih _ _ _ h _ _ _ J (lv_sub hl [2, 3, 1, 0] rfl) K_L1
  refine T_L1 FU 0 a0 o_L1 ho_L1 _ _ _ J (lv_sub hl [2, 3, 1, 0] rfl) (fun H locs ls J hl => ?_)
  refine lv_iload_n hx hb dX4_item_31 rfl (lv_at hl 1 rfl) ?_
  refine lv_iload_n hx hb dX4_item_32 rfl (lv_at hl 2 rfl) ?_
  obtain ⟨p6, hp6, h⟩ := ob h
  refine onZ (runN (As := [.int a1, .int o_L1]) (rest := []) F E J (c_X7_outside a1 o_L1 p6 hp6) cn_X4_11 ⟨rfl, rfl, Nat.le_of_ble_eq_true rfl, Nat.le_of_ble_eq_true rfl⟩ rfl hl.1 rfl (Nat.le_of_ble_eq_true rfl) dX4_item_33) J (fun hzbp6 H locs J => ?_)
  refine lv_if_eq (tgt := 44) hx hb dX4_item_36 (by decide) (fun c7 => ?_) (fun c7 => ?_)
  · have h := itp c7 h
    refine lv_lload_n hx hb dX4_item_44 rfl (lv_at hl 0 rfl) ?_
    refine lv_bipush (v := 7) hx hb dX4_item_45 (by decide) ?_
    refine lv_iload_n hx hb dX4_item_47 rfl (lv_at hl 2 rfl) ?_
    refine lv_iconst (v := 1) hx hb dX4_item_48 (by decide) ?_
    refine lv_isub hx hb dX4_item_49 ?_
    refine lv_iload_n hx hb dX4_item_50 rfl (lv_at hl 1 rfl) ?_
    refine lv_isub hx hb dX4_item_51 ?_
    refine lv_imul hx hb dX4_item_52 ?_
    refine lv_lushr (v := (jlushr a0 (7 * ((o_L1 - 1) - a1)))) hx hb dX4_item_53 rfl ?_
    refine lv_l2i (v := (Int64.toInt32 (jlushr a0 (7 * ((o_L1 - 1) - a1))))) hx hb dX4_item_54 rfl ?_
    refine lv_bipush (v := 127) hx hb dX4_item_55 (by decide) ?_
    refine lv_iand hx hb dX4_item_57 ?_
    obtain rfl := Option.some.inj h
    exact ret _ _ _ _ J dX4_item_58
  · have h := itn c7 h
    refine lv_ldc hx hb F.2.2.2.1 (F.2.2.2.2 _ kc_X4_15) dX4_item_39 ?_
    refine lv_goto (tgt := 58) hx hb dX4_item_41 (by decide) ?_
    obtain rfl := Option.some.inj h
    exact ret _ _ _ _ J dX4_item_58
set_option maxHeartbeats 4000000 in
set_option maxRecDepth 100000 in
theorem c_X7_view {l : Launch} {g : GG} {A : Nat → Prop} {q : Nat → Nat} {x_crowd x_latestFault x_places x_mask x_w_robots x_w_size x_w_nexts x_a_length x_t_length x_t_token x_t_from x_t_value x_t_behind x_r_wants x_r_pairs x_r_sees : Int32} {x_r_row : Int64} {x_b_size x_s_size : Int32} {x_w_names : Nat → Int32} {x_w_goals x_w_links : Nat → Int64} {x_w_linked x_w_ups x_w_downs x_w_next x_a_begun x_t_bytes : Nat → Int32} {x_b_rows : Nat → Int64} {x_b_acts : Nat → Int32} {x_s_rows : Nat → Int64} {x_s_acts : Nat → Int32} (a0 : Int32) (a1 : Int32) (res : Int32) (h : F_X7_view a0 a1 x_crowd x_places = some res) : Met l yX7_view (wS yX7_view cX7_view 3 (some .int)) rm_X7_view (va_Pc [.ref (q 0), .int a0, .int a1] (VB g A (XW g q x_crowd x_latestFault x_places x_mask x_w_robots x_w_size x_w_nexts x_a_length x_t_length x_t_token x_t_from x_t_value x_t_behind x_r_wants x_r_pairs x_r_sees x_r_row x_b_size x_s_size x_w_names x_w_goals x_w_links x_w_linked x_w_ups x_w_downs x_w_next x_a_begun x_t_bytes x_b_rows x_b_acts x_s_rows x_s_acts))) (va_Qi (fun r (_ : Unit) => r = res) (fun _ => VB g A (XW g q x_crowd x_latestFault x_places x_mask x_w_robots x_w_size x_w_nexts x_a_length x_t_length x_t_token x_t_from x_t_value x_t_behind x_r_wants x_r_pairs x_r_sees x_r_row x_b_size x_s_size x_w_names x_w_goals x_w_links x_w_linked x_w_ups x_w_downs x_w_next x_a_begun x_t_bytes x_b_rows x_b_acts x_s_rows x_s_acts)) A) 0 0 A := by
  unfold F_X7_view at h
  refine MetI (res := res) (own := RX7) (ws' := (XW g q x_crowd x_latestFault x_places x_mask x_w_robots x_w_size x_w_nexts x_a_length x_t_length x_t_token x_t_from x_t_value x_t_behind x_r_wants x_r_pairs x_r_sees x_r_row x_b_size x_s_size x_w_names x_w_goals x_w_links x_w_linked x_w_ups x_w_downs x_w_next x_a_begun x_t_bytes x_b_rows x_b_acts x_s_rows x_s_acts)) (by decide) rfl (Nat.le_of_ble_eq_true rfl) ?_
  intro p e s m args below meth c Q F E ret ls J hl
  have hx := F.1
  have hb := F.2.1
  have hl : lv_has ls 3 [(0, .ref (q 0)), (1, .int a0), (2, .int a1)] := hl
  refine lv_aload_n hx hb dX7_view_0 rfl (lv_at hl 0 rfl) ?_
  refine lv_iload_n hx hb dX7_view_1 rfl (lv_at hl 1 rfl) ?_
  obtain ⟨p1, hp1, h⟩ := ob h
  refine onZ (runV (As := [.int a0]) (rest := []) F E J (c_X7_noPlace a0 p1 hp1) cw_X7_76 ⟨rfl, rfl, Nat.le_of_ble_eq_true rfl, Nat.le_of_ble_eq_true rfl⟩ rcX0 rfl hl.1 rfl (Nat.le_of_ble_eq_true rfl) dX7_view_2) J (fun hzbp1 H locs J => ?_)
  refine lv_if_eq (tgt := 11) hx hb dX7_view_5 (by decide) (fun c2 => ?_) (fun c2 => ?_)
  · have h := itp c2 h
    refine lv_aload_n hx hb dX7_view_11 rfl (lv_at hl 0 rfl) ?_
    refine xg_0_0 F E J fl_X7_23 dX7_view_12 ?_
    refine lv_aload_n hx hb dX7_view_15 rfl (lv_at hl 0 rfl) ?_
    refine xg_0_7 F E J fl_X7_69 dX7_view_16 ?_
    refine lv_iload_n hx hb dX7_view_19 rfl (lv_at hl 1 rfl) ?_
    obtain ⟨p3, hp3, h⟩ := ob h
    refine onI (runV (As := [.int x_crowd, .int a0]) (rest := []) F E J (c_X3_manyAt x_crowd a0 p3 hp3) cw_X7_89 ⟨rfl, rfl, Nat.le_of_ble_eq_true rfl, Nat.le_of_ble_eq_true rfl⟩ rcX1 rfl hl.1 rfl (Nat.le_of_ble_eq_true rfl) dX7_view_20) J (fun H locs J => ?_)
    refine lv_if_ne (tgt := 29) hx hb dX7_view_23 (by decide) (fun c4 => ?_) (fun c4 => ?_)
    · have h := itn c4 h
      refine lv_aload_n hx hb dX7_view_29 rfl (lv_at hl 0 rfl) ?_
      refine xg_0_0 F E J fl_X7_23 dX7_view_30 ?_
      refine lv_aload_n hx hb dX7_view_33 rfl (lv_at hl 0 rfl) ?_
      refine xg_0_7 F E J fl_X7_69 dX7_view_34 ?_
      refine lv_iload_n hx hb dX7_view_37 rfl (lv_at hl 1 rfl) ?_
      obtain ⟨p5, hp5, h⟩ := ob h
      refine onL (runV (As := [.int x_crowd, .int a0]) (rest := []) F E J (c_X3_viewFrom x_crowd a0 p5 hp5) cw_X7_93 ⟨rfl, rfl, Nat.le_of_ble_eq_true rfl, Nat.le_of_ble_eq_true rfl⟩ rcX1 rfl hl.1 rfl (Nat.le_of_ble_eq_true rfl) dX7_view_38) J (fun H locs J => ?_)
      refine lv_iload_n hx hb dX7_view_41 rfl (lv_at hl 2 rfl) ?_
      obtain ⟨p6, hp6, h⟩ := ob h
      refine onI (runS (As := [.long p5, .int a1]) (rest := []) F E J (c_X4_item p5 a1 p6 hp6) cw_X7_97 ⟨rfl, rfl, Nat.le_of_ble_eq_true rfl, Nat.le_of_ble_eq_true rfl⟩ rfl hl.1 rfl (Nat.le_of_ble_eq_true rfl) dX7_view_42) J (fun H locs J => ?_)
      obtain rfl := Option.some.inj h
      exact ret _ _ _ _ J dX7_view_45
    · have h := itp c4 h
      refine lv_ldc hx hb F.2.2.2.1 (F.2.2.2.2 _ kc_X7_92) dX7_view_26 ?_
      obtain rfl := Option.some.inj h
      exact ret _ _ _ _ J dX7_view_28
  · have h := itn c2 h
    refine lv_ldc hx hb F.2.2.2.1 (F.2.2.2.2 _ kc_X7_80) dX7_view_8 ?_
    obtain rfl := Option.some.inj h
    exact ret _ _ _ _ J dX7_view_10
set_option maxHeartbeats 4000000 in
set_option maxRecDepth 100000 in
theorem c_X1_find_b {l : Launch} {g : GG} {A : Nat → Prop} {q : Nat → Nat} {x_crowd x_latestFault x_places x_mask x_w_robots x_w_size x_w_nexts x_a_length x_t_length x_t_token x_t_from x_t_value x_t_behind x_r_wants x_r_pairs x_r_sees : Int32} {x_r_row : Int64} {x_b_size x_s_size : Int32} {x_w_names : Nat → Int32} {x_w_goals x_w_links : Nat → Int64} {x_w_linked x_w_ups x_w_downs x_w_next x_a_begun x_t_bytes : Nat → Int32} {x_b_rows : Nat → Int64} {x_b_acts : Nat → Int32} {x_s_rows : Nat → Int64} {x_s_acts : Nat → Int32} (a0 : Int64) (res : Int32) (h : F_X1_find_b a0 x_b_size x_b_rows = some res) : Met l yX1_find (wS yX1_find cX1_find 4 (some .int)) rm_X1_find_b (va_Pc [.ref (q 6), .long a0] (VB g A (XW g q x_crowd x_latestFault x_places x_mask x_w_robots x_w_size x_w_nexts x_a_length x_t_length x_t_token x_t_from x_t_value x_t_behind x_r_wants x_r_pairs x_r_sees x_r_row x_b_size x_s_size x_w_names x_w_goals x_w_links x_w_linked x_w_ups x_w_downs x_w_next x_a_begun x_t_bytes x_b_rows x_b_acts x_s_rows x_s_acts))) (va_Qi (fun r (_ : Unit) => r = res) (fun _ => VB g A (XW g q x_crowd x_latestFault x_places x_mask x_w_robots x_w_size x_w_nexts x_a_length x_t_length x_t_token x_t_from x_t_value x_t_behind x_r_wants x_r_pairs x_r_sees x_r_row x_b_size x_s_size x_w_names x_w_goals x_w_links x_w_linked x_w_ups x_w_downs x_w_next x_a_begun x_t_bytes x_b_rows x_b_acts x_s_rows x_s_acts)) A) 0 0 A := by
  unfold F_X1_find_b at h
  refine MetI (res := res) (own := RX1) (ws' := (XW g q x_crowd x_latestFault x_places x_mask x_w_robots x_w_size x_w_nexts x_a_length x_t_length x_t_token x_t_from x_t_value x_t_behind x_r_wants x_r_pairs x_r_sees x_r_row x_b_size x_s_size x_w_names x_w_goals x_w_links x_w_linked x_w_ups x_w_downs x_w_next x_a_begun x_t_bytes x_b_rows x_b_acts x_s_rows x_s_acts)) (by decide) rfl (Nat.le_of_ble_eq_true rfl) ?_
  intro p e s m args below meth c Q F E ret ls J hl
  have hx := F.1
  have hb := F.2.1
  have hl : lv_has ls 4 [(0, .ref (q 6)), (1, .long a0)] := hl
  refine lv_iconst (v := 0) hx hb dX1_find_0 (by decide) ?_
  refine lv_istore_n (lv' := [(3, .int 0), (0, .ref (q 6)), (1, .long a0)]) hx hb dX1_find_1 rfl hl (by decide) rfl (fun ls hl => ?_)
  obtain ⟨o_L1s, ho_L1, h⟩ := ob h
  have T_L1 : ∀ (f : Nat) (l3_L1 : Int32) (o_L1s : Sum (Int32) (Unit)), F_X1_find_b_L1 a0 x_b_size x_b_rows f l3_L1 = some o_L1s → ∀ (H : Heap) (locs : List Loc) (ls : Array Slot), VJ g A s.heap (XW g q x_crowd x_latestFault x_places x_mask x_w_robots x_w_size x_w_nexts x_a_length x_t_length x_t_token x_t_from x_t_value x_t_behind x_r_wants x_r_pairs x_r_sees x_r_row x_b_size x_s_size x_w_names x_w_goals x_w_links x_w_linked x_w_ups x_w_downs x_w_next x_a_begun x_t_bytes x_b_rows x_b_acts x_s_rows x_s_acts) H locs → lv_has ls 4 [(0, .ref (q 6)), (1, .long a0), (3, .int l3_L1)] → (∀ (o_L1 : Unit), o_L1s = .inr o_L1 → ∀ (H : Heap) (locs : List Loc) (ls : Array Slot), VJ g A s.heap (XW g q x_crowd x_latestFault x_places x_mask x_w_robots x_w_size x_w_nexts x_a_length x_t_length x_t_token x_t_from x_t_value x_t_behind x_r_wants x_r_pairs x_r_sees x_r_row x_b_size x_s_size x_w_names x_w_goals x_w_links x_w_linked x_w_ups x_w_downs x_w_next x_a_begun x_t_bytes x_b_rows x_b_acts x_s_rows x_s_acts) H locs → lv_has ls 4 [] → W p l e rm_X1_find_b s m args below meth c H locs 0 0 Q (F0 m 35 ls [])) → (∀ x, o_L1s = .inl x → x = res) → W p l e rm_X1_find_b s m args below meth c H locs 0 0 Q (F0 m 2 ls []) := by
    clear h ho_L1 hl J
    intro f
    induction f with
    | zero => intro l3_L1 o_L1s h; exact absurd h (by simp [F_X1_find_b_L1])
    | succ f ih =>
      intro l3_L1 o_L1s h H locs ls J hl K_L1 kr_L1
      rw [F_X1_find_b_L1.eq_2] at h
      refine lv_iload_n hx hb dX1_find_2 rfl (lv_at hl 2 rfl) ?_
      refine lv_aload_n hx hb dX1_find_3 rfl (lv_at hl 0 rfl) ?_
      refine xg_6_2 F E J fl_X1_19 dX1_find_4 ?_
      refine lv_icmp_ge (tgt := 35) hx hb dX1_find_7 (by decide) (fun c2 => ?_) (fun c2 => ?_)
      · have h := itp c2 h
        obtain rfl := Option.some.inj h
        exact K_L1 _ rfl _ _ _ J (lv_sub hl [] rfl)
      · have h := itn c2 h
        refine lv_iload_n hx hb dX1_find_10 rfl (lv_at hl 2 rfl) ?_
        refine lv_bipush (v := 30) hx hb dX1_find_11 (by decide) ?_
        refine lv_icmp_ge (tgt := 35) hx hb dX1_find_13 (by decide) (fun c3 => ?_) (fun c3 => ?_)
        · have h := itp c3 h
          obtain rfl := Option.some.inj h
          exact K_L1 _ rfl _ _ _ J (lv_sub hl [] rfl)
        · have h := itn c3 h
          refine lv_aload_n hx hb dX1_find_16 rfl (lv_at hl 0 rfl) ?_
          refine xg_6_0 F E J fl_X1_9 dX1_find_17 ?_
          refine lv_iload_n hx hb dX1_find_20 rfl (lv_at hl 2 rfl) ?_
          obtain ⟨hi, h⟩ := gdt h
          refine xl_17 F E J (inbt hi) dX1_find_21 ?_
          refine lv_lload_n hx hb dX1_find_22 rfl (lv_at hl 1 rfl) ?_
          refine W.lcmp hx hb dX1_find_23 ?_
          refine lv_if_ne (tgt := 29) hx hb dX1_find_24 (by decide) (fun c4 => ?_) (fun c4 => ?_)
          · have h := itn c4 h
            obtain ⟨v5, hv5, h⟩ := obs h
            refine lv_iinc (v := v5) (lv' := [(3, .int v5), (0, .ref (q 6)), (1, .long a0)]) hx hb dX1_find_29 hl (k := 2) rfl (by rw [← hv5]; rfl) (by decide) rfl (fun ls hl => ?_)
            refine lv_goto (tgt := 2) hx hb dX1_find_32 (by decide) ?_
            exact ih _ _ h _ _ _ J (lv_sub hl [1, 2, 0] rfl) K_L1 kr_L1
          · have h := itp c4 h
            refine lv_iload_n hx hb dX1_find_27 rfl (lv_at hl 2 rfl) ?_
            obtain rfl := Option.some.inj h
            obtain rfl := kr_L1 _ rfl
            exact ret _ _ _ _ J dX1_find_28
  refine T_L1 FU 0 o_L1s ho_L1 _ _ _ J (lv_sub hl [1, 2, 0] rfl) (fun o_L1 eo H locs ls J hl => ?_) (fun x ex => ?_)
  · subst eo
    have h := elimR h
    refine lv_iconst (v := (-1)) hx hb dX1_find_35 (by decide) ?_
    obtain rfl := Option.some.inj h
    exact ret _ _ _ _ J dX1_find_36
  · subst ex
    exact Option.some.inj (elimL h)
set_option maxHeartbeats 4000000 in
set_option maxRecDepth 100000 in
theorem c_X1_moveAt_b {l : Launch} {g : GG} {A : Nat → Prop} {q : Nat → Nat} {x_crowd x_latestFault x_places x_mask x_w_robots x_w_size x_w_nexts x_a_length x_t_length x_t_token x_t_from x_t_value x_t_behind x_r_wants x_r_pairs x_r_sees : Int32} {x_r_row : Int64} {x_b_size x_s_size : Int32} {x_w_names : Nat → Int32} {x_w_goals x_w_links : Nat → Int64} {x_w_linked x_w_ups x_w_downs x_w_next x_a_begun x_t_bytes : Nat → Int32} {x_b_rows : Nat → Int64} {x_b_acts : Nat → Int32} {x_s_rows : Nat → Int64} {x_s_acts : Nat → Int32} (a1 : Int32) (a2 : Int32) (res : Int32) (h : F_X1_moveAt_b a1 a2 x_places x_b_size x_b_rows x_b_acts = some res) : Met l yX1_moveAt (wS yX1_moveAt cX1_moveAt 10 (some .int)) rm_X1_moveAt_b (va_Pc [.ref (q 6), .ref (q 1), .int a1, .int a2] (VB g A (XW g q x_crowd x_latestFault x_places x_mask x_w_robots x_w_size x_w_nexts x_a_length x_t_length x_t_token x_t_from x_t_value x_t_behind x_r_wants x_r_pairs x_r_sees x_r_row x_b_size x_s_size x_w_names x_w_goals x_w_links x_w_linked x_w_ups x_w_downs x_w_next x_a_begun x_t_bytes x_b_rows x_b_acts x_s_rows x_s_acts))) (va_Qi (fun r (_ : Unit) => r = res) (fun _ => VB g A (XW g q x_crowd x_latestFault x_places x_mask x_w_robots x_w_size x_w_nexts x_a_length x_t_length x_t_token x_t_from x_t_value x_t_behind x_r_wants x_r_pairs x_r_sees x_r_row x_b_size x_s_size x_w_names x_w_goals x_w_links x_w_linked x_w_ups x_w_downs x_w_next x_a_begun x_t_bytes x_b_rows x_b_acts x_s_rows x_s_acts)) A) 0 0 A := by
  unfold F_X1_moveAt_b at h
  refine MetI (res := res) (own := RX1) (ws' := (XW g q x_crowd x_latestFault x_places x_mask x_w_robots x_w_size x_w_nexts x_a_length x_t_length x_t_token x_t_from x_t_value x_t_behind x_r_wants x_r_pairs x_r_sees x_r_row x_b_size x_s_size x_w_names x_w_goals x_w_links x_w_linked x_w_ups x_w_downs x_w_next x_a_begun x_t_bytes x_b_rows x_b_acts x_s_rows x_s_acts)) (by decide) rfl (Nat.le_of_ble_eq_true rfl) ?_
  intro p e s m args below meth c Q F E ret ls J hl
  have hx := F.1
  have hb := F.2.1
  have hl : lv_has ls 10 [(0, .ref (q 6)), (1, .ref (q 1)), (2, .int a1), (3, .int a2)] := hl
  refine lv_aload_n hx hb dX1_moveAt_0 rfl (lv_at hl 1 rfl) ?_
  refine lv_iload_n hx hb dX1_moveAt_1 rfl (lv_at hl 2 rfl) ?_
  refine lv_iload_n hx hb dX1_moveAt_2 rfl (lv_at hl 3 rfl) ?_
  refine lv_iconst (v := 1) hx hb dX1_moveAt_3 (by decide) ?_
  obtain ⟨p1, hp1, h⟩ := ob h
  refine onL (runV (As := [.int a1, .int a2, .int 1]) (rest := []) F E J (c_X3_rowFrom a1 a2 1 p1 hp1) cw_X1_27 ⟨rfl, rfl, Nat.le_of_ble_eq_true rfl, Nat.le_of_ble_eq_true rfl⟩ rcX1 rfl hl.1 rfl (Nat.le_of_ble_eq_true rfl) dX1_moveAt_4) J (fun H locs J => ?_)
  refine lv_lstore (lv' := [(4, .long p1), (0, .ref (q 6)), (1, .ref (q 1)), (2, .int a1), (3, .int a2)]) hx hb dX1_moveAt_7 hl (by decide) rfl (fun ls hl => ?_)
  refine lv_aload_n hx hb dX1_moveAt_9 rfl (lv_at hl 2 rfl) ?_
  refine lv_iload_n hx hb dX1_moveAt_10 rfl (lv_at hl 3 rfl) ?_
  refine lv_iload_n hx hb dX1_moveAt_11 rfl (lv_at hl 4 rfl) ?_
  refine lv_iconst (v := (-1)) hx hb dX1_moveAt_12 (by decide) ?_
  obtain ⟨p2, hp2, h⟩ := ob h
  refine onL (runV (As := [.int a1, .int a2, .int (-1)]) (rest := []) F E J (c_X3_rowFrom a1 a2 (-1) p2 hp2) cw_X1_27 ⟨rfl, rfl, Nat.le_of_ble_eq_true rfl, Nat.le_of_ble_eq_true rfl⟩ rcX1 rfl hl.1 rfl (Nat.le_of_ble_eq_true rfl) dX1_moveAt_13) J (fun H locs J => ?_)
  refine lv_lstore (lv' := [(6, .long p2), (4, .long p1), (0, .ref (q 6)), (1, .ref (q 1)), (2, .int a1), (3, .int a2)]) hx hb dX1_moveAt_16 hl (by decide) rfl (fun ls hl => ?_)
  refine lv_aload_n hx hb dX1_moveAt_18 rfl (lv_at hl 2 rfl) ?_
  refine lv_lload hx hb dX1_moveAt_19 (lv_at hl 1 rfl) ?_
  refine lv_lload hx hb dX1_moveAt_21 (lv_at hl 0 rfl) ?_
  obtain ⟨p3, hp3, h⟩ := ob h
  refine onL (runS (As := [.long p1, .long p2]) (rest := [.ref (q 6)]) F E J (c_J9_min_f86c9 p1 p2 p3 hp3) cw_X1_33 ⟨rfl, rfl, Nat.le_of_ble_eq_true rfl, Nat.le_of_ble_eq_true rfl⟩ rfl hl.1 rfl (Nat.le_of_ble_eq_true rfl) dX1_moveAt_23) J (fun H locs J => ?_)
  obtain ⟨p4, hp4, h⟩ := ob h
  refine onI (runV (As := [.long p3]) (rest := []) F E J (c_X1_find_b p3 p4 hp4) cw_X1_23 ⟨rfl, rfl, Nat.le_of_ble_eq_true rfl, Nat.le_of_ble_eq_true rfl⟩ rcX6 rfl hl.1 rfl (Nat.le_of_ble_eq_true rfl) dX1_moveAt_26) J (fun H locs J => ?_)
  refine lv_istore (lv' := [(8, .int p4), (6, .long p2), (4, .long p1), (0, .ref (q 6)), (1, .ref (q 1)), (2, .int a1), (3, .int a2)]) hx hb dX1_moveAt_29 hl (by decide) rfl (fun ls hl => ?_)
  refine lv_iload hx hb dX1_moveAt_31 (lv_at hl 0 rfl) ?_
  refine lv_bipush (v := 30) hx hb dX1_moveAt_33 (by decide) ?_
  obtain ⟨p5, hp5, h⟩ := ob h
  refine onZ (runN (As := [.int p4, .int 30]) (rest := []) F E J (c_X7_outside p4 30 p5 hp5) cn_X1_39 ⟨rfl, rfl, Nat.le_of_ble_eq_true rfl, Nat.le_of_ble_eq_true rfl⟩ rfl hl.1 rfl (Nat.le_of_ble_eq_true rfl) dX1_moveAt_35) J (fun hzbp5 H locs J => ?_)
  obtain ⟨j6, hj6, h⟩ := ob h
  have Kj6 : ∀ (H : Heap) (locs : List Loc) (ls : Array Slot), VJ g A s.heap (XW g q x_crowd x_latestFault x_places x_mask x_w_robots x_w_size x_w_nexts x_a_length x_t_length x_t_token x_t_from x_t_value x_t_behind x_r_wants x_r_pairs x_r_sees x_r_row x_b_size x_s_size x_w_names x_w_goals x_w_links x_w_linked x_w_ups x_w_downs x_w_next x_a_begun x_t_bytes x_b_rows x_b_acts x_s_rows x_s_acts) H locs → lv_has ls 10 [(4, .long p1), (6, .long p2)] → W p l e rm_X1_moveAt_b s m args below meth c H locs 0 0 Q (F0 m 52 ls [.int j6]) := by
    intro H locs ls J hl
    refine lv_istore (lv' := [(9, .int j6), (4, .long p1), (6, .long p2)]) hx hb dX1_moveAt_52 hl (by decide) rfl (fun ls hl => ?_)
    refine lv_iload hx hb dX1_moveAt_54 (lv_at hl 0 rfl) ?_
    refine lv_if_ne (tgt := 61) hx hb dX1_moveAt_56 (by decide) (fun c8 => ?_) (fun c8 => ?_)
    · have h := itn c8 h
      refine lv_lload hx hb dX1_moveAt_61 (lv_at hl 1 rfl) ?_
      refine lv_lload hx hb dX1_moveAt_63 (lv_at hl 2 rfl) ?_
      refine W.lcmp hx hb dX1_moveAt_65 ?_
      refine lv_if_ne (tgt := 71) hx hb dX1_moveAt_66 (by decide) (fun c9 => ?_) (fun c9 => ?_)
      · have h := itn c9 h
        refine lv_lload hx hb dX1_moveAt_71 (lv_at hl 1 rfl) ?_
        refine lv_lload hx hb dX1_moveAt_73 (lv_at hl 2 rfl) ?_
        refine W.lcmp hx hb dX1_moveAt_75 ?_
        obtain ⟨j10, hj10, h⟩ := ob h
        have Kj10 : ∀ (H : Heap) (locs : List Loc) (ls : Array Slot), VJ g A s.heap (XW g q x_crowd x_latestFault x_places x_mask x_w_robots x_w_size x_w_nexts x_a_length x_t_length x_t_token x_t_from x_t_value x_t_behind x_r_wants x_r_pairs x_r_sees x_r_row x_b_size x_s_size x_w_names x_w_goals x_w_links x_w_linked x_w_ups x_w_downs x_w_next x_a_begun x_t_bytes x_b_rows x_b_acts x_s_rows x_s_acts) H locs → lv_has ls 10 [(9, .int j6)] → W p l e rm_X1_moveAt_b s m args below meth c H locs 0 0 Q (F0 m 84 ls [.int j10]) := by
          intro H locs ls J hl
          refine lv_iload hx hb dX1_moveAt_84 (lv_at hl 0 rfl) ?_
          refine lv_iconst (v := 1) hx hb dX1_moveAt_86 (by decide) ?_
          obtain ⟨j12, hj12, h⟩ := ob h
          have Kj12 : ∀ (H : Heap) (locs : List Loc) (ls : Array Slot), VJ g A s.heap (XW g q x_crowd x_latestFault x_places x_mask x_w_robots x_w_size x_w_nexts x_a_length x_t_length x_t_token x_t_from x_t_value x_t_behind x_r_wants x_r_pairs x_r_sees x_r_row x_b_size x_s_size x_w_names x_w_goals x_w_links x_w_linked x_w_ups x_w_downs x_w_next x_a_begun x_t_bytes x_b_rows x_b_acts x_s_rows x_s_acts) H locs → lv_has ls 10 [] → W p l e rm_X1_moveAt_b s m args below meth c H locs 0 0 Q (F0 m 95 ls [.int j12, .int j10]) := by
            intro H locs ls J hl
            refine lv_icmp_ne (tgt := 102) hx hb dX1_moveAt_95 (by decide) (fun c14 => ?_) (fun c14 => ?_)
            · have h := itn c14 h
              refine lv_iconst (v := (-1)) hx hb dX1_moveAt_102 (by decide) ?_
              obtain rfl := Option.some.inj h
              exact ret _ _ _ _ J dX1_moveAt_103
            · have h := itp c14 h
              refine lv_iconst (v := 1) hx hb dX1_moveAt_98 (by decide) ?_
              refine lv_goto (tgt := 103) hx hb dX1_moveAt_99 (by decide) ?_
              obtain rfl := Option.some.inj h
              exact ret _ _ _ _ J dX1_moveAt_103
          clear h
          have h := hj12
          refine lv_icmp_ne (tgt := 94) hx hb dX1_moveAt_87 (by decide) (fun c13 => ?_) (fun c13 => ?_)
          · have h := itn c13 h
            refine lv_iconst (v := 0) hx hb dX1_moveAt_94 (by decide) ?_
            obtain rfl := Option.some.inj h
            exact Kj12 _ _ _ J (lv_sub hl [] rfl)
          · have h := itp c13 h
            refine lv_iconst (v := 1) hx hb dX1_moveAt_90 (by decide) ?_
            refine lv_goto (tgt := 95) hx hb dX1_moveAt_91 (by decide) ?_
            obtain rfl := Option.some.inj h
            exact Kj12 _ _ _ J (lv_sub hl [] rfl)
        clear h
        have h := hj10
        refine lv_if_ge (tgt := 83) hx hb dX1_moveAt_76 (by decide) (fun c11 => ?_) (fun c11 => ?_)
        · have h := itp c11 h
          refine lv_iconst (v := 0) hx hb dX1_moveAt_83 (by decide) ?_
          obtain rfl := Option.some.inj h
          exact Kj10 _ _ _ J (lv_sub hl [0] rfl)
        · have h := itn c11 h
          refine lv_iconst (v := 1) hx hb dX1_moveAt_79 (by decide) ?_
          refine lv_goto (tgt := 84) hx hb dX1_moveAt_80 (by decide) ?_
          obtain rfl := Option.some.inj h
          exact Kj10 _ _ _ J (lv_sub hl [0] rfl)
      · have h := itp c9 h
        refine lv_iconst (v := 2) hx hb dX1_moveAt_69 (by decide) ?_
        obtain rfl := Option.some.inj h
        exact ret _ _ _ _ J dX1_moveAt_70
    · have h := itp c8 h
      refine lv_iconst (v := 0) hx hb dX1_moveAt_59 (by decide) ?_
      obtain rfl := Option.some.inj h
      exact ret _ _ _ _ J dX1_moveAt_60
  clear h
  have h := hj6
  refine lv_if_eq (tgt := 45) hx hb dX1_moveAt_38 (by decide) (fun c7 => ?_) (fun c7 => ?_)
  · have h := itp c7 h
    refine lv_aload_n hx hb dX1_moveAt_45 rfl (lv_at hl 3 rfl) ?_
    refine xg_6_1 F E J fl_X1_15 dX1_moveAt_46 ?_
    refine lv_iload hx hb dX1_moveAt_49 (lv_at hl 0 rfl) ?_
    obtain ⟨hi, h⟩ := gdt h
    refine xl_18 F E J (inbt hi) dX1_moveAt_51 ?_
    obtain rfl := Option.some.inj h
    exact Kj6 _ _ _ J (lv_sub hl [2, 1] rfl)
  · have h := itn c7 h
    refine lv_iconst (v := 0) hx hb dX1_moveAt_41 (by decide) ?_
    refine lv_goto (tgt := 52) hx hb dX1_moveAt_42 (by decide) ?_
    obtain rfl := Option.some.inj h
    exact Kj6 _ _ _ J (lv_sub hl [2, 1] rfl)
set_option maxHeartbeats 4000000 in
set_option maxRecDepth 100000 in
theorem c_X7_does {l : Launch} {g : GG} {A : Nat → Prop} {q : Nat → Nat} {x_crowd x_latestFault x_places x_mask x_w_robots x_w_size x_w_nexts x_a_length x_t_length x_t_token x_t_from x_t_value x_t_behind x_r_wants x_r_pairs x_r_sees : Int32} {x_r_row : Int64} {x_b_size x_s_size : Int32} {x_w_names : Nat → Int32} {x_w_goals x_w_links : Nat → Int64} {x_w_linked x_w_ups x_w_downs x_w_next x_a_begun x_t_bytes : Nat → Int32} {x_b_rows : Nat → Int64} {x_b_acts : Nat → Int32} {x_s_rows : Nat → Int64} {x_s_acts : Nat → Int32} (a0 : Int32) (res : Int32) (h : F_X7_does a0 x_crowd x_places x_b_size x_b_rows x_b_acts = some res) : Met l yX7_does (wS yX7_does cX7_does 2 (some .int)) rm_X7_does (va_Pc [.ref (q 0), .int a0] (VB g A (XW g q x_crowd x_latestFault x_places x_mask x_w_robots x_w_size x_w_nexts x_a_length x_t_length x_t_token x_t_from x_t_value x_t_behind x_r_wants x_r_pairs x_r_sees x_r_row x_b_size x_s_size x_w_names x_w_goals x_w_links x_w_linked x_w_ups x_w_downs x_w_next x_a_begun x_t_bytes x_b_rows x_b_acts x_s_rows x_s_acts))) (va_Qi (fun r (_ : Unit) => r = res) (fun _ => VB g A (XW g q x_crowd x_latestFault x_places x_mask x_w_robots x_w_size x_w_nexts x_a_length x_t_length x_t_token x_t_from x_t_value x_t_behind x_r_wants x_r_pairs x_r_sees x_r_row x_b_size x_s_size x_w_names x_w_goals x_w_links x_w_linked x_w_ups x_w_downs x_w_next x_a_begun x_t_bytes x_b_rows x_b_acts x_s_rows x_s_acts)) A) 0 0 A := by
  unfold F_X7_does at h
  refine MetI (res := res) (own := RX7) (ws' := (XW g q x_crowd x_latestFault x_places x_mask x_w_robots x_w_size x_w_nexts x_a_length x_t_length x_t_token x_t_from x_t_value x_t_behind x_r_wants x_r_pairs x_r_sees x_r_row x_b_size x_s_size x_w_names x_w_goals x_w_links x_w_linked x_w_ups x_w_downs x_w_next x_a_begun x_t_bytes x_b_rows x_b_acts x_s_rows x_s_acts)) (by decide) rfl (Nat.le_of_ble_eq_true rfl) ?_
  intro p e s m args below meth c Q F E ret ls J hl
  have hx := F.1
  have hb := F.2.1
  have hl : lv_has ls 2 [(0, .ref (q 0)), (1, .int a0)] := hl
  refine lv_aload_n hx hb dX7_does_0 rfl (lv_at hl 0 rfl) ?_
  refine lv_iload_n hx hb dX7_does_1 rfl (lv_at hl 1 rfl) ?_
  obtain ⟨p1, hp1, h⟩ := ob h
  refine onZ (runV (As := [.int a0]) (rest := []) F E J (c_X7_noPlace a0 p1 hp1) cw_X7_76 ⟨rfl, rfl, Nat.le_of_ble_eq_true rfl, Nat.le_of_ble_eq_true rfl⟩ rcX0 rfl hl.1 rfl (Nat.le_of_ble_eq_true rfl) dX7_does_2) J (fun hzbp1 H locs J => ?_)
  refine lv_if_eq (tgt := 11) hx hb dX7_does_5 (by decide) (fun c2 => ?_) (fun c2 => ?_)
  · have h := itp c2 h
    refine lv_aload_n hx hb dX7_does_11 rfl (lv_at hl 0 rfl) ?_
    refine xg_0_0 F E J fl_X7_23 dX7_does_12 ?_
    refine lv_aload_n hx hb dX7_does_15 rfl (lv_at hl 0 rfl) ?_
    refine xg_0_7 F E J fl_X7_69 dX7_does_16 ?_
    refine lv_iload_n hx hb dX7_does_19 rfl (lv_at hl 1 rfl) ?_
    obtain ⟨p3, hp3, h⟩ := ob h
    refine onI (runV (As := [.int x_crowd, .int a0]) (rest := []) F E J (c_X3_manyAt x_crowd a0 p3 hp3) cw_X7_89 ⟨rfl, rfl, Nat.le_of_ble_eq_true rfl, Nat.le_of_ble_eq_true rfl⟩ rcX1 rfl hl.1 rfl (Nat.le_of_ble_eq_true rfl) dX7_does_20) J (fun H locs J => ?_)
    refine lv_if_ne (tgt := 31) hx hb dX7_does_23 (by decide) (fun c4 => ?_) (fun c4 => ?_)
    · have h := itn c4 h
      refine lv_aload_n hx hb dX7_does_31 rfl (lv_at hl 0 rfl) ?_
      refine xg_0_5 F E J fl_X7_62 dX7_does_32 ?_
      refine lv_aload_n hx hb dX7_does_35 rfl (lv_at hl 0 rfl) ?_
      refine xg_0_0 F E J fl_X7_23 dX7_does_36 ?_
      refine lv_aload_n hx hb dX7_does_39 rfl (lv_at hl 0 rfl) ?_
      refine xg_0_7 F E J fl_X7_69 dX7_does_40 ?_
      refine lv_iload_n hx hb dX7_does_43 rfl (lv_at hl 1 rfl) ?_
      obtain ⟨p5, hp5, h⟩ := ob h
      refine onI (runV (As := [.ref (q 1), .int x_crowd, .int a0]) (rest := []) F E J (c_X1_moveAt_b x_crowd a0 p5 hp5) cw_X7_103 ⟨rfl, rfl, Nat.le_of_ble_eq_true rfl, Nat.le_of_ble_eq_true rfl⟩ rcX6 rfl hl.1 rfl (Nat.le_of_ble_eq_true rfl) dX7_does_44) J (fun H locs J => ?_)
      obtain rfl := Option.some.inj h
      exact ret _ _ _ _ J dX7_does_47
    · have h := itp c4 h
      refine lv_ldc hx hb F.2.2.2.1 (F.2.2.2.2 _ kc_X7_92) dX7_does_26 ?_
      refine lv_goto (tgt := 47) hx hb dX7_does_28 (by decide) ?_
      obtain rfl := Option.some.inj h
      exact ret _ _ _ _ J dX7_does_47
  · have h := itn c2 h
    refine lv_ldc hx hb F.2.2.2.1 (F.2.2.2.2 _ kc_X7_80) dX7_does_8 ?_
    obtain rfl := Option.some.inj h
    exact ret _ _ _ _ J dX7_does_10
set_option maxHeartbeats 4000000 in
set_option maxRecDepth 100000 in
theorem c_X3_mirrored {l : Launch} {g : GG} {A : Nat → Prop} {q : Nat → Nat} {x_crowd x_latestFault x_places x_mask x_w_robots x_w_size x_w_nexts x_a_length x_t_length x_t_token x_t_from x_t_value x_t_behind x_r_wants x_r_pairs x_r_sees : Int32} {x_r_row : Int64} {x_b_size x_s_size : Int32} {x_w_names : Nat → Int32} {x_w_goals x_w_links : Nat → Int64} {x_w_linked x_w_ups x_w_downs x_w_next x_a_begun x_t_bytes : Nat → Int32} {x_b_rows : Nat → Int64} {x_b_acts : Nat → Int32} {x_s_rows : Nat → Int64} {x_s_acts : Nat → Int32} (a0 : Int32) (res : Int32) (h : F_X3_mirrored a0 x_places = some res) : Met l yX3_mirrored (wS yX3_mirrored cX3_mirrored 4 (some .int)) rm_X3_mirrored (va_Pc [.ref (q 1), .int a0] (VB g A (XW g q x_crowd x_latestFault x_places x_mask x_w_robots x_w_size x_w_nexts x_a_length x_t_length x_t_token x_t_from x_t_value x_t_behind x_r_wants x_r_pairs x_r_sees x_r_row x_b_size x_s_size x_w_names x_w_goals x_w_links x_w_linked x_w_ups x_w_downs x_w_next x_a_begun x_t_bytes x_b_rows x_b_acts x_s_rows x_s_acts))) (va_Qi (fun r (_ : Unit) => r = res) (fun _ => VB g A (XW g q x_crowd x_latestFault x_places x_mask x_w_robots x_w_size x_w_nexts x_a_length x_t_length x_t_token x_t_from x_t_value x_t_behind x_r_wants x_r_pairs x_r_sees x_r_row x_b_size x_s_size x_w_names x_w_goals x_w_links x_w_linked x_w_ups x_w_downs x_w_next x_a_begun x_t_bytes x_b_rows x_b_acts x_s_rows x_s_acts)) A) 0 0 A := by
  unfold F_X3_mirrored at h
  refine MetI (res := res) (own := RX3) (ws' := (XW g q x_crowd x_latestFault x_places x_mask x_w_robots x_w_size x_w_nexts x_a_length x_t_length x_t_token x_t_from x_t_value x_t_behind x_r_wants x_r_pairs x_r_sees x_r_row x_b_size x_s_size x_w_names x_w_goals x_w_links x_w_linked x_w_ups x_w_downs x_w_next x_a_begun x_t_bytes x_b_rows x_b_acts x_s_rows x_s_acts)) (by decide) rfl (Nat.le_of_ble_eq_true rfl) ?_
  intro p e s m args below meth c Q F E ret ls J hl
  have hx := F.1
  have hb := F.2.1
  have hl : lv_has ls 4 [(0, .ref (q 1)), (1, .int a0)] := hl
  refine lv_iconst (v := 0) hx hb dX3_mirrored_0 (by decide) ?_
  refine lv_istore_n (lv' := [(2, .int 0), (0, .ref (q 1)), (1, .int a0)]) hx hb dX3_mirrored_1 rfl hl (by decide) rfl (fun ls hl => ?_)
  refine lv_aload_n hx hb dX3_mirrored_2 rfl (lv_at hl 1 rfl) ?_
  refine xg_1_0 F E J fl_X3_9 dX3_mirrored_3 ?_
  refine lv_iconst (v := 1) hx hb dX3_mirrored_6 (by decide) ?_
  refine lv_isub hx hb dX3_mirrored_7 ?_
  obtain ⟨v1, hv1, h⟩ := obs h
  refine nmI hv1 ?_
  refine lv_istore_n (lv' := [(3, .int v1), (2, .int 0), (0, .ref (q 1)), (1, .int a0)]) hx hb dX3_mirrored_8 rfl hl (by decide) rfl (fun ls hl => ?_)
  obtain ⟨o_L2, ho_L2, h⟩ := ob h
  have T_L2 : ∀ (f : Nat) (l2_L2 : Int32) (l3_L2 : Int32) (o_L2 : Int32), F_X3_mirrored_L2 a0 x_places f l2_L2 l3_L2 = some o_L2 → ∀ (H : Heap) (locs : List Loc) (ls : Array Slot), VJ g A s.heap (XW g q x_crowd x_latestFault x_places x_mask x_w_robots x_w_size x_w_nexts x_a_length x_t_length x_t_token x_t_from x_t_value x_t_behind x_r_wants x_r_pairs x_r_sees x_r_row x_b_size x_s_size x_w_names x_w_goals x_w_links x_w_linked x_w_ups x_w_downs x_w_next x_a_begun x_t_bytes x_b_rows x_b_acts x_s_rows x_s_acts) H locs → lv_has ls 4 [(0, .ref (q 1)), (1, .int a0), (2, .int l2_L2), (3, .int l3_L2)] → (∀ (H : Heap) (locs : List Loc) (ls : Array Slot), VJ g A s.heap (XW g q x_crowd x_latestFault x_places x_mask x_w_robots x_w_size x_w_nexts x_a_length x_t_length x_t_token x_t_from x_t_value x_t_behind x_r_wants x_r_pairs x_r_sees x_r_row x_b_size x_s_size x_w_names x_w_goals x_w_links x_w_linked x_w_ups x_w_downs x_w_next x_a_begun x_t_bytes x_b_rows x_b_acts x_s_rows x_s_acts) H locs → lv_has ls 4 [(2, .int o_L2)] → W p l e rm_X3_mirrored s m args below meth c H locs 0 0 Q (F0 m 30 ls [])) → W p l e rm_X3_mirrored s m args below meth c H locs 0 0 Q (F0 m 9 ls []) := by
    clear h ho_L2 hl J
    intro f
    induction f with
    | zero => intro l2_L2 l3_L2 o_L2 h; exact absurd h (by simp [F_X3_mirrored_L2])
    | succ f ih =>
      intro l2_L2 l3_L2 o_L2 h H locs ls J hl K_L2
      rw [F_X3_mirrored_L2.eq_2] at h
      refine lv_iload_n hx hb dX3_mirrored_9 rfl (lv_at hl 3 rfl) ?_
      refine lv_if_lt (tgt := 30) hx hb dX3_mirrored_10 (by decide) (fun c3 => ?_) (fun c3 => ?_)
      · have h := itp c3 h
        obtain rfl := Option.some.inj h
        exact K_L2 _ _ _ J (lv_sub hl [2] rfl)
      · have h := itn c3 h
        refine lv_iload_n hx hb dX3_mirrored_13 rfl (lv_at hl 2 rfl) ?_
        refine lv_iconst (v := 3) hx hb dX3_mirrored_14 (by decide) ?_
        refine lv_ishl hx hb dX3_mirrored_15 ?_
        refine lv_aload_n hx hb dX3_mirrored_16 rfl (lv_at hl 0 rfl) ?_
        refine lv_iload_n hx hb dX3_mirrored_17 rfl (lv_at hl 1 rfl) ?_
        refine lv_iload_n hx hb dX3_mirrored_18 rfl (lv_at hl 3 rfl) ?_
        obtain ⟨p4, hp4, h⟩ := ob h
        refine onI (runV (As := [.int a0, .int l3_L2]) (rest := [.int (jshl l2_L2 3)]) F E J (c_X3_manyAt a0 l3_L2 p4 hp4) cw_X3_26 ⟨rfl, rfl, Nat.le_of_ble_eq_true rfl, Nat.le_of_ble_eq_true rfl⟩ rcX1 rfl hl.1 rfl (Nat.le_of_ble_eq_true rfl) dX3_mirrored_19) J (fun H locs J => ?_)
        refine lv_ior hx hb dX3_mirrored_22 ?_
        obtain ⟨v5, hv5, h⟩ := obs h
        refine nmI hv5 ?_
        refine lv_istore_n (lv' := [(2, .int v5), (0, .ref (q 1)), (1, .int a0), (3, .int l3_L2)]) hx hb dX3_mirrored_23 rfl hl (by decide) rfl (fun ls hl => ?_)
        obtain ⟨v6, hv6, h⟩ := obs h
        refine lv_iinc (v := v6) (lv' := [(3, .int v6), (2, .int v5), (0, .ref (q 1)), (1, .int a0)]) hx hb dX3_mirrored_24 hl (k := 3) rfl (by rw [← hv6]; rfl) (by decide) rfl (fun ls hl => ?_)
        refine lv_goto (tgt := 9) hx hb dX3_mirrored_27 (by decide) ?_
        exact ih _ _ _ h _ _ _ J (lv_sub hl [2, 3, 1, 0] rfl) K_L2
  refine T_L2 FU 0 v1 o_L2 ho_L2 _ _ _ J (lv_sub hl [2, 3, 1, 0] rfl) (fun H locs ls J hl => ?_)
  refine lv_iload_n hx hb dX3_mirrored_30 rfl (lv_at hl 0 rfl) ?_
  obtain rfl := Option.some.inj h
  exact ret _ _ _ _ J dX3_mirrored_31
set_option maxHeartbeats 4000000 in
set_option maxRecDepth 100000 in
theorem c_J9_max_7cf53 {l : Launch} {g : GG} {A : Nat → Prop} {ws : va_W} (a0 : Int32) (a1 : Int32) (res : Int32) (h : F_J9_max_7cf53 a0 a1 = some res) : Met l yJ9_max_7cf53 (wS yJ9_max_7cf53 cJ9_max_7cf53 2 (some .int)) rm_J9_max_7cf53 (va_Pc [.int a0, .int a1] (VB g A ws)) (va_Qi (fun r (_ : Unit) => r = res) (fun _ => VB g A ws) A) 0 0 A := by
  unfold F_J9_max_7cf53 at h
  refine MetIF (res := res) (own := RJ9) (ws' := ws) (by decide +kernel) rfl (Nat.le_of_ble_eq_true rfl) ?_
  intro p e s m args below meth c Q F E ret ls J hl
  have hx := F.1
  have hb := F.2.1
  have hl : lv_has ls 2 [(0, .int a0), (1, .int a1)] := hl
  refine lv_iload_n hx hb dJ9_max_7cf53_0 rfl (lv_at hl 0 rfl) ?_
  refine lv_iload_n hx hb dJ9_max_7cf53_1 rfl (lv_at hl 1 rfl) ?_
  refine lv_icmp_lt (tgt := 9) hx hb dJ9_max_7cf53_2 (by decide) (fun c1 => ?_) (fun c1 => ?_)
  · have h := itp c1 h
    refine lv_iload_n hx hb dJ9_max_7cf53_9 rfl (lv_at hl 1 rfl) ?_
    obtain rfl := Option.some.inj h
    exact ret _ _ _ _ J dJ9_max_7cf53_10
  · have h := itn c1 h
    refine lv_iload_n hx hb dJ9_max_7cf53_5 rfl (lv_at hl 0 rfl) ?_
    refine lv_goto (tgt := 10) hx hb dJ9_max_7cf53_6 (by decide) ?_
    obtain rfl := Option.some.inj h
    exact ret _ _ _ _ J dJ9_max_7cf53_10
set_option maxHeartbeats 4000000 in
set_option maxRecDepth 100000 in
theorem c_X3_turned {l : Launch} {g : GG} {A : Nat → Prop} {q : Nat → Nat} {x_crowd x_latestFault x_places x_mask x_w_robots x_w_size x_w_nexts x_a_length x_t_length x_t_token x_t_from x_t_value x_t_behind x_r_wants x_r_pairs x_r_sees : Int32} {x_r_row : Int64} {x_b_size x_s_size : Int32} {x_w_names : Nat → Int32} {x_w_goals x_w_links : Nat → Int64} {x_w_linked x_w_ups x_w_downs x_w_next x_a_begun x_t_bytes : Nat → Int32} {x_b_rows : Nat → Int64} {x_b_acts : Nat → Int32} {x_s_rows : Nat → Int64} {x_s_acts : Nat → Int32} (a0 : Int32) (res : Int32) (h : F_X3_turned a0 x_places x_mask = some res) : Met l yX3_turned (wS yX3_turned cX3_turned 2 (some .int)) rm_X3_turned (va_Pc [.ref (q 1), .int a0] (VB g A (XW g q x_crowd x_latestFault x_places x_mask x_w_robots x_w_size x_w_nexts x_a_length x_t_length x_t_token x_t_from x_t_value x_t_behind x_r_wants x_r_pairs x_r_sees x_r_row x_b_size x_s_size x_w_names x_w_goals x_w_links x_w_linked x_w_ups x_w_downs x_w_next x_a_begun x_t_bytes x_b_rows x_b_acts x_s_rows x_s_acts))) (va_Qi (fun r (_ : Unit) => r = res) (fun _ => VB g A (XW g q x_crowd x_latestFault x_places x_mask x_w_robots x_w_size x_w_nexts x_a_length x_t_length x_t_token x_t_from x_t_value x_t_behind x_r_wants x_r_pairs x_r_sees x_r_row x_b_size x_s_size x_w_names x_w_goals x_w_links x_w_linked x_w_ups x_w_downs x_w_next x_a_begun x_t_bytes x_b_rows x_b_acts x_s_rows x_s_acts)) A) 0 0 A := by
  unfold F_X3_turned at h
  refine MetI (res := res) (own := RX3) (ws' := (XW g q x_crowd x_latestFault x_places x_mask x_w_robots x_w_size x_w_nexts x_a_length x_t_length x_t_token x_t_from x_t_value x_t_behind x_r_wants x_r_pairs x_r_sees x_r_row x_b_size x_s_size x_w_names x_w_goals x_w_links x_w_linked x_w_ups x_w_downs x_w_next x_a_begun x_t_bytes x_b_rows x_b_acts x_s_rows x_s_acts)) (by decide) rfl (Nat.le_of_ble_eq_true rfl) ?_
  intro p e s m args below meth c Q F E ret ls J hl
  have hx := F.1
  have hb := F.2.1
  have hl : lv_has ls 2 [(0, .ref (q 1)), (1, .int a0)] := hl
  refine lv_iload_n hx hb dX3_turned_0 rfl (lv_at hl 1 rfl) ?_
  refine lv_iconst (v := 3) hx hb dX3_turned_1 (by decide) ?_
  refine lv_ishl hx hb dX3_turned_2 ?_
  refine lv_aload_n hx hb dX3_turned_3 rfl (lv_at hl 0 rfl) ?_
  refine xg_1_1 F E J fl_X3_15 dX3_turned_4 ?_
  refine lv_iand hx hb dX3_turned_7 ?_
  refine lv_iload_n hx hb dX3_turned_8 rfl (lv_at hl 1 rfl) ?_
  refine lv_iconst (v := 3) hx hb dX3_turned_9 (by decide) ?_
  refine lv_aload_n hx hb dX3_turned_10 rfl (lv_at hl 0 rfl) ?_
  refine xg_1_0 F E J fl_X3_9 dX3_turned_11 ?_
  refine lv_iconst (v := 1) hx hb dX3_turned_14 (by decide) ?_
  refine lv_isub hx hb dX3_turned_15 ?_
  refine lv_imul hx hb dX3_turned_16 ?_
  refine lv_iushr (v := (jushr a0 (3 * (x_places - 1)))) hx hb dX3_turned_17 rfl ?_
  refine lv_ior hx hb dX3_turned_18 ?_
  obtain rfl := Option.some.inj h
  exact ret _ _ _ _ J dX3_turned_19
set_option maxHeartbeats 4000000 in
set_option maxRecDepth 100000 in
theorem c_X3_nameOf {l : Launch} {g : GG} {A : Nat → Prop} {q : Nat → Nat} {x_crowd x_latestFault x_places x_mask x_w_robots x_w_size x_w_nexts x_a_length x_t_length x_t_token x_t_from x_t_value x_t_behind x_r_wants x_r_pairs x_r_sees : Int32} {x_r_row : Int64} {x_b_size x_s_size : Int32} {x_w_names : Nat → Int32} {x_w_goals x_w_links : Nat → Int64} {x_w_linked x_w_ups x_w_downs x_w_next x_a_begun x_t_bytes : Nat → Int32} {x_b_rows : Nat → Int64} {x_b_acts : Nat → Int32} {x_s_rows : Nat → Int64} {x_s_acts : Nat → Int32} (a0 : Int32) (res : Int32) (h : F_X3_nameOf a0 x_places x_mask = some res) : Met l yX3_nameOf (wS yX3_nameOf cX3_nameOf 6 (some .int)) rm_X3_nameOf (va_Pc [.ref (q 1), .int a0] (VB g A (XW g q x_crowd x_latestFault x_places x_mask x_w_robots x_w_size x_w_nexts x_a_length x_t_length x_t_token x_t_from x_t_value x_t_behind x_r_wants x_r_pairs x_r_sees x_r_row x_b_size x_s_size x_w_names x_w_goals x_w_links x_w_linked x_w_ups x_w_downs x_w_next x_a_begun x_t_bytes x_b_rows x_b_acts x_s_rows x_s_acts))) (va_Qi (fun r (_ : Unit) => r = res) (fun _ => VB g A (XW g q x_crowd x_latestFault x_places x_mask x_w_robots x_w_size x_w_nexts x_a_length x_t_length x_t_token x_t_from x_t_value x_t_behind x_r_wants x_r_pairs x_r_sees x_r_row x_b_size x_s_size x_w_names x_w_goals x_w_links x_w_linked x_w_ups x_w_downs x_w_next x_a_begun x_t_bytes x_b_rows x_b_acts x_s_rows x_s_acts)) A) 0 0 A := by
  unfold F_X3_nameOf at h
  refine MetI (res := res) (own := RX3) (ws' := (XW g q x_crowd x_latestFault x_places x_mask x_w_robots x_w_size x_w_nexts x_a_length x_t_length x_t_token x_t_from x_t_value x_t_behind x_r_wants x_r_pairs x_r_sees x_r_row x_b_size x_s_size x_w_names x_w_goals x_w_links x_w_linked x_w_ups x_w_downs x_w_next x_a_begun x_t_bytes x_b_rows x_b_acts x_s_rows x_s_acts)) (by decide) rfl (Nat.le_of_ble_eq_true rfl) ?_
  intro p e s m args below meth c Q F E ret ls J hl
  have hx := F.1
  have hb := F.2.1
  have hl : lv_has ls 6 [(0, .ref (q 1)), (1, .int a0)] := hl
  refine lv_iload_n hx hb dX3_nameOf_0 rfl (lv_at hl 1 rfl) ?_
  refine lv_istore_n (lv' := [(2, .int a0), (0, .ref (q 1)), (1, .int a0)]) hx hb dX3_nameOf_1 rfl hl (by decide) rfl (fun ls hl => ?_)
  refine lv_iload_n hx hb dX3_nameOf_2 rfl (lv_at hl 2 rfl) ?_
  refine lv_istore_n (lv' := [(3, .int a0), (2, .int a0), (0, .ref (q 1)), (1, .int a0)]) hx hb dX3_nameOf_3 rfl hl (by decide) rfl (fun ls hl => ?_)
  refine lv_aload_n hx hb dX3_nameOf_4 rfl (lv_at hl 2 rfl) ?_
  refine lv_iload_n hx hb dX3_nameOf_5 rfl (lv_at hl 3 rfl) ?_
  obtain ⟨p1, hp1, h⟩ := ob h
  refine onI (runV (As := [.int a0]) (rest := []) F E J (c_X3_mirrored a0 p1 hp1) cw_X3_29 ⟨rfl, rfl, Nat.le_of_ble_eq_true rfl, Nat.le_of_ble_eq_true rfl⟩ rcX1 rfl hl.1 rfl (Nat.le_of_ble_eq_true rfl) dX3_nameOf_6) J (fun H locs J => ?_)
  refine lv_istore (lv' := [(4, .int p1), (3, .int a0), (2, .int a0), (0, .ref (q 1)), (1, .int a0)]) hx hb dX3_nameOf_9 hl (by decide) rfl (fun ls hl => ?_)
  refine lv_iconst (v := 0) hx hb dX3_nameOf_11 (by decide) ?_
  refine lv_istore (lv' := [(5, .int 0), (4, .int p1), (3, .int a0), (2, .int a0), (0, .ref (q 1)), (1, .int a0)]) hx hb dX3_nameOf_12 hl (by decide) rfl (fun ls hl => ?_)
  obtain ⟨o_L2, ho_L2, h⟩ := ob h
  have T_L2 : ∀ (f : Nat) (l2_L2 : Int32) (l3_L2 : Int32) (l4_L2 : Int32) (l5_L2 : Int32) (o_L2 : Int32), F_X3_nameOf_L2 x_places x_mask f l2_L2 l3_L2 l4_L2 l5_L2 = some o_L2 → ∀ (H : Heap) (locs : List Loc) (ls : Array Slot), VJ g A s.heap (XW g q x_crowd x_latestFault x_places x_mask x_w_robots x_w_size x_w_nexts x_a_length x_t_length x_t_token x_t_from x_t_value x_t_behind x_r_wants x_r_pairs x_r_sees x_r_row x_b_size x_s_size x_w_names x_w_goals x_w_links x_w_linked x_w_ups x_w_downs x_w_next x_a_begun x_t_bytes x_b_rows x_b_acts x_s_rows x_s_acts) H locs → lv_has ls 6 [(0, .ref (q 1)), (2, .int l2_L2), (3, .int l3_L2), (4, .int l4_L2), (5, .int l5_L2)] → (∀ (H : Heap) (locs : List Loc) (ls : Array Slot), VJ g A s.heap (XW g q x_crowd x_latestFault x_places x_mask x_w_robots x_w_size x_w_nexts x_a_length x_t_length x_t_token x_t_from x_t_value x_t_behind x_r_wants x_r_pairs x_r_sees x_r_row x_b_size x_s_size x_w_names x_w_goals x_w_links x_w_linked x_w_ups x_w_downs x_w_next x_a_begun x_t_bytes x_b_rows x_b_acts x_s_rows x_s_acts) H locs → lv_has ls 6 [(2, .int o_L2)] → W p l e rm_X3_nameOf s m args below meth c H locs 0 0 Q (F0 m 54 ls [])) → W p l e rm_X3_nameOf s m args below meth c H locs 0 0 Q (F0 m 14 ls []) := by
    clear h ho_L2 hl J
    intro f
    induction f with
    | zero => intro l2_L2 l3_L2 l4_L2 l5_L2 o_L2 h; exact absurd h (by simp [F_X3_nameOf_L2])
    | succ f ih =>
      intro l2_L2 l3_L2 l4_L2 l5_L2 o_L2 h H locs ls J hl K_L2
      rw [F_X3_nameOf_L2.eq_2] at h
      refine lv_iload hx hb dX3_nameOf_14 (lv_at hl 4 rfl) ?_
      refine lv_aload_n hx hb dX3_nameOf_16 rfl (lv_at hl 0 rfl) ?_
      refine xg_1_0 F E J fl_X3_9 dX3_nameOf_17 ?_
      refine lv_icmp_ge (tgt := 54) hx hb dX3_nameOf_20 (by decide) (fun c3 => ?_) (fun c3 => ?_)
      · have h := itp c3 h
        obtain rfl := Option.some.inj h
        exact K_L2 _ _ _ J (lv_sub hl [1] rfl)
      · have h := itn c3 h
        refine lv_iload_n hx hb dX3_nameOf_23 rfl (lv_at hl 1 rfl) ?_
        refine lv_iload_n hx hb dX3_nameOf_24 rfl (lv_at hl 2 rfl) ?_
        refine lv_iload hx hb dX3_nameOf_25 (lv_at hl 3 rfl) ?_
        obtain ⟨p4, hp4, h⟩ := ob h
        refine onI (runS (As := [.int l3_L2, .int l4_L2]) (rest := [.int l2_L2]) F E J (c_J9_max_7cf53 l3_L2 l4_L2 p4 hp4) cw_X3_32 ⟨rfl, rfl, Nat.le_of_ble_eq_true rfl, Nat.le_of_ble_eq_true rfl⟩ rfl hl.1 rfl (Nat.le_of_ble_eq_true rfl) dX3_nameOf_27) J (fun H locs J => ?_)
        obtain ⟨p5, hp5, h⟩ := ob h
        refine onI (runS (As := [.int l2_L2, .int p4]) (rest := []) F E J (c_J9_max_7cf53 l2_L2 p4 p5 hp5) cw_X3_32 ⟨rfl, rfl, Nat.le_of_ble_eq_true rfl, Nat.le_of_ble_eq_true rfl⟩ rfl hl.1 rfl (Nat.le_of_ble_eq_true rfl) dX3_nameOf_30) J (fun H locs J => ?_)
        refine lv_istore_n (lv' := [(2, .int p5), (0, .ref (q 1)), (3, .int l3_L2), (4, .int l4_L2), (5, .int l5_L2)]) hx hb dX3_nameOf_33 rfl hl (by decide) rfl (fun ls hl => ?_)
        refine lv_aload_n hx hb dX3_nameOf_34 rfl (lv_at hl 1 rfl) ?_
        refine lv_iload_n hx hb dX3_nameOf_35 rfl (lv_at hl 2 rfl) ?_
        obtain ⟨p6, hp6, h⟩ := ob h
        refine onI (runV (As := [.int l3_L2]) (rest := []) F E J (c_X3_turned l3_L2 p6 hp6) cw_X3_37 ⟨rfl, rfl, Nat.le_of_ble_eq_true rfl, Nat.le_of_ble_eq_true rfl⟩ rcX1 rfl hl.1 rfl (Nat.le_of_ble_eq_true rfl) dX3_nameOf_36) J (fun H locs J => ?_)
        refine lv_istore_n (lv' := [(3, .int p6), (2, .int p5), (0, .ref (q 1)), (4, .int l4_L2), (5, .int l5_L2)]) hx hb dX3_nameOf_39 rfl hl (by decide) rfl (fun ls hl => ?_)
        refine lv_aload_n hx hb dX3_nameOf_40 rfl (lv_at hl 2 rfl) ?_
        refine lv_iload hx hb dX3_nameOf_41 (lv_at hl 3 rfl) ?_
        obtain ⟨p7, hp7, h⟩ := ob h
        refine onI (runV (As := [.int l4_L2]) (rest := []) F E J (c_X3_turned l4_L2 p7 hp7) cw_X3_37 ⟨rfl, rfl, Nat.le_of_ble_eq_true rfl, Nat.le_of_ble_eq_true rfl⟩ rcX1 rfl hl.1 rfl (Nat.le_of_ble_eq_true rfl) dX3_nameOf_43) J (fun H locs J => ?_)
        refine lv_istore (lv' := [(4, .int p7), (3, .int p6), (2, .int p5), (0, .ref (q 1)), (5, .int l5_L2)]) hx hb dX3_nameOf_46 hl (by decide) rfl (fun ls hl => ?_)
        obtain ⟨v8, hv8, h⟩ := obs h
        refine lv_iinc (v := v8) (lv' := [(5, .int v8), (4, .int p7), (3, .int p6), (2, .int p5), (0, .ref (q 1))]) hx hb dX3_nameOf_48 hl (k := 4) rfl (by rw [← hv8]; rfl) (by decide) rfl (fun ls hl => ?_)
        refine lv_goto (tgt := 14) hx hb dX3_nameOf_51 (by decide) ?_
        exact ih _ _ _ _ _ h _ _ _ J (lv_sub hl [4, 3, 2, 1, 0] rfl) K_L2
  refine T_L2 FU a0 a0 p1 0 o_L2 ho_L2 _ _ _ J (lv_sub hl [4, 3, 2, 1, 0] rfl) (fun H locs ls J hl => ?_)
  refine lv_iload_n hx hb dX3_nameOf_54 rfl (lv_at hl 0 rfl) ?_
  obtain rfl := Option.some.inj h
  exact ret _ _ _ _ J dX3_nameOf_55
set_option maxHeartbeats 4000000 in
set_option maxRecDepth 100000 in
theorem c_X7_name {l : Launch} {g : GG} {A : Nat → Prop} {q : Nat → Nat} {x_crowd x_latestFault x_places x_mask x_w_robots x_w_size x_w_nexts x_a_length x_t_length x_t_token x_t_from x_t_value x_t_behind x_r_wants x_r_pairs x_r_sees : Int32} {x_r_row : Int64} {x_b_size x_s_size : Int32} {x_w_names : Nat → Int32} {x_w_goals x_w_links : Nat → Int64} {x_w_linked x_w_ups x_w_downs x_w_next x_a_begun x_t_bytes : Nat → Int32} {x_b_rows : Nat → Int64} {x_b_acts : Nat → Int32} {x_s_rows : Nat → Int64} {x_s_acts : Nat → Int32} (a0 : Int32) (res : Int32) (h : F_X7_name a0 x_crowd x_places x_mask = some res) : Met l yX7_name (wS yX7_name cX7_name 2 (some .int)) rm_X7_name (va_Pc [.ref (q 0), .int a0] (VB g A (XW g q x_crowd x_latestFault x_places x_mask x_w_robots x_w_size x_w_nexts x_a_length x_t_length x_t_token x_t_from x_t_value x_t_behind x_r_wants x_r_pairs x_r_sees x_r_row x_b_size x_s_size x_w_names x_w_goals x_w_links x_w_linked x_w_ups x_w_downs x_w_next x_a_begun x_t_bytes x_b_rows x_b_acts x_s_rows x_s_acts))) (va_Qi (fun r (_ : Unit) => r = res) (fun _ => VB g A (XW g q x_crowd x_latestFault x_places x_mask x_w_robots x_w_size x_w_nexts x_a_length x_t_length x_t_token x_t_from x_t_value x_t_behind x_r_wants x_r_pairs x_r_sees x_r_row x_b_size x_s_size x_w_names x_w_goals x_w_links x_w_linked x_w_ups x_w_downs x_w_next x_a_begun x_t_bytes x_b_rows x_b_acts x_s_rows x_s_acts)) A) 0 0 A := by
  unfold F_X7_name at h
  refine MetI (res := res) (own := RX7) (ws' := (XW g q x_crowd x_latestFault x_places x_mask x_w_robots x_w_size x_w_nexts x_a_length x_t_length x_t_token x_t_from x_t_value x_t_behind x_r_wants x_r_pairs x_r_sees x_r_row x_b_size x_s_size x_w_names x_w_goals x_w_links x_w_linked x_w_ups x_w_downs x_w_next x_a_begun x_t_bytes x_b_rows x_b_acts x_s_rows x_s_acts)) (by decide) rfl (Nat.le_of_ble_eq_true rfl) ?_
  intro p e s m args below meth c Q F E ret ls J hl
  have hx := F.1
  have hb := F.2.1
  have hl : lv_has ls 2 [(0, .ref (q 0)), (1, .int a0)] := hl
  refine lv_aload_n hx hb dX7_name_0 rfl (lv_at hl 0 rfl) ?_
  refine lv_iload_n hx hb dX7_name_1 rfl (lv_at hl 1 rfl) ?_
  obtain ⟨p1, hp1, h⟩ := ob h
  refine onZ (runV (As := [.int a0]) (rest := []) F E J (c_X7_noPlace a0 p1 hp1) cw_X7_76 ⟨rfl, rfl, Nat.le_of_ble_eq_true rfl, Nat.le_of_ble_eq_true rfl⟩ rcX0 rfl hl.1 rfl (Nat.le_of_ble_eq_true rfl) dX7_name_2) J (fun hzbp1 H locs J => ?_)
  refine lv_if_eq (tgt := 13) hx hb dX7_name_5 (by decide) (fun c2 => ?_) (fun c2 => ?_)
  · have h := itp c2 h
    refine lv_aload_n hx hb dX7_name_13 rfl (lv_at hl 0 rfl) ?_
    refine xg_0_0 F E J fl_X7_23 dX7_name_14 ?_
    refine lv_aload_n hx hb dX7_name_17 rfl (lv_at hl 0 rfl) ?_
    refine xg_0_0 F E J fl_X7_23 dX7_name_18 ?_
    refine lv_aload_n hx hb dX7_name_21 rfl (lv_at hl 0 rfl) ?_
    refine xg_0_7 F E J fl_X7_69 dX7_name_22 ?_
    obtain ⟨p3, hp3, h⟩ := ob h
    refine onI (runV (As := [.int x_crowd]) (rest := [.ref (q 1)]) F E J (c_X3_nameOf x_crowd p3 hp3) cw_X7_107 ⟨rfl, rfl, Nat.le_of_ble_eq_true rfl, Nat.le_of_ble_eq_true rfl⟩ rcX1 rfl hl.1 rfl (Nat.le_of_ble_eq_true rfl) dX7_name_25) J (fun H locs J => ?_)
    refine lv_iload_n hx hb dX7_name_28 rfl (lv_at hl 1 rfl) ?_
    obtain ⟨p4, hp4, h⟩ := ob h
    refine onI (runV (As := [.int p3, .int a0]) (rest := []) F E J (c_X3_manyAt p3 a0 p4 hp4) cw_X7_89 ⟨rfl, rfl, Nat.le_of_ble_eq_true rfl, Nat.le_of_ble_eq_true rfl⟩ rcX1 rfl hl.1 rfl (Nat.le_of_ble_eq_true rfl) dX7_name_29) J (fun H locs J => ?_)
    obtain rfl := Option.some.inj h
    exact ret _ _ _ _ J dX7_name_32
  · have h := itn c2 h
    refine lv_ldc hx hb F.2.2.2.1 (F.2.2.2.2 _ kc_X7_80) dX7_name_8 ?_
    refine lv_goto (tgt := 32) hx hb dX7_name_10 (by decide) ?_
    obtain rfl := Option.some.inj h
    exact ret _ _ _ _ J dX7_name_32
set_option maxHeartbeats 4000000 in
set_option maxRecDepth 100000 in
theorem c_X3_takenIn {l : Launch} {g : GG} {A : Nat → Prop} {q : Nat → Nat} {x_crowd x_latestFault x_places x_mask x_w_robots x_w_size x_w_nexts x_a_length x_t_length x_t_token x_t_from x_t_value x_t_behind x_r_wants x_r_pairs x_r_sees : Int32} {x_r_row : Int64} {x_b_size x_s_size : Int32} {x_w_names : Nat → Int32} {x_w_goals x_w_links : Nat → Int64} {x_w_linked x_w_ups x_w_downs x_w_next x_a_begun x_t_bytes : Nat → Int32} {x_b_rows : Nat → Int64} {x_b_acts : Nat → Int32} {x_s_rows : Nat → Int64} {x_s_acts : Nat → Int32} (a0 : Int32) (res : Int32) (h : F_X3_takenIn a0 x_places = some res) : Met l yX3_takenIn (wS yX3_takenIn cX3_takenIn 4 (some .int)) rm_X3_takenIn (va_Pc [.ref (q 1), .int a0] (VB g A (XW g q x_crowd x_latestFault x_places x_mask x_w_robots x_w_size x_w_nexts x_a_length x_t_length x_t_token x_t_from x_t_value x_t_behind x_r_wants x_r_pairs x_r_sees x_r_row x_b_size x_s_size x_w_names x_w_goals x_w_links x_w_linked x_w_ups x_w_downs x_w_next x_a_begun x_t_bytes x_b_rows x_b_acts x_s_rows x_s_acts))) (va_Qi (fun r (_ : Unit) => r = res) (fun _ => VB g A (XW g q x_crowd x_latestFault x_places x_mask x_w_robots x_w_size x_w_nexts x_a_length x_t_length x_t_token x_t_from x_t_value x_t_behind x_r_wants x_r_pairs x_r_sees x_r_row x_b_size x_s_size x_w_names x_w_goals x_w_links x_w_linked x_w_ups x_w_downs x_w_next x_a_begun x_t_bytes x_b_rows x_b_acts x_s_rows x_s_acts)) A) 0 0 A := by
  unfold F_X3_takenIn at h
  refine MetI (res := res) (own := RX3) (ws' := (XW g q x_crowd x_latestFault x_places x_mask x_w_robots x_w_size x_w_nexts x_a_length x_t_length x_t_token x_t_from x_t_value x_t_behind x_r_wants x_r_pairs x_r_sees x_r_row x_b_size x_s_size x_w_names x_w_goals x_w_links x_w_linked x_w_ups x_w_downs x_w_next x_a_begun x_t_bytes x_b_rows x_b_acts x_s_rows x_s_acts)) (by decide) rfl (Nat.le_of_ble_eq_true rfl) ?_
  intro p e s m args below meth c Q F E ret ls J hl
  have hx := F.1
  have hb := F.2.1
  have hl : lv_has ls 4 [(0, .ref (q 1)), (1, .int a0)] := hl
  refine lv_iconst (v := 0) hx hb dX3_takenIn_0 (by decide) ?_
  refine lv_istore_n (lv' := [(2, .int 0), (0, .ref (q 1)), (1, .int a0)]) hx hb dX3_takenIn_1 rfl hl (by decide) rfl (fun ls hl => ?_)
  refine lv_iconst (v := 0) hx hb dX3_takenIn_2 (by decide) ?_
  refine lv_istore_n (lv' := [(3, .int 0), (2, .int 0), (0, .ref (q 1)), (1, .int a0)]) hx hb dX3_takenIn_3 rfl hl (by decide) rfl (fun ls hl => ?_)
  obtain ⟨o_L1, ho_L1, h⟩ := ob h
  have T_L1 : ∀ (f : Nat) (l2_L1 : Int32) (l3_L1 : Int32) (o_L1 : Int32), F_X3_takenIn_L1 a0 x_places f l2_L1 l3_L1 = some o_L1 → ∀ (H : Heap) (locs : List Loc) (ls : Array Slot), VJ g A s.heap (XW g q x_crowd x_latestFault x_places x_mask x_w_robots x_w_size x_w_nexts x_a_length x_t_length x_t_token x_t_from x_t_value x_t_behind x_r_wants x_r_pairs x_r_sees x_r_row x_b_size x_s_size x_w_names x_w_goals x_w_links x_w_linked x_w_ups x_w_downs x_w_next x_a_begun x_t_bytes x_b_rows x_b_acts x_s_rows x_s_acts) H locs → lv_has ls 4 [(0, .ref (q 1)), (1, .int a0), (2, .int l2_L1), (3, .int l3_L1)] → (∀ (H : Heap) (locs : List Loc) (ls : Array Slot), VJ g A s.heap (XW g q x_crowd x_latestFault x_places x_mask x_w_robots x_w_size x_w_nexts x_a_length x_t_length x_t_token x_t_from x_t_value x_t_behind x_r_wants x_r_pairs x_r_sees x_r_row x_b_size x_s_size x_w_names x_w_goals x_w_links x_w_linked x_w_ups x_w_downs x_w_next x_a_begun x_t_bytes x_b_rows x_b_acts x_s_rows x_s_acts) H locs → lv_has ls 4 [(2, .int o_L1)] → W p l e rm_X3_takenIn s m args below meth c H locs 0 0 Q (F0 m 30 ls [])) → W p l e rm_X3_takenIn s m args below meth c H locs 0 0 Q (F0 m 4 ls []) := by
    clear h ho_L1 hl J
    intro f
    induction f with
    | zero => intro l2_L1 l3_L1 o_L1 h; exact absurd h (by simp [F_X3_takenIn_L1])
    | succ f ih =>
      intro l2_L1 l3_L1 o_L1 h H locs ls J hl K_L1
      rw [F_X3_takenIn_L1.eq_2] at h
      refine lv_iload_n hx hb dX3_takenIn_4 rfl (lv_at hl 3 rfl) ?_
      refine lv_aload_n hx hb dX3_takenIn_5 rfl (lv_at hl 0 rfl) ?_
      refine xg_1_0 F E J fl_X3_9 dX3_takenIn_6 ?_
      refine lv_icmp_ge (tgt := 30) hx hb dX3_takenIn_9 (by decide) (fun c2 => ?_) (fun c2 => ?_)
      · have h := itp c2 h
        obtain rfl := Option.some.inj h
        exact K_L1 _ _ _ J (lv_sub hl [2] rfl)
      · have h := itn c2 h
        refine lv_aload_n hx hb dX3_takenIn_12 rfl (lv_at hl 0 rfl) ?_
        refine lv_iload_n hx hb dX3_takenIn_13 rfl (lv_at hl 1 rfl) ?_
        refine lv_iload_n hx hb dX3_takenIn_14 rfl (lv_at hl 3 rfl) ?_
        obtain ⟨p3, hp3, h⟩ := ob h
        refine onI (runV (As := [.int a0, .int l3_L1]) (rest := []) F E J (c_X3_manyAt a0 l3_L1 p3 hp3) cw_X3_26 ⟨rfl, rfl, Nat.le_of_ble_eq_true rfl, Nat.le_of_ble_eq_true rfl⟩ rcX1 rfl hl.1 rfl (Nat.le_of_ble_eq_true rfl) dX3_takenIn_15) J (fun H locs J => ?_)
        obtain ⟨j4, hj4, h⟩ := ob h
        have Kj4 : ∀ (H : Heap) (locs : List Loc) (ls : Array Slot), VJ g A s.heap (XW g q x_crowd x_latestFault x_places x_mask x_w_robots x_w_size x_w_nexts x_a_length x_t_length x_t_token x_t_from x_t_value x_t_behind x_r_wants x_r_pairs x_r_sees x_r_row x_b_size x_s_size x_w_names x_w_goals x_w_links x_w_linked x_w_ups x_w_downs x_w_next x_a_begun x_t_bytes x_b_rows x_b_acts x_s_rows x_s_acts) H locs → lv_has ls 4 [(0, .ref (q 1)), (1, .int a0), (2, .int j4), (3, .int l3_L1)] → W p l e rm_X3_takenIn s m args below meth c H locs 0 0 Q (F0 m 24 ls []) := by
          intro H locs ls J hl
          obtain ⟨v7, hv7, h⟩ := obs h
          refine lv_iinc (v := v7) (lv' := [(3, .int v7), (0, .ref (q 1)), (1, .int a0), (2, .int j4)]) hx hb dX3_takenIn_24 hl (k := 3) rfl (by rw [← hv7]; rfl) (by decide) rfl (fun ls hl => ?_)
          refine lv_goto (tgt := 4) hx hb dX3_takenIn_27 (by decide) ?_
          exact ih _ _ _ h _ _ _ J (lv_sub hl [1, 2, 3, 0] rfl) K_L1
        clear h
        have h := hj4
        refine lv_if_le (tgt := 24) hx hb dX3_takenIn_18 (by decide) (fun c5 => ?_) (fun c5 => ?_)
        · have h := itp c5 h
          obtain rfl := Option.some.inj h
          exact Kj4 _ _ _ J (lv_sub hl [0, 1, 2, 3] rfl)
        · have h := itn c5 h
          obtain ⟨v6, hv6, h⟩ := obs h
          refine lv_iinc (v := v6) (lv' := [(2, .int v6), (0, .ref (q 1)), (1, .int a0), (3, .int l3_L1)]) hx hb dX3_takenIn_21 hl (k := 2) rfl (by rw [← hv6]; rfl) (by decide) rfl (fun ls hl => ?_)
          obtain rfl := Option.some.inj h
          exact Kj4 _ _ _ J (lv_sub hl [1, 2, 0, 3] rfl)
  refine T_L1 FU 0 0 o_L1 ho_L1 _ _ _ J (lv_sub hl [2, 3, 1, 0] rfl) (fun H locs ls J hl => ?_)
  refine lv_iload_n hx hb dX3_takenIn_30 rfl (lv_at hl 0 rfl) ?_
  obtain rfl := Option.some.inj h
  exact ret _ _ _ _ J dX3_takenIn_31
set_option maxHeartbeats 4000000 in
set_option maxRecDepth 100000 in
theorem c_X3_isSideBySide {l : Launch} {g : GG} {A : Nat → Prop} {q : Nat → Nat} {x_crowd x_latestFault x_places x_mask x_w_robots x_w_size x_w_nexts x_a_length x_t_length x_t_token x_t_from x_t_value x_t_behind x_r_wants x_r_pairs x_r_sees : Int32} {x_r_row : Int64} {x_b_size x_s_size : Int32} {x_w_names : Nat → Int32} {x_w_goals x_w_links : Nat → Int64} {x_w_linked x_w_ups x_w_downs x_w_next x_a_begun x_t_bytes : Nat → Int32} {x_b_rows : Nat → Int64} {x_b_acts : Nat → Int32} {x_s_rows : Nat → Int64} {x_s_acts : Nat → Int32} (a0 : Int32) (res : Int32) (h : F_X3_isSideBySide a0 x_places = some res) : Met l yX3_isSideBySide (wS yX3_isSideBySide cX3_isSideBySide 4 (some .boolean)) rm_X3_isSideBySide (va_Pc [.ref (q 1), .int a0] (VB g A (XW g q x_crowd x_latestFault x_places x_mask x_w_robots x_w_size x_w_nexts x_a_length x_t_length x_t_token x_t_from x_t_value x_t_behind x_r_wants x_r_pairs x_r_sees x_r_row x_b_size x_s_size x_w_names x_w_goals x_w_links x_w_linked x_w_ups x_w_downs x_w_next x_a_begun x_t_bytes x_b_rows x_b_acts x_s_rows x_s_acts))) (va_Qi (fun r (_ : Unit) => r = res ∧ zB r) (fun _ => VB g A (XW g q x_crowd x_latestFault x_places x_mask x_w_robots x_w_size x_w_nexts x_a_length x_t_length x_t_token x_t_from x_t_value x_t_behind x_r_wants x_r_pairs x_r_sees x_r_row x_b_size x_s_size x_w_names x_w_goals x_w_links x_w_linked x_w_ups x_w_downs x_w_next x_a_begun x_t_bytes x_b_rows x_b_acts x_s_rows x_s_acts)) A) 0 0 A := by
  unfold F_X3_isSideBySide at h
  refine MetZ (res := res) (own := RX3) (ws' := (XW g q x_crowd x_latestFault x_places x_mask x_w_robots x_w_size x_w_nexts x_a_length x_t_length x_t_token x_t_from x_t_value x_t_behind x_r_wants x_r_pairs x_r_sees x_r_row x_b_size x_s_size x_w_names x_w_goals x_w_links x_w_linked x_w_ups x_w_downs x_w_next x_a_begun x_t_bytes x_b_rows x_b_acts x_s_rows x_s_acts)) (by decide) rfl (Nat.le_of_ble_eq_true rfl) ?_
  intro p e s m args below meth c Q F E ret ls J hl
  have hx := F.1
  have hb := F.2.1
  have hl : lv_has ls 4 [(0, .ref (q 1)), (1, .int a0)] := hl
  refine lv_iconst (v := 0) hx hb dX3_isSideBySide_0 (by decide) ?_
  refine lv_istore_n (lv' := [(2, .int 0), (0, .ref (q 1)), (1, .int a0)]) hx hb dX3_isSideBySide_1 rfl hl (by decide) rfl (fun ls hl => ?_)
  refine lv_iconst (v := 0) hx hb dX3_isSideBySide_2 (by decide) ?_
  refine lv_istore_n (lv' := [(3, .int 0), (2, .int 0), (0, .ref (q 1)), (1, .int a0)]) hx hb dX3_isSideBySide_3 rfl hl (by decide) rfl (fun ls hl => ?_)
  obtain ⟨o_L1, ho_L1, h⟩ := ob h
  have T_L1 : ∀ (f : Nat) (l2_L1 : Int32) (l3_L1 : Int32) (o_L1 : Int32), F_X3_isSideBySide_L1 a0 x_places f l2_L1 l3_L1 = some o_L1 → ∀ (H : Heap) (locs : List Loc) (ls : Array Slot), VJ g A s.heap (XW g q x_crowd x_latestFault x_places x_mask x_w_robots x_w_size x_w_nexts x_a_length x_t_length x_t_token x_t_from x_t_value x_t_behind x_r_wants x_r_pairs x_r_sees x_r_row x_b_size x_s_size x_w_names x_w_goals x_w_links x_w_linked x_w_ups x_w_downs x_w_next x_a_begun x_t_bytes x_b_rows x_b_acts x_s_rows x_s_acts) H locs → lv_has ls 4 [(0, .ref (q 1)), (1, .int a0), (2, .int l2_L1), (3, .int l3_L1)] → (∀ (H : Heap) (locs : List Loc) (ls : Array Slot), VJ g A s.heap (XW g q x_crowd x_latestFault x_places x_mask x_w_robots x_w_size x_w_nexts x_a_length x_t_length x_t_token x_t_from x_t_value x_t_behind x_r_wants x_r_pairs x_r_sees x_r_row x_b_size x_s_size x_w_names x_w_goals x_w_links x_w_linked x_w_ups x_w_downs x_w_next x_a_begun x_t_bytes x_b_rows x_b_acts x_s_rows x_s_acts) H locs → lv_has ls 4 [(2, .int o_L1)] → W p l e rm_X3_isSideBySide s m args below meth c H locs 0 0 Q (F0 m 44 ls [])) → W p l e rm_X3_isSideBySide s m args below meth c H locs 0 0 Q (F0 m 4 ls []) := by
    clear h ho_L1 hl J
    intro f
    induction f with
    | zero => intro l2_L1 l3_L1 o_L1 h; exact absurd h (by simp [F_X3_isSideBySide_L1])
    | succ f ih =>
      intro l2_L1 l3_L1 o_L1 h H locs ls J hl K_L1
      rw [F_X3_isSideBySide_L1.eq_2] at h
      refine lv_iload_n hx hb dX3_isSideBySide_4 rfl (lv_at hl 3 rfl) ?_
      refine lv_aload_n hx hb dX3_isSideBySide_5 rfl (lv_at hl 0 rfl) ?_
      refine xg_1_0 F E J fl_X3_9 dX3_isSideBySide_6 ?_
      refine lv_icmp_ge (tgt := 44) hx hb dX3_isSideBySide_9 (by decide) (fun c2 => ?_) (fun c2 => ?_)
      · have h := itp c2 h
        obtain rfl := Option.some.inj h
        exact K_L1 _ _ _ J (lv_sub hl [2] rfl)
      · have h := itn c2 h
        refine lv_aload_n hx hb dX3_isSideBySide_12 rfl (lv_at hl 0 rfl) ?_
        refine lv_iload_n hx hb dX3_isSideBySide_13 rfl (lv_at hl 1 rfl) ?_
        refine lv_iload_n hx hb dX3_isSideBySide_14 rfl (lv_at hl 3 rfl) ?_
        obtain ⟨p3, hp3, h⟩ := ob h
        refine onI (runV (As := [.int a0, .int l3_L1]) (rest := []) F E J (c_X3_manyAt a0 l3_L1 p3 hp3) cw_X3_26 ⟨rfl, rfl, Nat.le_of_ble_eq_true rfl, Nat.le_of_ble_eq_true rfl⟩ rcX1 rfl hl.1 rfl (Nat.le_of_ble_eq_true rfl) dX3_isSideBySide_15) J (fun H locs J => ?_)
        obtain ⟨j4, hj4, h⟩ := ob h
        have Kj4 : ∀ (H : Heap) (locs : List Loc) (ls : Array Slot), VJ g A s.heap (XW g q x_crowd x_latestFault x_places x_mask x_w_robots x_w_size x_w_nexts x_a_length x_t_length x_t_token x_t_from x_t_value x_t_behind x_r_wants x_r_pairs x_r_sees x_r_row x_b_size x_s_size x_w_names x_w_goals x_w_links x_w_linked x_w_ups x_w_downs x_w_next x_a_begun x_t_bytes x_b_rows x_b_acts x_s_rows x_s_acts) H locs → lv_has ls 4 [(0, .ref (q 1)), (1, .int a0), (2, .int j4), (3, .int l3_L1)] → W p l e rm_X3_isSideBySide s m args below meth c H locs 0 0 Q (F0 m 38 ls []) := by
          intro H locs ls J hl
          obtain ⟨v10, hv10, h⟩ := obs h
          refine lv_iinc (v := v10) (lv' := [(3, .int v10), (0, .ref (q 1)), (1, .int a0), (2, .int j4)]) hx hb dX3_isSideBySide_38 hl (k := 3) rfl (by rw [← hv10]; rfl) (by decide) rfl (fun ls hl => ?_)
          refine lv_goto (tgt := 4) hx hb dX3_isSideBySide_41 (by decide) ?_
          exact ih _ _ _ h _ _ _ J (lv_sub hl [1, 2, 3, 0] rfl) K_L1
        clear h
        have h := hj4
        refine lv_if_le (tgt := 38) hx hb dX3_isSideBySide_18 (by decide) (fun c5 => ?_) (fun c5 => ?_)
        · have h := itp c5 h
          obtain rfl := Option.some.inj h
          exact Kj4 _ _ _ J (lv_sub hl [0, 1, 2, 3] rfl)
        · have h := itn c5 h
          refine lv_aload_n hx hb dX3_isSideBySide_21 rfl (lv_at hl 0 rfl) ?_
          refine lv_iload_n hx hb dX3_isSideBySide_22 rfl (lv_at hl 1 rfl) ?_
          refine lv_aload_n hx hb dX3_isSideBySide_23 rfl (lv_at hl 0 rfl) ?_
          refine lv_iload_n hx hb dX3_isSideBySide_24 rfl (lv_at hl 3 rfl) ?_
          refine lv_iconst (v := 1) hx hb dX3_isSideBySide_25 (by decide) ?_
          obtain ⟨p6, hp6, h⟩ := ob h
          refine onI (runV (As := [.int l3_L1, .int 1]) (rest := [.int a0, .ref (q 1)]) F E J (c_X3_beside l3_L1 1 p6 hp6) cw_X3_18 ⟨rfl, rfl, Nat.le_of_ble_eq_true rfl, Nat.le_of_ble_eq_true rfl⟩ rcX1 rfl hl.1 rfl (Nat.le_of_ble_eq_true rfl) dX3_isSideBySide_26) J (fun H locs J => ?_)
          obtain ⟨p7, hp7, h⟩ := ob h
          refine onI (runV (As := [.int a0, .int p6]) (rest := []) F E J (c_X3_manyAt a0 p6 p7 hp7) cw_X3_26 ⟨rfl, rfl, Nat.le_of_ble_eq_true rfl, Nat.le_of_ble_eq_true rfl⟩ rcX1 rfl hl.1 rfl (Nat.le_of_ble_eq_true rfl) dX3_isSideBySide_29) J (fun H locs J => ?_)
          refine lv_if_ne (tgt := 38) hx hb dX3_isSideBySide_32 (by decide) (fun c8 => ?_) (fun c8 => ?_)
          · have h := itn c8 h
            obtain rfl := Option.some.inj h
            exact Kj4 _ _ _ J (lv_sub hl [0, 1, 2, 3] rfl)
          · have h := itp c8 h
            obtain ⟨v9, hv9, h⟩ := obs h
            refine lv_iinc (v := v9) (lv' := [(2, .int v9), (0, .ref (q 1)), (1, .int a0), (3, .int l3_L1)]) hx hb dX3_isSideBySide_35 hl (k := 2) rfl (by rw [← hv9]; rfl) (by decide) rfl (fun ls hl => ?_)
            obtain rfl := Option.some.inj h
            exact Kj4 _ _ _ J (lv_sub hl [1, 2, 0, 3] rfl)
  refine T_L1 FU 0 0 o_L1 ho_L1 _ _ _ J (lv_sub hl [2, 3, 1, 0] rfl) (fun H locs ls J hl => ?_)
  refine lv_iload_n hx hb dX3_isSideBySide_44 rfl (lv_at hl 0 rfl) ?_
  refine lv_iconst (v := 1) hx hb dX3_isSideBySide_45 (by decide) ?_
  refine lv_icmp_gt (tgt := 53) hx hb dX3_isSideBySide_46 (by decide) (fun c11 => ?_) (fun c11 => ?_)
  · have h := itp c11 h
    refine lv_iconst (v := 0) hx hb dX3_isSideBySide_53 (by decide) ?_
    obtain rfl := Option.some.inj h
    exact ret _ _ _ _ zB0 J dX3_isSideBySide_54
  · have h := itn c11 h
    refine lv_iconst (v := 1) hx hb dX3_isSideBySide_49 (by decide) ?_
    refine lv_goto (tgt := 54) hx hb dX3_isSideBySide_50 (by decide) ?_
    obtain rfl := Option.some.inj h
    exact ret _ _ _ _ zB1 J dX3_isSideBySide_54
set_option maxHeartbeats 4000000 in
set_option maxRecDepth 100000 in
theorem c_X3_gapAbove {l : Launch} {g : GG} {A : Nat → Prop} {q : Nat → Nat} {x_crowd x_latestFault x_places x_mask x_w_robots x_w_size x_w_nexts x_a_length x_t_length x_t_token x_t_from x_t_value x_t_behind x_r_wants x_r_pairs x_r_sees : Int32} {x_r_row : Int64} {x_b_size x_s_size : Int32} {x_w_names : Nat → Int32} {x_w_goals x_w_links : Nat → Int64} {x_w_linked x_w_ups x_w_downs x_w_next x_a_begun x_t_bytes : Nat → Int32} {x_b_rows : Nat → Int64} {x_b_acts : Nat → Int32} {x_s_rows : Nat → Int64} {x_s_acts : Nat → Int32} (a0 : Int32) (a1 : Int32) (res : Int32) (h : F_X3_gapAbove a0 a1 x_places = some res) : Met l yX3_gapAbove (wS yX3_gapAbove cX3_gapAbove 5 (some .int)) rm_X3_gapAbove (va_Pc [.ref (q 1), .int a0, .int a1] (VB g A (XW g q x_crowd x_latestFault x_places x_mask x_w_robots x_w_size x_w_nexts x_a_length x_t_length x_t_token x_t_from x_t_value x_t_behind x_r_wants x_r_pairs x_r_sees x_r_row x_b_size x_s_size x_w_names x_w_goals x_w_links x_w_linked x_w_ups x_w_downs x_w_next x_a_begun x_t_bytes x_b_rows x_b_acts x_s_rows x_s_acts))) (va_Qi (fun r (_ : Unit) => r = res) (fun _ => VB g A (XW g q x_crowd x_latestFault x_places x_mask x_w_robots x_w_size x_w_nexts x_a_length x_t_length x_t_token x_t_from x_t_value x_t_behind x_r_wants x_r_pairs x_r_sees x_r_row x_b_size x_s_size x_w_names x_w_goals x_w_links x_w_linked x_w_ups x_w_downs x_w_next x_a_begun x_t_bytes x_b_rows x_b_acts x_s_rows x_s_acts)) A) 0 0 A := by
  unfold F_X3_gapAbove at h
  refine MetI (res := res) (own := RX3) (ws' := (XW g q x_crowd x_latestFault x_places x_mask x_w_robots x_w_size x_w_nexts x_a_length x_t_length x_t_token x_t_from x_t_value x_t_behind x_r_wants x_r_pairs x_r_sees x_r_row x_b_size x_s_size x_w_names x_w_goals x_w_links x_w_linked x_w_ups x_w_downs x_w_next x_a_begun x_t_bytes x_b_rows x_b_acts x_s_rows x_s_acts)) (by decide) rfl (Nat.le_of_ble_eq_true rfl) ?_
  intro p e s m args below meth c Q F E ret ls J hl
  have hx := F.1
  have hb := F.2.1
  have hl : lv_has ls 5 [(0, .ref (q 1)), (1, .int a0), (2, .int a1)] := hl
  refine lv_iload_n hx hb dX3_gapAbove_0 rfl (lv_at hl 2 rfl) ?_
  refine lv_istore_n (lv' := [(3, .int a1), (0, .ref (q 1)), (1, .int a0), (2, .int a1)]) hx hb dX3_gapAbove_1 rfl hl (by decide) rfl (fun ls hl => ?_)
  refine lv_iconst (v := 1) hx hb dX3_gapAbove_2 (by decide) ?_
  refine lv_istore (lv' := [(4, .int 1), (3, .int a1), (0, .ref (q 1)), (1, .int a0), (2, .int a1)]) hx hb dX3_gapAbove_3 hl (by decide) rfl (fun ls hl => ?_)
  obtain ⟨o_L1s, ho_L1, h⟩ := ob h
  have T_L1 : ∀ (f : Nat) (l3_L1 : Int32) (l4_L1 : Int32) (o_L1s : Sum (Int32) (Unit)), F_X3_gapAbove_L1 a0 x_places f l3_L1 l4_L1 = some o_L1s → ∀ (H : Heap) (locs : List Loc) (ls : Array Slot), VJ g A s.heap (XW g q x_crowd x_latestFault x_places x_mask x_w_robots x_w_size x_w_nexts x_a_length x_t_length x_t_token x_t_from x_t_value x_t_behind x_r_wants x_r_pairs x_r_sees x_r_row x_b_size x_s_size x_w_names x_w_goals x_w_links x_w_linked x_w_ups x_w_downs x_w_next x_a_begun x_t_bytes x_b_rows x_b_acts x_s_rows x_s_acts) H locs → lv_has ls 5 [(0, .ref (q 1)), (1, .int a0), (3, .int l3_L1), (4, .int l4_L1)] → (∀ (o_L1 : Unit), o_L1s = .inr o_L1 → ∀ (H : Heap) (locs : List Loc) (ls : Array Slot), VJ g A s.heap (XW g q x_crowd x_latestFault x_places x_mask x_w_robots x_w_size x_w_nexts x_a_length x_t_length x_t_token x_t_from x_t_value x_t_behind x_r_wants x_r_pairs x_r_sees x_r_row x_b_size x_s_size x_w_names x_w_goals x_w_links x_w_linked x_w_ups x_w_downs x_w_next x_a_begun x_t_bytes x_b_rows x_b_acts x_s_rows x_s_acts) H locs → lv_has ls 5 [(0, .ref (q 1))] → W p l e rm_X3_gapAbove s m args below meth c H locs 0 0 Q (F0 m 39 ls [])) → (∀ x, o_L1s = .inl x → x = res) → W p l e rm_X3_gapAbove s m args below meth c H locs 0 0 Q (F0 m 5 ls []) := by
    clear h ho_L1 hl J
    intro f
    induction f with
    | zero => intro l3_L1 l4_L1 o_L1s h; exact absurd h (by simp [F_X3_gapAbove_L1])
    | succ f ih =>
      intro l3_L1 l4_L1 o_L1s h H locs ls J hl K_L1 kr_L1
      rw [F_X3_gapAbove_L1.eq_2] at h
      refine lv_iload hx hb dX3_gapAbove_5 (lv_at hl 3 rfl) ?_
      refine lv_aload_n hx hb dX3_gapAbove_7 rfl (lv_at hl 0 rfl) ?_
      refine xg_1_0 F E J fl_X3_9 dX3_gapAbove_8 ?_
      refine lv_icmp_ge (tgt := 39) hx hb dX3_gapAbove_11 (by decide) (fun c2 => ?_) (fun c2 => ?_)
      · have h := itp c2 h
        obtain rfl := Option.some.inj h
        exact K_L1 _ rfl _ _ _ J (lv_sub hl [0] rfl)
      · have h := itn c2 h
        refine lv_aload_n hx hb dX3_gapAbove_14 rfl (lv_at hl 0 rfl) ?_
        refine lv_iload_n hx hb dX3_gapAbove_15 rfl (lv_at hl 2 rfl) ?_
        refine lv_iconst (v := 1) hx hb dX3_gapAbove_16 (by decide) ?_
        obtain ⟨p3, hp3, h⟩ := ob h
        refine onI (runV (As := [.int l3_L1, .int 1]) (rest := []) F E J (c_X3_beside l3_L1 1 p3 hp3) cw_X3_18 ⟨rfl, rfl, Nat.le_of_ble_eq_true rfl, Nat.le_of_ble_eq_true rfl⟩ rcX1 rfl hl.1 rfl (Nat.le_of_ble_eq_true rfl) dX3_gapAbove_17) J (fun H locs J => ?_)
        refine lv_istore_n (lv' := [(3, .int p3), (0, .ref (q 1)), (1, .int a0), (4, .int l4_L1)]) hx hb dX3_gapAbove_20 rfl hl (by decide) rfl (fun ls hl => ?_)
        refine lv_aload_n hx hb dX3_gapAbove_21 rfl (lv_at hl 1 rfl) ?_
        refine lv_iload_n hx hb dX3_gapAbove_22 rfl (lv_at hl 2 rfl) ?_
        refine lv_iload_n hx hb dX3_gapAbove_23 rfl (lv_at hl 0 rfl) ?_
        obtain ⟨p4, hp4, h⟩ := ob h
        refine onI (runV (As := [.int a0, .int p3]) (rest := []) F E J (c_X3_manyAt a0 p3 p4 hp4) cw_X3_26 ⟨rfl, rfl, Nat.le_of_ble_eq_true rfl, Nat.le_of_ble_eq_true rfl⟩ rcX1 rfl hl.1 rfl (Nat.le_of_ble_eq_true rfl) dX3_gapAbove_24) J (fun H locs J => ?_)
        refine lv_if_le (tgt := 33) hx hb dX3_gapAbove_27 (by decide) (fun c5 => ?_) (fun c5 => ?_)
        · have h := itp c5 h
          obtain ⟨v6, hv6, h⟩ := obs h
          refine lv_iinc (v := v6) (lv' := [(4, .int v6), (3, .int p3), (0, .ref (q 1)), (1, .int a0)]) hx hb dX3_gapAbove_33 hl (k := 3) rfl (by rw [← hv6]; rfl) (by decide) rfl (fun ls hl => ?_)
          refine lv_goto (tgt := 5) hx hb dX3_gapAbove_36 (by decide) ?_
          exact ih _ _ _ h _ _ _ J (lv_sub hl [2, 3, 1, 0] rfl) K_L1 kr_L1
        · have h := itn c5 h
          refine lv_iload hx hb dX3_gapAbove_30 (lv_at hl 3 rfl) ?_
          obtain rfl := Option.some.inj h
          obtain rfl := kr_L1 _ rfl
          exact ret _ _ _ _ J dX3_gapAbove_32
  refine T_L1 FU a1 1 o_L1s ho_L1 _ _ _ J (lv_sub hl [2, 3, 1, 0] rfl) (fun o_L1 eo H locs ls J hl => ?_) (fun x ex => ?_)
  · subst eo
    have h := elimR h
    refine lv_aload_n hx hb dX3_gapAbove_39 rfl (lv_at hl 0 rfl) ?_
    refine xg_1_0 F E J fl_X3_9 dX3_gapAbove_40 ?_
    obtain rfl := Option.some.inj h
    exact ret _ _ _ _ J dX3_gapAbove_43
  · subst ex
    exact Option.some.inj (elimL h)
set_option maxHeartbeats 4000000 in
set_option maxRecDepth 100000 in
theorem c_X3_isSpread {l : Launch} {g : GG} {A : Nat → Prop} {q : Nat → Nat} {x_crowd x_latestFault x_places x_mask x_w_robots x_w_size x_w_nexts x_a_length x_t_length x_t_token x_t_from x_t_value x_t_behind x_r_wants x_r_pairs x_r_sees : Int32} {x_r_row : Int64} {x_b_size x_s_size : Int32} {x_w_names : Nat → Int32} {x_w_goals x_w_links : Nat → Int64} {x_w_linked x_w_ups x_w_downs x_w_next x_a_begun x_t_bytes : Nat → Int32} {x_b_rows : Nat → Int64} {x_b_acts : Nat → Int32} {x_s_rows : Nat → Int64} {x_s_acts : Nat → Int32} (a0 : Int32) (a1 : Int32) (res : Int32) (h : F_X3_isSpread a0 a1 x_places = some res) : Met l yX3_isSpread (wS yX3_isSpread cX3_isSpread 5 (some .boolean)) rm_X3_isSpread (va_Pc [.ref (q 1), .int a0, .int a1] (VB g A (XW g q x_crowd x_latestFault x_places x_mask x_w_robots x_w_size x_w_nexts x_a_length x_t_length x_t_token x_t_from x_t_value x_t_behind x_r_wants x_r_pairs x_r_sees x_r_row x_b_size x_s_size x_w_names x_w_goals x_w_links x_w_linked x_w_ups x_w_downs x_w_next x_a_begun x_t_bytes x_b_rows x_b_acts x_s_rows x_s_acts))) (va_Qi (fun r (_ : Unit) => r = res ∧ zB r) (fun _ => VB g A (XW g q x_crowd x_latestFault x_places x_mask x_w_robots x_w_size x_w_nexts x_a_length x_t_length x_t_token x_t_from x_t_value x_t_behind x_r_wants x_r_pairs x_r_sees x_r_row x_b_size x_s_size x_w_names x_w_goals x_w_links x_w_linked x_w_ups x_w_downs x_w_next x_a_begun x_t_bytes x_b_rows x_b_acts x_s_rows x_s_acts)) A) 0 0 A := by
  unfold F_X3_isSpread at h
  refine MetZ (res := res) (own := RX3) (ws' := (XW g q x_crowd x_latestFault x_places x_mask x_w_robots x_w_size x_w_nexts x_a_length x_t_length x_t_token x_t_from x_t_value x_t_behind x_r_wants x_r_pairs x_r_sees x_r_row x_b_size x_s_size x_w_names x_w_goals x_w_links x_w_linked x_w_ups x_w_downs x_w_next x_a_begun x_t_bytes x_b_rows x_b_acts x_s_rows x_s_acts)) (by decide) rfl (Nat.le_of_ble_eq_true rfl) ?_
  intro p e s m args below meth c Q F E ret ls J hl
  have hx := F.1
  have hb := F.2.1
  have hl : lv_has ls 5 [(0, .ref (q 1)), (1, .int a0), (2, .int a1)] := hl
  refine lv_iconst (v := 0) hx hb dX3_isSpread_0 (by decide) ?_
  refine lv_istore_n (lv' := [(3, .int 0), (0, .ref (q 1)), (1, .int a0), (2, .int a1)]) hx hb dX3_isSpread_1 rfl hl (by decide) rfl (fun ls hl => ?_)
  obtain ⟨o_L1s, ho_L1, h⟩ := ob h
  have T_L1 : ∀ (f : Nat) (l3_L1 : Int32) (o_L1s : Sum (Int32) (Unit)), F_X3_isSpread_L1 a0 a1 x_places f l3_L1 = some o_L1s → ∀ (H : Heap) (locs : List Loc) (ls : Array Slot), VJ g A s.heap (XW g q x_crowd x_latestFault x_places x_mask x_w_robots x_w_size x_w_nexts x_a_length x_t_length x_t_token x_t_from x_t_value x_t_behind x_r_wants x_r_pairs x_r_sees x_r_row x_b_size x_s_size x_w_names x_w_goals x_w_links x_w_linked x_w_ups x_w_downs x_w_next x_a_begun x_t_bytes x_b_rows x_b_acts x_s_rows x_s_acts) H locs → lv_has ls 5 [(0, .ref (q 1)), (1, .int a0), (2, .int a1), (3, .int l3_L1)] → (∀ (o_L1 : Unit), o_L1s = .inr o_L1 → ∀ (H : Heap) (locs : List Loc) (ls : Array Slot), VJ g A s.heap (XW g q x_crowd x_latestFault x_places x_mask x_w_robots x_w_size x_w_nexts x_a_length x_t_length x_t_token x_t_from x_t_value x_t_behind x_r_wants x_r_pairs x_r_sees x_r_row x_b_size x_s_size x_w_names x_w_goals x_w_links x_w_linked x_w_ups x_w_downs x_w_next x_a_begun x_t_bytes x_b_rows x_b_acts x_s_rows x_s_acts) H locs → lv_has ls 5 [] → W p l e rm_X3_isSpread s m args below meth c H locs 0 0 Q (F0 m 49 ls [])) → (∀ x, o_L1s = .inl x → x = res) → W p l e rm_X3_isSpread s m args below meth c H locs 0 0 Q (F0 m 2 ls []) := by
    clear h ho_L1 hl J
    intro f
    induction f with
    | zero => intro l3_L1 o_L1s h; exact absurd h (by simp [F_X3_isSpread_L1])
    | succ f ih =>
      intro l3_L1 o_L1s h H locs ls J hl K_L1 kr_L1
      rw [F_X3_isSpread_L1.eq_2] at h
      refine lv_iload_n hx hb dX3_isSpread_2 rfl (lv_at hl 3 rfl) ?_
      refine lv_aload_n hx hb dX3_isSpread_3 rfl (lv_at hl 0 rfl) ?_
      refine xg_1_0 F E J fl_X3_9 dX3_isSpread_4 ?_
      refine lv_icmp_ge (tgt := 49) hx hb dX3_isSpread_7 (by decide) (fun c2 => ?_) (fun c2 => ?_)
      · have h := itp c2 h
        obtain rfl := Option.some.inj h
        exact K_L1 _ rfl _ _ _ J (lv_sub hl [] rfl)
      · have h := itn c2 h
        refine lv_aload_n hx hb dX3_isSpread_10 rfl (lv_at hl 0 rfl) ?_
        refine lv_iload_n hx hb dX3_isSpread_11 rfl (lv_at hl 1 rfl) ?_
        refine lv_iload_n hx hb dX3_isSpread_12 rfl (lv_at hl 3 rfl) ?_
        obtain ⟨p3, hp3, h⟩ := ob h
        refine onI (runV (As := [.int a0, .int l3_L1]) (rest := []) F E J (c_X3_manyAt a0 l3_L1 p3 hp3) cw_X3_26 ⟨rfl, rfl, Nat.le_of_ble_eq_true rfl, Nat.le_of_ble_eq_true rfl⟩ rcX1 rfl hl.1 rfl (Nat.le_of_ble_eq_true rfl) dX3_isSpread_13) J (fun H locs J => ?_)
        refine lv_if_le (tgt := 43) hx hb dX3_isSpread_16 (by decide) (fun c4 => ?_) (fun c4 => ?_)
        · have h := itp c4 h
          obtain ⟨v5, hv5, h⟩ := obs h
          refine lv_iinc (v := v5) (lv' := [(3, .int v5), (0, .ref (q 1)), (1, .int a0), (2, .int a1)]) hx hb dX3_isSpread_43 hl (k := 3) rfl (by rw [← hv5]; rfl) (by decide) rfl (fun ls hl => ?_)
          refine lv_goto (tgt := 2) hx hb dX3_isSpread_46 (by decide) ?_
          exact ih _ _ h _ _ _ J (lv_sub hl [1, 2, 3, 0] rfl) K_L1 kr_L1
        · have h := itn c4 h
          refine lv_aload_n hx hb dX3_isSpread_19 rfl (lv_at hl 0 rfl) ?_
          refine lv_iload_n hx hb dX3_isSpread_20 rfl (lv_at hl 1 rfl) ?_
          refine lv_iload_n hx hb dX3_isSpread_21 rfl (lv_at hl 3 rfl) ?_
          obtain ⟨p6, hp6, h⟩ := ob h
          refine onI (runV (As := [.int a0, .int l3_L1]) (rest := []) F E J (c_X3_gapAbove a0 l3_L1 p6 hp6) cw_X3_77 ⟨rfl, rfl, Nat.le_of_ble_eq_true rfl, Nat.le_of_ble_eq_true rfl⟩ rcX1 rfl hl.1 rfl (Nat.le_of_ble_eq_true rfl) dX3_isSpread_22) J (fun H locs J => ?_)
          refine lv_istore (lv' := [(4, .int p6), (0, .ref (q 1)), (1, .int a0), (2, .int a1), (3, .int l3_L1)]) hx hb dX3_isSpread_25 hl (by decide) rfl (fun ls hl => ?_)
          refine lv_iload hx hb dX3_isSpread_27 (lv_at hl 0 rfl) ?_
          refine lv_iload_n hx hb dX3_isSpread_29 rfl (lv_at hl 3 rfl) ?_
          refine lv_icmp_eq (tgt := 43) hx hb dX3_isSpread_30 (by decide) (fun c7 => ?_) (fun c7 => ?_)
          · have h := itp c7 h
            obtain ⟨v8, hv8, h⟩ := obs h
            refine lv_iinc (v := v8) (lv' := [(3, .int v8), (4, .int p6), (0, .ref (q 1)), (1, .int a0), (2, .int a1)]) hx hb dX3_isSpread_43 hl (k := 4) rfl (by rw [← hv8]; rfl) (by decide) rfl (fun ls hl => ?_)
            refine lv_goto (tgt := 2) hx hb dX3_isSpread_46 (by decide) ?_
            exact ih _ _ h _ _ _ J (lv_sub hl [2, 3, 4, 0] rfl) K_L1 kr_L1
          · have h := itn c7 h
            refine lv_iload hx hb dX3_isSpread_33 (lv_at hl 0 rfl) ?_
            refine lv_iload_n hx hb dX3_isSpread_35 rfl (lv_at hl 3 rfl) ?_
            refine lv_iconst (v := 1) hx hb dX3_isSpread_36 (by decide) ?_
            refine lv_iadd hx hb dX3_isSpread_37 ?_
            refine lv_icmp_eq (tgt := 43) hx hb dX3_isSpread_38 (by decide) (fun c9 => ?_) (fun c9 => ?_)
            · have h := itp c9 h
              obtain ⟨v10, hv10, h⟩ := obs h
              refine lv_iinc (v := v10) (lv' := [(3, .int v10), (4, .int p6), (0, .ref (q 1)), (1, .int a0), (2, .int a1)]) hx hb dX3_isSpread_43 hl (k := 4) rfl (by rw [← hv10]; rfl) (by decide) rfl (fun ls hl => ?_)
              refine lv_goto (tgt := 2) hx hb dX3_isSpread_46 (by decide) ?_
              exact ih _ _ h _ _ _ J (lv_sub hl [2, 3, 4, 0] rfl) K_L1 kr_L1
            · have h := itn c9 h
              refine lv_iconst (v := 0) hx hb dX3_isSpread_41 (by decide) ?_
              obtain rfl := Option.some.inj h
              obtain rfl := kr_L1 _ rfl
              exact ret _ _ _ _ zB0 J dX3_isSpread_42
  refine T_L1 FU 0 o_L1s ho_L1 _ _ _ J (lv_sub hl [1, 2, 3, 0] rfl) (fun o_L1 eo H locs ls J hl => ?_) (fun x ex => ?_)
  · subst eo
    have h := elimR h
    refine lv_iconst (v := 1) hx hb dX3_isSpread_49 (by decide) ?_
    obtain rfl := Option.some.inj h
    exact ret _ _ _ _ zB1 J dX3_isSpread_50
  · subst ex
    exact Option.some.inj (elimL h)
set_option maxHeartbeats 4000000 in
set_option maxRecDepth 100000 in
theorem c_X3_isOfGoal {l : Launch} {g : GG} {A : Nat → Prop} {q : Nat → Nat} {x_crowd x_latestFault x_places x_mask x_w_robots x_w_size x_w_nexts x_a_length x_t_length x_t_token x_t_from x_t_value x_t_behind x_r_wants x_r_pairs x_r_sees : Int32} {x_r_row : Int64} {x_b_size x_s_size : Int32} {x_w_names : Nat → Int32} {x_w_goals x_w_links : Nat → Int64} {x_w_linked x_w_ups x_w_downs x_w_next x_a_begun x_t_bytes : Nat → Int32} {x_b_rows : Nat → Int64} {x_b_acts : Nat → Int32} {x_s_rows : Nat → Int64} {x_s_acts : Nat → Int32} (a0 : Int32) (a1 : Int32) (res : Int32) (h : F_X3_isOfGoal a0 a1 x_places = some res) : Met l yX3_isOfGoal (wS yX3_isOfGoal cX3_isOfGoal 5 (some .boolean)) rm_X3_isOfGoal (va_Pc [.ref (q 1), .int a0, .int a1] (VB g A (XW g q x_crowd x_latestFault x_places x_mask x_w_robots x_w_size x_w_nexts x_a_length x_t_length x_t_token x_t_from x_t_value x_t_behind x_r_wants x_r_pairs x_r_sees x_r_row x_b_size x_s_size x_w_names x_w_goals x_w_links x_w_linked x_w_ups x_w_downs x_w_next x_a_begun x_t_bytes x_b_rows x_b_acts x_s_rows x_s_acts))) (va_Qi (fun r (_ : Unit) => r = res ∧ zB r) (fun _ => VB g A (XW g q x_crowd x_latestFault x_places x_mask x_w_robots x_w_size x_w_nexts x_a_length x_t_length x_t_token x_t_from x_t_value x_t_behind x_r_wants x_r_pairs x_r_sees x_r_row x_b_size x_s_size x_w_names x_w_goals x_w_links x_w_linked x_w_ups x_w_downs x_w_next x_a_begun x_t_bytes x_b_rows x_b_acts x_s_rows x_s_acts)) A) 0 0 A := by
  unfold F_X3_isOfGoal at h
  refine MetZ (res := res) (own := RX3) (ws' := (XW g q x_crowd x_latestFault x_places x_mask x_w_robots x_w_size x_w_nexts x_a_length x_t_length x_t_token x_t_from x_t_value x_t_behind x_r_wants x_r_pairs x_r_sees x_r_row x_b_size x_s_size x_w_names x_w_goals x_w_links x_w_linked x_w_ups x_w_downs x_w_next x_a_begun x_t_bytes x_b_rows x_b_acts x_s_rows x_s_acts)) (by decide) rfl (Nat.le_of_ble_eq_true rfl) ?_
  intro p e s m args below meth c Q F E ret ls J hl
  have hx := F.1
  have hb := F.2.1
  have hl : lv_has ls 5 [(0, .ref (q 1)), (1, .int a0), (2, .int a1)] := hl
  refine lv_aload_n hx hb dX3_isOfGoal_0 rfl (lv_at hl 0 rfl) ?_
  refine lv_iload_n hx hb dX3_isOfGoal_1 rfl (lv_at hl 1 rfl) ?_
  obtain ⟨p1, hp1, h⟩ := ob h
  refine onI (runV (As := [.int a0]) (rest := []) F E J (c_X3_robotsIn a0 p1 hp1) cw_X3_63 ⟨rfl, rfl, Nat.le_of_ble_eq_true rfl, Nat.le_of_ble_eq_true rfl⟩ rcX1 rfl hl.1 rfl (Nat.le_of_ble_eq_true rfl) dX3_isOfGoal_2) J (fun H locs J => ?_)
  refine lv_istore_n (lv' := [(3, .int p1), (0, .ref (q 1)), (1, .int a0), (2, .int a1)]) hx hb dX3_isOfGoal_5 rfl hl (by decide) rfl (fun ls hl => ?_)
  refine lv_aload_n hx hb dX3_isOfGoal_6 rfl (lv_at hl 1 rfl) ?_
  refine lv_iload_n hx hb dX3_isOfGoal_7 rfl (lv_at hl 2 rfl) ?_
  obtain ⟨p2, hp2, h⟩ := ob h
  refine onI (runV (As := [.int a0]) (rest := []) F E J (c_X3_takenIn a0 p2 hp2) cw_X3_66 ⟨rfl, rfl, Nat.le_of_ble_eq_true rfl, Nat.le_of_ble_eq_true rfl⟩ rcX1 rfl hl.1 rfl (Nat.le_of_ble_eq_true rfl) dX3_isOfGoal_8) J (fun H locs J => ?_)
  refine lv_istore (lv' := [(4, .int p2), (3, .int p1), (0, .ref (q 1)), (1, .int a0), (2, .int a1)]) hx hb dX3_isOfGoal_11 hl (by decide) rfl (fun ls hl => ?_)
  refine lv_iload_n hx hb dX3_isOfGoal_13 rfl (lv_at hl 1 rfl) ?_
  refine lv_if_ne (tgt := 19) hx hb dX3_isOfGoal_14 (by decide) (fun c3 => ?_) (fun c3 => ?_)
  · have h := itn c3 h
    refine lv_iload_n hx hb dX3_isOfGoal_19 rfl (lv_at hl 4 rfl) ?_
    refine lv_if_ne (tgt := 35) hx hb dX3_isOfGoal_20 (by decide) (fun c4 => ?_) (fun c4 => ?_)
    · have h := itn c4 h
      refine lv_iload hx hb dX3_isOfGoal_35 (lv_at hl 0 rfl) ?_
      refine lv_iload_n hx hb dX3_isOfGoal_37 rfl (lv_at hl 1 rfl) ?_
      refine lv_icmp_eq (tgt := 43) hx hb dX3_isOfGoal_38 (by decide) (fun c5 => ?_) (fun c5 => ?_)
      · have h := itp c5 h
        refine lv_iload_n hx hb dX3_isOfGoal_43 rfl (lv_at hl 4 rfl) ?_
        refine lv_iconst (v := 1) hx hb dX3_isOfGoal_44 (by decide) ?_
        refine lv_icmp_ne (tgt := 62) hx hb dX3_isOfGoal_45 (by decide) (fun c6 => ?_) (fun c6 => ?_)
        · have h := itn c6 h
          refine lv_aload_n hx hb dX3_isOfGoal_62 rfl (lv_at hl 2 rfl) ?_
          refine lv_iload_n hx hb dX3_isOfGoal_63 rfl (lv_at hl 3 rfl) ?_
          obtain ⟨p7, hp7, h⟩ := ob h
          refine onZ (runV (As := [.int a0]) (rest := []) F E J (c_X3_isSideBySide a0 p7 hp7) cw_X3_73 ⟨rfl, rfl, Nat.le_of_ble_eq_true rfl, Nat.le_of_ble_eq_true rfl⟩ rcX1 rfl hl.1 rfl (Nat.le_of_ble_eq_true rfl) dX3_isOfGoal_64) J (fun hzbp7 H locs J => ?_)
          obtain rfl := Option.some.inj h
          exact ret _ _ _ _ (by assumption) J dX3_isOfGoal_67
        · have h := itp c6 h
          refine lv_aload_n hx hb dX3_isOfGoal_48 rfl (lv_at hl 2 rfl) ?_
          refine lv_iload_n hx hb dX3_isOfGoal_49 rfl (lv_at hl 3 rfl) ?_
          refine lv_aload_n hx hb dX3_isOfGoal_50 rfl (lv_at hl 2 rfl) ?_
          refine xg_1_0 F E J fl_X3_9 dX3_isOfGoal_51 ?_
          refine lv_iload_n hx hb dX3_isOfGoal_54 rfl (lv_at hl 1 rfl) ?_
          obtain ⟨hz, h⟩ := gdt h
          refine lv_idiv hx hb dX3_isOfGoal_55 (nzt hz) ?_
          obtain ⟨p8, hp8, h⟩ := ob h
          refine onZ (runV (As := [.int a0, .int (x_places / p1)]) (rest := []) F E J (c_X3_isSpread a0 (x_places / p1) p8 hp8) cw_X3_69 ⟨rfl, rfl, Nat.le_of_ble_eq_true rfl, Nat.le_of_ble_eq_true rfl⟩ rcX1 rfl hl.1 rfl (Nat.le_of_ble_eq_true rfl) dX3_isOfGoal_56) J (fun hzbp8 H locs J => ?_)
          refine lv_goto (tgt := 67) hx hb dX3_isOfGoal_59 (by decide) ?_
          obtain rfl := Option.some.inj h
          exact ret _ _ _ _ (by assumption) J dX3_isOfGoal_67
      · have h := itn c5 h
        refine lv_iconst (v := 0) hx hb dX3_isOfGoal_41 (by decide) ?_
        obtain rfl := Option.some.inj h
        exact ret _ _ _ _ zB0 J dX3_isOfGoal_42
    · have h := itp c4 h
      refine lv_iload hx hb dX3_isOfGoal_23 (lv_at hl 0 rfl) ?_
      refine lv_iconst (v := 1) hx hb dX3_isOfGoal_25 (by decide) ?_
      refine lv_icmp_ne (tgt := 33) hx hb dX3_isOfGoal_26 (by decide) (fun c9 => ?_) (fun c9 => ?_)
      · have h := itn c9 h
        refine lv_iconst (v := 0) hx hb dX3_isOfGoal_33 (by decide) ?_
        obtain rfl := Option.some.inj h
        exact ret _ _ _ _ zB0 J dX3_isOfGoal_34
      · have h := itp c9 h
        refine lv_iconst (v := 1) hx hb dX3_isOfGoal_29 (by decide) ?_
        refine lv_goto (tgt := 34) hx hb dX3_isOfGoal_30 (by decide) ?_
        obtain rfl := Option.some.inj h
        exact ret _ _ _ _ zB1 J dX3_isOfGoal_34
  · have h := itp c3 h
    refine lv_iconst (v := 0) hx hb dX3_isOfGoal_17 (by decide) ?_
    obtain rfl := Option.some.inj h
    exact ret _ _ _ _ zB0 J dX3_isOfGoal_18
set_option maxHeartbeats 4000000 in
set_option maxRecDepth 100000 in
theorem c_X7_goal {l : Launch} {g : GG} {A : Nat → Prop} {q : Nat → Nat} {x_crowd x_latestFault x_places x_mask x_w_robots x_w_size x_w_nexts x_a_length x_t_length x_t_token x_t_from x_t_value x_t_behind x_r_wants x_r_pairs x_r_sees : Int32} {x_r_row : Int64} {x_b_size x_s_size : Int32} {x_w_names : Nat → Int32} {x_w_goals x_w_links : Nat → Int64} {x_w_linked x_w_ups x_w_downs x_w_next x_a_begun x_t_bytes : Nat → Int32} {x_b_rows : Nat → Int64} {x_b_acts : Nat → Int32} {x_s_rows : Nat → Int64} {x_s_acts : Nat → Int32} (a0 : Int32) (res : Int32) (h : F_X7_goal a0 x_crowd x_places = some res) : Met l yX7_goal (wS yX7_goal cX7_goal 2 (some .int)) rm_X7_goal (va_Pc [.ref (q 0), .int a0] (VB g A (XW g q x_crowd x_latestFault x_places x_mask x_w_robots x_w_size x_w_nexts x_a_length x_t_length x_t_token x_t_from x_t_value x_t_behind x_r_wants x_r_pairs x_r_sees x_r_row x_b_size x_s_size x_w_names x_w_goals x_w_links x_w_linked x_w_ups x_w_downs x_w_next x_a_begun x_t_bytes x_b_rows x_b_acts x_s_rows x_s_acts))) (va_Qi (fun r (_ : Unit) => r = res) (fun _ => VB g A (XW g q x_crowd x_latestFault x_places x_mask x_w_robots x_w_size x_w_nexts x_a_length x_t_length x_t_token x_t_from x_t_value x_t_behind x_r_wants x_r_pairs x_r_sees x_r_row x_b_size x_s_size x_w_names x_w_goals x_w_links x_w_linked x_w_ups x_w_downs x_w_next x_a_begun x_t_bytes x_b_rows x_b_acts x_s_rows x_s_acts)) A) 0 0 A := by
  unfold F_X7_goal at h
  refine MetI (res := res) (own := RX7) (ws' := (XW g q x_crowd x_latestFault x_places x_mask x_w_robots x_w_size x_w_nexts x_a_length x_t_length x_t_token x_t_from x_t_value x_t_behind x_r_wants x_r_pairs x_r_sees x_r_row x_b_size x_s_size x_w_names x_w_goals x_w_links x_w_linked x_w_ups x_w_downs x_w_next x_a_begun x_t_bytes x_b_rows x_b_acts x_s_rows x_s_acts)) (by decide) rfl (Nat.le_of_ble_eq_true rfl) ?_
  intro p e s m args below meth c Q F E ret ls J hl
  have hx := F.1
  have hb := F.2.1
  have hl : lv_has ls 2 [(0, .ref (q 0)), (1, .int a0)] := hl
  refine lv_iload_n hx hb dX7_goal_0 rfl (lv_at hl 1 rfl) ?_
  refine lv_iconst (v := 3) hx hb dX7_goal_1 (by decide) ?_
  obtain ⟨p1, hp1, h⟩ := ob h
  refine onZ (runS (As := [.int a0, .int 3]) (rest := []) F E J (c_X7_outside a0 3 p1 hp1) cw_X7_110 ⟨rfl, rfl, Nat.le_of_ble_eq_true rfl, Nat.le_of_ble_eq_true rfl⟩ rfl hl.1 rfl (Nat.le_of_ble_eq_true rfl) dX7_goal_2) J (fun hzbp1 H locs J => ?_)
  refine lv_if_eq (tgt := 11) hx hb dX7_goal_5 (by decide) (fun c2 => ?_) (fun c2 => ?_)
  · have h := itp c2 h
    refine lv_aload_n hx hb dX7_goal_11 rfl (lv_at hl 0 rfl) ?_
    refine xg_0_0 F E J fl_X7_23 dX7_goal_12 ?_
    refine lv_aload_n hx hb dX7_goal_15 rfl (lv_at hl 0 rfl) ?_
    refine xg_0_7 F E J fl_X7_69 dX7_goal_16 ?_
    refine lv_iload_n hx hb dX7_goal_19 rfl (lv_at hl 1 rfl) ?_
    obtain ⟨p3, hp3, h⟩ := ob h
    refine onZ (runV (As := [.int x_crowd, .int a0]) (rest := []) F E J (c_X3_isOfGoal x_crowd a0 p3 hp3) cw_X7_114 ⟨rfl, rfl, Nat.le_of_ble_eq_true rfl, Nat.le_of_ble_eq_true rfl⟩ rcX1 rfl hl.1 rfl (Nat.le_of_ble_eq_true rfl) dX7_goal_20) J (fun hzbp3 H locs J => ?_)
    refine lv_if_eq (tgt := 30) hx hb dX7_goal_23 (by decide) (fun c4 => ?_) (fun c4 => ?_)
    · have h := itp c4 h
      refine lv_iconst (v := 0) hx hb dX7_goal_30 (by decide) ?_
      obtain rfl := Option.some.inj h
      exact ret _ _ _ _ J dX7_goal_31
    · have h := itn c4 h
      refine lv_iconst (v := 1) hx hb dX7_goal_26 (by decide) ?_
      refine lv_goto (tgt := 31) hx hb dX7_goal_27 (by decide) ?_
      obtain rfl := Option.some.inj h
      exact ret _ _ _ _ J dX7_goal_31
  · have h := itn c2 h
    refine lv_ldc hx hb F.2.2.2.1 (F.2.2.2.2 _ kc_X7_80) dX7_goal_8 ?_
    obtain rfl := Option.some.inj h
    exact ret _ _ _ _ J dX7_goal_10
set_option maxHeartbeats 4000000 in
set_option maxRecDepth 100000 in
theorem c_X3_shift {l : Launch} {g : GG} {A : Nat → Prop} {q : Nat → Nat} {x_crowd x_latestFault x_places x_mask x_w_robots x_w_size x_w_nexts x_a_length x_t_length x_t_token x_t_from x_t_value x_t_behind x_r_wants x_r_pairs x_r_sees : Int32} {x_r_row : Int64} {x_b_size x_s_size : Int32} {x_w_names : Nat → Int32} {x_w_goals x_w_links : Nat → Int64} {x_w_linked x_w_ups x_w_downs x_w_next x_a_begun x_t_bytes : Nat → Int32} {x_b_rows : Nat → Int64} {x_b_acts : Nat → Int32} {x_s_rows : Nat → Int64} {x_s_acts : Nat → Int32} (a0 : Int32) (a1 : Int32) (res : Int32) (h : F_X3_shift a0 a1 x_places = some res) : Met l yX3_shift (wS yX3_shift cX3_shift 3 (some .int)) rm_X3_shift (va_Pc [.ref (q 1), .int a0, .int a1] (VB g A (XW g q x_crowd x_latestFault x_places x_mask x_w_robots x_w_size x_w_nexts x_a_length x_t_length x_t_token x_t_from x_t_value x_t_behind x_r_wants x_r_pairs x_r_sees x_r_row x_b_size x_s_size x_w_names x_w_goals x_w_links x_w_linked x_w_ups x_w_downs x_w_next x_a_begun x_t_bytes x_b_rows x_b_acts x_s_rows x_s_acts))) (va_Qi (fun r (_ : Unit) => r = res) (fun _ => VB g A (XW g q x_crowd x_latestFault x_places x_mask x_w_robots x_w_size x_w_nexts x_a_length x_t_length x_t_token x_t_from x_t_value x_t_behind x_r_wants x_r_pairs x_r_sees x_r_row x_b_size x_s_size x_w_names x_w_goals x_w_links x_w_linked x_w_ups x_w_downs x_w_next x_a_begun x_t_bytes x_b_rows x_b_acts x_s_rows x_s_acts)) A) 0 0 A := by
  unfold F_X3_shift at h
  refine MetI (res := res) (own := RX3) (ws' := (XW g q x_crowd x_latestFault x_places x_mask x_w_robots x_w_size x_w_nexts x_a_length x_t_length x_t_token x_t_from x_t_value x_t_behind x_r_wants x_r_pairs x_r_sees x_r_row x_b_size x_s_size x_w_names x_w_goals x_w_links x_w_linked x_w_ups x_w_downs x_w_next x_a_begun x_t_bytes x_b_rows x_b_acts x_s_rows x_s_acts)) (by decide) rfl (Nat.le_of_ble_eq_true rfl) ?_
  intro p e s m args below meth c Q F E ret ls J hl
  have hx := F.1
  have hb := F.2.1
  have hl : lv_has ls 3 [(0, .ref (q 1)), (1, .int a0), (2, .int a1)] := hl
  refine lv_aload_n hx hb dX3_shift_0 rfl (lv_at hl 0 rfl) ?_
  refine lv_aload_n hx hb dX3_shift_1 rfl (lv_at hl 0 rfl) ?_
  refine lv_iload_n hx hb dX3_shift_2 rfl (lv_at hl 1 rfl) ?_
  refine lv_iload_n hx hb dX3_shift_3 rfl (lv_at hl 2 rfl) ?_
  obtain ⟨p1, hp1, h⟩ := ob h
  refine onI (runV (As := [.int a0, .int a1]) (rest := [.ref (q 1)]) F E J (c_X3_beside a0 a1 p1 hp1) cw_X3_18 ⟨rfl, rfl, Nat.le_of_ble_eq_true rfl, Nat.le_of_ble_eq_true rfl⟩ rcX1 rfl hl.1 rfl (Nat.le_of_ble_eq_true rfl) dX3_shift_4) J (fun H locs J => ?_)
  obtain ⟨p2, hp2, h⟩ := ob h
  refine onI (runV (As := [.int p1]) (rest := []) F E J (c_X3_oneAt p1 p2 hp2) cw_X3_22 ⟨rfl, rfl, Nat.le_of_ble_eq_true rfl, Nat.le_of_ble_eq_true rfl⟩ rcX1 rfl hl.1 rfl (Nat.le_of_ble_eq_true rfl) dX3_shift_7) J (fun H locs J => ?_)
  refine lv_aload_n hx hb dX3_shift_10 rfl (lv_at hl 0 rfl) ?_
  refine lv_iload_n hx hb dX3_shift_11 rfl (lv_at hl 1 rfl) ?_
  obtain ⟨p3, hp3, h⟩ := ob h
  refine onI (runV (As := [.int a0]) (rest := [.int p2]) F E J (c_X3_oneAt a0 p3 hp3) cw_X3_22 ⟨rfl, rfl, Nat.le_of_ble_eq_true rfl, Nat.le_of_ble_eq_true rfl⟩ rcX1 rfl hl.1 rfl (Nat.le_of_ble_eq_true rfl) dX3_shift_12) J (fun H locs J => ?_)
  refine lv_isub hx hb dX3_shift_15 ?_
  obtain rfl := Option.some.inj h
  exact ret _ _ _ _ J dX3_shift_16
set_option maxHeartbeats 4000000 in
set_option maxRecDepth 100000 in
theorem c_X7_step {l : Launch} {g : GG} {A : Nat → Prop} {q : Nat → Nat} {x_crowd x_latestFault x_places x_mask x_w_robots x_w_size x_w_nexts x_a_length x_t_length x_t_token x_t_from x_t_value x_t_behind x_r_wants x_r_pairs x_r_sees : Int32} {x_r_row : Int64} {x_b_size x_s_size : Int32} {x_w_names : Nat → Int32} {x_w_goals x_w_links : Nat → Int64} {x_w_linked x_w_ups x_w_downs x_w_next x_a_begun x_t_bytes : Nat → Int32} {x_b_rows : Nat → Int64} {x_b_acts : Nat → Int32} {x_s_rows : Nat → Int64} {x_s_acts : Nat → Int32} (res : Int32 × Int32) (h : F_X7_step x_crowd x_places x_b_size x_b_rows x_b_acts = some res) : Met l yX7_step (wS yX7_step cX7_step 6 (some .int)) rm_X7_step (va_Pc [.ref (q 0)] (VB g A (XW g q x_crowd x_latestFault x_places x_mask x_w_robots x_w_size x_w_nexts x_a_length x_t_length x_t_token x_t_from x_t_value x_t_behind x_r_wants x_r_pairs x_r_sees x_r_row x_b_size x_s_size x_w_names x_w_goals x_w_links x_w_linked x_w_ups x_w_downs x_w_next x_a_begun x_t_bytes x_b_rows x_b_acts x_s_rows x_s_acts))) (va_Qi (fun r (_ : Unit) => r = res.1) (fun _ => VB g A (XW g q res.2 x_latestFault x_places x_mask x_w_robots x_w_size x_w_nexts x_a_length x_t_length x_t_token x_t_from x_t_value x_t_behind x_r_wants x_r_pairs x_r_sees x_r_row x_b_size x_s_size x_w_names x_w_goals x_w_links x_w_linked x_w_ups x_w_downs x_w_next x_a_begun x_t_bytes x_b_rows x_b_acts x_s_rows x_s_acts)) A) 0 0 A := by
  unfold F_X7_step at h
  refine MetI (res := res.1) (own := RX7) (ws' := (XW g q res.2 x_latestFault x_places x_mask x_w_robots x_w_size x_w_nexts x_a_length x_t_length x_t_token x_t_from x_t_value x_t_behind x_r_wants x_r_pairs x_r_sees x_r_row x_b_size x_s_size x_w_names x_w_goals x_w_links x_w_linked x_w_ups x_w_downs x_w_next x_a_begun x_t_bytes x_b_rows x_b_acts x_s_rows x_s_acts)) (by decide) rfl (Nat.le_of_ble_eq_true rfl) ?_
  intro p e s m args below meth c Q F E ret ls J hl
  have hx := F.1
  have hb := F.2.1
  have hl : lv_has ls 6 [(0, .ref (q 0))] := hl
  refine lv_aload_n hx hb dX7_step_0 rfl (lv_at hl 0 rfl) ?_
  refine xg_0_7 F E J fl_X7_69 dX7_step_1 ?_
  refine lv_if_ne (tgt := 10) hx hb dX7_step_4 (by decide) (fun c1 => ?_) (fun c1 => ?_)
  · have h := itn c1 h
    refine lv_aload_n hx hb dX7_step_10 rfl (lv_at hl 0 rfl) ?_
    refine xg_0_7 F E J fl_X7_69 dX7_step_11 ?_
    refine lv_istore_n (lv' := [(1, .int x_crowd), (0, .ref (q 0))]) hx hb dX7_step_14 rfl hl (by decide) rfl (fun ls hl => ?_)
    refine lv_iconst (v := 0) hx hb dX7_step_15 (by decide) ?_
    refine lv_istore_n (lv' := [(2, .int 0), (1, .int x_crowd), (0, .ref (q 0))]) hx hb dX7_step_16 rfl hl (by decide) rfl (fun ls hl => ?_)
    refine lv_iconst (v := 0) hx hb dX7_step_17 (by decide) ?_
    refine lv_istore_n (lv' := [(3, .int 0), (2, .int 0), (1, .int x_crowd), (0, .ref (q 0))]) hx hb dX7_step_18 rfl hl (by decide) rfl (fun ls hl => ?_)
    obtain ⟨o_L2, ho_L2, h⟩ := ob h
    have T_L2 : ∀ (f : Nat) (l1_L2 : Int32) (l2_L2 : Int32) (l3_L2 : Int32) (o_L2 : Int32 × Int32), F_X7_step_L2 x_crowd x_places x_b_size x_b_rows x_b_acts f l1_L2 l2_L2 l3_L2 = some o_L2 → ∀ (H : Heap) (locs : List Loc) (ls : Array Slot), VJ g A s.heap (XW g q x_crowd x_latestFault x_places x_mask x_w_robots x_w_size x_w_nexts x_a_length x_t_length x_t_token x_t_from x_t_value x_t_behind x_r_wants x_r_pairs x_r_sees x_r_row x_b_size x_s_size x_w_names x_w_goals x_w_links x_w_linked x_w_ups x_w_downs x_w_next x_a_begun x_t_bytes x_b_rows x_b_acts x_s_rows x_s_acts) H locs → lv_has ls 6 [(0, .ref (q 0)), (1, .int l1_L2), (2, .int l2_L2), (3, .int l3_L2)] → (∀ (H : Heap) (locs : List Loc) (ls : Array Slot), VJ g A s.heap (XW g q x_crowd x_latestFault x_places x_mask x_w_robots x_w_size x_w_nexts x_a_length x_t_length x_t_token x_t_from x_t_value x_t_behind x_r_wants x_r_pairs x_r_sees x_r_row x_b_size x_s_size x_w_names x_w_goals x_w_links x_w_linked x_w_ups x_w_downs x_w_next x_a_begun x_t_bytes x_b_rows x_b_acts x_s_rows x_s_acts) H locs → lv_has ls 6 [(0, .ref (q 0)), (1, .int o_L2.1), (2, .int o_L2.2)] → W p l e rm_X7_step s m args below meth c H locs 0 0 Q (F0 m 112 ls [])) → W p l e rm_X7_step s m args below meth c H locs 0 0 Q (F0 m 19 ls []) := by
      clear h ho_L2 hl J
      intro f
      induction f with
      | zero => intro l1_L2 l2_L2 l3_L2 o_L2 h; exact absurd h (by simp [F_X7_step_L2])
      | succ f ih =>
        intro l1_L2 l2_L2 l3_L2 o_L2 h H locs ls J hl K_L2
        rw [F_X7_step_L2.eq_2] at h
        refine lv_iload_n hx hb dX7_step_19 rfl (lv_at hl 3 rfl) ?_
        refine lv_aload_n hx hb dX7_step_20 rfl (lv_at hl 0 rfl) ?_
        refine xg_0_0 F E J fl_X7_23 dX7_step_21 ?_
        refine xgN_1_0 (host := RX7) F E J (by decide +kernel) dX7_step_24 ?_
        refine lv_icmp_ge (tgt := 112) hx hb dX7_step_27 (by decide) (fun c3 => ?_) (fun c3 => ?_)
        · have h := itp c3 h
          obtain rfl := Option.some.inj h
          exact K_L2 _ _ _ J (lv_sub hl [0, 1, 2] rfl)
        · have h := itn c3 h
          refine lv_aload_n hx hb dX7_step_30 rfl (lv_at hl 0 rfl) ?_
          refine xg_0_0 F E J fl_X7_23 dX7_step_31 ?_
          refine lv_aload_n hx hb dX7_step_34 rfl (lv_at hl 0 rfl) ?_
          refine xg_0_7 F E J fl_X7_69 dX7_step_35 ?_
          refine lv_iload_n hx hb dX7_step_38 rfl (lv_at hl 3 rfl) ?_
          obtain ⟨p4, hp4, h⟩ := ob h
          refine onI (runV (As := [.int x_crowd, .int l3_L2]) (rest := []) F E J (c_X3_manyAt x_crowd l3_L2 p4 hp4) cw_X7_89 ⟨rfl, rfl, Nat.le_of_ble_eq_true rfl, Nat.le_of_ble_eq_true rfl⟩ rcX1 rfl hl.1 rfl (Nat.le_of_ble_eq_true rfl) dX7_step_39) J (fun H locs J => ?_)
          refine lv_istore (lv' := [(4, .int p4), (0, .ref (q 0)), (1, .int l1_L2), (2, .int l2_L2), (3, .int l3_L2)]) hx hb dX7_step_42 hl (by decide) rfl (fun ls hl => ?_)
          refine lv_iload hx hb dX7_step_44 (lv_at hl 0 rfl) ?_
          obtain ⟨j5, hj5, h⟩ := ob h
          have Kj5 : ∀ (H : Heap) (locs : List Loc) (ls : Array Slot), VJ g A s.heap (XW g q x_crowd x_latestFault x_places x_mask x_w_robots x_w_size x_w_nexts x_a_length x_t_length x_t_token x_t_from x_t_value x_t_behind x_r_wants x_r_pairs x_r_sees x_r_row x_b_size x_s_size x_w_names x_w_goals x_w_links x_w_linked x_w_ups x_w_downs x_w_next x_a_begun x_t_bytes x_b_rows x_b_acts x_s_rows x_s_acts) H locs → lv_has ls 6 [(0, .ref (q 0)), (1, .int l1_L2), (2, .int l2_L2), (3, .int l3_L2), (4, .int p4)] → W p l e rm_X7_step s m args below meth c H locs 0 0 Q (F0 m 69 ls [.int j5]) := by
            intro H locs ls J hl
            refine lv_istore (lv' := [(5, .int j5), (0, .ref (q 0)), (1, .int l1_L2), (2, .int l2_L2), (3, .int l3_L2), (4, .int p4)]) hx hb dX7_step_69 hl (by decide) rfl (fun ls hl => ?_)
            refine lv_iload hx hb dX7_step_71 (lv_at hl 0 rfl) ?_
            obtain ⟨j8, hj8, h⟩ := ob h
            have Kj8 : ∀ (H : Heap) (locs : List Loc) (ls : Array Slot), VJ g A s.heap (XW g q x_crowd x_latestFault x_places x_mask x_w_robots x_w_size x_w_nexts x_a_length x_t_length x_t_token x_t_from x_t_value x_t_behind x_r_wants x_r_pairs x_r_sees x_r_row x_b_size x_s_size x_w_names x_w_goals x_w_links x_w_linked x_w_ups x_w_downs x_w_next x_a_begun x_t_bytes x_b_rows x_b_acts x_s_rows x_s_acts) H locs → lv_has ls 6 [(0, .ref (q 0)), (1, .int j8.1), (2, .int j8.2), (3, .int l3_L2)] → W p l e rm_X7_step s m args below meth c H locs 0 0 Q (F0 m 106 ls []) := by
              intro H locs ls J hl
              obtain ⟨v15, hv15, h⟩ := obs h
              refine lv_iinc (v := v15) (lv' := [(3, .int v15), (0, .ref (q 0)), (1, .int j8.1), (2, .int j8.2)]) hx hb dX7_step_106 hl (k := 3) rfl (by rw [← hv15]; rfl) (by decide) rfl (fun ls hl => ?_)
              refine lv_goto (tgt := 19) hx hb dX7_step_109 (by decide) ?_
              exact ih _ _ _ _ h _ _ _ J (lv_sub hl [1, 2, 3, 0] rfl) K_L2
            clear h
            have h := hj8
            refine lv_if_eq (tgt := 106) hx hb dX7_step_73 (by decide) (fun c9 => ?_) (fun c9 => ?_)
            · have h := itp c9 h
              obtain rfl := Option.some.inj h
              exact Kj8 _ _ _ J (lv_sub hl [1, 2, 3, 4] rfl)
            · have h := itn c9 h
              refine lv_iload_n hx hb dX7_step_76 rfl (lv_at hl 2 rfl) ?_
              refine lv_iload hx hb dX7_step_77 (lv_at hl 5 rfl) ?_
              refine lv_aload_n hx hb dX7_step_79 rfl (lv_at hl 1 rfl) ?_
              refine xg_0_0 F E J fl_X7_23 dX7_step_80 ?_
              refine lv_iload_n hx hb dX7_step_83 rfl (lv_at hl 4 rfl) ?_
              refine lv_iload hx hb dX7_step_84 (lv_at hl 0 rfl) ?_
              refine lv_iconst (v := (-1)) hx hb dX7_step_86 (by decide) ?_
              obtain ⟨j10, hj10, h⟩ := ob h
              have Kj10 : ∀ (H : Heap) (locs : List Loc) (ls : Array Slot), VJ g A s.heap (XW g q x_crowd x_latestFault x_places x_mask x_w_robots x_w_size x_w_nexts x_a_length x_t_length x_t_token x_t_from x_t_value x_t_behind x_r_wants x_r_pairs x_r_sees x_r_row x_b_size x_s_size x_w_names x_w_goals x_w_links x_w_linked x_w_ups x_w_downs x_w_next x_a_begun x_t_bytes x_b_rows x_b_acts x_s_rows x_s_acts) H locs → lv_has ls 6 [(0, .ref (q 0)), (2, .int l2_L2), (3, .int l3_L2), (4, .int p4)] → W p l e rm_X7_step s m args below meth c H locs 0 0 Q (F0 m 95 ls [.int j10, .int l3_L2, .ref (q 1), .int p4, .int l1_L2]) := by
                intro H locs ls J hl
                obtain ⟨p12, hp12, h⟩ := ob h
                refine onI (runV (As := [.int l3_L2, .int j10]) (rest := [.int p4, .int l1_L2]) F E J (c_X3_shift l3_L2 j10 p12 hp12) cw_X7_121 ⟨rfl, rfl, Nat.le_of_ble_eq_true rfl, Nat.le_of_ble_eq_true rfl⟩ rcX1 rfl hl.1 rfl (Nat.le_of_ble_eq_true rfl) dX7_step_95) J (fun H locs J => ?_)
                refine lv_imul hx hb dX7_step_98 ?_
                refine lv_iadd hx hb dX7_step_99 ?_
                obtain ⟨v13, hv13, h⟩ := obs h
                refine nmI hv13 ?_
                refine lv_istore_n (lv' := [(1, .int v13), (0, .ref (q 0)), (2, .int l2_L2), (3, .int l3_L2), (4, .int p4)]) hx hb dX7_step_100 rfl hl (by decide) rfl (fun ls hl => ?_)
                refine lv_iload_n hx hb dX7_step_101 rfl (lv_at hl 2 rfl) ?_
                refine lv_iload hx hb dX7_step_102 (lv_at hl 4 rfl) ?_
                refine lv_iadd hx hb dX7_step_104 ?_
                obtain ⟨v14, hv14, h⟩ := obs h
                refine nmI hv14 ?_
                refine lv_istore_n (lv' := [(2, .int v14), (1, .int v13), (0, .ref (q 0)), (3, .int l3_L2), (4, .int p4)]) hx hb dX7_step_105 rfl hl (by decide) rfl (fun ls hl => ?_)
                obtain rfl := Option.some.inj h
                exact Kj8 _ _ _ J (lv_sub hl [2, 1, 0, 3] rfl)
              clear h
              have h := hj10
              refine lv_icmp_ne (tgt := 94) hx hb dX7_step_87 (by decide) (fun c11 => ?_) (fun c11 => ?_)
              · have h := itn c11 h
                refine lv_iconst (v := 1) hx hb dX7_step_94 (by decide) ?_
                obtain rfl := Option.some.inj h
                exact Kj10 _ _ _ J (lv_sub hl [1, 3, 4, 5] rfl)
              · have h := itp c11 h
                refine lv_iconst (v := (-1)) hx hb dX7_step_90 (by decide) ?_
                refine lv_goto (tgt := 95) hx hb dX7_step_91 (by decide) ?_
                obtain rfl := Option.some.inj h
                exact Kj10 _ _ _ J (lv_sub hl [1, 3, 4, 5] rfl)
          clear h
          have h := hj5
          refine lv_if_ne (tgt := 53) hx hb dX7_step_46 (by decide) (fun c6 => ?_) (fun c6 => ?_)
          · have h := itn c6 h
            refine lv_aload_n hx hb dX7_step_53 rfl (lv_at hl 1 rfl) ?_
            refine xg_0_5 F E J fl_X7_62 dX7_step_54 ?_
            refine lv_aload_n hx hb dX7_step_57 rfl (lv_at hl 1 rfl) ?_
            refine xg_0_0 F E J fl_X7_23 dX7_step_58 ?_
            refine lv_aload_n hx hb dX7_step_61 rfl (lv_at hl 1 rfl) ?_
            refine xg_0_7 F E J fl_X7_69 dX7_step_62 ?_
            refine lv_iload_n hx hb dX7_step_65 rfl (lv_at hl 4 rfl) ?_
            obtain ⟨p7, hp7, h⟩ := ob h
            refine onI (runV (As := [.ref (q 1), .int x_crowd, .int l3_L2]) (rest := []) F E J (c_X1_moveAt_b x_crowd l3_L2 p7 hp7) cw_X7_103 ⟨rfl, rfl, Nat.le_of_ble_eq_true rfl, Nat.le_of_ble_eq_true rfl⟩ rcX6 rfl hl.1 rfl (Nat.le_of_ble_eq_true rfl) dX7_step_66) J (fun H locs J => ?_)
            obtain rfl := Option.some.inj h
            exact Kj5 _ _ _ J (lv_sub hl [1, 2, 3, 4, 0] rfl)
          · have h := itp c6 h
            refine lv_iconst (v := 0) hx hb dX7_step_49 (by decide) ?_
            refine lv_goto (tgt := 69) hx hb dX7_step_50 (by decide) ?_
            obtain rfl := Option.some.inj h
            exact Kj5 _ _ _ J (lv_sub hl [1, 2, 3, 4, 0] rfl)
    refine T_L2 FU x_crowd 0 0 o_L2 ho_L2 _ _ _ J (lv_sub hl [3, 2, 1, 0] rfl) (fun H locs ls J hl => ?_)
    refine lv_aload_n hx hb dX7_step_112 rfl (lv_at hl 0 rfl) ?_
    refine lv_iload_n hx hb dX7_step_113 rfl (lv_at hl 1 rfl) ?_
    refine xp_0_7 F E J fl_X7_69 dX7_step_114 (fun H locs J => ?_)
    refine lv_iload_n hx hb dX7_step_117 rfl (lv_at hl 2 rfl) ?_
    obtain rfl := Option.some.inj h
    exact ret _ _ _ _ J dX7_step_118
  · have h := itp c1 h
    refine lv_ldc hx hb F.2.2.2.1 (F.2.2.2.2 _ kc_X7_117) dX7_step_7 ?_
    obtain rfl := Option.some.inj h
    exact ret _ _ _ _ J dX7_step_9
set_option maxHeartbeats 4000000 in
set_option maxRecDepth 100000 in
theorem c_X7_go {l : Launch} {g : GG} {A : Nat → Prop} {q : Nat → Nat} {x_crowd x_latestFault x_places x_mask x_w_robots x_w_size x_w_nexts x_a_length x_t_length x_t_token x_t_from x_t_value x_t_behind x_r_wants x_r_pairs x_r_sees : Int32} {x_r_row : Int64} {x_b_size x_s_size : Int32} {x_w_names : Nat → Int32} {x_w_goals x_w_links : Nat → Int64} {x_w_linked x_w_ups x_w_downs x_w_next x_a_begun x_t_bytes : Nat → Int32} {x_b_rows : Nat → Int64} {x_b_acts : Nat → Int32} {x_s_rows : Nat → Int64} {x_s_acts : Nat → Int32} (a0 : Int32) (a1 : Int32) (res : Int32 × Int32) (h : F_X7_go a0 a1 x_crowd x_places x_b_size x_b_rows x_b_acts = some res) : Met l yX7_go (wS yX7_go cX7_go 4 (some .int)) rm_X7_go (va_Pc [.ref (q 0), .int a0, .int a1] (VB g A (XW g q x_crowd x_latestFault x_places x_mask x_w_robots x_w_size x_w_nexts x_a_length x_t_length x_t_token x_t_from x_t_value x_t_behind x_r_wants x_r_pairs x_r_sees x_r_row x_b_size x_s_size x_w_names x_w_goals x_w_links x_w_linked x_w_ups x_w_downs x_w_next x_a_begun x_t_bytes x_b_rows x_b_acts x_s_rows x_s_acts))) (va_Qi (fun r (_ : Unit) => r = res.1) (fun _ => VB g A (XW g q res.2 x_latestFault x_places x_mask x_w_robots x_w_size x_w_nexts x_a_length x_t_length x_t_token x_t_from x_t_value x_t_behind x_r_wants x_r_pairs x_r_sees x_r_row x_b_size x_s_size x_w_names x_w_goals x_w_links x_w_linked x_w_ups x_w_downs x_w_next x_a_begun x_t_bytes x_b_rows x_b_acts x_s_rows x_s_acts)) A) 0 0 A := by
  unfold F_X7_go at h
  refine MetI (res := res.1) (own := RX7) (ws' := (XW g q res.2 x_latestFault x_places x_mask x_w_robots x_w_size x_w_nexts x_a_length x_t_length x_t_token x_t_from x_t_value x_t_behind x_r_wants x_r_pairs x_r_sees x_r_row x_b_size x_s_size x_w_names x_w_goals x_w_links x_w_linked x_w_ups x_w_downs x_w_next x_a_begun x_t_bytes x_b_rows x_b_acts x_s_rows x_s_acts)) (by decide) rfl (Nat.le_of_ble_eq_true rfl) ?_
  intro p e s m args below meth c Q F E ret ls J hl
  have hx := F.1
  have hb := F.2.1
  have hl : lv_has ls 4 [(0, .ref (q 0)), (1, .int a0), (2, .int a1)] := hl
  refine lv_aload_n hx hb dX7_go_0 rfl (lv_at hl 0 rfl) ?_
  refine lv_iload_n hx hb dX7_go_1 rfl (lv_at hl 1 rfl) ?_
  obtain ⟨p1, hp1, h⟩ := ob h
  refine onZ (runV (As := [.int a0]) (rest := []) F E J (c_X7_noPlace a0 p1 hp1) cw_X7_76 ⟨rfl, rfl, Nat.le_of_ble_eq_true rfl, Nat.le_of_ble_eq_true rfl⟩ rcX0 rfl hl.1 rfl (Nat.le_of_ble_eq_true rfl) dX7_go_2) J (fun hzbp1 H locs J => ?_)
  refine lv_if_eq (tgt := 11) hx hb dX7_go_5 (by decide) (fun c2 => ?_) (fun c2 => ?_)
  · have h := itp c2 h
    refine lv_aload_n hx hb dX7_go_11 rfl (lv_at hl 0 rfl) ?_
    refine xg_0_0 F E J fl_X7_23 dX7_go_12 ?_
    refine lv_aload_n hx hb dX7_go_15 rfl (lv_at hl 0 rfl) ?_
    refine xg_0_7 F E J fl_X7_69 dX7_go_16 ?_
    refine lv_iload_n hx hb dX7_go_19 rfl (lv_at hl 1 rfl) ?_
    obtain ⟨p3, hp3, h⟩ := ob h
    refine onI (runV (As := [.int x_crowd, .int a0]) (rest := []) F E J (c_X3_manyAt x_crowd a0 p3 hp3) cw_X7_89 ⟨rfl, rfl, Nat.le_of_ble_eq_true rfl, Nat.le_of_ble_eq_true rfl⟩ rcX1 rfl hl.1 rfl (Nat.le_of_ble_eq_true rfl) dX7_go_20) J (fun H locs J => ?_)
    obtain ⟨j4, hj4, h⟩ := ob h
    have Kj4 : ∀ (H : Heap) (locs : List Loc) (ls : Array Slot), VJ g A s.heap (XW g q x_crowd x_latestFault x_places x_mask x_w_robots x_w_size x_w_nexts x_a_length x_t_length x_t_token x_t_from x_t_value x_t_behind x_r_wants x_r_pairs x_r_sees x_r_row x_b_size x_s_size x_w_names x_w_goals x_w_links x_w_linked x_w_ups x_w_downs x_w_next x_a_begun x_t_bytes x_b_rows x_b_acts x_s_rows x_s_acts) H locs → lv_has ls 4 [(0, .ref (q 0)), (1, .int a0), (2, .int a1)] → W p l e rm_X7_go s m args below meth c H locs 0 0 Q (F0 m 46 ls [.int j4]) := by
      intro H locs ls J hl
      refine lv_istore_n (lv' := [(3, .int j4), (0, .ref (q 0)), (1, .int a0), (2, .int a1)]) hx hb dX7_go_46 rfl hl (by decide) rfl (fun ls hl => ?_)
      refine lv_iload_n hx hb dX7_go_47 rfl (lv_at hl 0 rfl) ?_
      refine lv_if_ne (tgt := 54) hx hb dX7_go_48 (by decide) (fun c7 => ?_) (fun c7 => ?_)
      · have h := itn c7 h
        refine lv_iload_n hx hb dX7_go_54 rfl (lv_at hl 0 rfl) ?_
        refine lv_iconst (v := 2) hx hb dX7_go_55 (by decide) ?_
        obtain ⟨j8, hj8, h⟩ := ob h
        have Kj8 : ∀ (H : Heap) (locs : List Loc) (ls : Array Slot), VJ g A s.heap (XW g q x_crowd x_latestFault x_places x_mask x_w_robots x_w_size x_w_nexts x_a_length x_t_length x_t_token x_t_from x_t_value x_t_behind x_r_wants x_r_pairs x_r_sees x_r_row x_b_size x_s_size x_w_names x_w_goals x_w_links x_w_linked x_w_ups x_w_downs x_w_next x_a_begun x_t_bytes x_b_rows x_b_acts x_s_rows x_s_acts) H locs → lv_has ls 4 [(0, .ref (q 0)), (1, .int a0), (3, .int j8)] → W p l e rm_X7_go s m args below meth c H locs 0 0 Q (F0 m 70 ls []) := by
          intro H locs ls J hl
          refine lv_aload_n hx hb dX7_go_70 rfl (lv_at hl 0 rfl) ?_
          refine lv_dup hx hb dX7_go_71 rfl ?_
          refine xg_0_7 F E J fl_X7_69 dX7_go_72 ?_
          refine lv_aload_n hx hb dX7_go_75 rfl (lv_at hl 0 rfl) ?_
          refine xg_0_0 F E J fl_X7_23 dX7_go_76 ?_
          refine lv_iload_n hx hb dX7_go_79 rfl (lv_at hl 1 rfl) ?_
          refine lv_iload_n hx hb dX7_go_80 rfl (lv_at hl 2 rfl) ?_
          obtain ⟨p12, hp12, h⟩ := ob h
          refine onI (runV (As := [.int a0, .int j8]) (rest := [.int x_crowd, .ref (q 0)]) F E J (c_X3_shift a0 j8 p12 hp12) cw_X7_121 ⟨rfl, rfl, Nat.le_of_ble_eq_true rfl, Nat.le_of_ble_eq_true rfl⟩ rcX1 rfl hl.1 rfl (Nat.le_of_ble_eq_true rfl) dX7_go_81) J (fun H locs J => ?_)
          refine lv_iadd hx hb dX7_go_84 ?_
          obtain ⟨v13, hv13, h⟩ := obs h
          refine nmI hv13 ?_
          refine xp_0_7 F E J fl_X7_69 dX7_go_85 (fun H locs J => ?_)
          refine lv_iconst (v := 1) hx hb dX7_go_88 (by decide) ?_
          obtain rfl := Option.some.inj h
          exact ret _ _ _ _ J dX7_go_89
        clear h
        have h := hj8
        refine lv_icmp_ne (tgt := 70) hx hb dX7_go_56 (by decide) (fun c9 => ?_) (fun c9 => ?_)
        · have h := itn c9 h
          obtain rfl := Option.some.inj h
          exact Kj8 _ _ _ J (lv_sub hl [1, 2, 0] rfl)
        · have h := itp c9 h
          refine lv_iload_n hx hb dX7_go_59 rfl (lv_at hl 3 rfl) ?_
          refine lv_iconst (v := 1) hx hb dX7_go_60 (by decide) ?_
          obtain ⟨j10, hj10, h⟩ := ob h
          have Kj10 : ∀ (H : Heap) (locs : List Loc) (ls : Array Slot), VJ g A s.heap (XW g q x_crowd x_latestFault x_places x_mask x_w_robots x_w_size x_w_nexts x_a_length x_t_length x_t_token x_t_from x_t_value x_t_behind x_r_wants x_r_pairs x_r_sees x_r_row x_b_size x_s_size x_w_names x_w_goals x_w_links x_w_linked x_w_ups x_w_downs x_w_next x_a_begun x_t_bytes x_b_rows x_b_acts x_s_rows x_s_acts) H locs → lv_has ls 4 [(0, .ref (q 0)), (1, .int a0)] → W p l e rm_X7_go s m args below meth c H locs 0 0 Q (F0 m 69 ls [.int j10]) := by
            intro H locs ls J hl
            refine lv_istore_n (lv' := [(3, .int j10), (0, .ref (q 0)), (1, .int a0)]) hx hb dX7_go_69 rfl hl (by decide) rfl (fun ls hl => ?_)
            obtain rfl := Option.some.inj h
            exact Kj8 _ _ _ J (lv_sub hl [1, 2, 0] rfl)
          clear h
          have h := hj10
          refine lv_icmp_ne (tgt := 68) hx hb dX7_go_61 (by decide) (fun c11 => ?_) (fun c11 => ?_)
          · have h := itn c11 h
            refine lv_iconst (v := (-1)) hx hb dX7_go_68 (by decide) ?_
            obtain rfl := Option.some.inj h
            exact Kj10 _ _ _ J (lv_sub hl [1, 2] rfl)
          · have h := itp c11 h
            refine lv_iconst (v := 1) hx hb dX7_go_64 (by decide) ?_
            refine lv_goto (tgt := 69) hx hb dX7_go_65 (by decide) ?_
            obtain rfl := Option.some.inj h
            exact Kj10 _ _ _ J (lv_sub hl [1, 2] rfl)
      · have h := itp c7 h
        refine lv_ldc hx hb F.2.2.2.1 (F.2.2.2.2 _ kc_X7_117) dX7_go_51 ?_
        obtain rfl := Option.some.inj h
        exact ret _ _ _ _ J dX7_go_53
    clear h
    have h := hj4
    refine lv_if_ne (tgt := 30) hx hb dX7_go_23 (by decide) (fun c5 => ?_) (fun c5 => ?_)
    · have h := itn c5 h
      refine lv_aload_n hx hb dX7_go_30 rfl (lv_at hl 0 rfl) ?_
      refine xg_0_5 F E J fl_X7_62 dX7_go_31 ?_
      refine lv_aload_n hx hb dX7_go_34 rfl (lv_at hl 0 rfl) ?_
      refine xg_0_0 F E J fl_X7_23 dX7_go_35 ?_
      refine lv_aload_n hx hb dX7_go_38 rfl (lv_at hl 0 rfl) ?_
      refine xg_0_7 F E J fl_X7_69 dX7_go_39 ?_
      refine lv_iload_n hx hb dX7_go_42 rfl (lv_at hl 1 rfl) ?_
      obtain ⟨p6, hp6, h⟩ := ob h
      refine onI (runV (As := [.ref (q 1), .int x_crowd, .int a0]) (rest := []) F E J (c_X1_moveAt_b x_crowd a0 p6 hp6) cw_X7_103 ⟨rfl, rfl, Nat.le_of_ble_eq_true rfl, Nat.le_of_ble_eq_true rfl⟩ rcX6 rfl hl.1 rfl (Nat.le_of_ble_eq_true rfl) dX7_go_43) J (fun H locs J => ?_)
      obtain rfl := Option.some.inj h
      exact Kj4 _ _ _ J (lv_sub hl [0, 1, 2] rfl)
    · have h := itp c5 h
      refine lv_iconst (v := 0) hx hb dX7_go_26 (by decide) ?_
      refine lv_goto (tgt := 46) hx hb dX7_go_27 (by decide) ?_
      obtain rfl := Option.some.inj h
      exact Kj4 _ _ _ J (lv_sub hl [0, 1, 2] rfl)
  · have h := itn c2 h
    refine lv_ldc hx hb F.2.2.2.1 (F.2.2.2.2 _ kc_X7_80) dX7_go_8 ?_
    obtain rfl := Option.some.inj h
    exact ret _ _ _ _ J dX7_go_10
set_option maxHeartbeats 4000000 in
set_option maxRecDepth 100000 in
theorem c_X5_append {l : Launch} {g : GG} {A : Nat → Prop} {q : Nat → Nat} {x_crowd x_latestFault x_places x_mask x_w_robots x_w_size x_w_nexts x_a_length x_t_length x_t_token x_t_from x_t_value x_t_behind x_r_wants x_r_pairs x_r_sees : Int32} {x_r_row : Int64} {x_b_size x_s_size : Int32} {x_w_names : Nat → Int32} {x_w_goals x_w_links : Nat → Int64} {x_w_linked x_w_ups x_w_downs x_w_next x_a_begun x_t_bytes : Nat → Int32} {x_b_rows : Nat → Int64} {x_b_acts : Nat → Int32} {x_s_rows : Nat → Int64} {x_s_acts : Nat → Int32} (a0 : Int64) (a1 : Int32) (res : Int32 × Int32 × (Nat → Int32)) (h : F_X5_append a0 a1 x_t_length x_t_bytes = some res) : Met l yX5_append (wS yX5_append cX5_append 5 (some .boolean)) rm_X5_append (va_Pc [.ref (q 4), .long a0, .int a1] (VB g A (XW g q x_crowd x_latestFault x_places x_mask x_w_robots x_w_size x_w_nexts x_a_length x_t_length x_t_token x_t_from x_t_value x_t_behind x_r_wants x_r_pairs x_r_sees x_r_row x_b_size x_s_size x_w_names x_w_goals x_w_links x_w_linked x_w_ups x_w_downs x_w_next x_a_begun x_t_bytes x_b_rows x_b_acts x_s_rows x_s_acts))) (va_Qi (fun r (_ : Unit) => r = res.1 ∧ zB r) (fun _ => VB g A (XW g q x_crowd x_latestFault x_places x_mask x_w_robots x_w_size x_w_nexts x_a_length res.2.1 x_t_token x_t_from x_t_value x_t_behind x_r_wants x_r_pairs x_r_sees x_r_row x_b_size x_s_size x_w_names x_w_goals x_w_links x_w_linked x_w_ups x_w_downs x_w_next x_a_begun res.2.2 x_b_rows x_b_acts x_s_rows x_s_acts)) A) 0 0 A := by
  unfold F_X5_append at h
  refine MetZ (res := res.1) (own := RX5) (ws' := (XW g q x_crowd x_latestFault x_places x_mask x_w_robots x_w_size x_w_nexts x_a_length res.2.1 x_t_token x_t_from x_t_value x_t_behind x_r_wants x_r_pairs x_r_sees x_r_row x_b_size x_s_size x_w_names x_w_goals x_w_links x_w_linked x_w_ups x_w_downs x_w_next x_a_begun res.2.2 x_b_rows x_b_acts x_s_rows x_s_acts)) (by decide) rfl (Nat.le_of_ble_eq_true rfl) ?_
  intro p e s m args below meth c Q F E ret ls J hl
  have hx := F.1
  have hb := F.2.1
  have hl : lv_has ls 5 [(0, .ref (q 4)), (1, .long a0), (3, .int a1)] := hl
  refine lv_aload_n hx hb dX5_append_0 rfl (lv_at hl 0 rfl) ?_
  refine xg_4_1 F E J fl_X5_15 dX5_append_1 ?_
  refine lv_iload_n hx hb dX5_append_4 rfl (lv_at hl 2 rfl) ?_
  refine lv_iadd hx hb dX5_append_5 ?_
  refine lv_sipush (v := 400) hx hb dX5_append_6 (by decide) ?_
  refine lv_icmp_le (tgt := 14) hx hb dX5_append_9 (by decide) (fun c1 => ?_) (fun c1 => ?_)
  · have h := itp c1 h
    refine lv_iload_n hx hb dX5_append_14 rfl (lv_at hl 2 rfl) ?_
    refine lv_iconst (v := 1) hx hb dX5_append_15 (by decide) ?_
    refine lv_isub hx hb dX5_append_16 ?_
    obtain ⟨v2, hv2, h⟩ := obs h
    refine nmI hv2 ?_
    refine lv_istore (lv' := [(4, .int v2), (0, .ref (q 4)), (1, .long a0), (3, .int a1)]) hx hb dX5_append_17 hl (by decide) rfl (fun ls hl => ?_)
    obtain ⟨o_L3, ho_L3, h⟩ := ob h
    have T_L3 : ∀ (f : Nat) (l4_L3 : Int32) (x_t_length_L3 : Int32) (x_t_bytes_L3 : Nat → Int32) (o_L3 : Int32 × (Nat → Int32)), F_X5_append_L3 a0 f l4_L3 x_t_length_L3 x_t_bytes_L3 = some o_L3 → ∀ (H : Heap) (locs : List Loc) (ls : Array Slot), VJ g A s.heap (XW g q x_crowd x_latestFault x_places x_mask x_w_robots x_w_size x_w_nexts x_a_length x_t_length_L3 x_t_token x_t_from x_t_value x_t_behind x_r_wants x_r_pairs x_r_sees x_r_row x_b_size x_s_size x_w_names x_w_goals x_w_links x_w_linked x_w_ups x_w_downs x_w_next x_a_begun x_t_bytes_L3 x_b_rows x_b_acts x_s_rows x_s_acts) H locs → lv_has ls 5 [(0, .ref (q 4)), (1, .long a0), (4, .int l4_L3)] → (∀ (H : Heap) (locs : List Loc) (ls : Array Slot), VJ g A s.heap (XW g q x_crowd x_latestFault x_places x_mask x_w_robots x_w_size x_w_nexts x_a_length o_L3.1 x_t_token x_t_from x_t_value x_t_behind x_r_wants x_r_pairs x_r_sees x_r_row x_b_size x_s_size x_w_names x_w_goals x_w_links x_w_linked x_w_ups x_w_downs x_w_next x_a_begun o_L3.2 x_b_rows x_b_acts x_s_rows x_s_acts) H locs → lv_has ls 5 [] → W p l e rm_X5_append s m args below meth c H locs 0 0 Q (F0 m 61 ls [])) → W p l e rm_X5_append s m args below meth c H locs 0 0 Q (F0 m 19 ls []) := by
      clear h ho_L3 hl J
      intro f
      induction f with
      | zero => intro l4_L3 x_t_length_L3 x_t_bytes_L3 o_L3 h; exact absurd h (by simp [F_X5_append_L3])
      | succ f ih =>
        intro l4_L3 x_t_length_L3 x_t_bytes_L3 o_L3 h H locs ls J hl K_L3
        rw [F_X5_append_L3.eq_2] at h
        refine lv_iload hx hb dX5_append_19 (lv_at hl 2 rfl) ?_
        refine lv_if_lt (tgt := 61) hx hb dX5_append_21 (by decide) (fun c4 => ?_) (fun c4 => ?_)
        · have h := itp c4 h
          obtain rfl := Option.some.inj h
          exact K_L3 _ _ _ J (lv_sub hl [] rfl)
        · have h := itn c4 h
          refine lv_aload_n hx hb dX5_append_24 rfl (lv_at hl 0 rfl) ?_
          refine xg_4_0 F E J fl_X5_9 dX5_append_25 ?_
          refine lv_aload_n hx hb dX5_append_28 rfl (lv_at hl 0 rfl) ?_
          refine xg_4_1 F E J fl_X5_15 dX5_append_29 ?_
          refine lv_lload_n hx hb dX5_append_32 rfl (lv_at hl 1 rfl) ?_
          refine lv_bipush (v := 8) hx hb dX5_append_33 (by decide) ?_
          refine lv_iload hx hb dX5_append_35 (lv_at hl 2 rfl) ?_
          refine lv_imul hx hb dX5_append_37 ?_
          refine lv_lushr (v := (jlushr a0 (8 * l4_L3))) hx hb dX5_append_38 rfl ?_
          refine lv_l2i (v := (Int64.toInt32 (jlushr a0 (8 * l4_L3)))) hx hb dX5_append_39 rfl ?_
          refine lv_sipush (v := 255) hx hb dX5_append_40 (by decide) ?_
          refine lv_iand hx hb dX5_append_43 ?_
          obtain ⟨v5, hv5, h⟩ := obs h
          refine nmI hv5 ?_
          obtain ⟨hi, h⟩ := gdt h
          refine xs_16 F E J (inbt hi) dX5_append_44 (fun H locs J => ?_)
          refine lv_aload_n hx hb dX5_append_45 rfl (lv_at hl 0 rfl) ?_
          refine lv_dup hx hb dX5_append_46 rfl ?_
          refine xg_4_1 F E J fl_X5_15 dX5_append_47 ?_
          refine lv_iconst (v := 1) hx hb dX5_append_50 (by decide) ?_
          refine lv_iadd hx hb dX5_append_51 ?_
          obtain ⟨v6, hv6, h⟩ := obs h
          refine nmI hv6 ?_
          refine xp_4_1 F E J fl_X5_15 dX5_append_52 (fun H locs J => ?_)
          obtain ⟨v7, hv7, h⟩ := obs h
          refine lv_iinc (v := v7) (lv' := [(4, .int v7), (0, .ref (q 4)), (1, .long a0)]) hx hb dX5_append_55 hl (k := 2) rfl (by rw [← hv7]; rfl) (by decide) rfl (fun ls hl => ?_)
          refine lv_goto (tgt := 19) hx hb dX5_append_58 (by decide) ?_
          exact ih _ _ _ _ h _ _ _ J (lv_sub hl [1, 2, 0] rfl) K_L3
    refine T_L3 FU v2 x_t_length x_t_bytes o_L3 ho_L3 _ _ _ J (lv_sub hl [1, 2, 0] rfl) (fun H locs ls J hl => ?_)
    refine lv_iconst (v := 1) hx hb dX5_append_61 (by decide) ?_
    obtain rfl := Option.some.inj h
    exact ret _ _ _ _ zB1 J dX5_append_62
  · have h := itn c1 h
    refine lv_iconst (v := 0) hx hb dX5_append_12 (by decide) ?_
    obtain rfl := Option.some.inj h
    exact ret _ _ _ _ zB0 J dX5_append_13
set_option maxHeartbeats 4000000 in
set_option maxRecDepth 100000 in
theorem c_X7_feed {l : Launch} {g : GG} {A : Nat → Prop} {q : Nat → Nat} {x_crowd x_latestFault x_places x_mask x_w_robots x_w_size x_w_nexts x_a_length x_t_length x_t_token x_t_from x_t_value x_t_behind x_r_wants x_r_pairs x_r_sees : Int32} {x_r_row : Int64} {x_b_size x_s_size : Int32} {x_w_names : Nat → Int32} {x_w_goals x_w_links : Nat → Int64} {x_w_linked x_w_ups x_w_downs x_w_next x_a_begun x_t_bytes : Nat → Int32} {x_b_rows : Nat → Int64} {x_b_acts : Nat → Int32} {x_s_rows : Nat → Int64} {x_s_acts : Nat → Int32} (a0 : Int64) (a1 : Int32) (res : Int32 × Int32 × (Nat → Int32)) (h : F_X7_feed a0 a1 x_t_length x_t_bytes = some res) : Met l yX7_feed (wS yX7_feed cX7_feed 4 (some .int)) rm_X7_feed (va_Pc [.ref (q 0), .long a0, .int a1] (VB g A (XW g q x_crowd x_latestFault x_places x_mask x_w_robots x_w_size x_w_nexts x_a_length x_t_length x_t_token x_t_from x_t_value x_t_behind x_r_wants x_r_pairs x_r_sees x_r_row x_b_size x_s_size x_w_names x_w_goals x_w_links x_w_linked x_w_ups x_w_downs x_w_next x_a_begun x_t_bytes x_b_rows x_b_acts x_s_rows x_s_acts))) (va_Qi (fun r (_ : Unit) => r = res.1) (fun _ => VB g A (XW g q x_crowd x_latestFault x_places x_mask x_w_robots x_w_size x_w_nexts x_a_length res.2.1 x_t_token x_t_from x_t_value x_t_behind x_r_wants x_r_pairs x_r_sees x_r_row x_b_size x_s_size x_w_names x_w_goals x_w_links x_w_linked x_w_ups x_w_downs x_w_next x_a_begun res.2.2 x_b_rows x_b_acts x_s_rows x_s_acts)) A) 0 0 A := by
  unfold F_X7_feed at h
  refine MetI (res := res.1) (own := RX7) (ws' := (XW g q x_crowd x_latestFault x_places x_mask x_w_robots x_w_size x_w_nexts x_a_length res.2.1 x_t_token x_t_from x_t_value x_t_behind x_r_wants x_r_pairs x_r_sees x_r_row x_b_size x_s_size x_w_names x_w_goals x_w_links x_w_linked x_w_ups x_w_downs x_w_next x_a_begun res.2.2 x_b_rows x_b_acts x_s_rows x_s_acts)) (by decide) rfl (Nat.le_of_ble_eq_true rfl) ?_
  intro p e s m args below meth c Q F E ret ls J hl
  have hx := F.1
  have hb := F.2.1
  have hl : lv_has ls 4 [(0, .ref (q 0)), (1, .long a0), (3, .int a1)] := hl
  refine lv_iload_n hx hb dX7_feed_0 rfl (lv_at hl 2 rfl) ?_
  refine lv_iconst (v := 1) hx hb dX7_feed_1 (by decide) ?_
  refine lv_icmp_lt (tgt := 11) hx hb dX7_feed_2 (by decide) (fun c1 => ?_) (fun c1 => ?_)
  · have h := itp c1 h
    refine lv_ldc hx hb F.2.2.2.1 (F.2.2.2.2 _ kc_X7_80) dX7_feed_11 ?_
    obtain rfl := Option.some.inj h
    exact ret _ _ _ _ J dX7_feed_13
  · have h := itn c1 h
    refine lv_iload_n hx hb dX7_feed_5 rfl (lv_at hl 2 rfl) ?_
    refine lv_bipush (v := 8) hx hb dX7_feed_6 (by decide) ?_
    refine lv_icmp_le (tgt := 14) hx hb dX7_feed_8 (by decide) (fun c2 => ?_) (fun c2 => ?_)
    · have h := itp c2 h
      refine lv_aload_n hx hb dX7_feed_14 rfl (lv_at hl 0 rfl) ?_
      refine xg_0_3 F E J fl_X7_46 dX7_feed_15 ?_
      refine lv_lload_n hx hb dX7_feed_18 rfl (lv_at hl 1 rfl) ?_
      refine lv_iload_n hx hb dX7_feed_19 rfl (lv_at hl 2 rfl) ?_
      obtain ⟨p3, hp3, h⟩ := ob h
      refine onZ (runV (As := [.long a0, .int a1]) (rest := []) F E J (c_X5_append a0 a1 p3 hp3) cw_X7_124 ⟨rfl, rfl, Nat.le_of_ble_eq_true rfl, Nat.le_of_ble_eq_true rfl⟩ rcX4 rfl hl.1 rfl (Nat.le_of_ble_eq_true rfl) dX7_feed_20) J (fun hzbp3 H locs J => ?_)
      refine lv_if_eq (tgt := 36) hx hb dX7_feed_23 (by decide) (fun c4 => ?_) (fun c4 => ?_)
      · have h := itp c4 h
        refine lv_ldc hx hb F.2.2.2.1 (F.2.2.2.2 _ kc_X7_85) dX7_feed_36 ?_
        obtain rfl := Option.some.inj h
        exact ret _ _ _ _ J dX7_feed_38
      · have h := itn c4 h
        refine lv_aload_n hx hb dX7_feed_26 rfl (lv_at hl 0 rfl) ?_
        refine xg_0_3 F E J fl_X7_46 dX7_feed_27 ?_
        refine xgN_4_1 (host := RX7) F E J (by decide +kernel) dX7_feed_30 ?_
        refine lv_goto (tgt := 38) hx hb dX7_feed_33 (by decide) ?_
        obtain rfl := Option.some.inj h
        exact ret _ _ _ _ J dX7_feed_38
    · have h := itn c2 h
      refine lv_ldc hx hb F.2.2.2.1 (F.2.2.2.2 _ kc_X7_80) dX7_feed_11 ?_
      obtain rfl := Option.some.inj h
      exact ret _ _ _ _ J dX7_feed_13
set_option maxHeartbeats 4000000 in
set_option maxRecDepth 100000 in
theorem c_X7_fault {l : Launch} {g : GG} {A : Nat → Prop} {q : Nat → Nat} {x_crowd x_latestFault x_places x_mask x_w_robots x_w_size x_w_nexts x_a_length x_t_length x_t_token x_t_from x_t_value x_t_behind x_r_wants x_r_pairs x_r_sees : Int32} {x_r_row : Int64} {x_b_size x_s_size : Int32} {x_w_names : Nat → Int32} {x_w_goals x_w_links : Nat → Int64} {x_w_linked x_w_ups x_w_downs x_w_next x_a_begun x_t_bytes : Nat → Int32} {x_b_rows : Nat → Int64} {x_b_acts : Nat → Int32} {x_s_rows : Nat → Int64} {x_s_acts : Nat → Int32} (res : Int32) (h : F_X7_fault x_latestFault = some res) : Met l yX7_fault (wS yX7_fault cX7_fault 1 (some .int)) rm_X7_fault (va_Pc [.ref (q 0)] (VB g A (XW g q x_crowd x_latestFault x_places x_mask x_w_robots x_w_size x_w_nexts x_a_length x_t_length x_t_token x_t_from x_t_value x_t_behind x_r_wants x_r_pairs x_r_sees x_r_row x_b_size x_s_size x_w_names x_w_goals x_w_links x_w_linked x_w_ups x_w_downs x_w_next x_a_begun x_t_bytes x_b_rows x_b_acts x_s_rows x_s_acts))) (va_Qi (fun r (_ : Unit) => r = res) (fun _ => VB g A (XW g q x_crowd x_latestFault x_places x_mask x_w_robots x_w_size x_w_nexts x_a_length x_t_length x_t_token x_t_from x_t_value x_t_behind x_r_wants x_r_pairs x_r_sees x_r_row x_b_size x_s_size x_w_names x_w_goals x_w_links x_w_linked x_w_ups x_w_downs x_w_next x_a_begun x_t_bytes x_b_rows x_b_acts x_s_rows x_s_acts)) A) 0 0 A := by
  unfold F_X7_fault at h
  refine MetI (res := res) (own := RX7) (ws' := (XW g q x_crowd x_latestFault x_places x_mask x_w_robots x_w_size x_w_nexts x_a_length x_t_length x_t_token x_t_from x_t_value x_t_behind x_r_wants x_r_pairs x_r_sees x_r_row x_b_size x_s_size x_w_names x_w_goals x_w_links x_w_linked x_w_ups x_w_downs x_w_next x_a_begun x_t_bytes x_b_rows x_b_acts x_s_rows x_s_acts)) (by decide) rfl (Nat.le_of_ble_eq_true rfl) ?_
  intro p e s m args below meth c Q F E ret ls J hl
  have hx := F.1
  have hb := F.2.1
  have hl : lv_has ls 1 [(0, .ref (q 0))] := hl
  refine lv_aload_n hx hb dX7_fault_0 rfl (lv_at hl 0 rfl) ?_
  refine xg_0_8 F E J fl_X7_73 dX7_fault_1 ?_
  obtain rfl := Option.some.inj h
  exact ret _ _ _ _ J dX7_fault_4
set_option maxHeartbeats 4000000 in
set_option maxRecDepth 100000 in
theorem c_J9_min_7cf53 {l : Launch} {g : GG} {A : Nat → Prop} {ws : va_W} (a0 : Int32) (a1 : Int32) (res : Int32) (h : F_J9_min_7cf53 a0 a1 = some res) : Met l yJ9_min_7cf53 (wS yJ9_min_7cf53 cJ9_min_7cf53 2 (some .int)) rm_J9_min_7cf53 (va_Pc [.int a0, .int a1] (VB g A ws)) (va_Qi (fun r (_ : Unit) => r = res) (fun _ => VB g A ws) A) 0 0 A := by
  unfold F_J9_min_7cf53 at h
  refine MetIF (res := res) (own := RJ9) (ws' := ws) (by decide +kernel) rfl (Nat.le_of_ble_eq_true rfl) ?_
  intro p e s m args below meth c Q F E ret ls J hl
  have hx := F.1
  have hb := F.2.1
  have hl : lv_has ls 2 [(0, .int a0), (1, .int a1)] := hl
  refine lv_iload_n hx hb dJ9_min_7cf53_0 rfl (lv_at hl 0 rfl) ?_
  refine lv_iload_n hx hb dJ9_min_7cf53_1 rfl (lv_at hl 1 rfl) ?_
  refine lv_icmp_gt (tgt := 9) hx hb dJ9_min_7cf53_2 (by decide) (fun c1 => ?_) (fun c1 => ?_)
  · have h := itp c1 h
    refine lv_iload_n hx hb dJ9_min_7cf53_9 rfl (lv_at hl 1 rfl) ?_
    obtain rfl := Option.some.inj h
    exact ret _ _ _ _ J dJ9_min_7cf53_10
  · have h := itn c1 h
    refine lv_iload_n hx hb dJ9_min_7cf53_5 rfl (lv_at hl 0 rfl) ?_
    refine lv_goto (tgt := 10) hx hb dJ9_min_7cf53_6 (by decide) ?_
    obtain rfl := Option.some.inj h
    exact ret _ _ _ _ J dJ9_min_7cf53_10
set_option maxHeartbeats 4000000 in
set_option maxRecDepth 100000 in
theorem c_X6_gather_d0 {l : Launch} {g : GG} {A : Nat → Prop} {q : Nat → Nat} {x_crowd x_latestFault x_places x_mask x_w_robots x_w_size x_w_nexts x_a_length x_t_length x_t_token x_t_from x_t_value x_t_behind x_r_wants x_r_pairs x_r_sees : Int32} {x_r_row : Int64} {x_b_size x_s_size : Int32} {x_w_names : Nat → Int32} {x_w_goals x_w_links : Nat → Int64} {x_w_linked x_w_ups x_w_downs x_w_next x_a_begun x_t_bytes : Nat → Int32} {x_b_rows : Nat → Int64} {x_b_acts : Nat → Int32} {x_s_rows : Nat → Int64} {x_s_acts : Nat → Int32} (a0 : Int32) (a1 : Int32) (a2 : Int32) (res : Int32 × (Nat → Int32)) (h : F_X6_gather_d0 a0 a1 a2 x_places x_mask x_w_size x_w_names = some res) : Met l yX6_gather (wS yX6_gather cX6_gather 5 none) rm_X6_gather_d0 (va_Pc [.ref (q 2), .int a0, .int a1, .int a2] (VB g A (XW g q x_crowd x_latestFault x_places x_mask x_w_robots x_w_size x_w_nexts x_a_length x_t_length x_t_token x_t_from x_t_value x_t_behind x_r_wants x_r_pairs x_r_sees x_r_row x_b_size x_s_size x_w_names x_w_goals x_w_links x_w_linked x_w_ups x_w_downs x_w_next x_a_begun x_t_bytes x_b_rows x_b_acts x_s_rows x_s_acts))) (va_Qv (fun (_ : Unit) => True) (fun _ => VB g A (XW g q x_crowd x_latestFault x_places x_mask x_w_robots res.1 x_w_nexts x_a_length x_t_length x_t_token x_t_from x_t_value x_t_behind x_r_wants x_r_pairs x_r_sees x_r_row x_b_size x_s_size res.2 x_w_goals x_w_links x_w_linked x_w_ups x_w_downs x_w_next x_a_begun x_t_bytes x_b_rows x_b_acts x_s_rows x_s_acts)) A) 0 0 A := by
  unfold F_X6_gather_d0 at h
  refine MetV (own := RX6) (ws' := (XW g q x_crowd x_latestFault x_places x_mask x_w_robots res.1 x_w_nexts x_a_length x_t_length x_t_token x_t_from x_t_value x_t_behind x_r_wants x_r_pairs x_r_sees x_r_row x_b_size x_s_size res.2 x_w_goals x_w_links x_w_linked x_w_ups x_w_downs x_w_next x_a_begun x_t_bytes x_b_rows x_b_acts x_s_rows x_s_acts)) (by decide) rfl (Nat.le_of_ble_eq_true rfl) ?_
  intro p e s m args below meth c Q F E ret ls J hl
  have hx := F.1
  have hb := F.2.1
  have hl : lv_has ls 5 [(0, .ref (q 2)), (1, .int a0), (2, .int a1), (3, .int a2)] := hl
  refine lv_iload_n hx hb dX6_gather_0 rfl (lv_at hl 3 rfl) ?_
  refine lv_if_gt (tgt := 46) hx hb dX6_gather_1 (by decide) (fun c1 => ?_) (fun c1 => ?_)
  · have h := itp c1 h
    refine lv_iload_n hx hb dX6_gather_46 rfl (lv_at hl 2 rfl) ?_
    refine lv_istore (lv' := [(4, .int a1), (0, .ref (q 2)), (1, .int a0), (2, .int a1), (3, .int a2)]) hx hb dX6_gather_47 hl (by decide) rfl (fun ls hl => ?_)
    obtain ⟨o_L2, ho_L2, h⟩ := ob h
    have T_L2 : ∀ (f : Nat) (l4_L2 : Int32) (x_w_size_L2 : Int32) (x_w_names_L2 : Nat → Int32) (o_L2 : Int32 × (Nat → Int32)), F_X6_gather_d0_L2 x_places f l4_L2 x_w_size_L2 x_w_names_L2 = some o_L2 → ∀ (H : Heap) (locs : List Loc) (ls : Array Slot), VJ g A s.heap (XW g q x_crowd x_latestFault x_places x_mask x_w_robots x_w_size_L2 x_w_nexts x_a_length x_t_length x_t_token x_t_from x_t_value x_t_behind x_r_wants x_r_pairs x_r_sees x_r_row x_b_size x_s_size x_w_names_L2 x_w_goals x_w_links x_w_linked x_w_ups x_w_downs x_w_next x_a_begun x_t_bytes x_b_rows x_b_acts x_s_rows x_s_acts) H locs → lv_has ls 5 [(0, .ref (q 2)), (1, .int a0), (3, .int a2), (4, .int l4_L2)] → (∀ (H : Heap) (locs : List Loc) (ls : Array Slot), VJ g A s.heap (XW g q x_crowd x_latestFault x_places x_mask x_w_robots o_L2.1 x_w_nexts x_a_length x_t_length x_t_token x_t_from x_t_value x_t_behind x_r_wants x_r_pairs x_r_sees x_r_row x_b_size x_s_size o_L2.2 x_w_goals x_w_links x_w_linked x_w_ups x_w_downs x_w_next x_a_begun x_t_bytes x_b_rows x_b_acts x_s_rows x_s_acts) H locs → lv_has ls 5 [] → W p l e rm_X6_gather_d0 s m args below meth c H locs 0 0 Q (F0 m 87 ls [])) → W p l e rm_X6_gather_d0 s m args below meth c H locs 0 0 Q (F0 m 49 ls []) := by
      clear h ho_L2 hl J
      intro f
      induction f with
      | zero => intro l4_L2 x_w_size_L2 x_w_names_L2 o_L2 h; exact absurd h (by simp [F_X6_gather_d0_L2])
      | succ f ih =>
        intro l4_L2 x_w_size_L2 x_w_names_L2 o_L2 h H locs ls J hl K_L2
        rw [F_X6_gather_d0_L2.eq_2] at h
        refine lv_iload hx hb dX6_gather_49 (lv_at hl 3 rfl) ?_
        refine lv_aload_n hx hb dX6_gather_51 rfl (lv_at hl 0 rfl) ?_
        refine xg_2_0 F E J fl_X6_45 dX6_gather_52 ?_
        refine xgN_1_0 (host := RX7) F E J (by decide +kernel) dX6_gather_55 ?_
        refine lv_icmp_ge (tgt := 87) hx hb dX6_gather_58 (by decide) (fun c3 => ?_) (fun c3 => ?_)
        · have h := itp c3 h
          obtain rfl := Option.some.inj h
          exact K_L2 _ _ _ J (lv_sub hl [] rfl)
        · have h := itn c3 h
          refine lv_aload_n hx hb dX6_gather_61 rfl (lv_at hl 0 rfl) ?_
          refine lv_iload_n hx hb dX6_gather_62 rfl (lv_at hl 1 rfl) ?_
          refine lv_aload_n hx hb dX6_gather_63 rfl (lv_at hl 0 rfl) ?_
          refine xg_2_0 F E J fl_X6_45 dX6_gather_64 ?_
          refine lv_iload hx hb dX6_gather_67 (lv_at hl 3 rfl) ?_
          obtain ⟨p4, hp4, h⟩ := ob h
          refine onI (runV (As := [.int l4_L2]) (rest := [.int a0, .ref (q 2)]) F E J (c_X3_oneAt l4_L2 p4 hp4) cw_X6_49 ⟨rfl, rfl, Nat.le_of_ble_eq_true rfl, Nat.le_of_ble_eq_true rfl⟩ rcX1 rfl hl.1 rfl (Nat.le_of_ble_eq_true rfl) dX6_gather_69) J (fun H locs J => ?_)
          refine lv_iadd hx hb dX6_gather_72 ?_
          refine lv_iload hx hb dX6_gather_73 (lv_at hl 3 rfl) ?_
          refine lv_iload_n hx hb dX6_gather_75 rfl (lv_at hl 2 rfl) ?_
          refine lv_iconst (v := 1) hx hb dX6_gather_76 (by decide) ?_
          refine lv_isub hx hb dX6_gather_77 ?_
          cases h
    refine T_L2 FU a1 x_w_size x_w_names o_L2 ho_L2 _ _ _ J (lv_sub hl [1, 2, 4, 0] rfl) (fun H locs ls J hl => ?_)
    obtain rfl := Option.some.inj h
    exact ret _ _ _ _ J dX6_gather_87
  · have h := itn c1 h
    refine lv_aload_n hx hb dX6_gather_4 rfl (lv_at hl 0 rfl) ?_
    refine xg_2_9 F E J fl_X6_39 dX6_gather_5 ?_
    refine lv_bipush (v := 64) hx hb dX6_gather_8 (by decide) ?_
    refine lv_icmp_ge (tgt := 45) hx hb dX6_gather_10 (by decide) (fun c7 => ?_) (fun c7 => ?_)
    · have h := itp c7 h
      obtain rfl := Option.some.inj h
      exact ret _ _ _ _ J dX6_gather_45
    · have h := itn c7 h
      refine lv_aload_n hx hb dX6_gather_13 rfl (lv_at hl 0 rfl) ?_
      refine xg_2_0 F E J fl_X6_45 dX6_gather_14 ?_
      refine lv_iload_n hx hb dX6_gather_17 rfl (lv_at hl 1 rfl) ?_
      obtain ⟨p8, hp8, h⟩ := ob h
      refine onI (runV (As := [.int a0]) (rest := []) F E J (c_X3_nameOf a0 p8 hp8) cw_X6_71 ⟨rfl, rfl, Nat.le_of_ble_eq_true rfl, Nat.le_of_ble_eq_true rfl⟩ rcX1 rfl hl.1 rfl (Nat.le_of_ble_eq_true rfl) dX6_gather_18) J (fun H locs J => ?_)
      refine lv_iload_n hx hb dX6_gather_21 rfl (lv_at hl 1 rfl) ?_
      refine lv_icmp_ne (tgt := 45) hx hb dX6_gather_22 (by decide) (fun c9 => ?_) (fun c9 => ?_)
      · have h := itn c9 h
        obtain rfl := Option.some.inj h
        exact ret _ _ _ _ J dX6_gather_45
      · have h := itp c9 h
        refine lv_aload_n hx hb dX6_gather_25 rfl (lv_at hl 0 rfl) ?_
        refine xg_2_1 F E J fl_X6_11 dX6_gather_26 ?_
        refine lv_aload_n hx hb dX6_gather_29 rfl (lv_at hl 0 rfl) ?_
        refine xg_2_9 F E J fl_X6_39 dX6_gather_30 ?_
        refine lv_iload_n hx hb dX6_gather_33 rfl (lv_at hl 1 rfl) ?_
        obtain ⟨hi, h⟩ := gdt h
        refine xs_8 F E J (inbt hi) dX6_gather_34 (fun H locs J => ?_)
        refine lv_aload_n hx hb dX6_gather_35 rfl (lv_at hl 0 rfl) ?_
        refine lv_dup hx hb dX6_gather_36 rfl ?_
        refine xg_2_9 F E J fl_X6_39 dX6_gather_37 ?_
        refine lv_iconst (v := 1) hx hb dX6_gather_40 (by decide) ?_
        refine lv_iadd hx hb dX6_gather_41 ?_
        obtain ⟨v10, hv10, h⟩ := obs h
        refine nmI hv10 ?_
        refine xp_2_9 F E J fl_X6_39 dX6_gather_42 (fun H locs J => ?_)
        obtain rfl := Option.some.inj h
        exact ret _ _ _ _ J dX6_gather_45
set_option maxHeartbeats 4000000 in
set_option maxRecDepth 100000 in
theorem c_X6_gather_d1 {l : Launch} {g : GG} {A : Nat → Prop} {q : Nat → Nat} {x_crowd x_latestFault x_places x_mask x_w_robots x_w_size x_w_nexts x_a_length x_t_length x_t_token x_t_from x_t_value x_t_behind x_r_wants x_r_pairs x_r_sees : Int32} {x_r_row : Int64} {x_b_size x_s_size : Int32} {x_w_names : Nat → Int32} {x_w_goals x_w_links : Nat → Int64} {x_w_linked x_w_ups x_w_downs x_w_next x_a_begun x_t_bytes : Nat → Int32} {x_b_rows : Nat → Int64} {x_b_acts : Nat → Int32} {x_s_rows : Nat → Int64} {x_s_acts : Nat → Int32} (a0 : Int32) (a1 : Int32) (a2 : Int32) (res : Int32 × (Nat → Int32)) (h : F_X6_gather_d1 a0 a1 a2 x_places x_mask x_w_size x_w_names = some res) : Met l yX6_gather (wS yX6_gather cX6_gather 5 none) rm_X6_gather_d1 (va_Pc [.ref (q 2), .int a0, .int a1, .int a2] (VB g A (XW g q x_crowd x_latestFault x_places x_mask x_w_robots x_w_size x_w_nexts x_a_length x_t_length x_t_token x_t_from x_t_value x_t_behind x_r_wants x_r_pairs x_r_sees x_r_row x_b_size x_s_size x_w_names x_w_goals x_w_links x_w_linked x_w_ups x_w_downs x_w_next x_a_begun x_t_bytes x_b_rows x_b_acts x_s_rows x_s_acts))) (va_Qv (fun (_ : Unit) => True) (fun _ => VB g A (XW g q x_crowd x_latestFault x_places x_mask x_w_robots res.1 x_w_nexts x_a_length x_t_length x_t_token x_t_from x_t_value x_t_behind x_r_wants x_r_pairs x_r_sees x_r_row x_b_size x_s_size res.2 x_w_goals x_w_links x_w_linked x_w_ups x_w_downs x_w_next x_a_begun x_t_bytes x_b_rows x_b_acts x_s_rows x_s_acts)) A) 0 0 A := by
  unfold F_X6_gather_d1 at h
  refine MetV (own := RX6) (ws' := (XW g q x_crowd x_latestFault x_places x_mask x_w_robots res.1 x_w_nexts x_a_length x_t_length x_t_token x_t_from x_t_value x_t_behind x_r_wants x_r_pairs x_r_sees x_r_row x_b_size x_s_size res.2 x_w_goals x_w_links x_w_linked x_w_ups x_w_downs x_w_next x_a_begun x_t_bytes x_b_rows x_b_acts x_s_rows x_s_acts)) (by decide) rfl (Nat.le_of_ble_eq_true rfl) ?_
  intro p e s m args below meth c Q F E ret ls J hl
  have hx := F.1
  have hb := F.2.1
  have hl : lv_has ls 5 [(0, .ref (q 2)), (1, .int a0), (2, .int a1), (3, .int a2)] := hl
  refine lv_iload_n hx hb dX6_gather_0 rfl (lv_at hl 3 rfl) ?_
  refine lv_if_gt (tgt := 46) hx hb dX6_gather_1 (by decide) (fun c1 => ?_) (fun c1 => ?_)
  · have h := itp c1 h
    refine lv_iload_n hx hb dX6_gather_46 rfl (lv_at hl 2 rfl) ?_
    refine lv_istore (lv' := [(4, .int a1), (0, .ref (q 2)), (1, .int a0), (2, .int a1), (3, .int a2)]) hx hb dX6_gather_47 hl (by decide) rfl (fun ls hl => ?_)
    obtain ⟨o_L2, ho_L2, h⟩ := ob h
    have T_L2 : ∀ (f : Nat) (l4_L2 : Int32) (x_w_size_L2 : Int32) (x_w_names_L2 : Nat → Int32) (o_L2 : Int32 × (Nat → Int32)), F_X6_gather_d1_L2 a0 a2 x_places x_mask f l4_L2 x_w_size_L2 x_w_names_L2 = some o_L2 → ∀ (H : Heap) (locs : List Loc) (ls : Array Slot), VJ g A s.heap (XW g q x_crowd x_latestFault x_places x_mask x_w_robots x_w_size_L2 x_w_nexts x_a_length x_t_length x_t_token x_t_from x_t_value x_t_behind x_r_wants x_r_pairs x_r_sees x_r_row x_b_size x_s_size x_w_names_L2 x_w_goals x_w_links x_w_linked x_w_ups x_w_downs x_w_next x_a_begun x_t_bytes x_b_rows x_b_acts x_s_rows x_s_acts) H locs → lv_has ls 5 [(0, .ref (q 2)), (1, .int a0), (3, .int a2), (4, .int l4_L2)] → (∀ (H : Heap) (locs : List Loc) (ls : Array Slot), VJ g A s.heap (XW g q x_crowd x_latestFault x_places x_mask x_w_robots o_L2.1 x_w_nexts x_a_length x_t_length x_t_token x_t_from x_t_value x_t_behind x_r_wants x_r_pairs x_r_sees x_r_row x_b_size x_s_size o_L2.2 x_w_goals x_w_links x_w_linked x_w_ups x_w_downs x_w_next x_a_begun x_t_bytes x_b_rows x_b_acts x_s_rows x_s_acts) H locs → lv_has ls 5 [] → W p l e rm_X6_gather_d1 s m args below meth c H locs 0 0 Q (F0 m 87 ls [])) → W p l e rm_X6_gather_d1 s m args below meth c H locs 0 0 Q (F0 m 49 ls []) := by
      clear h ho_L2 hl J
      intro f
      induction f with
      | zero => intro l4_L2 x_w_size_L2 x_w_names_L2 o_L2 h; exact absurd h (by simp [F_X6_gather_d1_L2])
      | succ f ih =>
        intro l4_L2 x_w_size_L2 x_w_names_L2 o_L2 h H locs ls J hl K_L2
        rw [F_X6_gather_d1_L2.eq_2] at h
        refine lv_iload hx hb dX6_gather_49 (lv_at hl 3 rfl) ?_
        refine lv_aload_n hx hb dX6_gather_51 rfl (lv_at hl 0 rfl) ?_
        refine xg_2_0 F E J fl_X6_45 dX6_gather_52 ?_
        refine xgN_1_0 (host := RX7) F E J (by decide +kernel) dX6_gather_55 ?_
        refine lv_icmp_ge (tgt := 87) hx hb dX6_gather_58 (by decide) (fun c3 => ?_) (fun c3 => ?_)
        · have h := itp c3 h
          obtain rfl := Option.some.inj h
          exact K_L2 _ _ _ J (lv_sub hl [] rfl)
        · have h := itn c3 h
          refine lv_aload_n hx hb dX6_gather_61 rfl (lv_at hl 0 rfl) ?_
          refine lv_iload_n hx hb dX6_gather_62 rfl (lv_at hl 1 rfl) ?_
          refine lv_aload_n hx hb dX6_gather_63 rfl (lv_at hl 0 rfl) ?_
          refine xg_2_0 F E J fl_X6_45 dX6_gather_64 ?_
          refine lv_iload hx hb dX6_gather_67 (lv_at hl 3 rfl) ?_
          obtain ⟨p4, hp4, h⟩ := ob h
          refine onI (runV (As := [.int l4_L2]) (rest := [.int a0, .ref (q 2)]) F E J (c_X3_oneAt l4_L2 p4 hp4) cw_X6_49 ⟨rfl, rfl, Nat.le_of_ble_eq_true rfl, Nat.le_of_ble_eq_true rfl⟩ rcX1 rfl hl.1 rfl (Nat.le_of_ble_eq_true rfl) dX6_gather_69) J (fun H locs J => ?_)
          refine lv_iadd hx hb dX6_gather_72 ?_
          refine lv_iload hx hb dX6_gather_73 (lv_at hl 3 rfl) ?_
          refine lv_iload_n hx hb dX6_gather_75 rfl (lv_at hl 2 rfl) ?_
          refine lv_iconst (v := 1) hx hb dX6_gather_76 (by decide) ?_
          refine lv_isub hx hb dX6_gather_77 ?_
          obtain ⟨p5, hp5, h⟩ := ob h
          refine onV (runV (As := [.int (a0 + p4), .int l4_L2, .int (a2 - 1)]) (rest := []) F E J (c_X6_gather_d0 (a0 + p4) l4_L2 (a2 - 1) p5 hp5) cw_X6_61 ⟨rfl, rfl, Nat.le_of_ble_eq_true rfl, Nat.le_of_ble_eq_true rfl⟩ rcX2 rfl hl.1 rfl (Nat.le_of_ble_eq_true rfl) dX6_gather_78) J (fun H locs J => ?_)
          obtain ⟨v6, hv6, h⟩ := obs h
          refine lv_iinc (v := v6) (lv' := [(4, .int v6), (0, .ref (q 2)), (1, .int a0), (3, .int a2)]) hx hb dX6_gather_81 hl (k := 3) rfl (by rw [← hv6]; rfl) (by decide) rfl (fun ls hl => ?_)
          refine lv_goto (tgt := 49) hx hb dX6_gather_84 (by decide) ?_
          exact ih _ _ _ _ h _ _ _ J (lv_sub hl [1, 2, 3, 0] rfl) K_L2
    refine T_L2 FU a1 x_w_size x_w_names o_L2 ho_L2 _ _ _ J (lv_sub hl [1, 2, 4, 0] rfl) (fun H locs ls J hl => ?_)
    obtain rfl := Option.some.inj h
    exact ret _ _ _ _ J dX6_gather_87
  · have h := itn c1 h
    refine lv_aload_n hx hb dX6_gather_4 rfl (lv_at hl 0 rfl) ?_
    refine xg_2_9 F E J fl_X6_39 dX6_gather_5 ?_
    refine lv_bipush (v := 64) hx hb dX6_gather_8 (by decide) ?_
    refine lv_icmp_ge (tgt := 45) hx hb dX6_gather_10 (by decide) (fun c7 => ?_) (fun c7 => ?_)
    · have h := itp c7 h
      obtain rfl := Option.some.inj h
      exact ret _ _ _ _ J dX6_gather_45
    · have h := itn c7 h
      refine lv_aload_n hx hb dX6_gather_13 rfl (lv_at hl 0 rfl) ?_
      refine xg_2_0 F E J fl_X6_45 dX6_gather_14 ?_
      refine lv_iload_n hx hb dX6_gather_17 rfl (lv_at hl 1 rfl) ?_
      obtain ⟨p8, hp8, h⟩ := ob h
      refine onI (runV (As := [.int a0]) (rest := []) F E J (c_X3_nameOf a0 p8 hp8) cw_X6_71 ⟨rfl, rfl, Nat.le_of_ble_eq_true rfl, Nat.le_of_ble_eq_true rfl⟩ rcX1 rfl hl.1 rfl (Nat.le_of_ble_eq_true rfl) dX6_gather_18) J (fun H locs J => ?_)
      refine lv_iload_n hx hb dX6_gather_21 rfl (lv_at hl 1 rfl) ?_
      refine lv_icmp_ne (tgt := 45) hx hb dX6_gather_22 (by decide) (fun c9 => ?_) (fun c9 => ?_)
      · have h := itn c9 h
        obtain rfl := Option.some.inj h
        exact ret _ _ _ _ J dX6_gather_45
      · have h := itp c9 h
        refine lv_aload_n hx hb dX6_gather_25 rfl (lv_at hl 0 rfl) ?_
        refine xg_2_1 F E J fl_X6_11 dX6_gather_26 ?_
        refine lv_aload_n hx hb dX6_gather_29 rfl (lv_at hl 0 rfl) ?_
        refine xg_2_9 F E J fl_X6_39 dX6_gather_30 ?_
        refine lv_iload_n hx hb dX6_gather_33 rfl (lv_at hl 1 rfl) ?_
        obtain ⟨hi, h⟩ := gdt h
        refine xs_8 F E J (inbt hi) dX6_gather_34 (fun H locs J => ?_)
        refine lv_aload_n hx hb dX6_gather_35 rfl (lv_at hl 0 rfl) ?_
        refine lv_dup hx hb dX6_gather_36 rfl ?_
        refine xg_2_9 F E J fl_X6_39 dX6_gather_37 ?_
        refine lv_iconst (v := 1) hx hb dX6_gather_40 (by decide) ?_
        refine lv_iadd hx hb dX6_gather_41 ?_
        obtain ⟨v10, hv10, h⟩ := obs h
        refine nmI hv10 ?_
        refine xp_2_9 F E J fl_X6_39 dX6_gather_42 (fun H locs J => ?_)
        obtain rfl := Option.some.inj h
        exact ret _ _ _ _ J dX6_gather_45
set_option maxHeartbeats 4000000 in
set_option maxRecDepth 100000 in
theorem c_X6_gather_d2 {l : Launch} {g : GG} {A : Nat → Prop} {q : Nat → Nat} {x_crowd x_latestFault x_places x_mask x_w_robots x_w_size x_w_nexts x_a_length x_t_length x_t_token x_t_from x_t_value x_t_behind x_r_wants x_r_pairs x_r_sees : Int32} {x_r_row : Int64} {x_b_size x_s_size : Int32} {x_w_names : Nat → Int32} {x_w_goals x_w_links : Nat → Int64} {x_w_linked x_w_ups x_w_downs x_w_next x_a_begun x_t_bytes : Nat → Int32} {x_b_rows : Nat → Int64} {x_b_acts : Nat → Int32} {x_s_rows : Nat → Int64} {x_s_acts : Nat → Int32} (a0 : Int32) (a1 : Int32) (a2 : Int32) (res : Int32 × (Nat → Int32)) (h : F_X6_gather_d2 a0 a1 a2 x_places x_mask x_w_size x_w_names = some res) : Met l yX6_gather (wS yX6_gather cX6_gather 5 none) rm_X6_gather_d2 (va_Pc [.ref (q 2), .int a0, .int a1, .int a2] (VB g A (XW g q x_crowd x_latestFault x_places x_mask x_w_robots x_w_size x_w_nexts x_a_length x_t_length x_t_token x_t_from x_t_value x_t_behind x_r_wants x_r_pairs x_r_sees x_r_row x_b_size x_s_size x_w_names x_w_goals x_w_links x_w_linked x_w_ups x_w_downs x_w_next x_a_begun x_t_bytes x_b_rows x_b_acts x_s_rows x_s_acts))) (va_Qv (fun (_ : Unit) => True) (fun _ => VB g A (XW g q x_crowd x_latestFault x_places x_mask x_w_robots res.1 x_w_nexts x_a_length x_t_length x_t_token x_t_from x_t_value x_t_behind x_r_wants x_r_pairs x_r_sees x_r_row x_b_size x_s_size res.2 x_w_goals x_w_links x_w_linked x_w_ups x_w_downs x_w_next x_a_begun x_t_bytes x_b_rows x_b_acts x_s_rows x_s_acts)) A) 0 0 A := by
  unfold F_X6_gather_d2 at h
  refine MetV (own := RX6) (ws' := (XW g q x_crowd x_latestFault x_places x_mask x_w_robots res.1 x_w_nexts x_a_length x_t_length x_t_token x_t_from x_t_value x_t_behind x_r_wants x_r_pairs x_r_sees x_r_row x_b_size x_s_size res.2 x_w_goals x_w_links x_w_linked x_w_ups x_w_downs x_w_next x_a_begun x_t_bytes x_b_rows x_b_acts x_s_rows x_s_acts)) (by decide) rfl (Nat.le_of_ble_eq_true rfl) ?_
  intro p e s m args below meth c Q F E ret ls J hl
  have hx := F.1
  have hb := F.2.1
  have hl : lv_has ls 5 [(0, .ref (q 2)), (1, .int a0), (2, .int a1), (3, .int a2)] := hl
  refine lv_iload_n hx hb dX6_gather_0 rfl (lv_at hl 3 rfl) ?_
  refine lv_if_gt (tgt := 46) hx hb dX6_gather_1 (by decide) (fun c1 => ?_) (fun c1 => ?_)
  · have h := itp c1 h
    refine lv_iload_n hx hb dX6_gather_46 rfl (lv_at hl 2 rfl) ?_
    refine lv_istore (lv' := [(4, .int a1), (0, .ref (q 2)), (1, .int a0), (2, .int a1), (3, .int a2)]) hx hb dX6_gather_47 hl (by decide) rfl (fun ls hl => ?_)
    obtain ⟨o_L2, ho_L2, h⟩ := ob h
    have T_L2 : ∀ (f : Nat) (l4_L2 : Int32) (x_w_size_L2 : Int32) (x_w_names_L2 : Nat → Int32) (o_L2 : Int32 × (Nat → Int32)), F_X6_gather_d2_L2 a0 a2 x_places x_mask f l4_L2 x_w_size_L2 x_w_names_L2 = some o_L2 → ∀ (H : Heap) (locs : List Loc) (ls : Array Slot), VJ g A s.heap (XW g q x_crowd x_latestFault x_places x_mask x_w_robots x_w_size_L2 x_w_nexts x_a_length x_t_length x_t_token x_t_from x_t_value x_t_behind x_r_wants x_r_pairs x_r_sees x_r_row x_b_size x_s_size x_w_names_L2 x_w_goals x_w_links x_w_linked x_w_ups x_w_downs x_w_next x_a_begun x_t_bytes x_b_rows x_b_acts x_s_rows x_s_acts) H locs → lv_has ls 5 [(0, .ref (q 2)), (1, .int a0), (3, .int a2), (4, .int l4_L2)] → (∀ (H : Heap) (locs : List Loc) (ls : Array Slot), VJ g A s.heap (XW g q x_crowd x_latestFault x_places x_mask x_w_robots o_L2.1 x_w_nexts x_a_length x_t_length x_t_token x_t_from x_t_value x_t_behind x_r_wants x_r_pairs x_r_sees x_r_row x_b_size x_s_size o_L2.2 x_w_goals x_w_links x_w_linked x_w_ups x_w_downs x_w_next x_a_begun x_t_bytes x_b_rows x_b_acts x_s_rows x_s_acts) H locs → lv_has ls 5 [] → W p l e rm_X6_gather_d2 s m args below meth c H locs 0 0 Q (F0 m 87 ls [])) → W p l e rm_X6_gather_d2 s m args below meth c H locs 0 0 Q (F0 m 49 ls []) := by
      clear h ho_L2 hl J
      intro f
      induction f with
      | zero => intro l4_L2 x_w_size_L2 x_w_names_L2 o_L2 h; exact absurd h (by simp [F_X6_gather_d2_L2])
      | succ f ih =>
        intro l4_L2 x_w_size_L2 x_w_names_L2 o_L2 h H locs ls J hl K_L2
        rw [F_X6_gather_d2_L2.eq_2] at h
        refine lv_iload hx hb dX6_gather_49 (lv_at hl 3 rfl) ?_
        refine lv_aload_n hx hb dX6_gather_51 rfl (lv_at hl 0 rfl) ?_
        refine xg_2_0 F E J fl_X6_45 dX6_gather_52 ?_
        refine xgN_1_0 (host := RX7) F E J (by decide +kernel) dX6_gather_55 ?_
        refine lv_icmp_ge (tgt := 87) hx hb dX6_gather_58 (by decide) (fun c3 => ?_) (fun c3 => ?_)
        · have h := itp c3 h
          obtain rfl := Option.some.inj h
          exact K_L2 _ _ _ J (lv_sub hl [] rfl)
        · have h := itn c3 h
          refine lv_aload_n hx hb dX6_gather_61 rfl (lv_at hl 0 rfl) ?_
          refine lv_iload_n hx hb dX6_gather_62 rfl (lv_at hl 1 rfl) ?_
          refine lv_aload_n hx hb dX6_gather_63 rfl (lv_at hl 0 rfl) ?_
          refine xg_2_0 F E J fl_X6_45 dX6_gather_64 ?_
          refine lv_iload hx hb dX6_gather_67 (lv_at hl 3 rfl) ?_
          obtain ⟨p4, hp4, h⟩ := ob h
          refine onI (runV (As := [.int l4_L2]) (rest := [.int a0, .ref (q 2)]) F E J (c_X3_oneAt l4_L2 p4 hp4) cw_X6_49 ⟨rfl, rfl, Nat.le_of_ble_eq_true rfl, Nat.le_of_ble_eq_true rfl⟩ rcX1 rfl hl.1 rfl (Nat.le_of_ble_eq_true rfl) dX6_gather_69) J (fun H locs J => ?_)
          refine lv_iadd hx hb dX6_gather_72 ?_
          refine lv_iload hx hb dX6_gather_73 (lv_at hl 3 rfl) ?_
          refine lv_iload_n hx hb dX6_gather_75 rfl (lv_at hl 2 rfl) ?_
          refine lv_iconst (v := 1) hx hb dX6_gather_76 (by decide) ?_
          refine lv_isub hx hb dX6_gather_77 ?_
          obtain ⟨p5, hp5, h⟩ := ob h
          refine onV (runV (As := [.int (a0 + p4), .int l4_L2, .int (a2 - 1)]) (rest := []) F E J (c_X6_gather_d1 (a0 + p4) l4_L2 (a2 - 1) p5 hp5) cw_X6_61 ⟨rfl, rfl, Nat.le_of_ble_eq_true rfl, Nat.le_of_ble_eq_true rfl⟩ rcX2 rfl hl.1 rfl (Nat.le_of_ble_eq_true rfl) dX6_gather_78) J (fun H locs J => ?_)
          obtain ⟨v6, hv6, h⟩ := obs h
          refine lv_iinc (v := v6) (lv' := [(4, .int v6), (0, .ref (q 2)), (1, .int a0), (3, .int a2)]) hx hb dX6_gather_81 hl (k := 3) rfl (by rw [← hv6]; rfl) (by decide) rfl (fun ls hl => ?_)
          refine lv_goto (tgt := 49) hx hb dX6_gather_84 (by decide) ?_
          exact ih _ _ _ _ h _ _ _ J (lv_sub hl [1, 2, 3, 0] rfl) K_L2
    refine T_L2 FU a1 x_w_size x_w_names o_L2 ho_L2 _ _ _ J (lv_sub hl [1, 2, 4, 0] rfl) (fun H locs ls J hl => ?_)
    obtain rfl := Option.some.inj h
    exact ret _ _ _ _ J dX6_gather_87
  · have h := itn c1 h
    refine lv_aload_n hx hb dX6_gather_4 rfl (lv_at hl 0 rfl) ?_
    refine xg_2_9 F E J fl_X6_39 dX6_gather_5 ?_
    refine lv_bipush (v := 64) hx hb dX6_gather_8 (by decide) ?_
    refine lv_icmp_ge (tgt := 45) hx hb dX6_gather_10 (by decide) (fun c7 => ?_) (fun c7 => ?_)
    · have h := itp c7 h
      obtain rfl := Option.some.inj h
      exact ret _ _ _ _ J dX6_gather_45
    · have h := itn c7 h
      refine lv_aload_n hx hb dX6_gather_13 rfl (lv_at hl 0 rfl) ?_
      refine xg_2_0 F E J fl_X6_45 dX6_gather_14 ?_
      refine lv_iload_n hx hb dX6_gather_17 rfl (lv_at hl 1 rfl) ?_
      obtain ⟨p8, hp8, h⟩ := ob h
      refine onI (runV (As := [.int a0]) (rest := []) F E J (c_X3_nameOf a0 p8 hp8) cw_X6_71 ⟨rfl, rfl, Nat.le_of_ble_eq_true rfl, Nat.le_of_ble_eq_true rfl⟩ rcX1 rfl hl.1 rfl (Nat.le_of_ble_eq_true rfl) dX6_gather_18) J (fun H locs J => ?_)
      refine lv_iload_n hx hb dX6_gather_21 rfl (lv_at hl 1 rfl) ?_
      refine lv_icmp_ne (tgt := 45) hx hb dX6_gather_22 (by decide) (fun c9 => ?_) (fun c9 => ?_)
      · have h := itn c9 h
        obtain rfl := Option.some.inj h
        exact ret _ _ _ _ J dX6_gather_45
      · have h := itp c9 h
        refine lv_aload_n hx hb dX6_gather_25 rfl (lv_at hl 0 rfl) ?_
        refine xg_2_1 F E J fl_X6_11 dX6_gather_26 ?_
        refine lv_aload_n hx hb dX6_gather_29 rfl (lv_at hl 0 rfl) ?_
        refine xg_2_9 F E J fl_X6_39 dX6_gather_30 ?_
        refine lv_iload_n hx hb dX6_gather_33 rfl (lv_at hl 1 rfl) ?_
        obtain ⟨hi, h⟩ := gdt h
        refine xs_8 F E J (inbt hi) dX6_gather_34 (fun H locs J => ?_)
        refine lv_aload_n hx hb dX6_gather_35 rfl (lv_at hl 0 rfl) ?_
        refine lv_dup hx hb dX6_gather_36 rfl ?_
        refine xg_2_9 F E J fl_X6_39 dX6_gather_37 ?_
        refine lv_iconst (v := 1) hx hb dX6_gather_40 (by decide) ?_
        refine lv_iadd hx hb dX6_gather_41 ?_
        obtain ⟨v10, hv10, h⟩ := obs h
        refine nmI hv10 ?_
        refine xp_2_9 F E J fl_X6_39 dX6_gather_42 (fun H locs J => ?_)
        obtain rfl := Option.some.inj h
        exact ret _ _ _ _ J dX6_gather_45
set_option maxHeartbeats 4000000 in
set_option maxRecDepth 100000 in
theorem c_X6_gather_d3 {l : Launch} {g : GG} {A : Nat → Prop} {q : Nat → Nat} {x_crowd x_latestFault x_places x_mask x_w_robots x_w_size x_w_nexts x_a_length x_t_length x_t_token x_t_from x_t_value x_t_behind x_r_wants x_r_pairs x_r_sees : Int32} {x_r_row : Int64} {x_b_size x_s_size : Int32} {x_w_names : Nat → Int32} {x_w_goals x_w_links : Nat → Int64} {x_w_linked x_w_ups x_w_downs x_w_next x_a_begun x_t_bytes : Nat → Int32} {x_b_rows : Nat → Int64} {x_b_acts : Nat → Int32} {x_s_rows : Nat → Int64} {x_s_acts : Nat → Int32} (a0 : Int32) (a1 : Int32) (a2 : Int32) (res : Int32 × (Nat → Int32)) (h : F_X6_gather_d3 a0 a1 a2 x_places x_mask x_w_size x_w_names = some res) : Met l yX6_gather (wS yX6_gather cX6_gather 5 none) rm_X6_gather_d3 (va_Pc [.ref (q 2), .int a0, .int a1, .int a2] (VB g A (XW g q x_crowd x_latestFault x_places x_mask x_w_robots x_w_size x_w_nexts x_a_length x_t_length x_t_token x_t_from x_t_value x_t_behind x_r_wants x_r_pairs x_r_sees x_r_row x_b_size x_s_size x_w_names x_w_goals x_w_links x_w_linked x_w_ups x_w_downs x_w_next x_a_begun x_t_bytes x_b_rows x_b_acts x_s_rows x_s_acts))) (va_Qv (fun (_ : Unit) => True) (fun _ => VB g A (XW g q x_crowd x_latestFault x_places x_mask x_w_robots res.1 x_w_nexts x_a_length x_t_length x_t_token x_t_from x_t_value x_t_behind x_r_wants x_r_pairs x_r_sees x_r_row x_b_size x_s_size res.2 x_w_goals x_w_links x_w_linked x_w_ups x_w_downs x_w_next x_a_begun x_t_bytes x_b_rows x_b_acts x_s_rows x_s_acts)) A) 0 0 A := by
  unfold F_X6_gather_d3 at h
  refine MetV (own := RX6) (ws' := (XW g q x_crowd x_latestFault x_places x_mask x_w_robots res.1 x_w_nexts x_a_length x_t_length x_t_token x_t_from x_t_value x_t_behind x_r_wants x_r_pairs x_r_sees x_r_row x_b_size x_s_size res.2 x_w_goals x_w_links x_w_linked x_w_ups x_w_downs x_w_next x_a_begun x_t_bytes x_b_rows x_b_acts x_s_rows x_s_acts)) (by decide) rfl (Nat.le_of_ble_eq_true rfl) ?_
  intro p e s m args below meth c Q F E ret ls J hl
  have hx := F.1
  have hb := F.2.1
  have hl : lv_has ls 5 [(0, .ref (q 2)), (1, .int a0), (2, .int a1), (3, .int a2)] := hl
  refine lv_iload_n hx hb dX6_gather_0 rfl (lv_at hl 3 rfl) ?_
  refine lv_if_gt (tgt := 46) hx hb dX6_gather_1 (by decide) (fun c1 => ?_) (fun c1 => ?_)
  · have h := itp c1 h
    refine lv_iload_n hx hb dX6_gather_46 rfl (lv_at hl 2 rfl) ?_
    refine lv_istore (lv' := [(4, .int a1), (0, .ref (q 2)), (1, .int a0), (2, .int a1), (3, .int a2)]) hx hb dX6_gather_47 hl (by decide) rfl (fun ls hl => ?_)
    obtain ⟨o_L2, ho_L2, h⟩ := ob h
    have T_L2 : ∀ (f : Nat) (l4_L2 : Int32) (x_w_size_L2 : Int32) (x_w_names_L2 : Nat → Int32) (o_L2 : Int32 × (Nat → Int32)), F_X6_gather_d3_L2 a0 a2 x_places x_mask f l4_L2 x_w_size_L2 x_w_names_L2 = some o_L2 → ∀ (H : Heap) (locs : List Loc) (ls : Array Slot), VJ g A s.heap (XW g q x_crowd x_latestFault x_places x_mask x_w_robots x_w_size_L2 x_w_nexts x_a_length x_t_length x_t_token x_t_from x_t_value x_t_behind x_r_wants x_r_pairs x_r_sees x_r_row x_b_size x_s_size x_w_names_L2 x_w_goals x_w_links x_w_linked x_w_ups x_w_downs x_w_next x_a_begun x_t_bytes x_b_rows x_b_acts x_s_rows x_s_acts) H locs → lv_has ls 5 [(0, .ref (q 2)), (1, .int a0), (3, .int a2), (4, .int l4_L2)] → (∀ (H : Heap) (locs : List Loc) (ls : Array Slot), VJ g A s.heap (XW g q x_crowd x_latestFault x_places x_mask x_w_robots o_L2.1 x_w_nexts x_a_length x_t_length x_t_token x_t_from x_t_value x_t_behind x_r_wants x_r_pairs x_r_sees x_r_row x_b_size x_s_size o_L2.2 x_w_goals x_w_links x_w_linked x_w_ups x_w_downs x_w_next x_a_begun x_t_bytes x_b_rows x_b_acts x_s_rows x_s_acts) H locs → lv_has ls 5 [] → W p l e rm_X6_gather_d3 s m args below meth c H locs 0 0 Q (F0 m 87 ls [])) → W p l e rm_X6_gather_d3 s m args below meth c H locs 0 0 Q (F0 m 49 ls []) := by
      clear h ho_L2 hl J
      intro f
      induction f with
      | zero => intro l4_L2 x_w_size_L2 x_w_names_L2 o_L2 h; exact absurd h (by simp [F_X6_gather_d3_L2])
      | succ f ih =>
        intro l4_L2 x_w_size_L2 x_w_names_L2 o_L2 h H locs ls J hl K_L2
        rw [F_X6_gather_d3_L2.eq_2] at h
        refine lv_iload hx hb dX6_gather_49 (lv_at hl 3 rfl) ?_
        refine lv_aload_n hx hb dX6_gather_51 rfl (lv_at hl 0 rfl) ?_
        refine xg_2_0 F E J fl_X6_45 dX6_gather_52 ?_
        refine xgN_1_0 (host := RX7) F E J (by decide +kernel) dX6_gather_55 ?_
        refine lv_icmp_ge (tgt := 87) hx hb dX6_gather_58 (by decide) (fun c3 => ?_) (fun c3 => ?_)
        · have h := itp c3 h
          obtain rfl := Option.some.inj h
          exact K_L2 _ _ _ J (lv_sub hl [] rfl)
        · have h := itn c3 h
          refine lv_aload_n hx hb dX6_gather_61 rfl (lv_at hl 0 rfl) ?_
          refine lv_iload_n hx hb dX6_gather_62 rfl (lv_at hl 1 rfl) ?_
          refine lv_aload_n hx hb dX6_gather_63 rfl (lv_at hl 0 rfl) ?_
          refine xg_2_0 F E J fl_X6_45 dX6_gather_64 ?_
          refine lv_iload hx hb dX6_gather_67 (lv_at hl 3 rfl) ?_
          obtain ⟨p4, hp4, h⟩ := ob h
          refine onI (runV (As := [.int l4_L2]) (rest := [.int a0, .ref (q 2)]) F E J (c_X3_oneAt l4_L2 p4 hp4) cw_X6_49 ⟨rfl, rfl, Nat.le_of_ble_eq_true rfl, Nat.le_of_ble_eq_true rfl⟩ rcX1 rfl hl.1 rfl (Nat.le_of_ble_eq_true rfl) dX6_gather_69) J (fun H locs J => ?_)
          refine lv_iadd hx hb dX6_gather_72 ?_
          refine lv_iload hx hb dX6_gather_73 (lv_at hl 3 rfl) ?_
          refine lv_iload_n hx hb dX6_gather_75 rfl (lv_at hl 2 rfl) ?_
          refine lv_iconst (v := 1) hx hb dX6_gather_76 (by decide) ?_
          refine lv_isub hx hb dX6_gather_77 ?_
          obtain ⟨p5, hp5, h⟩ := ob h
          refine onV (runV (As := [.int (a0 + p4), .int l4_L2, .int (a2 - 1)]) (rest := []) F E J (c_X6_gather_d2 (a0 + p4) l4_L2 (a2 - 1) p5 hp5) cw_X6_61 ⟨rfl, rfl, Nat.le_of_ble_eq_true rfl, Nat.le_of_ble_eq_true rfl⟩ rcX2 rfl hl.1 rfl (Nat.le_of_ble_eq_true rfl) dX6_gather_78) J (fun H locs J => ?_)
          obtain ⟨v6, hv6, h⟩ := obs h
          refine lv_iinc (v := v6) (lv' := [(4, .int v6), (0, .ref (q 2)), (1, .int a0), (3, .int a2)]) hx hb dX6_gather_81 hl (k := 3) rfl (by rw [← hv6]; rfl) (by decide) rfl (fun ls hl => ?_)
          refine lv_goto (tgt := 49) hx hb dX6_gather_84 (by decide) ?_
          exact ih _ _ _ _ h _ _ _ J (lv_sub hl [1, 2, 3, 0] rfl) K_L2
    refine T_L2 FU a1 x_w_size x_w_names o_L2 ho_L2 _ _ _ J (lv_sub hl [1, 2, 4, 0] rfl) (fun H locs ls J hl => ?_)
    obtain rfl := Option.some.inj h
    exact ret _ _ _ _ J dX6_gather_87
  · have h := itn c1 h
    refine lv_aload_n hx hb dX6_gather_4 rfl (lv_at hl 0 rfl) ?_
    refine xg_2_9 F E J fl_X6_39 dX6_gather_5 ?_
    refine lv_bipush (v := 64) hx hb dX6_gather_8 (by decide) ?_
    refine lv_icmp_ge (tgt := 45) hx hb dX6_gather_10 (by decide) (fun c7 => ?_) (fun c7 => ?_)
    · have h := itp c7 h
      obtain rfl := Option.some.inj h
      exact ret _ _ _ _ J dX6_gather_45
    · have h := itn c7 h
      refine lv_aload_n hx hb dX6_gather_13 rfl (lv_at hl 0 rfl) ?_
      refine xg_2_0 F E J fl_X6_45 dX6_gather_14 ?_
      refine lv_iload_n hx hb dX6_gather_17 rfl (lv_at hl 1 rfl) ?_
      obtain ⟨p8, hp8, h⟩ := ob h
      refine onI (runV (As := [.int a0]) (rest := []) F E J (c_X3_nameOf a0 p8 hp8) cw_X6_71 ⟨rfl, rfl, Nat.le_of_ble_eq_true rfl, Nat.le_of_ble_eq_true rfl⟩ rcX1 rfl hl.1 rfl (Nat.le_of_ble_eq_true rfl) dX6_gather_18) J (fun H locs J => ?_)
      refine lv_iload_n hx hb dX6_gather_21 rfl (lv_at hl 1 rfl) ?_
      refine lv_icmp_ne (tgt := 45) hx hb dX6_gather_22 (by decide) (fun c9 => ?_) (fun c9 => ?_)
      · have h := itn c9 h
        obtain rfl := Option.some.inj h
        exact ret _ _ _ _ J dX6_gather_45
      · have h := itp c9 h
        refine lv_aload_n hx hb dX6_gather_25 rfl (lv_at hl 0 rfl) ?_
        refine xg_2_1 F E J fl_X6_11 dX6_gather_26 ?_
        refine lv_aload_n hx hb dX6_gather_29 rfl (lv_at hl 0 rfl) ?_
        refine xg_2_9 F E J fl_X6_39 dX6_gather_30 ?_
        refine lv_iload_n hx hb dX6_gather_33 rfl (lv_at hl 1 rfl) ?_
        obtain ⟨hi, h⟩ := gdt h
        refine xs_8 F E J (inbt hi) dX6_gather_34 (fun H locs J => ?_)
        refine lv_aload_n hx hb dX6_gather_35 rfl (lv_at hl 0 rfl) ?_
        refine lv_dup hx hb dX6_gather_36 rfl ?_
        refine xg_2_9 F E J fl_X6_39 dX6_gather_37 ?_
        refine lv_iconst (v := 1) hx hb dX6_gather_40 (by decide) ?_
        refine lv_iadd hx hb dX6_gather_41 ?_
        obtain ⟨v10, hv10, h⟩ := obs h
        refine nmI hv10 ?_
        refine xp_2_9 F E J fl_X6_39 dX6_gather_42 (fun H locs J => ?_)
        obtain rfl := Option.some.inj h
        exact ret _ _ _ _ J dX6_gather_45
set_option maxHeartbeats 4000000 in
set_option maxRecDepth 100000 in
theorem c_X6_markGoals {l : Launch} {g : GG} {A : Nat → Prop} {q : Nat → Nat} {x_crowd x_latestFault x_places x_mask x_w_robots x_w_size x_w_nexts x_a_length x_t_length x_t_token x_t_from x_t_value x_t_behind x_r_wants x_r_pairs x_r_sees : Int32} {x_r_row : Int64} {x_b_size x_s_size : Int32} {x_w_names : Nat → Int32} {x_w_goals x_w_links : Nat → Int64} {x_w_linked x_w_ups x_w_downs x_w_next x_a_begun x_t_bytes : Nat → Int32} {x_b_rows : Nat → Int64} {x_b_acts : Nat → Int32} {x_s_rows : Nat → Int64} {x_s_acts : Nat → Int32} (res : Nat → Int64) (h : F_X6_markGoals x_places x_w_size x_w_names x_w_goals = some res) : Met l yX6_markGoals (wS yX6_markGoals cX6_markGoals 3 none) rm_X6_markGoals (va_Pc [.ref (q 2)] (VB g A (XW g q x_crowd x_latestFault x_places x_mask x_w_robots x_w_size x_w_nexts x_a_length x_t_length x_t_token x_t_from x_t_value x_t_behind x_r_wants x_r_pairs x_r_sees x_r_row x_b_size x_s_size x_w_names x_w_goals x_w_links x_w_linked x_w_ups x_w_downs x_w_next x_a_begun x_t_bytes x_b_rows x_b_acts x_s_rows x_s_acts))) (va_Qv (fun (_ : Unit) => True) (fun _ => VB g A (XW g q x_crowd x_latestFault x_places x_mask x_w_robots x_w_size x_w_nexts x_a_length x_t_length x_t_token x_t_from x_t_value x_t_behind x_r_wants x_r_pairs x_r_sees x_r_row x_b_size x_s_size x_w_names res x_w_links x_w_linked x_w_ups x_w_downs x_w_next x_a_begun x_t_bytes x_b_rows x_b_acts x_s_rows x_s_acts)) A) 0 0 A := by
  unfold F_X6_markGoals at h
  refine MetV (own := RX6) (ws' := (XW g q x_crowd x_latestFault x_places x_mask x_w_robots x_w_size x_w_nexts x_a_length x_t_length x_t_token x_t_from x_t_value x_t_behind x_r_wants x_r_pairs x_r_sees x_r_row x_b_size x_s_size x_w_names res x_w_links x_w_linked x_w_ups x_w_downs x_w_next x_a_begun x_t_bytes x_b_rows x_b_acts x_s_rows x_s_acts)) (by decide) rfl (Nat.le_of_ble_eq_true rfl) ?_
  intro p e s m args below meth c Q F E ret ls J hl
  have hx := F.1
  have hb := F.2.1
  have hl : lv_has ls 3 [(0, .ref (q 2))] := hl
  refine lv_iconst (v := 0) hx hb dX6_markGoals_0 (by decide) ?_
  refine lv_istore_n (lv' := [(1, .int 0), (0, .ref (q 2))]) hx hb dX6_markGoals_1 rfl hl (by decide) rfl (fun ls hl => ?_)
  obtain ⟨o_L1, ho_L1, h⟩ := ob h
  have T_L1 : ∀ (f : Nat) (l1_L1 : Int32) (x_w_goals_L1 : Nat → Int64) (o_L1 : Nat → Int64), F_X6_markGoals_L1 x_places x_w_size x_w_names f l1_L1 x_w_goals_L1 = some o_L1 → ∀ (H : Heap) (locs : List Loc) (ls : Array Slot), VJ g A s.heap (XW g q x_crowd x_latestFault x_places x_mask x_w_robots x_w_size x_w_nexts x_a_length x_t_length x_t_token x_t_from x_t_value x_t_behind x_r_wants x_r_pairs x_r_sees x_r_row x_b_size x_s_size x_w_names x_w_goals_L1 x_w_links x_w_linked x_w_ups x_w_downs x_w_next x_a_begun x_t_bytes x_b_rows x_b_acts x_s_rows x_s_acts) H locs → lv_has ls 3 [(0, .ref (q 2)), (1, .int l1_L1)] → (∀ (H : Heap) (locs : List Loc) (ls : Array Slot), VJ g A s.heap (XW g q x_crowd x_latestFault x_places x_mask x_w_robots x_w_size x_w_nexts x_a_length x_t_length x_t_token x_t_from x_t_value x_t_behind x_r_wants x_r_pairs x_r_sees x_r_row x_b_size x_s_size x_w_names o_L1 x_w_links x_w_linked x_w_ups x_w_downs x_w_next x_a_begun x_t_bytes x_b_rows x_b_acts x_s_rows x_s_acts) H locs → lv_has ls 3 [] → W p l e rm_X6_markGoals s m args below meth c H locs 0 0 Q (F0 m 71 ls [])) → W p l e rm_X6_markGoals s m args below meth c H locs 0 0 Q (F0 m 2 ls []) := by
    clear h ho_L1 hl J
    intro f
    induction f with
    | zero => intro l1_L1 x_w_goals_L1 o_L1 h; exact absurd h (by simp [F_X6_markGoals_L1])
    | succ f ih =>
      intro l1_L1 x_w_goals_L1 o_L1 h H locs ls J hl K_L1
      rw [F_X6_markGoals_L1.eq_2] at h
      refine lv_iload_n hx hb dX6_markGoals_2 rfl (lv_at hl 1 rfl) ?_
      refine lv_iconst (v := 3) hx hb dX6_markGoals_3 (by decide) ?_
      refine lv_icmp_ge (tgt := 71) hx hb dX6_markGoals_4 (by decide) (fun c2 => ?_) (fun c2 => ?_)
      · have h := itp c2 h
        obtain rfl := Option.some.inj h
        exact K_L1 _ _ _ J (lv_sub hl [] rfl)
      · have h := itn c2 h
        refine lv_aload_n hx hb dX6_markGoals_7 rfl (lv_at hl 0 rfl) ?_
        refine xg_2_2 F E J fl_X6_15 dX6_markGoals_8 ?_
        refine lv_iload_n hx hb dX6_markGoals_11 rfl (lv_at hl 1 rfl) ?_
        refine lv_lconst (v := 0) hx hb dX6_markGoals_12 (by decide) ?_
        obtain ⟨hi, h⟩ := gdt h
        refine xs_9 F E J (inbt hi) dX6_markGoals_13 (fun H locs J => ?_)
        refine lv_iconst (v := 0) hx hb dX6_markGoals_14 (by decide) ?_
        refine lv_istore_n (lv' := [(2, .int 0), (0, .ref (q 2)), (1, .int l1_L1)]) hx hb dX6_markGoals_15 rfl hl (by decide) rfl (fun ls hl => ?_)
        obtain ⟨o_L3, ho_L3, h⟩ := ob h
        have T_L3 : ∀ (f : Nat) (l2_L3 : Int32) (x_w_goals_L3 : Nat → Int64) (o_L3 : Nat → Int64), F_X6_markGoals_L3 l1_L1 x_places x_w_size x_w_names f l2_L3 x_w_goals_L3 = some o_L3 → ∀ (H : Heap) (locs : List Loc) (ls : Array Slot), VJ g A s.heap (XW g q x_crowd x_latestFault x_places x_mask x_w_robots x_w_size x_w_nexts x_a_length x_t_length x_t_token x_t_from x_t_value x_t_behind x_r_wants x_r_pairs x_r_sees x_r_row x_b_size x_s_size x_w_names x_w_goals_L3 x_w_links x_w_linked x_w_ups x_w_downs x_w_next x_a_begun x_t_bytes x_b_rows x_b_acts x_s_rows x_s_acts) H locs → lv_has ls 3 [(0, .ref (q 2)), (1, .int l1_L1), (2, .int l2_L3)] → (∀ (H : Heap) (locs : List Loc) (ls : Array Slot), VJ g A s.heap (XW g q x_crowd x_latestFault x_places x_mask x_w_robots x_w_size x_w_nexts x_a_length x_t_length x_t_token x_t_from x_t_value x_t_behind x_r_wants x_r_pairs x_r_sees x_r_row x_b_size x_s_size x_w_names o_L3 x_w_links x_w_linked x_w_ups x_w_downs x_w_next x_a_begun x_t_bytes x_b_rows x_b_acts x_s_rows x_s_acts) H locs → lv_has ls 3 [(0, .ref (q 2)), (1, .int l1_L1)] → W p l e rm_X6_markGoals s m args below meth c H locs 0 0 Q (F0 m 65 ls [])) → W p l e rm_X6_markGoals s m args below meth c H locs 0 0 Q (F0 m 16 ls []) := by
          clear h ho_L3 hl J
          intro f
          induction f with
          | zero => intro l2_L3 x_w_goals_L3 o_L3 h; exact absurd h (by simp [F_X6_markGoals_L3])
          | succ f ih =>
            intro l2_L3 x_w_goals_L3 o_L3 h H locs ls J hl K_L3
            rw [F_X6_markGoals_L3.eq_2] at h
            refine lv_iload_n hx hb dX6_markGoals_16 rfl (lv_at hl 2 rfl) ?_
            refine lv_aload_n hx hb dX6_markGoals_17 rfl (lv_at hl 0 rfl) ?_
            refine xg_2_9 F E J fl_X6_39 dX6_markGoals_18 ?_
            refine lv_icmp_ge (tgt := 65) hx hb dX6_markGoals_21 (by decide) (fun c4 => ?_) (fun c4 => ?_)
            · have h := itp c4 h
              obtain rfl := Option.some.inj h
              exact K_L3 _ _ _ J (lv_sub hl [0, 1] rfl)
            · have h := itn c4 h
              refine lv_iload_n hx hb dX6_markGoals_24 rfl (lv_at hl 2 rfl) ?_
              refine lv_bipush (v := 64) hx hb dX6_markGoals_25 (by decide) ?_
              refine lv_icmp_ge (tgt := 65) hx hb dX6_markGoals_27 (by decide) (fun c5 => ?_) (fun c5 => ?_)
              · have h := itp c5 h
                obtain rfl := Option.some.inj h
                exact K_L3 _ _ _ J (lv_sub hl [0, 1] rfl)
              · have h := itn c5 h
                refine lv_aload_n hx hb dX6_markGoals_30 rfl (lv_at hl 0 rfl) ?_
                refine xg_2_0 F E J fl_X6_45 dX6_markGoals_31 ?_
                refine lv_aload_n hx hb dX6_markGoals_34 rfl (lv_at hl 0 rfl) ?_
                refine xg_2_1 F E J fl_X6_11 dX6_markGoals_35 ?_
                refine lv_iload_n hx hb dX6_markGoals_38 rfl (lv_at hl 2 rfl) ?_
                obtain ⟨hi, h⟩ := gdt h
                refine xl_8 F E J (inbt hi) dX6_markGoals_39 ?_
                refine lv_iload_n hx hb dX6_markGoals_40 rfl (lv_at hl 1 rfl) ?_
                obtain ⟨p6, hp6, h⟩ := ob h
                refine onZ (runV (As := [.int (x_w_names (Int32.toNatClampNeg l2_L3)), .int l1_L1]) (rest := []) F E J (c_X3_isOfGoal (x_w_names (Int32.toNatClampNeg l2_L3)) l1_L1 p6 hp6) cw_X6_77 ⟨rfl, rfl, Nat.le_of_ble_eq_true rfl, Nat.le_of_ble_eq_true rfl⟩ rcX1 rfl hl.1 rfl (Nat.le_of_ble_eq_true rfl) dX6_markGoals_41) J (fun hzbp6 H locs J => ?_)
                obtain ⟨j7, hj7, h⟩ := ob h
                have Kj7 : ∀ (H : Heap) (locs : List Loc) (ls : Array Slot), VJ g A s.heap (XW g q x_crowd x_latestFault x_places x_mask x_w_robots x_w_size x_w_nexts x_a_length x_t_length x_t_token x_t_from x_t_value x_t_behind x_r_wants x_r_pairs x_r_sees x_r_row x_b_size x_s_size x_w_names j7 x_w_links x_w_linked x_w_ups x_w_downs x_w_next x_a_begun x_t_bytes x_b_rows x_b_acts x_s_rows x_s_acts) H locs → lv_has ls 3 [(0, .ref (q 2)), (1, .int l1_L1), (2, .int l2_L3)] → W p l e rm_X6_markGoals s m args below meth c H locs 0 0 Q (F0 m 59 ls []) := by
                  intro H locs ls J hl
                  obtain ⟨v10, hv10, h⟩ := obs h
                  refine lv_iinc (v := v10) (lv' := [(2, .int v10), (0, .ref (q 2)), (1, .int l1_L1)]) hx hb dX6_markGoals_59 hl (k := 2) rfl (by rw [← hv10]; rfl) (by decide) rfl (fun ls hl => ?_)
                  refine lv_goto (tgt := 16) hx hb dX6_markGoals_62 (by decide) ?_
                  exact ih _ _ _ h _ _ _ J (lv_sub hl [1, 2, 0] rfl) K_L3
                clear h
                have h := hj7
                refine lv_if_eq (tgt := 59) hx hb dX6_markGoals_44 (by decide) (fun c8 => ?_) (fun c8 => ?_)
                · have h := itp c8 h
                  obtain rfl := Option.some.inj h
                  exact Kj7 _ _ _ J (lv_sub hl [0, 1, 2] rfl)
                · have h := itn c8 h
                  refine lv_aload_n hx hb dX6_markGoals_47 rfl (lv_at hl 0 rfl) ?_
                  refine xg_2_2 F E J fl_X6_15 dX6_markGoals_48 ?_
                  refine lv_iload_n hx hb dX6_markGoals_51 rfl (lv_at hl 1 rfl) ?_
                  refine lv_dup2_11 hx hb dX6_markGoals_52 rfl rfl ?_
                  obtain ⟨hi, h⟩ := gdt h
                  refine xl_9 F E J (inbt hi) dX6_markGoals_53 ?_
                  refine lv_lconst (v := 1) hx hb dX6_markGoals_54 (by decide) ?_
                  refine lv_iload_n hx hb dX6_markGoals_55 rfl (lv_at hl 2 rfl) ?_
                  refine lv_lshl (v := (jlshl 1 l2_L3)) hx hb dX6_markGoals_56 rfl ?_
                  refine lv_lor hx hb dX6_markGoals_57 ?_
                  obtain ⟨v9, hv9, h⟩ := obs h
                  refine nmL hv9 ?_
                  obtain ⟨hi, h⟩ := gdt h
                  refine xs_9 F E J (inbt hi) dX6_markGoals_58 (fun H locs J => ?_)
                  obtain rfl := Option.some.inj h
                  exact Kj7 _ _ _ J (lv_sub hl [0, 1, 2] rfl)
        refine T_L3 FU 0 (vp_updL x_w_goals_L1 (Int32.toNatClampNeg l1_L1) 0) o_L3 ho_L3 _ _ _ J (lv_sub hl [1, 2, 0] rfl) (fun H locs ls J hl => ?_)
        obtain ⟨v11, hv11, h⟩ := obs h
        refine lv_iinc (v := v11) (lv' := [(1, .int v11), (0, .ref (q 2))]) hx hb dX6_markGoals_65 hl (k := 1) rfl (by rw [← hv11]; rfl) (by decide) rfl (fun ls hl => ?_)
        refine lv_goto (tgt := 2) hx hb dX6_markGoals_68 (by decide) ?_
        exact ih _ _ _ h _ _ _ J (lv_sub hl [1, 0] rfl) K_L1
  refine T_L1 FU 0 x_w_goals o_L1 ho_L1 _ _ _ J (lv_sub hl [1, 0] rfl) (fun H locs ls J hl => ?_)
  obtain rfl := Option.some.inj h
  exact ret _ _ _ _ J dX6_markGoals_71
set_option maxHeartbeats 4000000 in
set_option maxRecDepth 100000 in
theorem c_X6_forgetRules {l : Launch} {g : GG} {A : Nat → Prop} {q : Nat → Nat} {x_crowd x_latestFault x_places x_mask x_w_robots x_w_size x_w_nexts x_a_length x_t_length x_t_token x_t_from x_t_value x_t_behind x_r_wants x_r_pairs x_r_sees : Int32} {x_r_row : Int64} {x_b_size x_s_size : Int32} {x_w_names : Nat → Int32} {x_w_goals x_w_links : Nat → Int64} {x_w_linked x_w_ups x_w_downs x_w_next x_a_begun x_t_bytes : Nat → Int32} {x_b_rows : Nat → Int64} {x_b_acts : Nat → Int32} {x_s_rows : Nat → Int64} {x_s_acts : Nat → Int32} (res : Nat → Int32) (h : F_X6_forgetRules x_w_linked = some res) : Met l yX6_forgetRules (wS yX6_forgetRules cX6_forgetRules 2 none) rm_X6_forgetRules (va_Pc [.ref (q 2)] (VB g A (XW g q x_crowd x_latestFault x_places x_mask x_w_robots x_w_size x_w_nexts x_a_length x_t_length x_t_token x_t_from x_t_value x_t_behind x_r_wants x_r_pairs x_r_sees x_r_row x_b_size x_s_size x_w_names x_w_goals x_w_links x_w_linked x_w_ups x_w_downs x_w_next x_a_begun x_t_bytes x_b_rows x_b_acts x_s_rows x_s_acts))) (va_Qv (fun (_ : Unit) => True) (fun _ => VB g A (XW g q x_crowd x_latestFault x_places x_mask x_w_robots x_w_size x_w_nexts x_a_length x_t_length x_t_token x_t_from x_t_value x_t_behind x_r_wants x_r_pairs x_r_sees x_r_row x_b_size x_s_size x_w_names x_w_goals x_w_links res x_w_ups x_w_downs x_w_next x_a_begun x_t_bytes x_b_rows x_b_acts x_s_rows x_s_acts)) A) 0 0 A := by
  unfold F_X6_forgetRules at h
  refine MetV (own := RX6) (ws' := (XW g q x_crowd x_latestFault x_places x_mask x_w_robots x_w_size x_w_nexts x_a_length x_t_length x_t_token x_t_from x_t_value x_t_behind x_r_wants x_r_pairs x_r_sees x_r_row x_b_size x_s_size x_w_names x_w_goals x_w_links res x_w_ups x_w_downs x_w_next x_a_begun x_t_bytes x_b_rows x_b_acts x_s_rows x_s_acts)) (by decide) rfl (Nat.le_of_ble_eq_true rfl) ?_
  intro p e s m args below meth c Q F E ret ls J hl
  have hx := F.1
  have hb := F.2.1
  have hl : lv_has ls 2 [(0, .ref (q 2))] := hl
  refine lv_iconst (v := 0) hx hb dX6_forgetRules_0 (by decide) ?_
  refine lv_istore_n (lv' := [(1, .int 0), (0, .ref (q 2))]) hx hb dX6_forgetRules_1 rfl hl (by decide) rfl (fun ls hl => ?_)
  obtain ⟨o_L1, ho_L1, h⟩ := ob h
  have T_L1 : ∀ (f : Nat) (l1_L1 : Int32) (x_w_linked_L1 : Nat → Int32) (o_L1 : Nat → Int32), F_X6_forgetRules_L1 f l1_L1 x_w_linked_L1 = some o_L1 → ∀ (H : Heap) (locs : List Loc) (ls : Array Slot), VJ g A s.heap (XW g q x_crowd x_latestFault x_places x_mask x_w_robots x_w_size x_w_nexts x_a_length x_t_length x_t_token x_t_from x_t_value x_t_behind x_r_wants x_r_pairs x_r_sees x_r_row x_b_size x_s_size x_w_names x_w_goals x_w_links x_w_linked_L1 x_w_ups x_w_downs x_w_next x_a_begun x_t_bytes x_b_rows x_b_acts x_s_rows x_s_acts) H locs → lv_has ls 2 [(0, .ref (q 2)), (1, .int l1_L1)] → (∀ (H : Heap) (locs : List Loc) (ls : Array Slot), VJ g A s.heap (XW g q x_crowd x_latestFault x_places x_mask x_w_robots x_w_size x_w_nexts x_a_length x_t_length x_t_token x_t_from x_t_value x_t_behind x_r_wants x_r_pairs x_r_sees x_r_row x_b_size x_s_size x_w_names x_w_goals x_w_links o_L1 x_w_ups x_w_downs x_w_next x_a_begun x_t_bytes x_b_rows x_b_acts x_s_rows x_s_acts) H locs → lv_has ls 2 [] → W p l e rm_X6_forgetRules s m args below meth c H locs 0 0 Q (F0 m 20 ls [])) → W p l e rm_X6_forgetRules s m args below meth c H locs 0 0 Q (F0 m 2 ls []) := by
    clear h ho_L1 hl J
    intro f
    induction f with
    | zero => intro l1_L1 x_w_linked_L1 o_L1 h; exact absurd h (by simp [F_X6_forgetRules_L1])
    | succ f ih =>
      intro l1_L1 x_w_linked_L1 o_L1 h H locs ls J hl K_L1
      rw [F_X6_forgetRules_L1.eq_2] at h
      refine lv_iload_n hx hb dX6_forgetRules_2 rfl (lv_at hl 1 rfl) ?_
      refine lv_iconst (v := 3) hx hb dX6_forgetRules_3 (by decide) ?_
      refine lv_icmp_ge (tgt := 20) hx hb dX6_forgetRules_4 (by decide) (fun c2 => ?_) (fun c2 => ?_)
      · have h := itp c2 h
        obtain rfl := Option.some.inj h
        exact K_L1 _ _ _ J (lv_sub hl [] rfl)
      · have h := itn c2 h
        refine lv_aload_n hx hb dX6_forgetRules_7 rfl (lv_at hl 0 rfl) ?_
        refine xg_2_4 F E J fl_X6_22 dX6_forgetRules_8 ?_
        refine lv_iload_n hx hb dX6_forgetRules_11 rfl (lv_at hl 1 rfl) ?_
        refine lv_iconst (v := 0) hx hb dX6_forgetRules_12 (by decide) ?_
        obtain ⟨hi, h⟩ := gdt h
        refine xs_11 F E J (inbt hi) dX6_forgetRules_13 (fun H locs J => ?_)
        obtain ⟨v3, hv3, h⟩ := obs h
        refine lv_iinc (v := v3) (lv' := [(1, .int v3), (0, .ref (q 2))]) hx hb dX6_forgetRules_14 hl (k := 1) rfl (by rw [← hv3]; rfl) (by decide) rfl (fun ls hl => ?_)
        refine lv_goto (tgt := 2) hx hb dX6_forgetRules_17 (by decide) ?_
        exact ih _ _ _ h _ _ _ J (lv_sub hl [1, 0] rfl) K_L1
  refine T_L1 FU 0 x_w_linked o_L1 ho_L1 _ _ _ J (lv_sub hl [1, 0] rfl) (fun H locs ls J hl => ?_)
  obtain rfl := Option.some.inj h
  exact ret _ _ _ _ J dX6_forgetRules_20
set_option maxHeartbeats 4000000 in
set_option maxRecDepth 100000 in
theorem c_X6_gatherFor {l : Launch} {g : GG} {A : Nat → Prop} {q : Nat → Nat} {x_crowd x_latestFault x_places x_mask x_w_robots x_w_size x_w_nexts x_a_length x_t_length x_t_token x_t_from x_t_value x_t_behind x_r_wants x_r_pairs x_r_sees : Int32} {x_r_row : Int64} {x_b_size x_s_size : Int32} {x_w_names : Nat → Int32} {x_w_goals x_w_links : Nat → Int64} {x_w_linked x_w_ups x_w_downs x_w_next x_a_begun x_t_bytes : Nat → Int32} {x_b_rows : Nat → Int64} {x_b_acts : Nat → Int32} {x_s_rows : Nat → Int64} {x_s_acts : Nat → Int32} (a0 : Int32) (res : Int32 × Int32 × (Nat → Int32) × (Nat → Int64) × (Nat → Int32)) (h : F_X6_gatherFor a0 x_places x_mask x_w_robots x_w_size x_w_names x_w_goals x_w_linked = some res) : Met l yX6_gatherFor (wS yX6_gatherFor cX6_gatherFor 2 none) rm_X6_gatherFor (va_Pc [.ref (q 2), .int a0] (VB g A (XW g q x_crowd x_latestFault x_places x_mask x_w_robots x_w_size x_w_nexts x_a_length x_t_length x_t_token x_t_from x_t_value x_t_behind x_r_wants x_r_pairs x_r_sees x_r_row x_b_size x_s_size x_w_names x_w_goals x_w_links x_w_linked x_w_ups x_w_downs x_w_next x_a_begun x_t_bytes x_b_rows x_b_acts x_s_rows x_s_acts))) (va_Qv (fun (_ : Unit) => True) (fun _ => VB g A (XW g q x_crowd x_latestFault x_places x_mask res.1 res.2.1 x_w_nexts x_a_length x_t_length x_t_token x_t_from x_t_value x_t_behind x_r_wants x_r_pairs x_r_sees x_r_row x_b_size x_s_size res.2.2.1 res.2.2.2.1 x_w_links res.2.2.2.2 x_w_ups x_w_downs x_w_next x_a_begun x_t_bytes x_b_rows x_b_acts x_s_rows x_s_acts)) A) 0 0 A := by
  unfold F_X6_gatherFor at h
  refine MetV (own := RX6) (ws' := (XW g q x_crowd x_latestFault x_places x_mask res.1 res.2.1 x_w_nexts x_a_length x_t_length x_t_token x_t_from x_t_value x_t_behind x_r_wants x_r_pairs x_r_sees x_r_row x_b_size x_s_size res.2.2.1 res.2.2.2.1 x_w_links res.2.2.2.2 x_w_ups x_w_downs x_w_next x_a_begun x_t_bytes x_b_rows x_b_acts x_s_rows x_s_acts)) (by decide) rfl (Nat.le_of_ble_eq_true rfl) ?_
  intro p e s m args below meth c Q F E ret ls J hl
  have hx := F.1
  have hb := F.2.1
  have hl : lv_has ls 2 [(0, .ref (q 2)), (1, .int a0)] := hl
  refine lv_aload_n hx hb dX6_gatherFor_0 rfl (lv_at hl 0 rfl) ?_
  refine xg_2_8 F E J fl_X6_35 dX6_gatherFor_1 ?_
  refine lv_iload_n hx hb dX6_gatherFor_4 rfl (lv_at hl 1 rfl) ?_
  refine lv_icmp_ne (tgt := 9) hx hb dX6_gatherFor_5 (by decide) (fun c1 => ?_) (fun c1 => ?_)
  · have h := itn c1 h
    refine lv_aload_n hx hb dX6_gatherFor_9 rfl (lv_at hl 0 rfl) ?_
    refine lv_iload_n hx hb dX6_gatherFor_10 rfl (lv_at hl 1 rfl) ?_
    refine xp_2_8 F E J fl_X6_35 dX6_gatherFor_11 (fun H locs J => ?_)
    refine lv_aload_n hx hb dX6_gatherFor_14 rfl (lv_at hl 0 rfl) ?_
    refine lv_iconst (v := 0) hx hb dX6_gatherFor_15 (by decide) ?_
    refine xp_2_9 F E J fl_X6_39 dX6_gatherFor_16 (fun H locs J => ?_)
    refine lv_aload_n hx hb dX6_gatherFor_19 rfl (lv_at hl 0 rfl) ?_
    refine lv_aload_n hx hb dX6_gatherFor_20 rfl (lv_at hl 0 rfl) ?_
    refine xg_2_0 F E J fl_X6_45 dX6_gatherFor_21 ?_
    refine lv_iconst (v := 0) hx hb dX6_gatherFor_24 (by decide) ?_
    obtain ⟨p2, hp2, h⟩ := ob h
    refine onI (runV (As := [.int 0]) (rest := [.ref (q 2)]) F E J (c_X3_oneAt 0 p2 hp2) cw_X6_49 ⟨rfl, rfl, Nat.le_of_ble_eq_true rfl, Nat.le_of_ble_eq_true rfl⟩ rcX1 rfl hl.1 rfl (Nat.le_of_ble_eq_true rfl) dX6_gatherFor_25) J (fun H locs J => ?_)
    refine lv_iconst (v := 0) hx hb dX6_gatherFor_28 (by decide) ?_
    refine lv_iload_n hx hb dX6_gatherFor_29 rfl (lv_at hl 1 rfl) ?_
    refine lv_iconst (v := 4) hx hb dX6_gatherFor_30 (by decide) ?_
    obtain ⟨p3, hp3, h⟩ := ob h
    refine onI (runS (As := [.int a0, .int 4]) (rest := [.int 0, .int p2, .ref (q 2)]) F E J (c_J9_min_7cf53 a0 4 p3 hp3) cw_X6_55 ⟨rfl, rfl, Nat.le_of_ble_eq_true rfl, Nat.le_of_ble_eq_true rfl⟩ rfl hl.1 rfl (Nat.le_of_ble_eq_true rfl) dX6_gatherFor_31) J (fun H locs J => ?_)
    refine lv_iconst (v := 1) hx hb dX6_gatherFor_34 (by decide) ?_
    refine lv_isub hx hb dX6_gatherFor_35 ?_
    obtain ⟨p4, hp4, h⟩ := ob h
    refine onV (runV (As := [.int p2, .int 0, .int (p3 - 1)]) (rest := []) F E J (c_X6_gather_d3 p2 0 (p3 - 1) p4 hp4) cw_X6_61 ⟨rfl, rfl, Nat.le_of_ble_eq_true rfl, Nat.le_of_ble_eq_true rfl⟩ rcX2 rfl hl.1 rfl (Nat.le_of_ble_eq_true rfl) dX6_gatherFor_36) J (fun H locs J => ?_)
    refine lv_aload_n hx hb dX6_gatherFor_39 rfl (lv_at hl 0 rfl) ?_
    obtain ⟨p5, hp5, h⟩ := ob h
    refine onV (runV (As := []) (rest := []) F E J (c_X6_markGoals  p5 hp5) cw_X6_65 ⟨rfl, rfl, Nat.le_of_ble_eq_true rfl, Nat.le_of_ble_eq_true rfl⟩ rcX2 rfl hl.1 rfl (Nat.le_of_ble_eq_true rfl) dX6_gatherFor_40) J (fun H locs J => ?_)
    refine lv_aload_n hx hb dX6_gatherFor_43 rfl (lv_at hl 0 rfl) ?_
    obtain ⟨p6, hp6, h⟩ := ob h
    refine onV (runV (As := []) (rest := []) F E J (c_X6_forgetRules  p6 hp6) cw_X6_68 ⟨rfl, rfl, Nat.le_of_ble_eq_true rfl, Nat.le_of_ble_eq_true rfl⟩ rcX2 rfl hl.1 rfl (Nat.le_of_ble_eq_true rfl) dX6_gatherFor_44) J (fun H locs J => ?_)
    obtain rfl := Option.some.inj h
    exact ret _ _ _ _ J dX6_gatherFor_47
  · have h := itp c1 h
    obtain rfl := Option.some.inj h
    exact ret _ _ _ _ J dX6_gatherFor_8
set_option maxHeartbeats 4000000 in
set_option maxRecDepth 100000 in
theorem c_X6_findMoves {l : Launch} {g : GG} {A : Nat → Prop} {q : Nat → Nat} {x_crowd x_latestFault x_places x_mask x_w_robots x_w_size x_w_nexts x_a_length x_t_length x_t_token x_t_from x_t_value x_t_behind x_r_wants x_r_pairs x_r_sees : Int32} {x_r_row : Int64} {x_b_size x_s_size : Int32} {x_w_names : Nat → Int32} {x_w_goals x_w_links : Nat → Int64} {x_w_linked x_w_ups x_w_downs x_w_next x_a_begun x_t_bytes : Nat → Int32} {x_b_rows : Nat → Int64} {x_b_acts : Nat → Int32} {x_s_rows : Nat → Int64} {x_s_acts : Nat → Int32} (a1 : Int32) (res : (Nat → Int32) × (Nat → Int32)) (h : F_X6_findMoves a1 x_places x_b_size x_w_ups x_w_downs x_b_rows x_b_acts = some res) : Met l yX6_findMoves (wS yX6_findMoves cX6_findMoves 5 none) rm_X6_findMoves (va_Pc [.ref (q 2), .ref (q 6), .int a1] (VB g A (XW g q x_crowd x_latestFault x_places x_mask x_w_robots x_w_size x_w_nexts x_a_length x_t_length x_t_token x_t_from x_t_value x_t_behind x_r_wants x_r_pairs x_r_sees x_r_row x_b_size x_s_size x_w_names x_w_goals x_w_links x_w_linked x_w_ups x_w_downs x_w_next x_a_begun x_t_bytes x_b_rows x_b_acts x_s_rows x_s_acts))) (va_Qv (fun (_ : Unit) => True) (fun _ => VB g A (XW g q x_crowd x_latestFault x_places x_mask x_w_robots x_w_size x_w_nexts x_a_length x_t_length x_t_token x_t_from x_t_value x_t_behind x_r_wants x_r_pairs x_r_sees x_r_row x_b_size x_s_size x_w_names x_w_goals x_w_links x_w_linked res.1 res.2 x_w_next x_a_begun x_t_bytes x_b_rows x_b_acts x_s_rows x_s_acts)) A) 0 0 A := by
  unfold F_X6_findMoves at h
  refine MetV (own := RX6) (ws' := (XW g q x_crowd x_latestFault x_places x_mask x_w_robots x_w_size x_w_nexts x_a_length x_t_length x_t_token x_t_from x_t_value x_t_behind x_r_wants x_r_pairs x_r_sees x_r_row x_b_size x_s_size x_w_names x_w_goals x_w_links x_w_linked res.1 res.2 x_w_next x_a_begun x_t_bytes x_b_rows x_b_acts x_s_rows x_s_acts)) (by decide) rfl (Nat.le_of_ble_eq_true rfl) ?_
  intro p e s m args below meth c Q F E ret ls J hl
  have hx := F.1
  have hb := F.2.1
  have hl : lv_has ls 5 [(0, .ref (q 2)), (1, .ref (q 6)), (2, .int a1)] := hl
  refine lv_iconst (v := 0) hx hb dX6_findMoves_0 (by decide) ?_
  refine lv_istore_n (lv' := [(3, .int 0), (0, .ref (q 2)), (1, .ref (q 6)), (2, .int a1)]) hx hb dX6_findMoves_1 rfl hl (by decide) rfl (fun ls hl => ?_)
  obtain ⟨o_L1, ho_L1, h⟩ := ob h
  have T_L1 : ∀ (f : Nat) (l3_L1 : Int32) (x_w_ups_L1 : Nat → Int32) (x_w_downs_L1 : Nat → Int32) (o_L1 : (Nat → Int32) × (Nat → Int32)), F_X6_findMoves_L1 a1 x_places x_b_size x_b_rows x_b_acts f l3_L1 x_w_ups_L1 x_w_downs_L1 = some o_L1 → ∀ (H : Heap) (locs : List Loc) (ls : Array Slot), VJ g A s.heap (XW g q x_crowd x_latestFault x_places x_mask x_w_robots x_w_size x_w_nexts x_a_length x_t_length x_t_token x_t_from x_t_value x_t_behind x_r_wants x_r_pairs x_r_sees x_r_row x_b_size x_s_size x_w_names x_w_goals x_w_links x_w_linked x_w_ups_L1 x_w_downs_L1 x_w_next x_a_begun x_t_bytes x_b_rows x_b_acts x_s_rows x_s_acts) H locs → lv_has ls 5 [(0, .ref (q 2)), (1, .ref (q 6)), (2, .int a1), (3, .int l3_L1)] → (∀ (H : Heap) (locs : List Loc) (ls : Array Slot), VJ g A s.heap (XW g q x_crowd x_latestFault x_places x_mask x_w_robots x_w_size x_w_nexts x_a_length x_t_length x_t_token x_t_from x_t_value x_t_behind x_r_wants x_r_pairs x_r_sees x_r_row x_b_size x_s_size x_w_names x_w_goals x_w_links x_w_linked o_L1.1 o_L1.2 x_w_next x_a_begun x_t_bytes x_b_rows x_b_acts x_s_rows x_s_acts) H locs → lv_has ls 5 [] → W p l e rm_X6_findMoves s m args below meth c H locs 0 0 Q (F0 m 115 ls [])) → W p l e rm_X6_findMoves s m args below meth c H locs 0 0 Q (F0 m 2 ls []) := by
    clear h ho_L1 hl J
    intro f
    induction f with
    | zero => intro l3_L1 x_w_ups_L1 x_w_downs_L1 o_L1 h; exact absurd h (by simp [F_X6_findMoves_L1])
    | succ f ih =>
      intro l3_L1 x_w_ups_L1 x_w_downs_L1 o_L1 h H locs ls J hl K_L1
      rw [F_X6_findMoves_L1.eq_2] at h
      refine lv_iload_n hx hb dX6_findMoves_2 rfl (lv_at hl 3 rfl) ?_
      refine lv_aload_n hx hb dX6_findMoves_3 rfl (lv_at hl 0 rfl) ?_
      refine xg_2_0 F E J fl_X6_45 dX6_findMoves_4 ?_
      refine xgN_1_0 (host := RX7) F E J (by decide +kernel) dX6_findMoves_7 ?_
      refine lv_icmp_ge (tgt := 115) hx hb dX6_findMoves_10 (by decide) (fun c2 => ?_) (fun c2 => ?_)
      · have h := itp c2 h
        obtain rfl := Option.some.inj h
        exact K_L1 _ _ _ J (lv_sub hl [] rfl)
      · have h := itn c2 h
        refine lv_iload_n hx hb dX6_findMoves_13 rfl (lv_at hl 3 rfl) ?_
        refine lv_bipush (v := 9) hx hb dX6_findMoves_14 (by decide) ?_
        refine lv_icmp_ge (tgt := 115) hx hb dX6_findMoves_16 (by decide) (fun c3 => ?_) (fun c3 => ?_)
        · have h := itp c3 h
          obtain rfl := Option.some.inj h
          exact K_L1 _ _ _ J (lv_sub hl [] rfl)
        · have h := itn c3 h
          refine lv_aload_n hx hb dX6_findMoves_19 rfl (lv_at hl 0 rfl) ?_
          refine xg_2_0 F E J fl_X6_45 dX6_findMoves_20 ?_
          refine lv_iload_n hx hb dX6_findMoves_23 rfl (lv_at hl 2 rfl) ?_
          refine lv_iload_n hx hb dX6_findMoves_24 rfl (lv_at hl 3 rfl) ?_
          obtain ⟨p4, hp4, h⟩ := ob h
          refine onI (runV (As := [.int a1, .int l3_L1]) (rest := []) F E J (c_X3_manyAt a1 l3_L1 p4 hp4) cw_X6_107 ⟨rfl, rfl, Nat.le_of_ble_eq_true rfl, Nat.le_of_ble_eq_true rfl⟩ rcX1 rfl hl.1 rfl (Nat.le_of_ble_eq_true rfl) dX6_findMoves_25) J (fun H locs J => ?_)
          obtain ⟨j5, hj5, h⟩ := ob h
          have Kj5 : ∀ (H : Heap) (locs : List Loc) (ls : Array Slot), VJ g A s.heap (XW g q x_crowd x_latestFault x_places x_mask x_w_robots x_w_size x_w_nexts x_a_length x_t_length x_t_token x_t_from x_t_value x_t_behind x_r_wants x_r_pairs x_r_sees x_r_row x_b_size x_s_size x_w_names x_w_goals x_w_links x_w_linked x_w_ups_L1 x_w_downs_L1 x_w_next x_a_begun x_t_bytes x_b_rows x_b_acts x_s_rows x_s_acts) H locs → lv_has ls 5 [(0, .ref (q 2)), (1, .ref (q 6)), (2, .int a1), (3, .int l3_L1)] → W p l e rm_X6_findMoves s m args below meth c H locs 0 0 Q (F0 m 45 ls [.int j5]) := by
            intro H locs ls J hl
            refine lv_istore (lv' := [(4, .int j5), (0, .ref (q 2)), (1, .ref (q 6)), (2, .int a1), (3, .int l3_L1)]) hx hb dX6_findMoves_45 hl (by decide) rfl (fun ls hl => ?_)
            refine lv_aload_n hx hb dX6_findMoves_47 rfl (lv_at hl 1 rfl) ?_
            refine xg_2_5 F E J fl_X6_26 dX6_findMoves_48 ?_
            refine lv_iload_n hx hb dX6_findMoves_51 rfl (lv_at hl 4 rfl) ?_
            refine lv_iload hx hb dX6_findMoves_52 (lv_at hl 0 rfl) ?_
            refine lv_iconst (v := 1) hx hb dX6_findMoves_54 (by decide) ?_
            obtain ⟨j8, hj8, h⟩ := ob h
            have Kj8 : ∀ (H : Heap) (locs : List Loc) (ls : Array Slot), VJ g A s.heap (XW g q x_crowd x_latestFault x_places x_mask x_w_robots x_w_size x_w_nexts x_a_length x_t_length x_t_token x_t_from x_t_value x_t_behind x_r_wants x_r_pairs x_r_sees x_r_row x_b_size x_s_size x_w_names x_w_goals x_w_links x_w_linked x_w_ups_L1 x_w_downs_L1 x_w_next x_a_begun x_t_bytes x_b_rows x_b_acts x_s_rows x_s_acts) H locs → lv_has ls 5 [(0, .ref (q 2)), (1, .ref (q 6)), (2, .int a1), (3, .int l3_L1), (4, .int j5)] → W p l e rm_X6_findMoves s m args below meth c H locs 0 0 Q (F0 m 77 ls [.int j8, .int l3_L1, .ref (q 12)]) := by
              intro H locs ls J hl
              obtain ⟨hi, h⟩ := gdt h
              refine xs_12 F E J (inbt hi) dX6_findMoves_77 (fun H locs J => ?_)
              refine lv_aload_n hx hb dX6_findMoves_78 rfl (lv_at hl 0 rfl) ?_
              refine xg_2_6 F E J fl_X6_29 dX6_findMoves_79 ?_
              refine lv_iload_n hx hb dX6_findMoves_82 rfl (lv_at hl 3 rfl) ?_
              refine lv_iload hx hb dX6_findMoves_83 (lv_at hl 4 rfl) ?_
              refine lv_iconst (v := (-1)) hx hb dX6_findMoves_85 (by decide) ?_
              obtain ⟨j13, hj13, h⟩ := ob h
              have Kj13 : ∀ (H : Heap) (locs : List Loc) (ls : Array Slot), VJ g A s.heap (XW g q x_crowd x_latestFault x_places x_mask x_w_robots x_w_size x_w_nexts x_a_length x_t_length x_t_token x_t_from x_t_value x_t_behind x_r_wants x_r_pairs x_r_sees x_r_row x_b_size x_s_size x_w_names x_w_goals x_w_links x_w_linked (upd x_w_ups_L1 (Int32.toNatClampNeg l3_L1) j8) x_w_downs_L1 x_w_next x_a_begun x_t_bytes x_b_rows x_b_acts x_s_rows x_s_acts) H locs → lv_has ls 5 [(0, .ref (q 2)), (1, .ref (q 6)), (2, .int a1), (3, .int l3_L1)] → W p l e rm_X6_findMoves s m args below meth c H locs 0 0 Q (F0 m 108 ls [.int j13, .int l3_L1, .ref (q 13)]) := by
                intro H locs ls J hl
                obtain ⟨hi, h⟩ := gdt h
                refine xs_13 F E J (inbt hi) dX6_findMoves_108 (fun H locs J => ?_)
                obtain ⟨v18, hv18, h⟩ := obs h
                refine lv_iinc (v := v18) (lv' := [(3, .int v18), (0, .ref (q 2)), (1, .ref (q 6)), (2, .int a1)]) hx hb dX6_findMoves_109 hl (k := 3) rfl (by rw [← hv18]; rfl) (by decide) rfl (fun ls hl => ?_)
                refine lv_goto (tgt := 2) hx hb dX6_findMoves_112 (by decide) ?_
                exact ih _ _ _ _ h _ _ _ J (lv_sub hl [1, 2, 3, 0] rfl) K_L1
              clear h
              have h := hj13
              refine lv_icmp_eq (tgt := 95) hx hb dX6_findMoves_86 (by decide) (fun c14 => ?_) (fun c14 => ?_)
              · have h := itp c14 h
                refine lv_aload_n hx hb dX6_findMoves_95 rfl (lv_at hl 0 rfl) ?_
                refine xg_2_0 F E J fl_X6_45 dX6_findMoves_96 ?_
                refine lv_iload_n hx hb dX6_findMoves_99 rfl (lv_at hl 3 rfl) ?_
                refine lv_iconst (v := (-1)) hx hb dX6_findMoves_100 (by decide) ?_
                obtain ⟨p15, hp15, h⟩ := ob h
                refine onI (runV (As := [.int l3_L1, .int (-1)]) (rest := [.int l3_L1, .ref (q 13)]) F E J (c_X3_shift l3_L1 (-1) p15 hp15) cw_X6_116 ⟨rfl, rfl, Nat.le_of_ble_eq_true rfl, Nat.le_of_ble_eq_true rfl⟩ rcX1 rfl hl.1 rfl (Nat.le_of_ble_eq_true rfl) dX6_findMoves_101) J (fun H locs J => ?_)
                refine lv_goto (tgt := 108) hx hb dX6_findMoves_104 (by decide) ?_
                obtain rfl := Option.some.inj h
                exact Kj13 _ _ _ J (lv_sub hl [0, 1, 2, 3] rfl)
              · have h := itn c14 h
                refine lv_iload hx hb dX6_findMoves_89 (lv_at hl 4 rfl) ?_
                refine lv_iconst (v := 2) hx hb dX6_findMoves_91 (by decide) ?_
                refine lv_icmp_ne (tgt := 107) hx hb dX6_findMoves_92 (by decide) (fun c16 => ?_) (fun c16 => ?_)
                · have h := itn c16 h
                  refine lv_iconst (v := 0) hx hb dX6_findMoves_107 (by decide) ?_
                  obtain rfl := Option.some.inj h
                  exact Kj13 _ _ _ J (lv_sub hl [0, 1, 2, 3] rfl)
                · have h := itp c16 h
                  refine lv_aload_n hx hb dX6_findMoves_95 rfl (lv_at hl 0 rfl) ?_
                  refine xg_2_0 F E J fl_X6_45 dX6_findMoves_96 ?_
                  refine lv_iload_n hx hb dX6_findMoves_99 rfl (lv_at hl 3 rfl) ?_
                  refine lv_iconst (v := (-1)) hx hb dX6_findMoves_100 (by decide) ?_
                  obtain ⟨p17, hp17, h⟩ := ob h
                  refine onI (runV (As := [.int l3_L1, .int (-1)]) (rest := [.int l3_L1, .ref (q 13)]) F E J (c_X3_shift l3_L1 (-1) p17 hp17) cw_X6_116 ⟨rfl, rfl, Nat.le_of_ble_eq_true rfl, Nat.le_of_ble_eq_true rfl⟩ rcX1 rfl hl.1 rfl (Nat.le_of_ble_eq_true rfl) dX6_findMoves_101) J (fun H locs J => ?_)
                  refine lv_goto (tgt := 108) hx hb dX6_findMoves_104 (by decide) ?_
                  obtain rfl := Option.some.inj h
                  exact Kj13 _ _ _ J (lv_sub hl [0, 1, 2, 3] rfl)
            clear h
            have h := hj8
            refine lv_icmp_eq (tgt := 64) hx hb dX6_findMoves_55 (by decide) (fun c9 => ?_) (fun c9 => ?_)
            · have h := itp c9 h
              refine lv_aload_n hx hb dX6_findMoves_64 rfl (lv_at hl 1 rfl) ?_
              refine xg_2_0 F E J fl_X6_45 dX6_findMoves_65 ?_
              refine lv_iload_n hx hb dX6_findMoves_68 rfl (lv_at hl 4 rfl) ?_
              refine lv_iconst (v := 1) hx hb dX6_findMoves_69 (by decide) ?_
              obtain ⟨p10, hp10, h⟩ := ob h
              refine onI (runV (As := [.int l3_L1, .int 1]) (rest := [.int l3_L1, .ref (q 12)]) F E J (c_X3_shift l3_L1 1 p10 hp10) cw_X6_116 ⟨rfl, rfl, Nat.le_of_ble_eq_true rfl, Nat.le_of_ble_eq_true rfl⟩ rcX1 rfl hl.1 rfl (Nat.le_of_ble_eq_true rfl) dX6_findMoves_70) J (fun H locs J => ?_)
              refine lv_goto (tgt := 77) hx hb dX6_findMoves_73 (by decide) ?_
              obtain rfl := Option.some.inj h
              exact Kj8 _ _ _ J (lv_sub hl [1, 2, 3, 4, 0] rfl)
            · have h := itn c9 h
              refine lv_iload hx hb dX6_findMoves_58 (lv_at hl 0 rfl) ?_
              refine lv_iconst (v := 2) hx hb dX6_findMoves_60 (by decide) ?_
              refine lv_icmp_ne (tgt := 76) hx hb dX6_findMoves_61 (by decide) (fun c11 => ?_) (fun c11 => ?_)
              · have h := itn c11 h
                refine lv_iconst (v := 0) hx hb dX6_findMoves_76 (by decide) ?_
                obtain rfl := Option.some.inj h
                exact Kj8 _ _ _ J (lv_sub hl [1, 2, 3, 4, 0] rfl)
              · have h := itp c11 h
                refine lv_aload_n hx hb dX6_findMoves_64 rfl (lv_at hl 1 rfl) ?_
                refine xg_2_0 F E J fl_X6_45 dX6_findMoves_65 ?_
                refine lv_iload_n hx hb dX6_findMoves_68 rfl (lv_at hl 4 rfl) ?_
                refine lv_iconst (v := 1) hx hb dX6_findMoves_69 (by decide) ?_
                obtain ⟨p12, hp12, h⟩ := ob h
                refine onI (runV (As := [.int l3_L1, .int 1]) (rest := [.int l3_L1, .ref (q 12)]) F E J (c_X3_shift l3_L1 1 p12 hp12) cw_X6_116 ⟨rfl, rfl, Nat.le_of_ble_eq_true rfl, Nat.le_of_ble_eq_true rfl⟩ rcX1 rfl hl.1 rfl (Nat.le_of_ble_eq_true rfl) dX6_findMoves_70) J (fun H locs J => ?_)
                refine lv_goto (tgt := 77) hx hb dX6_findMoves_73 (by decide) ?_
                obtain rfl := Option.some.inj h
                exact Kj8 _ _ _ J (lv_sub hl [1, 2, 3, 4, 0] rfl)
          clear h
          have h := hj5
          refine lv_if_ne (tgt := 35) hx hb dX6_findMoves_28 (by decide) (fun c6 => ?_) (fun c6 => ?_)
          · have h := itn c6 h
            refine lv_aload_n hx hb dX6_findMoves_35 rfl (lv_at hl 1 rfl) ?_
            refine lv_aload_n hx hb dX6_findMoves_36 rfl (lv_at hl 0 rfl) ?_
            refine xg_2_0 F E J fl_X6_45 dX6_findMoves_37 ?_
            refine lv_iload_n hx hb dX6_findMoves_40 rfl (lv_at hl 2 rfl) ?_
            refine lv_iload_n hx hb dX6_findMoves_41 rfl (lv_at hl 3 rfl) ?_
            obtain ⟨p7, hp7, h⟩ := ob h
            refine onI (runV (As := [.ref (q 1), .int a1, .int l3_L1]) (rest := []) F E J (c_X1_moveAt_b a1 l3_L1 p7 hp7) cw_X6_110 ⟨rfl, rfl, Nat.le_of_ble_eq_true rfl, Nat.le_of_ble_eq_true rfl⟩ rcX6 rfl hl.1 rfl (Nat.le_of_ble_eq_true rfl) dX6_findMoves_42) J (fun H locs J => ?_)
            obtain rfl := Option.some.inj h
            exact Kj5 _ _ _ J (lv_sub hl [0, 1, 2, 3] rfl)
          · have h := itp c6 h
            refine lv_iconst (v := 0) hx hb dX6_findMoves_31 (by decide) ?_
            refine lv_goto (tgt := 45) hx hb dX6_findMoves_32 (by decide) ?_
            obtain rfl := Option.some.inj h
            exact Kj5 _ _ _ J (lv_sub hl [0, 1, 2, 3] rfl)
  refine T_L1 FU 0 x_w_ups x_w_downs o_L1 ho_L1 _ _ _ J (lv_sub hl [1, 2, 3, 0] rfl) (fun H locs ls J hl => ?_)
  obtain rfl := Option.some.inj h
  exact ret _ _ _ _ J dX6_findMoves_115
set_option maxHeartbeats 4000000 in
set_option maxRecDepth 100000 in
theorem c_X6_addNext {l : Launch} {g : GG} {A : Nat → Prop} {q : Nat → Nat} {x_crowd x_latestFault x_places x_mask x_w_robots x_w_size x_w_nexts x_a_length x_t_length x_t_token x_t_from x_t_value x_t_behind x_r_wants x_r_pairs x_r_sees : Int32} {x_r_row : Int64} {x_b_size x_s_size : Int32} {x_w_names : Nat → Int32} {x_w_goals x_w_links : Nat → Int64} {x_w_linked x_w_ups x_w_downs x_w_next x_a_begun x_t_bytes : Nat → Int32} {x_b_rows : Nat → Int64} {x_b_acts : Nat → Int32} {x_s_rows : Nat → Int64} {x_s_acts : Nat → Int32} (a0 : Int32) (res : Int32 × (Nat → Int32)) (h : F_X6_addNext a0 x_w_nexts x_w_next = some res) : Met l yX6_addNext (wS yX6_addNext cX6_addNext 2 none) rm_X6_addNext (va_Pc [.ref (q 2), .int a0] (VB g A (XW g q x_crowd x_latestFault x_places x_mask x_w_robots x_w_size x_w_nexts x_a_length x_t_length x_t_token x_t_from x_t_value x_t_behind x_r_wants x_r_pairs x_r_sees x_r_row x_b_size x_s_size x_w_names x_w_goals x_w_links x_w_linked x_w_ups x_w_downs x_w_next x_a_begun x_t_bytes x_b_rows x_b_acts x_s_rows x_s_acts))) (va_Qv (fun (_ : Unit) => True) (fun _ => VB g A (XW g q x_crowd x_latestFault x_places x_mask x_w_robots x_w_size res.1 x_a_length x_t_length x_t_token x_t_from x_t_value x_t_behind x_r_wants x_r_pairs x_r_sees x_r_row x_b_size x_s_size x_w_names x_w_goals x_w_links x_w_linked x_w_ups x_w_downs res.2 x_a_begun x_t_bytes x_b_rows x_b_acts x_s_rows x_s_acts)) A) 0 0 A := by
  unfold F_X6_addNext at h
  refine MetV (own := RX6) (ws' := (XW g q x_crowd x_latestFault x_places x_mask x_w_robots x_w_size res.1 x_a_length x_t_length x_t_token x_t_from x_t_value x_t_behind x_r_wants x_r_pairs x_r_sees x_r_row x_b_size x_s_size x_w_names x_w_goals x_w_links x_w_linked x_w_ups x_w_downs res.2 x_a_begun x_t_bytes x_b_rows x_b_acts x_s_rows x_s_acts)) (by decide) rfl (Nat.le_of_ble_eq_true rfl) ?_
  intro p e s m args below meth c Q F E ret ls J hl
  have hx := F.1
  have hb := F.2.1
  have hl : lv_has ls 2 [(0, .ref (q 2)), (1, .int a0)] := hl
  refine lv_aload_n hx hb dX6_addNext_0 rfl (lv_at hl 0 rfl) ?_
  refine xg_2_10 F E J fl_X6_42 dX6_addNext_1 ?_
  refine lv_bipush (v := 81) hx hb dX6_addNext_4 (by decide) ?_
  refine lv_icmp_ge (tgt := 29) hx hb dX6_addNext_6 (by decide) (fun c1 => ?_) (fun c1 => ?_)
  · have h := itp c1 h
    obtain rfl := Option.some.inj h
    exact ret _ _ _ _ J dX6_addNext_29
  · have h := itn c1 h
    refine lv_aload_n hx hb dX6_addNext_9 rfl (lv_at hl 0 rfl) ?_
    refine xg_2_7 F E J fl_X6_32 dX6_addNext_10 ?_
    refine lv_aload_n hx hb dX6_addNext_13 rfl (lv_at hl 0 rfl) ?_
    refine xg_2_10 F E J fl_X6_42 dX6_addNext_14 ?_
    refine lv_iload_n hx hb dX6_addNext_17 rfl (lv_at hl 1 rfl) ?_
    obtain ⟨hi, h⟩ := gdt h
    refine xs_14 F E J (inbt hi) dX6_addNext_18 (fun H locs J => ?_)
    refine lv_aload_n hx hb dX6_addNext_19 rfl (lv_at hl 0 rfl) ?_
    refine lv_dup hx hb dX6_addNext_20 rfl ?_
    refine xg_2_10 F E J fl_X6_42 dX6_addNext_21 ?_
    refine lv_iconst (v := 1) hx hb dX6_addNext_24 (by decide) ?_
    refine lv_iadd hx hb dX6_addNext_25 ?_
    obtain ⟨v2, hv2, h⟩ := obs h
    refine nmI hv2 ?_
    refine xp_2_10 F E J fl_X6_42 dX6_addNext_26 (fun H locs J => ?_)
    obtain rfl := Option.some.inj h
    exact ret _ _ _ _ J dX6_addNext_29
