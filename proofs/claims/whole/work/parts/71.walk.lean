set_option maxHeartbeats 4000000 in
set_option maxRecDepth 100000 in
theorem c_X6_addMoved {l : Launch} {g : GG} {A : Nat → Prop} {q : Nat → Nat} {x_crowd x_latestFault x_places x_mask x_w_robots x_w_size x_w_nexts x_a_length x_t_length x_t_token x_t_from x_t_value x_t_behind x_r_wants x_r_pairs x_r_sees : Int32} {x_r_row : Int64} {x_b_size x_s_size : Int32} {x_w_names : Nat → Int32} {x_w_goals x_w_links : Nat → Int64} {x_w_linked x_w_ups x_w_downs x_w_next x_a_begun x_t_bytes : Nat → Int32} {x_b_rows : Nat → Int64} {x_b_acts : Nat → Int32} {x_s_rows : Nat → Int64} {x_s_acts : Nat → Int32} (a0 : Int32) (a1 : Int32) (a2 : Int32) (res : Int32 × (Nat → Int32)) (h : F_X6_addMoved a0 a1 a2 x_w_nexts x_w_next = some res) : Met l yX6_addMoved (wS yX6_addMoved cX6_addMoved 4 none) rm_X6_addMoved (va_Pc [.ref (q 2), .int a0, .int a1, .int a2] (VB g A (XW g q x_crowd x_latestFault x_places x_mask x_w_robots x_w_size x_w_nexts x_a_length x_t_length x_t_token x_t_from x_t_value x_t_behind x_r_wants x_r_pairs x_r_sees x_r_row x_b_size x_s_size x_w_names x_w_goals x_w_links x_w_linked x_w_ups x_w_downs x_w_next x_a_begun x_t_bytes x_b_rows x_b_acts x_s_rows x_s_acts))) (va_Qv (fun (_ : Unit) => True) (fun _ => VB g A (XW g q x_crowd x_latestFault x_places x_mask x_w_robots x_w_size res.1 x_a_length x_t_length x_t_token x_t_from x_t_value x_t_behind x_r_wants x_r_pairs x_r_sees x_r_row x_b_size x_s_size x_w_names x_w_goals x_w_links x_w_linked x_w_ups x_w_downs res.2 x_a_begun x_t_bytes x_b_rows x_b_acts x_s_rows x_s_acts)) A) 0 0 A := by
  unfold F_X6_addMoved at h
  refine MetV (own := RX6) (ws' := (XW g q x_crowd x_latestFault x_places x_mask x_w_robots x_w_size res.1 x_a_length x_t_length x_t_token x_t_from x_t_value x_t_behind x_r_wants x_r_pairs x_r_sees x_r_row x_b_size x_s_size x_w_names x_w_goals x_w_links x_w_linked x_w_ups x_w_downs res.2 x_a_begun x_t_bytes x_b_rows x_b_acts x_s_rows x_s_acts)) (by decide) rfl (Nat.le_of_ble_eq_true rfl) ?_
  intro p e s m args below meth c Q F E ret ls J hl
  have hx := F.1
  have hb := F.2.1
  have hl : lv_has ls 4 [(0, .ref (q 2)), (1, .int a0), (2, .int a1), (3, .int a2)] := hl
  refine lv_iload_n hx hb dX6_addMoved_0 rfl (lv_at hl 2 rfl) ?_
  obtain ⟨j1, hj1, h⟩ := ob h
  have Kj1 : ∀ (H : Heap) (locs : List Loc) (ls : Array Slot), VJ g A s.heap (XW g q x_crowd x_latestFault x_places x_mask x_w_robots x_w_size j1.1 x_a_length x_t_length x_t_token x_t_from x_t_value x_t_behind x_r_wants x_r_pairs x_r_sees x_r_row x_b_size x_s_size x_w_names x_w_goals x_w_links x_w_linked x_w_ups x_w_downs j1.2 x_a_begun x_t_bytes x_b_rows x_b_acts x_s_rows x_s_acts) H locs → lv_has ls 4 [(0, .ref (q 2)), (1, .int a0), (3, .int a2)] → W p l e rm_X6_addMoved s m args below meth c H locs 0 0 Q (F0 m 11 ls []) := by
    intro H locs ls J hl
    refine lv_iload_n hx hb dX6_addMoved_11 rfl (lv_at hl 2 rfl) ?_
    refine lv_if_eq (tgt := 22) hx hb dX6_addMoved_12 (by decide) (fun c4 => ?_) (fun c4 => ?_)
    · have h := itp c4 h
      obtain rfl := Option.some.inj h
      exact ret _ _ _ _ J dX6_addMoved_22
    · have h := itn c4 h
      refine lv_aload_n hx hb dX6_addMoved_15 rfl (lv_at hl 0 rfl) ?_
      refine lv_iload_n hx hb dX6_addMoved_16 rfl (lv_at hl 1 rfl) ?_
      refine lv_iload_n hx hb dX6_addMoved_17 rfl (lv_at hl 2 rfl) ?_
      refine lv_iadd hx hb dX6_addMoved_18 ?_
      obtain ⟨p5, hp5, h⟩ := ob h
      refine onV (runV (As := [.int (a0 + a2)]) (rest := []) F E J (c_X6_addNext (a0 + a2) p5 hp5) cw_X6_119 ⟨rfl, rfl, Nat.le_of_ble_eq_true rfl, Nat.le_of_ble_eq_true rfl⟩ rcX2 rfl hl.1 rfl (Nat.le_of_ble_eq_true rfl) dX6_addMoved_19) J (fun H locs J => ?_)
      obtain rfl := Option.some.inj h
      exact ret _ _ _ _ J dX6_addMoved_22
  clear h
  have h := hj1
  refine lv_if_eq (tgt := 11) hx hb dX6_addMoved_1 (by decide) (fun c2 => ?_) (fun c2 => ?_)
  · have h := itp c2 h
    obtain rfl := Option.some.inj h
    exact Kj1 _ _ _ J (lv_sub hl [0, 1, 3] rfl)
  · have h := itn c2 h
    refine lv_aload_n hx hb dX6_addMoved_4 rfl (lv_at hl 0 rfl) ?_
    refine lv_iload_n hx hb dX6_addMoved_5 rfl (lv_at hl 1 rfl) ?_
    refine lv_iload_n hx hb dX6_addMoved_6 rfl (lv_at hl 2 rfl) ?_
    refine lv_iadd hx hb dX6_addMoved_7 ?_
    obtain ⟨p3, hp3, h⟩ := ob h
    refine onV (runV (As := [.int (a0 + a1)]) (rest := []) F E J (c_X6_addNext (a0 + a1) p3 hp3) cw_X6_119 ⟨rfl, rfl, Nat.le_of_ble_eq_true rfl, Nat.le_of_ble_eq_true rfl⟩ rcX2 rfl hl.1 rfl (Nat.le_of_ble_eq_true rfl) dX6_addMoved_8) J (fun H locs J => ?_)
    obtain rfl := Option.some.inj h
    exact Kj1 _ _ _ J (lv_sub hl [0, 1, 3] rfl)
set_option maxHeartbeats 4000000 in
set_option maxRecDepth 100000 in
theorem c_X6_dropFirst {l : Launch} {g : GG} {A : Nat → Prop} {q : Nat → Nat} {x_crowd x_latestFault x_places x_mask x_w_robots x_w_size x_w_nexts x_a_length x_t_length x_t_token x_t_from x_t_value x_t_behind x_r_wants x_r_pairs x_r_sees : Int32} {x_r_row : Int64} {x_b_size x_s_size : Int32} {x_w_names : Nat → Int32} {x_w_goals x_w_links : Nat → Int64} {x_w_linked x_w_ups x_w_downs x_w_next x_a_begun x_t_bytes : Nat → Int32} {x_b_rows : Nat → Int64} {x_b_acts : Nat → Int32} {x_s_rows : Nat → Int64} {x_s_acts : Nat → Int32} (a0 : Int32) (res : Int32 × (Nat → Int32)) (h : F_X6_dropFirst a0 x_w_nexts x_w_next = some res) : Met l yX6_dropFirst (wS yX6_dropFirst cX6_dropFirst 3 none) rm_X6_dropFirst (va_Pc [.ref (q 2), .int a0] (VB g A (XW g q x_crowd x_latestFault x_places x_mask x_w_robots x_w_size x_w_nexts x_a_length x_t_length x_t_token x_t_from x_t_value x_t_behind x_r_wants x_r_pairs x_r_sees x_r_row x_b_size x_s_size x_w_names x_w_goals x_w_links x_w_linked x_w_ups x_w_downs x_w_next x_a_begun x_t_bytes x_b_rows x_b_acts x_s_rows x_s_acts))) (va_Qv (fun (_ : Unit) => True) (fun _ => VB g A (XW g q x_crowd x_latestFault x_places x_mask x_w_robots x_w_size res.1 x_a_length x_t_length x_t_token x_t_from x_t_value x_t_behind x_r_wants x_r_pairs x_r_sees x_r_row x_b_size x_s_size x_w_names x_w_goals x_w_links x_w_linked x_w_ups x_w_downs res.2 x_a_begun x_t_bytes x_b_rows x_b_acts x_s_rows x_s_acts)) A) 0 0 A := by
  unfold F_X6_dropFirst at h
  refine MetV (own := RX6) (ws' := (XW g q x_crowd x_latestFault x_places x_mask x_w_robots x_w_size res.1 x_a_length x_t_length x_t_token x_t_from x_t_value x_t_behind x_r_wants x_r_pairs x_r_sees x_r_row x_b_size x_s_size x_w_names x_w_goals x_w_links x_w_linked x_w_ups x_w_downs res.2 x_a_begun x_t_bytes x_b_rows x_b_acts x_s_rows x_s_acts)) (by decide) rfl (Nat.le_of_ble_eq_true rfl) ?_
  intro p e s m args below meth c Q F E ret ls J hl
  have hx := F.1
  have hb := F.2.1
  have hl : lv_has ls 3 [(0, .ref (q 2)), (1, .int a0)] := hl
  refine lv_iload_n hx hb dX6_dropFirst_0 rfl (lv_at hl 1 rfl) ?_
  refine lv_istore_n (lv' := [(2, .int a0), (0, .ref (q 2)), (1, .int a0)]) hx hb dX6_dropFirst_1 rfl hl (by decide) rfl (fun ls hl => ?_)
  obtain ⟨o_L1, ho_L1, h⟩ := ob h
  have T_L1 : ∀ (f : Nat) (l2_L1 : Int32) (x_w_next_L1 : Nat → Int32) (o_L1 : Nat → Int32), F_X6_dropFirst_L1 a0 x_w_nexts f l2_L1 x_w_next_L1 = some o_L1 → ∀ (H : Heap) (locs : List Loc) (ls : Array Slot), VJ g A s.heap (XW g q x_crowd x_latestFault x_places x_mask x_w_robots x_w_size x_w_nexts x_a_length x_t_length x_t_token x_t_from x_t_value x_t_behind x_r_wants x_r_pairs x_r_sees x_r_row x_b_size x_s_size x_w_names x_w_goals x_w_links x_w_linked x_w_ups x_w_downs x_w_next_L1 x_a_begun x_t_bytes x_b_rows x_b_acts x_s_rows x_s_acts) H locs → lv_has ls 3 [(0, .ref (q 2)), (1, .int a0), (2, .int l2_L1)] → (∀ (H : Heap) (locs : List Loc) (ls : Array Slot), VJ g A s.heap (XW g q x_crowd x_latestFault x_places x_mask x_w_robots x_w_size x_w_nexts x_a_length x_t_length x_t_token x_t_from x_t_value x_t_behind x_r_wants x_r_pairs x_r_sees x_r_row x_b_size x_s_size x_w_names x_w_goals x_w_links x_w_linked x_w_ups x_w_downs o_L1 x_a_begun x_t_bytes x_b_rows x_b_acts x_s_rows x_s_acts) H locs → lv_has ls 3 [(0, .ref (q 2)), (1, .int a0)] → W p l e rm_X6_dropFirst s m args below meth c H locs 0 0 Q (F0 m 36 ls [])) → W p l e rm_X6_dropFirst s m args below meth c H locs 0 0 Q (F0 m 2 ls []) := by
    clear h ho_L1 hl J
    intro f
    induction f with
    | zero => intro l2_L1 x_w_next_L1 o_L1 h; exact absurd h (by simp [F_X6_dropFirst_L1])
    | succ f ih =>
      intro l2_L1 x_w_next_L1 o_L1 h H locs ls J hl K_L1
      rw [F_X6_dropFirst_L1.eq_2] at h
      refine lv_iload_n hx hb dX6_dropFirst_2 rfl (lv_at hl 2 rfl) ?_
      refine lv_aload_n hx hb dX6_dropFirst_3 rfl (lv_at hl 0 rfl) ?_
      refine xg_2_10 F E J fl_X6_42 dX6_dropFirst_4 ?_
      refine lv_icmp_ge (tgt := 36) hx hb dX6_dropFirst_7 (by decide) (fun c2 => ?_) (fun c2 => ?_)
      · have h := itp c2 h
        obtain rfl := Option.some.inj h
        exact K_L1 _ _ _ J (lv_sub hl [0, 1] rfl)
      · have h := itn c2 h
        refine lv_iload_n hx hb dX6_dropFirst_10 rfl (lv_at hl 2 rfl) ?_
        refine lv_bipush (v := 81) hx hb dX6_dropFirst_11 (by decide) ?_
        refine lv_icmp_ge (tgt := 36) hx hb dX6_dropFirst_13 (by decide) (fun c3 => ?_) (fun c3 => ?_)
        · have h := itp c3 h
          obtain rfl := Option.some.inj h
          exact K_L1 _ _ _ J (lv_sub hl [0, 1] rfl)
        · have h := itn c3 h
          refine lv_aload_n hx hb dX6_dropFirst_16 rfl (lv_at hl 0 rfl) ?_
          refine xg_2_7 F E J fl_X6_32 dX6_dropFirst_17 ?_
          refine lv_iload_n hx hb dX6_dropFirst_20 rfl (lv_at hl 2 rfl) ?_
          refine lv_iload_n hx hb dX6_dropFirst_21 rfl (lv_at hl 1 rfl) ?_
          refine lv_isub hx hb dX6_dropFirst_22 ?_
          refine lv_aload_n hx hb dX6_dropFirst_23 rfl (lv_at hl 0 rfl) ?_
          refine xg_2_7 F E J fl_X6_32 dX6_dropFirst_24 ?_
          refine lv_iload_n hx hb dX6_dropFirst_27 rfl (lv_at hl 2 rfl) ?_
          obtain ⟨hi, h⟩ := gdt h
          refine xl_14 F E J (inbt hi) dX6_dropFirst_28 ?_
          obtain ⟨v4, hv4, h⟩ := obs h
          refine nmI hv4 ?_
          obtain ⟨hi, h⟩ := gdt h
          refine xs_14 F E J (inbt hi) dX6_dropFirst_29 (fun H locs J => ?_)
          obtain ⟨v5, hv5, h⟩ := obs h
          refine lv_iinc (v := v5) (lv' := [(2, .int v5), (0, .ref (q 2)), (1, .int a0)]) hx hb dX6_dropFirst_30 hl (k := 2) rfl (by rw [← hv5]; rfl) (by decide) rfl (fun ls hl => ?_)
          refine lv_goto (tgt := 2) hx hb dX6_dropFirst_33 (by decide) ?_
          exact ih _ _ _ h _ _ _ J (lv_sub hl [1, 2, 0] rfl) K_L1
  refine T_L1 FU a0 x_w_next o_L1 ho_L1 _ _ _ J (lv_sub hl [1, 2, 0] rfl) (fun H locs ls J hl => ?_)
  refine lv_aload_n hx hb dX6_dropFirst_36 rfl (lv_at hl 0 rfl) ?_
  refine lv_dup hx hb dX6_dropFirst_37 rfl ?_
  refine xg_2_10 F E J fl_X6_42 dX6_dropFirst_38 ?_
  refine lv_iload_n hx hb dX6_dropFirst_41 rfl (lv_at hl 1 rfl) ?_
  refine lv_isub hx hb dX6_dropFirst_42 ?_
  obtain ⟨v6, hv6, h⟩ := obs h
  refine nmI hv6 ?_
  refine xp_2_10 F E J fl_X6_42 dX6_dropFirst_43 (fun H locs J => ?_)
  obtain rfl := Option.some.inj h
  exact ret _ _ _ _ J dX6_dropFirst_46
set_option maxHeartbeats 4000000 in
set_option maxRecDepth 100000 in
theorem c_X6_wakeAgain {l : Launch} {g : GG} {A : Nat → Prop} {q : Nat → Nat} {x_crowd x_latestFault x_places x_mask x_w_robots x_w_size x_w_nexts x_a_length x_t_length x_t_token x_t_from x_t_value x_t_behind x_r_wants x_r_pairs x_r_sees : Int32} {x_r_row : Int64} {x_b_size x_s_size : Int32} {x_w_names : Nat → Int32} {x_w_goals x_w_links : Nat → Int64} {x_w_linked x_w_ups x_w_downs x_w_next x_a_begun x_t_bytes : Nat → Int32} {x_b_rows : Nat → Int64} {x_b_acts : Nat → Int32} {x_s_rows : Nat → Int64} {x_s_acts : Nat → Int32} (a0 : Int32) (a1 : Int32) (a2 : Int32) (res : Int32 × (Nat → Int32)) (h : F_X6_wakeAgain a0 a1 a2 x_w_nexts x_w_next = some res) : Met l yX6_wakeAgain (wS yX6_wakeAgain cX6_wakeAgain 6 none) rm_X6_wakeAgain (va_Pc [.ref (q 2), .int a0, .int a1, .int a2] (VB g A (XW g q x_crowd x_latestFault x_places x_mask x_w_robots x_w_size x_w_nexts x_a_length x_t_length x_t_token x_t_from x_t_value x_t_behind x_r_wants x_r_pairs x_r_sees x_r_row x_b_size x_s_size x_w_names x_w_goals x_w_links x_w_linked x_w_ups x_w_downs x_w_next x_a_begun x_t_bytes x_b_rows x_b_acts x_s_rows x_s_acts))) (va_Qv (fun (_ : Unit) => True) (fun _ => VB g A (XW g q x_crowd x_latestFault x_places x_mask x_w_robots x_w_size res.1 x_a_length x_t_length x_t_token x_t_from x_t_value x_t_behind x_r_wants x_r_pairs x_r_sees x_r_row x_b_size x_s_size x_w_names x_w_goals x_w_links x_w_linked x_w_ups x_w_downs res.2 x_a_begun x_t_bytes x_b_rows x_b_acts x_s_rows x_s_acts)) A) 0 0 A := by
  unfold F_X6_wakeAgain at h
  refine MetV (own := RX6) (ws' := (XW g q x_crowd x_latestFault x_places x_mask x_w_robots x_w_size res.1 x_a_length x_t_length x_t_token x_t_from x_t_value x_t_behind x_r_wants x_r_pairs x_r_sees x_r_row x_b_size x_s_size x_w_names x_w_goals x_w_links x_w_linked x_w_ups x_w_downs res.2 x_a_begun x_t_bytes x_b_rows x_b_acts x_s_rows x_s_acts)) (by decide) rfl (Nat.le_of_ble_eq_true rfl) ?_
  intro p e s m args below meth c Q F E ret ls J hl
  have hx := F.1
  have hb := F.2.1
  have hl : lv_has ls 6 [(0, .ref (q 2)), (1, .int a0), (2, .int a1), (3, .int a2)] := hl
  refine lv_aload_n hx hb dX6_wakeAgain_0 rfl (lv_at hl 0 rfl) ?_
  refine xg_2_10 F E J fl_X6_42 dX6_wakeAgain_1 ?_
  refine lv_istore (lv' := [(4, .int x_w_nexts), (0, .ref (q 2)), (1, .int a0), (2, .int a1), (3, .int a2)]) hx hb dX6_wakeAgain_4 hl (by decide) rfl (fun ls hl => ?_)
  refine lv_iconst (v := 0) hx hb dX6_wakeAgain_6 (by decide) ?_
  refine lv_istore (lv' := [(5, .int 0), (4, .int x_w_nexts), (0, .ref (q 2)), (1, .int a0), (2, .int a1), (3, .int a2)]) hx hb dX6_wakeAgain_7 hl (by decide) rfl (fun ls hl => ?_)
  obtain ⟨o_L1, ho_L1, h⟩ := ob h
  have T_L1 : ∀ (f : Nat) (l5_L1 : Int32) (x_w_nexts_L1 : Int32) (x_w_next_L1 : Nat → Int32) (o_L1 : Int32 × (Nat → Int32)), F_X6_wakeAgain_L1 a0 a1 x_w_nexts f l5_L1 x_w_nexts_L1 x_w_next_L1 = some o_L1 → ∀ (H : Heap) (locs : List Loc) (ls : Array Slot), VJ g A s.heap (XW g q x_crowd x_latestFault x_places x_mask x_w_robots x_w_size x_w_nexts_L1 x_a_length x_t_length x_t_token x_t_from x_t_value x_t_behind x_r_wants x_r_pairs x_r_sees x_r_row x_b_size x_s_size x_w_names x_w_goals x_w_links x_w_linked x_w_ups x_w_downs x_w_next_L1 x_a_begun x_t_bytes x_b_rows x_b_acts x_s_rows x_s_acts) H locs → lv_has ls 6 [(0, .ref (q 2)), (1, .int a0), (2, .int a1), (3, .int a2), (4, .int x_w_nexts), (5, .int l5_L1)] → (∀ (H : Heap) (locs : List Loc) (ls : Array Slot), VJ g A s.heap (XW g q x_crowd x_latestFault x_places x_mask x_w_robots x_w_size o_L1.1 x_a_length x_t_length x_t_token x_t_from x_t_value x_t_behind x_r_wants x_r_pairs x_r_sees x_r_row x_b_size x_s_size x_w_names x_w_goals x_w_links x_w_linked x_w_ups x_w_downs o_L1.2 x_a_begun x_t_bytes x_b_rows x_b_acts x_s_rows x_s_acts) H locs → lv_has ls 6 [(0, .ref (q 2)), (3, .int a2), (4, .int x_w_nexts)] → W p l e rm_X6_wakeAgain s m args below meth c H locs 0 0 Q (F0 m 42 ls [])) → W p l e rm_X6_wakeAgain s m args below meth c H locs 0 0 Q (F0 m 9 ls []) := by
    clear h ho_L1 hl J
    intro f
    induction f with
    | zero => intro l5_L1 x_w_nexts_L1 x_w_next_L1 o_L1 h; exact absurd h (by simp [F_X6_wakeAgain_L1])
    | succ f ih =>
      intro l5_L1 x_w_nexts_L1 x_w_next_L1 o_L1 h H locs ls J hl K_L1
      rw [F_X6_wakeAgain_L1.eq_2] at h
      refine lv_iload hx hb dX6_wakeAgain_9 (lv_at hl 5 rfl) ?_
      refine lv_iload hx hb dX6_wakeAgain_11 (lv_at hl 4 rfl) ?_
      refine lv_icmp_ge (tgt := 42) hx hb dX6_wakeAgain_13 (by decide) (fun c2 => ?_) (fun c2 => ?_)
      · have h := itp c2 h
        obtain rfl := Option.some.inj h
        exact K_L1 _ _ _ J (lv_sub hl [0, 3, 4] rfl)
      · have h := itn c2 h
        refine lv_iload hx hb dX6_wakeAgain_16 (lv_at hl 5 rfl) ?_
        refine lv_bipush (v := 81) hx hb dX6_wakeAgain_18 (by decide) ?_
        refine lv_icmp_ge (tgt := 42) hx hb dX6_wakeAgain_20 (by decide) (fun c3 => ?_) (fun c3 => ?_)
        · have h := itp c3 h
          obtain rfl := Option.some.inj h
          exact K_L1 _ _ _ J (lv_sub hl [0, 3, 4] rfl)
        · have h := itn c3 h
          refine lv_aload_n hx hb dX6_wakeAgain_23 rfl (lv_at hl 0 rfl) ?_
          refine lv_aload_n hx hb dX6_wakeAgain_24 rfl (lv_at hl 0 rfl) ?_
          refine xg_2_7 F E J fl_X6_32 dX6_wakeAgain_25 ?_
          refine lv_iload hx hb dX6_wakeAgain_28 (lv_at hl 5 rfl) ?_
          obtain ⟨hi, h⟩ := gdt h
          refine xl_14 F E J (inbt hi) dX6_wakeAgain_30 ?_
          refine lv_iload_n hx hb dX6_wakeAgain_31 rfl (lv_at hl 1 rfl) ?_
          refine lv_iload_n hx hb dX6_wakeAgain_32 rfl (lv_at hl 2 rfl) ?_
          obtain ⟨p4, hp4, h⟩ := ob h
          refine onV (runV (As := [.int (x_w_next_L1 (Int32.toNatClampNeg l5_L1)), .int a0, .int a1]) (rest := []) F E J (c_X6_addMoved (x_w_next_L1 (Int32.toNatClampNeg l5_L1)) a0 a1 p4 hp4) cw_X6_122 ⟨rfl, rfl, Nat.le_of_ble_eq_true rfl, Nat.le_of_ble_eq_true rfl⟩ rcX2 rfl hl.1 rfl (Nat.le_of_ble_eq_true rfl) dX6_wakeAgain_33) J (fun H locs J => ?_)
          obtain ⟨v5, hv5, h⟩ := obs h
          refine lv_iinc (v := v5) (lv' := [(5, .int v5), (0, .ref (q 2)), (1, .int a0), (2, .int a1), (3, .int a2), (4, .int x_w_nexts)]) hx hb dX6_wakeAgain_36 hl (k := 5) rfl (by rw [← hv5]; rfl) (by decide) rfl (fun ls hl => ?_)
          refine lv_goto (tgt := 9) hx hb dX6_wakeAgain_39 (by decide) ?_
          exact ih _ _ _ _ h _ _ _ J (lv_sub hl [1, 2, 3, 4, 5, 0] rfl) K_L1
  refine T_L1 FU 0 x_w_nexts x_w_next o_L1 ho_L1 _ _ _ J (lv_sub hl [2, 3, 4, 5, 1, 0] rfl) (fun H locs ls J hl => ?_)
  refine lv_iload_n hx hb dX6_wakeAgain_42 rfl (lv_at hl 1 rfl) ?_
  refine lv_if_eq (tgt := 52) hx hb dX6_wakeAgain_43 (by decide) (fun c6 => ?_) (fun c6 => ?_)
  · have h := itp c6 h
    obtain rfl := Option.some.inj h
    exact ret _ _ _ _ J dX6_wakeAgain_52
  · have h := itn c6 h
    refine lv_aload_n hx hb dX6_wakeAgain_46 rfl (lv_at hl 0 rfl) ?_
    refine lv_iload hx hb dX6_wakeAgain_47 (lv_at hl 2 rfl) ?_
    obtain ⟨p7, hp7, h⟩ := ob h
    refine onV (runV (As := [.int x_w_nexts]) (rest := []) F E J (c_X6_dropFirst x_w_nexts p7 hp7) cw_X6_129 ⟨rfl, rfl, Nat.le_of_ble_eq_true rfl, Nat.le_of_ble_eq_true rfl⟩ rcX2 rfl hl.1 rfl (Nat.le_of_ble_eq_true rfl) dX6_wakeAgain_49) J (fun H locs J => ?_)
    obtain rfl := Option.some.inj h
    exact ret _ _ _ _ J dX6_wakeAgain_52
set_option maxHeartbeats 4000000 in
set_option maxRecDepth 100000 in
theorem c_X6_wakeSome {l : Launch} {g : GG} {A : Nat → Prop} {q : Nat → Nat} {x_crowd x_latestFault x_places x_mask x_w_robots x_w_size x_w_nexts x_a_length x_t_length x_t_token x_t_from x_t_value x_t_behind x_r_wants x_r_pairs x_r_sees : Int32} {x_r_row : Int64} {x_b_size x_s_size : Int32} {x_w_names : Nat → Int32} {x_w_goals x_w_links : Nat → Int64} {x_w_linked x_w_ups x_w_downs x_w_next x_a_begun x_t_bytes : Nat → Int32} {x_b_rows : Nat → Int64} {x_b_acts : Nat → Int32} {x_s_rows : Nat → Int64} {x_s_acts : Nat → Int32} (a0 : Int32) (a1 : Int32) (res : Int32 × (Nat → Int32)) (h : F_X6_wakeSome a0 a1 x_places x_w_nexts x_w_ups x_w_downs x_w_next = some res) : Met l yX6_wakeSome (wS yX6_wakeSome cX6_wakeSome 8 none) rm_X6_wakeSome (va_Pc [.ref (q 2), .int a0, .int a1] (VB g A (XW g q x_crowd x_latestFault x_places x_mask x_w_robots x_w_size x_w_nexts x_a_length x_t_length x_t_token x_t_from x_t_value x_t_behind x_r_wants x_r_pairs x_r_sees x_r_row x_b_size x_s_size x_w_names x_w_goals x_w_links x_w_linked x_w_ups x_w_downs x_w_next x_a_begun x_t_bytes x_b_rows x_b_acts x_s_rows x_s_acts))) (va_Qv (fun (_ : Unit) => True) (fun _ => VB g A (XW g q x_crowd x_latestFault x_places x_mask x_w_robots x_w_size res.1 x_a_length x_t_length x_t_token x_t_from x_t_value x_t_behind x_r_wants x_r_pairs x_r_sees x_r_row x_b_size x_s_size x_w_names x_w_goals x_w_links x_w_linked x_w_ups x_w_downs res.2 x_a_begun x_t_bytes x_b_rows x_b_acts x_s_rows x_s_acts)) A) 0 0 A := by
  unfold F_X6_wakeSome at h
  refine MetV (own := RX6) (ws' := (XW g q x_crowd x_latestFault x_places x_mask x_w_robots x_w_size res.1 x_a_length x_t_length x_t_token x_t_from x_t_value x_t_behind x_r_wants x_r_pairs x_r_sees x_r_row x_b_size x_s_size x_w_names x_w_goals x_w_links x_w_linked x_w_ups x_w_downs res.2 x_a_begun x_t_bytes x_b_rows x_b_acts x_s_rows x_s_acts)) (by decide) rfl (Nat.le_of_ble_eq_true rfl) ?_
  intro p e s m args below meth c Q F E ret ls J hl
  have hx := F.1
  have hb := F.2.1
  have hl : lv_has ls 8 [(0, .ref (q 2)), (1, .int a0), (2, .int a1)] := hl
  refine lv_iconst (v := 0) hx hb dX6_wakeSome_0 (by decide) ?_
  refine lv_istore_n (lv' := [(3, .int 0), (0, .ref (q 2)), (1, .int a0), (2, .int a1)]) hx hb dX6_wakeSome_1 rfl hl (by decide) rfl (fun ls hl => ?_)
  refine lv_aload_n hx hb dX6_wakeSome_2 rfl (lv_at hl 1 rfl) ?_
  refine lv_iload_n hx hb dX6_wakeSome_3 rfl (lv_at hl 2 rfl) ?_
  obtain ⟨p1, hp1, h⟩ := ob h
  refine onV (runV (As := [.int a0]) (rest := []) F E J (c_X6_addNext a0 p1 hp1) cw_X6_119 ⟨rfl, rfl, Nat.le_of_ble_eq_true rfl, Nat.le_of_ble_eq_true rfl⟩ rcX2 rfl hl.1 rfl (Nat.le_of_ble_eq_true rfl) dX6_wakeSome_4) J (fun H locs J => ?_)
  refine lv_iconst (v := 0) hx hb dX6_wakeSome_7 (by decide) ?_
  refine lv_istore (lv' := [(4, .int 0), (3, .int 0), (0, .ref (q 2)), (1, .int a0), (2, .int a1)]) hx hb dX6_wakeSome_8 hl (by decide) rfl (fun ls hl => ?_)
  obtain ⟨o_L2, ho_L2, h⟩ := ob h
  have T_L2 : ∀ (f : Nat) (l3_L2 : Int32) (l4_L2 : Int32) (x_w_nexts_L2 : Int32) (x_w_next_L2 : Nat → Int32) (o_L2 : Int32 × Int32 × (Nat → Int32)), F_X6_wakeSome_L2 a0 a1 x_places x_w_ups x_w_downs f l3_L2 l4_L2 x_w_nexts_L2 x_w_next_L2 = some o_L2 → ∀ (H : Heap) (locs : List Loc) (ls : Array Slot), VJ g A s.heap (XW g q x_crowd x_latestFault x_places x_mask x_w_robots x_w_size x_w_nexts_L2 x_a_length x_t_length x_t_token x_t_from x_t_value x_t_behind x_r_wants x_r_pairs x_r_sees x_r_row x_b_size x_s_size x_w_names x_w_goals x_w_links x_w_linked x_w_ups x_w_downs x_w_next_L2 x_a_begun x_t_bytes x_b_rows x_b_acts x_s_rows x_s_acts) H locs → lv_has ls 8 [(0, .ref (q 2)), (1, .int a0), (2, .int a1), (3, .int l3_L2), (4, .int l4_L2)] → (∀ (H : Heap) (locs : List Loc) (ls : Array Slot), VJ g A s.heap (XW g q x_crowd x_latestFault x_places x_mask x_w_robots x_w_size o_L2.2.1 x_a_length x_t_length x_t_token x_t_from x_t_value x_t_behind x_r_wants x_r_pairs x_r_sees x_r_row x_b_size x_s_size x_w_names x_w_goals x_w_links x_w_linked x_w_ups x_w_downs o_L2.2.2 x_a_begun x_t_bytes x_b_rows x_b_acts x_s_rows x_s_acts) H locs → lv_has ls 8 [(0, .ref (q 2)), (2, .int a1), (3, .int o_L2.1)] → W p l e rm_X6_wakeSome s m args below meth c H locs 0 0 Q (F0 m 120 ls [])) → W p l e rm_X6_wakeSome s m args below meth c H locs 0 0 Q (F0 m 10 ls []) := by
    clear h ho_L2 hl J
    intro f
    induction f with
    | zero => intro l3_L2 l4_L2 x_w_nexts_L2 x_w_next_L2 o_L2 h; exact absurd h (by simp [F_X6_wakeSome_L2])
    | succ f ih =>
      intro l3_L2 l4_L2 x_w_nexts_L2 x_w_next_L2 o_L2 h H locs ls J hl K_L2
      rw [F_X6_wakeSome_L2.eq_2] at h
      refine lv_iload hx hb dX6_wakeSome_10 (lv_at hl 4 rfl) ?_
      refine lv_aload_n hx hb dX6_wakeSome_12 rfl (lv_at hl 0 rfl) ?_
      refine xg_2_0 F E J fl_X6_45 dX6_wakeSome_13 ?_
      refine xgN_1_0 (host := RX7) F E J (by decide +kernel) dX6_wakeSome_16 ?_
      refine lv_icmp_ge (tgt := 120) hx hb dX6_wakeSome_19 (by decide) (fun c3 => ?_) (fun c3 => ?_)
      · have h := itp c3 h
        obtain rfl := Option.some.inj h
        exact K_L2 _ _ _ J (lv_sub hl [0, 2, 3] rfl)
      · have h := itn c3 h
        refine lv_iload hx hb dX6_wakeSome_22 (lv_at hl 4 rfl) ?_
        refine lv_bipush (v := 9) hx hb dX6_wakeSome_24 (by decide) ?_
        refine lv_icmp_ge (tgt := 120) hx hb dX6_wakeSome_26 (by decide) (fun c4 => ?_) (fun c4 => ?_)
        · have h := itp c4 h
          obtain rfl := Option.some.inj h
          exact K_L2 _ _ _ J (lv_sub hl [0, 2, 3] rfl)
        · have h := itn c4 h
          refine lv_aload_n hx hb dX6_wakeSome_29 rfl (lv_at hl 0 rfl) ?_
          refine xg_2_5 F E J fl_X6_26 dX6_wakeSome_30 ?_
          refine lv_iload hx hb dX6_wakeSome_33 (lv_at hl 4 rfl) ?_
          obtain ⟨hi, h⟩ := gdt h
          refine xl_12 F E J (inbt hi) dX6_wakeSome_35 ?_
          obtain ⟨j5, hj5, h⟩ := ob h
          have Kj5 : ∀ (H : Heap) (locs : List Loc) (ls : Array Slot), VJ g A s.heap (XW g q x_crowd x_latestFault x_places x_mask x_w_robots x_w_size x_w_nexts_L2 x_a_length x_t_length x_t_token x_t_from x_t_value x_t_behind x_r_wants x_r_pairs x_r_sees x_r_row x_b_size x_s_size x_w_names x_w_goals x_w_links x_w_linked x_w_ups x_w_downs x_w_next_L2 x_a_begun x_t_bytes x_b_rows x_b_acts x_s_rows x_s_acts) H locs → lv_has ls 8 [(0, .ref (q 2)), (1, .int a0), (2, .int a1), (3, .int l3_L2), (4, .int l4_L2)] → W p l e rm_X6_wakeSome s m args below meth c H locs 0 0 Q (F0 m 54 ls [.int j5]) := by
            intro H locs ls J hl
            refine lv_istore (lv' := [(5, .int j5), (0, .ref (q 2)), (1, .int a0), (2, .int a1), (3, .int l3_L2), (4, .int l4_L2)]) hx hb dX6_wakeSome_54 hl (by decide) rfl (fun ls hl => ?_)
            refine lv_iload hx hb dX6_wakeSome_56 (lv_at hl 0 rfl) ?_
            obtain ⟨j8, hj8, h⟩ := ob h
            have Kj8 : ∀ (H : Heap) (locs : List Loc) (ls : Array Slot), VJ g A s.heap (XW g q x_crowd x_latestFault x_places x_mask x_w_robots x_w_size x_w_nexts_L2 x_a_length x_t_length x_t_token x_t_from x_t_value x_t_behind x_r_wants x_r_pairs x_r_sees x_r_row x_b_size x_s_size x_w_names x_w_goals x_w_links x_w_linked x_w_ups x_w_downs x_w_next_L2 x_a_begun x_t_bytes x_b_rows x_b_acts x_s_rows x_s_acts) H locs → lv_has ls 8 [(0, .ref (q 2)), (1, .int a0), (2, .int a1), (3, .int l3_L2), (4, .int l4_L2)] → W p l e rm_X6_wakeSome s m args below meth c H locs 0 0 Q (F0 m 75 ls [.int j8]) := by
              intro H locs ls J hl
              refine lv_istore (lv' := [(6, .int j8), (0, .ref (q 2)), (1, .int a0), (2, .int a1), (3, .int l3_L2), (4, .int l4_L2)]) hx hb dX6_wakeSome_75 hl (by decide) rfl (fun ls hl => ?_)
              refine lv_iconst (v := 0) hx hb dX6_wakeSome_77 (by decide) ?_
              refine lv_istore (lv' := [(7, .int 0), (6, .int j8), (0, .ref (q 2)), (1, .int a0), (2, .int a1), (3, .int l3_L2), (4, .int l4_L2)]) hx hb dX6_wakeSome_78 hl (by decide) rfl (fun ls hl => ?_)
              obtain ⟨o_L11, ho_L11, h⟩ := ob h
              have T_L11 : ∀ (f : Nat) (l3_L11 : Int32) (l7_L11 : Int32) (x_w_nexts_L11 : Int32) (x_w_next_L11 : Nat → Int32) (o_L11 : Int32 × Int32 × (Nat → Int32)), F_X6_wakeSome_L11 a1 l4_L2 j8 x_w_ups x_w_downs f l3_L11 l7_L11 x_w_nexts_L11 x_w_next_L11 = some o_L11 → ∀ (H : Heap) (locs : List Loc) (ls : Array Slot), VJ g A s.heap (XW g q x_crowd x_latestFault x_places x_mask x_w_robots x_w_size x_w_nexts_L11 x_a_length x_t_length x_t_token x_t_from x_t_value x_t_behind x_r_wants x_r_pairs x_r_sees x_r_row x_b_size x_s_size x_w_names x_w_goals x_w_links x_w_linked x_w_ups x_w_downs x_w_next_L11 x_a_begun x_t_bytes x_b_rows x_b_acts x_s_rows x_s_acts) H locs → lv_has ls 8 [(0, .ref (q 2)), (1, .int a0), (2, .int a1), (3, .int l3_L11), (4, .int l4_L2), (6, .int j8), (7, .int l7_L11)] → (∀ (H : Heap) (locs : List Loc) (ls : Array Slot), VJ g A s.heap (XW g q x_crowd x_latestFault x_places x_mask x_w_robots x_w_size o_L11.2.1 x_a_length x_t_length x_t_token x_t_from x_t_value x_t_behind x_r_wants x_r_pairs x_r_sees x_r_row x_b_size x_s_size x_w_names x_w_goals x_w_links x_w_linked x_w_ups x_w_downs o_L11.2.2 x_a_begun x_t_bytes x_b_rows x_b_acts x_s_rows x_s_acts) H locs → lv_has ls 8 [(0, .ref (q 2)), (1, .int a0), (2, .int a1), (3, .int o_L11.1), (4, .int l4_L2)] → W p l e rm_X6_wakeSome s m args below meth c H locs 0 0 Q (F0 m 114 ls [])) → W p l e rm_X6_wakeSome s m args below meth c H locs 0 0 Q (F0 m 80 ls []) := by
                clear h ho_L11 hl J
                intro f
                induction f with
                | zero => intro l3_L11 l7_L11 x_w_nexts_L11 x_w_next_L11 o_L11 h; exact absurd h (by simp [F_X6_wakeSome_L11])
                | succ f ih =>
                  intro l3_L11 l7_L11 x_w_nexts_L11 x_w_next_L11 o_L11 h H locs ls J hl K_L11
                  rw [F_X6_wakeSome_L11.eq_2] at h
                  refine lv_iload hx hb dX6_wakeSome_80 (lv_at hl 6 rfl) ?_
                  refine lv_iload hx hb dX6_wakeSome_82 (lv_at hl 5 rfl) ?_
                  refine lv_icmp_ge (tgt := 114) hx hb dX6_wakeSome_84 (by decide) (fun c12 => ?_) (fun c12 => ?_)
                  · have h := itp c12 h
                    obtain rfl := Option.some.inj h
                    exact K_L11 _ _ _ J (lv_sub hl [0, 1, 2, 3, 4] rfl)
                  · have h := itn c12 h
                    refine lv_iconst (v := 1) hx hb dX6_wakeSome_87 (by decide) ?_
                    refine lv_istore_n (lv' := [(3, .int 1), (0, .ref (q 2)), (1, .int a0), (2, .int a1), (4, .int l4_L2), (6, .int j8), (7, .int l7_L11)]) hx hb dX6_wakeSome_88 rfl hl (by decide) rfl (fun ls hl => ?_)
                    refine lv_aload_n hx hb dX6_wakeSome_89 rfl (lv_at hl 1 rfl) ?_
                    refine lv_aload_n hx hb dX6_wakeSome_90 rfl (lv_at hl 1 rfl) ?_
                    refine xg_2_5 F E J fl_X6_26 dX6_wakeSome_91 ?_
                    refine lv_iload hx hb dX6_wakeSome_94 (lv_at hl 4 rfl) ?_
                    obtain ⟨hi, h⟩ := gdt h
                    refine xl_12 F E J (inbt hi) dX6_wakeSome_96 ?_
                    refine lv_aload_n hx hb dX6_wakeSome_97 rfl (lv_at hl 1 rfl) ?_
                    refine xg_2_6 F E J fl_X6_29 dX6_wakeSome_98 ?_
                    refine lv_iload hx hb dX6_wakeSome_101 (lv_at hl 4 rfl) ?_
                    obtain ⟨hi, h⟩ := gdt h
                    refine xl_13 F E J (inbt hi) dX6_wakeSome_103 ?_
                    refine lv_iload_n hx hb dX6_wakeSome_104 rfl (lv_at hl 3 rfl) ?_
                    obtain ⟨p13, hp13, h⟩ := ob h
                    refine onV (runV (As := [.int (x_w_ups (Int32.toNatClampNeg l4_L2)), .int (x_w_downs (Int32.toNatClampNeg l4_L2)), .int a1]) (rest := []) F E J (c_X6_wakeAgain (x_w_ups (Int32.toNatClampNeg l4_L2)) (x_w_downs (Int32.toNatClampNeg l4_L2)) a1 p13 hp13) cw_X6_125 ⟨rfl, rfl, Nat.le_of_ble_eq_true rfl, Nat.le_of_ble_eq_true rfl⟩ rcX2 rfl hl.1 rfl (Nat.le_of_ble_eq_true rfl) dX6_wakeSome_105) J (fun H locs J => ?_)
                    obtain ⟨v14, hv14, h⟩ := obs h
                    refine lv_iinc (v := v14) (lv' := [(7, .int v14), (3, .int 1), (0, .ref (q 2)), (1, .int a0), (2, .int a1), (4, .int l4_L2), (6, .int j8)]) hx hb dX6_wakeSome_108 hl (k := 6) rfl (by rw [← hv14]; rfl) (by decide) rfl (fun ls hl => ?_)
                    refine lv_goto (tgt := 80) hx hb dX6_wakeSome_111 (by decide) ?_
                    exact ih _ _ _ _ _ h _ _ _ J (lv_sub hl [2, 3, 4, 1, 5, 6, 0] rfl) K_L11
              refine T_L11 FU l3_L2 0 x_w_nexts_L2 x_w_next_L2 o_L11 ho_L11 _ _ _ J (lv_sub hl [2, 3, 4, 5, 6, 1, 0] rfl) (fun H locs ls J hl => ?_)
              obtain ⟨v15, hv15, h⟩ := obs h
              refine lv_iinc (v := v15) (lv' := [(4, .int v15), (0, .ref (q 2)), (1, .int a0), (2, .int a1), (3, .int o_L11.1)]) hx hb dX6_wakeSome_114 hl (k := 4) rfl (by rw [← hv15]; rfl) (by decide) rfl (fun ls hl => ?_)
              refine lv_goto (tgt := 10) hx hb dX6_wakeSome_117 (by decide) ?_
              exact ih _ _ _ _ _ h _ _ _ J (lv_sub hl [1, 2, 3, 4, 0] rfl) K_L2
            clear h
            have h := hj8
            refine lv_if_eq (tgt := 74) hx hb dX6_wakeSome_58 (by decide) (fun c9 => ?_) (fun c9 => ?_)
            · have h := itp c9 h
              refine lv_iconst (v := 0) hx hb dX6_wakeSome_74 (by decide) ?_
              obtain rfl := Option.some.inj h
              exact Kj8 _ _ _ J (lv_sub hl [1, 2, 3, 4, 5] rfl)
            · have h := itn c9 h
              refine lv_aload_n hx hb dX6_wakeSome_61 rfl (lv_at hl 1 rfl) ?_
              refine xg_2_0 F E J fl_X6_45 dX6_wakeSome_62 ?_
              refine lv_iload_n hx hb dX6_wakeSome_65 rfl (lv_at hl 2 rfl) ?_
              refine lv_iload hx hb dX6_wakeSome_66 (lv_at hl 5 rfl) ?_
              obtain ⟨p10, hp10, h⟩ := ob h
              refine onI (runV (As := [.int a0, .int l4_L2]) (rest := []) F E J (c_X3_manyAt a0 l4_L2 p10 hp10) cw_X6_107 ⟨rfl, rfl, Nat.le_of_ble_eq_true rfl, Nat.le_of_ble_eq_true rfl⟩ rcX1 rfl hl.1 rfl (Nat.le_of_ble_eq_true rfl) dX6_wakeSome_68) J (fun H locs J => ?_)
              refine lv_goto (tgt := 75) hx hb dX6_wakeSome_71 (by decide) ?_
              obtain rfl := Option.some.inj h
              exact Kj8 _ _ _ J (lv_sub hl [1, 2, 3, 4, 5] rfl)
          clear h
          have h := hj5
          refine lv_if_ne (tgt := 49) hx hb dX6_wakeSome_36 (by decide) (fun c6 => ?_) (fun c6 => ?_)
          · have h := itn c6 h
            refine lv_iconst (v := 1) hx hb dX6_wakeSome_49 (by decide) ?_
            refine lv_goto (tgt := 54) hx hb dX6_wakeSome_50 (by decide) ?_
            obtain rfl := Option.some.inj h
            exact Kj5 _ _ _ J (lv_sub hl [0, 1, 2, 3, 4] rfl)
          · have h := itp c6 h
            refine lv_aload_n hx hb dX6_wakeSome_39 rfl (lv_at hl 0 rfl) ?_
            refine xg_2_6 F E J fl_X6_29 dX6_wakeSome_40 ?_
            refine lv_iload hx hb dX6_wakeSome_43 (lv_at hl 4 rfl) ?_
            obtain ⟨hi, h⟩ := gdt h
            refine xl_13 F E J (inbt hi) dX6_wakeSome_45 ?_
            refine lv_if_eq (tgt := 53) hx hb dX6_wakeSome_46 (by decide) (fun c7 => ?_) (fun c7 => ?_)
            · have h := itp c7 h
              refine lv_iconst (v := 0) hx hb dX6_wakeSome_53 (by decide) ?_
              obtain rfl := Option.some.inj h
              exact Kj5 _ _ _ J (lv_sub hl [0, 1, 2, 3, 4] rfl)
            · have h := itn c7 h
              refine lv_iconst (v := 1) hx hb dX6_wakeSome_49 (by decide) ?_
              refine lv_goto (tgt := 54) hx hb dX6_wakeSome_50 (by decide) ?_
              obtain rfl := Option.some.inj h
              exact Kj5 _ _ _ J (lv_sub hl [0, 1, 2, 3, 4] rfl)
  refine T_L2 FU 0 0 p1.1 p1.2 o_L2 ho_L2 _ _ _ J (lv_sub hl [2, 3, 4, 1, 0] rfl) (fun H locs ls J hl => ?_)
  refine lv_iload_n hx hb dX6_wakeSome_120 rfl (lv_at hl 1 rfl) ?_
  refine lv_if_eq (tgt := 128) hx hb dX6_wakeSome_121 (by decide) (fun c16 => ?_) (fun c16 => ?_)
  · have h := itp c16 h
    refine lv_aload_n hx hb dX6_wakeSome_128 rfl (lv_at hl 0 rfl) ?_
    refine lv_iconst (v := 1) hx hb dX6_wakeSome_129 (by decide) ?_
    obtain ⟨p17, hp17, h⟩ := ob h
    refine onV (runV (As := [.int 1]) (rest := []) F E J (c_X6_dropFirst 1 p17 hp17) cw_X6_129 ⟨rfl, rfl, Nat.le_of_ble_eq_true rfl, Nat.le_of_ble_eq_true rfl⟩ rcX2 rfl hl.1 rfl (Nat.le_of_ble_eq_true rfl) dX6_wakeSome_130) J (fun H locs J => ?_)
    obtain rfl := Option.some.inj h
    exact ret _ _ _ _ J dX6_wakeSome_133
  · have h := itn c16 h
    refine lv_iload_n hx hb dX6_wakeSome_124 rfl (lv_at hl 2 rfl) ?_
    refine lv_if_ne (tgt := 133) hx hb dX6_wakeSome_125 (by decide) (fun c18 => ?_) (fun c18 => ?_)
    · have h := itn c18 h
      obtain rfl := Option.some.inj h
      exact ret _ _ _ _ J dX6_wakeSome_133
    · have h := itp c18 h
      refine lv_aload_n hx hb dX6_wakeSome_128 rfl (lv_at hl 0 rfl) ?_
      refine lv_iconst (v := 1) hx hb dX6_wakeSome_129 (by decide) ?_
      obtain ⟨p19, hp19, h⟩ := ob h
      refine onV (runV (As := [.int 1]) (rest := []) F E J (c_X6_dropFirst 1 p19 hp19) cw_X6_129 ⟨rfl, rfl, Nat.le_of_ble_eq_true rfl, Nat.le_of_ble_eq_true rfl⟩ rcX2 rfl hl.1 rfl (Nat.le_of_ble_eq_true rfl) dX6_wakeSome_130) J (fun H locs J => ?_)
      obtain rfl := Option.some.inj h
      exact ret _ _ _ _ J dX6_wakeSome_133
set_option maxHeartbeats 4000000 in
set_option maxRecDepth 100000 in
theorem c_X6_wakeOne {l : Launch} {g : GG} {A : Nat → Prop} {q : Nat → Nat} {x_crowd x_latestFault x_places x_mask x_w_robots x_w_size x_w_nexts x_a_length x_t_length x_t_token x_t_from x_t_value x_t_behind x_r_wants x_r_pairs x_r_sees : Int32} {x_r_row : Int64} {x_b_size x_s_size : Int32} {x_w_names : Nat → Int32} {x_w_goals x_w_links : Nat → Int64} {x_w_linked x_w_ups x_w_downs x_w_next x_a_begun x_t_bytes : Nat → Int32} {x_b_rows : Nat → Int64} {x_b_acts : Nat → Int32} {x_s_rows : Nat → Int64} {x_s_acts : Nat → Int32} (a0 : Int32) (res : Int32 × (Nat → Int32)) (h : F_X6_wakeOne a0 x_places x_w_nexts x_w_ups x_w_downs x_w_next = some res) : Met l yX6_wakeOne (wS yX6_wakeOne cX6_wakeOne 3 none) rm_X6_wakeOne (va_Pc [.ref (q 2), .int a0] (VB g A (XW g q x_crowd x_latestFault x_places x_mask x_w_robots x_w_size x_w_nexts x_a_length x_t_length x_t_token x_t_from x_t_value x_t_behind x_r_wants x_r_pairs x_r_sees x_r_row x_b_size x_s_size x_w_names x_w_goals x_w_links x_w_linked x_w_ups x_w_downs x_w_next x_a_begun x_t_bytes x_b_rows x_b_acts x_s_rows x_s_acts))) (va_Qv (fun (_ : Unit) => True) (fun _ => VB g A (XW g q x_crowd x_latestFault x_places x_mask x_w_robots x_w_size res.1 x_a_length x_t_length x_t_token x_t_from x_t_value x_t_behind x_r_wants x_r_pairs x_r_sees x_r_row x_b_size x_s_size x_w_names x_w_goals x_w_links x_w_linked x_w_ups x_w_downs res.2 x_a_begun x_t_bytes x_b_rows x_b_acts x_s_rows x_s_acts)) A) 0 0 A := by
  unfold F_X6_wakeOne at h
  refine MetV (own := RX6) (ws' := (XW g q x_crowd x_latestFault x_places x_mask x_w_robots x_w_size res.1 x_a_length x_t_length x_t_token x_t_from x_t_value x_t_behind x_r_wants x_r_pairs x_r_sees x_r_row x_b_size x_s_size x_w_names x_w_goals x_w_links x_w_linked x_w_ups x_w_downs res.2 x_a_begun x_t_bytes x_b_rows x_b_acts x_s_rows x_s_acts)) (by decide) rfl (Nat.le_of_ble_eq_true rfl) ?_
  intro p e s m args below meth c Q F E ret ls J hl
  have hx := F.1
  have hb := F.2.1
  have hl : lv_has ls 3 [(0, .ref (q 2)), (1, .int a0)] := hl
  refine lv_iconst (v := 0) hx hb dX6_wakeOne_0 (by decide) ?_
  refine lv_istore_n (lv' := [(2, .int 0), (0, .ref (q 2)), (1, .int a0)]) hx hb dX6_wakeOne_1 rfl hl (by decide) rfl (fun ls hl => ?_)
  obtain ⟨o_L1, ho_L1, h⟩ := ob h
  have T_L1 : ∀ (f : Nat) (l2_L1 : Int32) (x_w_nexts_L1 : Int32) (x_w_next_L1 : Nat → Int32) (o_L1 : Int32 × (Nat → Int32)), F_X6_wakeOne_L1 a0 x_places x_w_ups x_w_downs f l2_L1 x_w_nexts_L1 x_w_next_L1 = some o_L1 → ∀ (H : Heap) (locs : List Loc) (ls : Array Slot), VJ g A s.heap (XW g q x_crowd x_latestFault x_places x_mask x_w_robots x_w_size x_w_nexts_L1 x_a_length x_t_length x_t_token x_t_from x_t_value x_t_behind x_r_wants x_r_pairs x_r_sees x_r_row x_b_size x_s_size x_w_names x_w_goals x_w_links x_w_linked x_w_ups x_w_downs x_w_next_L1 x_a_begun x_t_bytes x_b_rows x_b_acts x_s_rows x_s_acts) H locs → lv_has ls 3 [(0, .ref (q 2)), (1, .int a0), (2, .int l2_L1)] → (∀ (H : Heap) (locs : List Loc) (ls : Array Slot), VJ g A s.heap (XW g q x_crowd x_latestFault x_places x_mask x_w_robots x_w_size o_L1.1 x_a_length x_t_length x_t_token x_t_from x_t_value x_t_behind x_r_wants x_r_pairs x_r_sees x_r_row x_b_size x_s_size x_w_names x_w_goals x_w_links x_w_linked x_w_ups x_w_downs o_L1.2 x_a_begun x_t_bytes x_b_rows x_b_acts x_s_rows x_s_acts) H locs → lv_has ls 3 [] → W p l e rm_X6_wakeOne s m args below meth c H locs 0 0 Q (F0 m 42 ls [])) → W p l e rm_X6_wakeOne s m args below meth c H locs 0 0 Q (F0 m 2 ls []) := by
    clear h ho_L1 hl J
    intro f
    induction f with
    | zero => intro l2_L1 x_w_nexts_L1 x_w_next_L1 o_L1 h; exact absurd h (by simp [F_X6_wakeOne_L1])
    | succ f ih =>
      intro l2_L1 x_w_nexts_L1 x_w_next_L1 o_L1 h H locs ls J hl K_L1
      rw [F_X6_wakeOne_L1.eq_2] at h
      refine lv_iload_n hx hb dX6_wakeOne_2 rfl (lv_at hl 2 rfl) ?_
      refine lv_aload_n hx hb dX6_wakeOne_3 rfl (lv_at hl 0 rfl) ?_
      refine xg_2_0 F E J fl_X6_45 dX6_wakeOne_4 ?_
      refine xgN_1_0 (host := RX7) F E J (by decide +kernel) dX6_wakeOne_7 ?_
      refine lv_icmp_ge (tgt := 42) hx hb dX6_wakeOne_10 (by decide) (fun c2 => ?_) (fun c2 => ?_)
      · have h := itp c2 h
        obtain rfl := Option.some.inj h
        exact K_L1 _ _ _ J (lv_sub hl [] rfl)
      · have h := itn c2 h
        refine lv_iload_n hx hb dX6_wakeOne_13 rfl (lv_at hl 2 rfl) ?_
        refine lv_bipush (v := 9) hx hb dX6_wakeOne_14 (by decide) ?_
        refine lv_icmp_ge (tgt := 42) hx hb dX6_wakeOne_16 (by decide) (fun c3 => ?_) (fun c3 => ?_)
        · have h := itp c3 h
          obtain rfl := Option.some.inj h
          exact K_L1 _ _ _ J (lv_sub hl [] rfl)
        · have h := itn c3 h
          refine lv_aload_n hx hb dX6_wakeOne_19 rfl (lv_at hl 0 rfl) ?_
          refine lv_iload_n hx hb dX6_wakeOne_20 rfl (lv_at hl 1 rfl) ?_
          refine lv_aload_n hx hb dX6_wakeOne_21 rfl (lv_at hl 0 rfl) ?_
          refine xg_2_5 F E J fl_X6_26 dX6_wakeOne_22 ?_
          refine lv_iload_n hx hb dX6_wakeOne_25 rfl (lv_at hl 2 rfl) ?_
          obtain ⟨hi, h⟩ := gdt h
          refine xl_12 F E J (inbt hi) dX6_wakeOne_26 ?_
          refine lv_aload_n hx hb dX6_wakeOne_27 rfl (lv_at hl 0 rfl) ?_
          refine xg_2_6 F E J fl_X6_29 dX6_wakeOne_28 ?_
          refine lv_iload_n hx hb dX6_wakeOne_31 rfl (lv_at hl 2 rfl) ?_
          obtain ⟨hi, h⟩ := gdt h
          refine xl_13 F E J (inbt hi) dX6_wakeOne_32 ?_
          obtain ⟨p4, hp4, h⟩ := ob h
          refine onV (runV (As := [.int a0, .int (x_w_ups (Int32.toNatClampNeg l2_L1)), .int (x_w_downs (Int32.toNatClampNeg l2_L1))]) (rest := []) F E J (c_X6_addMoved a0 (x_w_ups (Int32.toNatClampNeg l2_L1)) (x_w_downs (Int32.toNatClampNeg l2_L1)) p4 hp4) cw_X6_122 ⟨rfl, rfl, Nat.le_of_ble_eq_true rfl, Nat.le_of_ble_eq_true rfl⟩ rcX2 rfl hl.1 rfl (Nat.le_of_ble_eq_true rfl) dX6_wakeOne_33) J (fun H locs J => ?_)
          obtain ⟨v5, hv5, h⟩ := obs h
          refine lv_iinc (v := v5) (lv' := [(2, .int v5), (0, .ref (q 2)), (1, .int a0)]) hx hb dX6_wakeOne_36 hl (k := 2) rfl (by rw [← hv5]; rfl) (by decide) rfl (fun ls hl => ?_)
          refine lv_goto (tgt := 2) hx hb dX6_wakeOne_39 (by decide) ?_
          exact ih _ _ _ _ h _ _ _ J (lv_sub hl [1, 2, 0] rfl) K_L1
  refine T_L1 FU 0 x_w_nexts x_w_next o_L1 ho_L1 _ _ _ J (lv_sub hl [1, 2, 0] rfl) (fun H locs ls J hl => ?_)
  obtain rfl := Option.some.inj h
  exact ret _ _ _ _ J dX6_wakeOne_42
set_option maxHeartbeats 4000000 in
set_option maxRecDepth 100000 in
theorem c_X6_numberOf {l : Launch} {g : GG} {A : Nat → Prop} {q : Nat → Nat} {x_crowd x_latestFault x_places x_mask x_w_robots x_w_size x_w_nexts x_a_length x_t_length x_t_token x_t_from x_t_value x_t_behind x_r_wants x_r_pairs x_r_sees : Int32} {x_r_row : Int64} {x_b_size x_s_size : Int32} {x_w_names : Nat → Int32} {x_w_goals x_w_links : Nat → Int64} {x_w_linked x_w_ups x_w_downs x_w_next x_a_begun x_t_bytes : Nat → Int32} {x_b_rows : Nat → Int64} {x_b_acts : Nat → Int32} {x_s_rows : Nat → Int64} {x_s_acts : Nat → Int32} (a0 : Int32) (res : Int32) (h : F_X6_numberOf a0 x_places x_mask x_w_size x_w_names = some res) : Met l yX6_numberOf (wS yX6_numberOf cX6_numberOf 4 (some .int)) rm_X6_numberOf (va_Pc [.ref (q 2), .int a0] (VB g A (XW g q x_crowd x_latestFault x_places x_mask x_w_robots x_w_size x_w_nexts x_a_length x_t_length x_t_token x_t_from x_t_value x_t_behind x_r_wants x_r_pairs x_r_sees x_r_row x_b_size x_s_size x_w_names x_w_goals x_w_links x_w_linked x_w_ups x_w_downs x_w_next x_a_begun x_t_bytes x_b_rows x_b_acts x_s_rows x_s_acts))) (va_Qi (fun r (_ : Unit) => r = res) (fun _ => VB g A (XW g q x_crowd x_latestFault x_places x_mask x_w_robots x_w_size x_w_nexts x_a_length x_t_length x_t_token x_t_from x_t_value x_t_behind x_r_wants x_r_pairs x_r_sees x_r_row x_b_size x_s_size x_w_names x_w_goals x_w_links x_w_linked x_w_ups x_w_downs x_w_next x_a_begun x_t_bytes x_b_rows x_b_acts x_s_rows x_s_acts)) A) 0 0 A := by
  unfold F_X6_numberOf at h
  refine MetI (res := res) (own := RX6) (ws' := (XW g q x_crowd x_latestFault x_places x_mask x_w_robots x_w_size x_w_nexts x_a_length x_t_length x_t_token x_t_from x_t_value x_t_behind x_r_wants x_r_pairs x_r_sees x_r_row x_b_size x_s_size x_w_names x_w_goals x_w_links x_w_linked x_w_ups x_w_downs x_w_next x_a_begun x_t_bytes x_b_rows x_b_acts x_s_rows x_s_acts)) (by decide) rfl (Nat.le_of_ble_eq_true rfl) ?_
  intro p e s m args below meth c Q F E ret ls J hl
  have hx := F.1
  have hb := F.2.1
  have hl : lv_has ls 4 [(0, .ref (q 2)), (1, .int a0)] := hl
  refine lv_aload_n hx hb dX6_numberOf_0 rfl (lv_at hl 0 rfl) ?_
  refine xg_2_0 F E J fl_X6_45 dX6_numberOf_1 ?_
  refine lv_iload_n hx hb dX6_numberOf_4 rfl (lv_at hl 1 rfl) ?_
  obtain ⟨p1, hp1, h⟩ := ob h
  refine onI (runV (As := [.int a0]) (rest := []) F E J (c_X3_nameOf a0 p1 hp1) cw_X6_71 ⟨rfl, rfl, Nat.le_of_ble_eq_true rfl, Nat.le_of_ble_eq_true rfl⟩ rcX1 rfl hl.1 rfl (Nat.le_of_ble_eq_true rfl) dX6_numberOf_5) J (fun H locs J => ?_)
  refine lv_istore_n (lv' := [(2, .int p1), (0, .ref (q 2)), (1, .int a0)]) hx hb dX6_numberOf_8 rfl hl (by decide) rfl (fun ls hl => ?_)
  refine lv_iconst (v := 0) hx hb dX6_numberOf_9 (by decide) ?_
  refine lv_istore_n (lv' := [(3, .int 0), (2, .int p1), (0, .ref (q 2)), (1, .int a0)]) hx hb dX6_numberOf_10 rfl hl (by decide) rfl (fun ls hl => ?_)
  obtain ⟨o_L2s, ho_L2, h⟩ := ob h
  have T_L2 : ∀ (f : Nat) (l3_L2 : Int32) (o_L2s : Sum (Int32) (Unit)), F_X6_numberOf_L2 p1 x_w_size x_w_names f l3_L2 = some o_L2s → ∀ (H : Heap) (locs : List Loc) (ls : Array Slot), VJ g A s.heap (XW g q x_crowd x_latestFault x_places x_mask x_w_robots x_w_size x_w_nexts x_a_length x_t_length x_t_token x_t_from x_t_value x_t_behind x_r_wants x_r_pairs x_r_sees x_r_row x_b_size x_s_size x_w_names x_w_goals x_w_links x_w_linked x_w_ups x_w_downs x_w_next x_a_begun x_t_bytes x_b_rows x_b_acts x_s_rows x_s_acts) H locs → lv_has ls 4 [(0, .ref (q 2)), (2, .int p1), (3, .int l3_L2)] → (∀ (o_L2 : Unit), o_L2s = .inr o_L2 → ∀ (H : Heap) (locs : List Loc) (ls : Array Slot), VJ g A s.heap (XW g q x_crowd x_latestFault x_places x_mask x_w_robots x_w_size x_w_nexts x_a_length x_t_length x_t_token x_t_from x_t_value x_t_behind x_r_wants x_r_pairs x_r_sees x_r_row x_b_size x_s_size x_w_names x_w_goals x_w_links x_w_linked x_w_ups x_w_downs x_w_next x_a_begun x_t_bytes x_b_rows x_b_acts x_s_rows x_s_acts) H locs → lv_has ls 4 [] → W p l e rm_X6_numberOf s m args below meth c H locs 0 0 Q (F0 m 43 ls [])) → (∀ x, o_L2s = .inl x → x = res) → W p l e rm_X6_numberOf s m args below meth c H locs 0 0 Q (F0 m 11 ls []) := by
    clear h ho_L2 hl J
    intro f
    induction f with
    | zero => intro l3_L2 o_L2s h; exact absurd h (by simp [F_X6_numberOf_L2])
    | succ f ih =>
      intro l3_L2 o_L2s h H locs ls J hl K_L2 kr_L2
      rw [F_X6_numberOf_L2.eq_2] at h
      refine lv_iload_n hx hb dX6_numberOf_11 rfl (lv_at hl 2 rfl) ?_
      refine lv_aload_n hx hb dX6_numberOf_12 rfl (lv_at hl 0 rfl) ?_
      refine xg_2_9 F E J fl_X6_39 dX6_numberOf_13 ?_
      refine lv_icmp_ge (tgt := 43) hx hb dX6_numberOf_16 (by decide) (fun c3 => ?_) (fun c3 => ?_)
      · have h := itp c3 h
        obtain rfl := Option.some.inj h
        exact K_L2 _ rfl _ _ _ J (lv_sub hl [] rfl)
      · have h := itn c3 h
        refine lv_iload_n hx hb dX6_numberOf_19 rfl (lv_at hl 2 rfl) ?_
        refine lv_bipush (v := 64) hx hb dX6_numberOf_20 (by decide) ?_
        refine lv_icmp_ge (tgt := 43) hx hb dX6_numberOf_22 (by decide) (fun c4 => ?_) (fun c4 => ?_)
        · have h := itp c4 h
          obtain rfl := Option.some.inj h
          exact K_L2 _ rfl _ _ _ J (lv_sub hl [] rfl)
        · have h := itn c4 h
          refine lv_aload_n hx hb dX6_numberOf_25 rfl (lv_at hl 0 rfl) ?_
          refine xg_2_1 F E J fl_X6_11 dX6_numberOf_26 ?_
          refine lv_iload_n hx hb dX6_numberOf_29 rfl (lv_at hl 2 rfl) ?_
          obtain ⟨hi, h⟩ := gdt h
          refine xl_8 F E J (inbt hi) dX6_numberOf_30 ?_
          refine lv_iload_n hx hb dX6_numberOf_31 rfl (lv_at hl 1 rfl) ?_
          refine lv_icmp_ne (tgt := 37) hx hb dX6_numberOf_32 (by decide) (fun c5 => ?_) (fun c5 => ?_)
          · have h := itn c5 h
            obtain ⟨v6, hv6, h⟩ := obs h
            refine lv_iinc (v := v6) (lv' := [(3, .int v6), (0, .ref (q 2)), (2, .int p1)]) hx hb dX6_numberOf_37 hl (k := 2) rfl (by rw [← hv6]; rfl) (by decide) rfl (fun ls hl => ?_)
            refine lv_goto (tgt := 11) hx hb dX6_numberOf_40 (by decide) ?_
            exact ih _ _ h _ _ _ J (lv_sub hl [1, 2, 0] rfl) K_L2 kr_L2
          · have h := itp c5 h
            refine lv_iload_n hx hb dX6_numberOf_35 rfl (lv_at hl 2 rfl) ?_
            obtain rfl := Option.some.inj h
            obtain rfl := kr_L2 _ rfl
            exact ret _ _ _ _ J dX6_numberOf_36
  refine T_L2 FU 0 o_L2s ho_L2 _ _ _ J (lv_sub hl [2, 1, 0] rfl) (fun o_L2 eo H locs ls J hl => ?_) (fun x ex => ?_)
  · subst eo
    have h := elimR h
    refine lv_iconst (v := 0) hx hb dX6_numberOf_43 (by decide) ?_
    obtain rfl := Option.some.inj h
    exact ret _ _ _ _ J dX6_numberOf_44
  · subst ex
    exact Option.some.inj (elimL h)
set_option maxHeartbeats 4000000 in
set_option maxRecDepth 100000 in
theorem c_X6_numbersOfNext {l : Launch} {g : GG} {A : Nat → Prop} {q : Nat → Nat} {x_crowd x_latestFault x_places x_mask x_w_robots x_w_size x_w_nexts x_a_length x_t_length x_t_token x_t_from x_t_value x_t_behind x_r_wants x_r_pairs x_r_sees : Int32} {x_r_row : Int64} {x_b_size x_s_size : Int32} {x_w_names : Nat → Int32} {x_w_goals x_w_links : Nat → Int64} {x_w_linked x_w_ups x_w_downs x_w_next x_a_begun x_t_bytes : Nat → Int32} {x_b_rows : Nat → Int64} {x_b_acts : Nat → Int32} {x_s_rows : Nat → Int64} {x_s_acts : Nat → Int32} (res : Int64) (h : F_X6_numbersOfNext x_places x_mask x_w_size x_w_nexts x_w_names x_w_next = some res) : Met l yX6_numbersOfNext (wS yX6_numbersOfNext cX6_numbersOfNext 4 (some .long)) rm_X6_numbersOfNext (va_Pc [.ref (q 2)] (VB g A (XW g q x_crowd x_latestFault x_places x_mask x_w_robots x_w_size x_w_nexts x_a_length x_t_length x_t_token x_t_from x_t_value x_t_behind x_r_wants x_r_pairs x_r_sees x_r_row x_b_size x_s_size x_w_names x_w_goals x_w_links x_w_linked x_w_ups x_w_downs x_w_next x_a_begun x_t_bytes x_b_rows x_b_acts x_s_rows x_s_acts))) (va_Ql (fun r (_ : Unit) => r = res) (fun _ => VB g A (XW g q x_crowd x_latestFault x_places x_mask x_w_robots x_w_size x_w_nexts x_a_length x_t_length x_t_token x_t_from x_t_value x_t_behind x_r_wants x_r_pairs x_r_sees x_r_row x_b_size x_s_size x_w_names x_w_goals x_w_links x_w_linked x_w_ups x_w_downs x_w_next x_a_begun x_t_bytes x_b_rows x_b_acts x_s_rows x_s_acts)) A) 0 0 A := by
  unfold F_X6_numbersOfNext at h
  refine MetL (res := res) (own := RX6) (ws' := (XW g q x_crowd x_latestFault x_places x_mask x_w_robots x_w_size x_w_nexts x_a_length x_t_length x_t_token x_t_from x_t_value x_t_behind x_r_wants x_r_pairs x_r_sees x_r_row x_b_size x_s_size x_w_names x_w_goals x_w_links x_w_linked x_w_ups x_w_downs x_w_next x_a_begun x_t_bytes x_b_rows x_b_acts x_s_rows x_s_acts)) (by decide) rfl (Nat.le_of_ble_eq_true rfl) ?_
  intro p e s m args below meth c Q F E ret ls J hl
  have hx := F.1
  have hb := F.2.1
  have hl : lv_has ls 4 [(0, .ref (q 2))] := hl
  refine lv_lconst (v := 0) hx hb dX6_numbersOfNext_0 (by decide) ?_
  refine lv_lstore_n (lv' := [(1, .long 0), (0, .ref (q 2))]) hx hb dX6_numbersOfNext_1 rfl hl (by decide) rfl (fun ls hl => ?_)
  refine lv_iconst (v := 0) hx hb dX6_numbersOfNext_2 (by decide) ?_
  refine lv_istore_n (lv' := [(3, .int 0), (1, .long 0), (0, .ref (q 2))]) hx hb dX6_numbersOfNext_3 rfl hl (by decide) rfl (fun ls hl => ?_)
  obtain ⟨o_L1, ho_L1, h⟩ := ob h
  have T_L1 : ∀ (f : Nat) (l1_L1 : Int64) (l3_L1 : Int32) (o_L1 : Int64), F_X6_numbersOfNext_L1 x_places x_mask x_w_size x_w_nexts x_w_names x_w_next f l1_L1 l3_L1 = some o_L1 → ∀ (H : Heap) (locs : List Loc) (ls : Array Slot), VJ g A s.heap (XW g q x_crowd x_latestFault x_places x_mask x_w_robots x_w_size x_w_nexts x_a_length x_t_length x_t_token x_t_from x_t_value x_t_behind x_r_wants x_r_pairs x_r_sees x_r_row x_b_size x_s_size x_w_names x_w_goals x_w_links x_w_linked x_w_ups x_w_downs x_w_next x_a_begun x_t_bytes x_b_rows x_b_acts x_s_rows x_s_acts) H locs → lv_has ls 4 [(0, .ref (q 2)), (1, .long l1_L1), (3, .int l3_L1)] → (∀ (H : Heap) (locs : List Loc) (ls : Array Slot), VJ g A s.heap (XW g q x_crowd x_latestFault x_places x_mask x_w_robots x_w_size x_w_nexts x_a_length x_t_length x_t_token x_t_from x_t_value x_t_behind x_r_wants x_r_pairs x_r_sees x_r_row x_b_size x_s_size x_w_names x_w_goals x_w_links x_w_linked x_w_ups x_w_downs x_w_next x_a_begun x_t_bytes x_b_rows x_b_acts x_s_rows x_s_acts) H locs → lv_has ls 4 [(1, .long o_L1)] → W p l e rm_X6_numbersOfNext s m args below meth c H locs 0 0 Q (F0 m 39 ls [])) → W p l e rm_X6_numbersOfNext s m args below meth c H locs 0 0 Q (F0 m 4 ls []) := by
    clear h ho_L1 hl J
    intro f
    induction f with
    | zero => intro l1_L1 l3_L1 o_L1 h; exact absurd h (by simp [F_X6_numbersOfNext_L1])
    | succ f ih =>
      intro l1_L1 l3_L1 o_L1 h H locs ls J hl K_L1
      rw [F_X6_numbersOfNext_L1.eq_2] at h
      refine lv_iload_n hx hb dX6_numbersOfNext_4 rfl (lv_at hl 2 rfl) ?_
      refine lv_aload_n hx hb dX6_numbersOfNext_5 rfl (lv_at hl 0 rfl) ?_
      refine xg_2_10 F E J fl_X6_42 dX6_numbersOfNext_6 ?_
      refine lv_icmp_ge (tgt := 39) hx hb dX6_numbersOfNext_9 (by decide) (fun c2 => ?_) (fun c2 => ?_)
      · have h := itp c2 h
        obtain rfl := Option.some.inj h
        exact K_L1 _ _ _ J (lv_sub hl [1] rfl)
      · have h := itn c2 h
        refine lv_iload_n hx hb dX6_numbersOfNext_12 rfl (lv_at hl 2 rfl) ?_
        refine lv_bipush (v := 81) hx hb dX6_numbersOfNext_13 (by decide) ?_
        refine lv_icmp_ge (tgt := 39) hx hb dX6_numbersOfNext_15 (by decide) (fun c3 => ?_) (fun c3 => ?_)
        · have h := itp c3 h
          obtain rfl := Option.some.inj h
          exact K_L1 _ _ _ J (lv_sub hl [1] rfl)
        · have h := itn c3 h
          refine lv_lload_n hx hb dX6_numbersOfNext_18 rfl (lv_at hl 1 rfl) ?_
          refine lv_lconst (v := 1) hx hb dX6_numbersOfNext_19 (by decide) ?_
          refine lv_aload_n hx hb dX6_numbersOfNext_20 rfl (lv_at hl 0 rfl) ?_
          refine lv_aload_n hx hb dX6_numbersOfNext_21 rfl (lv_at hl 0 rfl) ?_
          refine xg_2_7 F E J fl_X6_32 dX6_numbersOfNext_22 ?_
          refine lv_iload_n hx hb dX6_numbersOfNext_25 rfl (lv_at hl 2 rfl) ?_
          obtain ⟨hi, h⟩ := gdt h
          refine xl_14 F E J (inbt hi) dX6_numbersOfNext_26 ?_
          obtain ⟨p4, hp4, h⟩ := ob h
          refine onI (runV (As := [.int (x_w_next (Int32.toNatClampNeg l3_L1))]) (rest := [.long 1, .long l1_L1]) F E J (c_X6_numberOf (x_w_next (Int32.toNatClampNeg l3_L1)) p4 hp4) cw_X6_104 ⟨rfl, rfl, Nat.le_of_ble_eq_true rfl, Nat.le_of_ble_eq_true rfl⟩ rcX2 rfl hl.1 rfl (Nat.le_of_ble_eq_true rfl) dX6_numbersOfNext_27) J (fun H locs J => ?_)
          refine lv_lshl (v := (jlshl 1 p4)) hx hb dX6_numbersOfNext_30 rfl ?_
          refine lv_lor hx hb dX6_numbersOfNext_31 ?_
          obtain ⟨v5, hv5, h⟩ := obs h
          refine nmL hv5 ?_
          refine lv_lstore_n (lv' := [(1, .long v5), (0, .ref (q 2)), (3, .int l3_L1)]) hx hb dX6_numbersOfNext_32 rfl hl (by decide) rfl (fun ls hl => ?_)
          obtain ⟨v6, hv6, h⟩ := obs h
          refine lv_iinc (v := v6) (lv' := [(3, .int v6), (1, .long v5), (0, .ref (q 2))]) hx hb dX6_numbersOfNext_33 hl (k := 2) rfl (by rw [← hv6]; rfl) (by decide) rfl (fun ls hl => ?_)
          refine lv_goto (tgt := 4) hx hb dX6_numbersOfNext_36 (by decide) ?_
          exact ih _ _ _ h _ _ _ J (lv_sub hl [2, 1, 0] rfl) K_L1
  refine T_L1 FU 0 0 o_L1 ho_L1 _ _ _ J (lv_sub hl [2, 1, 0] rfl) (fun H locs ls J hl => ?_)
  refine lv_lload_n hx hb dX6_numbersOfNext_39 rfl (lv_at hl 0 rfl) ?_
  obtain rfl := Option.some.inj h
  exact ret _ _ _ _ J dX6_numbersOfNext_40
set_option maxHeartbeats 4000000 in
set_option maxRecDepth 100000 in
theorem c_X6_setLinks {l : Launch} {g : GG} {A : Nat → Prop} {q : Nat → Nat} {x_crowd x_latestFault x_places x_mask x_w_robots x_w_size x_w_nexts x_a_length x_t_length x_t_token x_t_from x_t_value x_t_behind x_r_wants x_r_pairs x_r_sees : Int32} {x_r_row : Int64} {x_b_size x_s_size : Int32} {x_w_names : Nat → Int32} {x_w_goals x_w_links : Nat → Int64} {x_w_linked x_w_ups x_w_downs x_w_next x_a_begun x_t_bytes : Nat → Int32} {x_b_rows : Nat → Int64} {x_b_acts : Nat → Int32} {x_s_rows : Nat → Int64} {x_s_acts : Nat → Int32} (a0 : Int32) (a1 : Int32) (a2 : Int64) (res : Nat → Int64) (h : F_X6_setLinks a0 a1 a2 x_w_links = some res) : Met l yX6_setLinks (wS yX6_setLinks cX6_setLinks 6 none) rm_X6_setLinks (va_Pc [.ref (q 2), .int a0, .int a1, .long a2] (VB g A (XW g q x_crowd x_latestFault x_places x_mask x_w_robots x_w_size x_w_nexts x_a_length x_t_length x_t_token x_t_from x_t_value x_t_behind x_r_wants x_r_pairs x_r_sees x_r_row x_b_size x_s_size x_w_names x_w_goals x_w_links x_w_linked x_w_ups x_w_downs x_w_next x_a_begun x_t_bytes x_b_rows x_b_acts x_s_rows x_s_acts))) (va_Qv (fun (_ : Unit) => True) (fun _ => VB g A (XW g q x_crowd x_latestFault x_places x_mask x_w_robots x_w_size x_w_nexts x_a_length x_t_length x_t_token x_t_from x_t_value x_t_behind x_r_wants x_r_pairs x_r_sees x_r_row x_b_size x_s_size x_w_names x_w_goals res x_w_linked x_w_ups x_w_downs x_w_next x_a_begun x_t_bytes x_b_rows x_b_acts x_s_rows x_s_acts)) A) 0 0 A := by
  unfold F_X6_setLinks at h
  refine MetV (own := RX6) (ws' := (XW g q x_crowd x_latestFault x_places x_mask x_w_robots x_w_size x_w_nexts x_a_length x_t_length x_t_token x_t_from x_t_value x_t_behind x_r_wants x_r_pairs x_r_sees x_r_row x_b_size x_s_size x_w_names x_w_goals res x_w_linked x_w_ups x_w_downs x_w_next x_a_begun x_t_bytes x_b_rows x_b_acts x_s_rows x_s_acts)) (by decide) rfl (Nat.le_of_ble_eq_true rfl) ?_
  intro p e s m args below meth c Q F E ret ls J hl
  have hx := F.1
  have hb := F.2.1
  have hl : lv_has ls 6 [(0, .ref (q 2)), (1, .int a0), (2, .int a1), (3, .long a2)] := hl
  refine lv_iload_n hx hb dX6_setLinks_0 rfl (lv_at hl 1 rfl) ?_
  refine lv_bipush (v := 64) hx hb dX6_setLinks_1 (by decide) ?_
  refine lv_imul hx hb dX6_setLinks_3 ?_
  refine lv_iload_n hx hb dX6_setLinks_4 rfl (lv_at hl 2 rfl) ?_
  refine lv_iadd hx hb dX6_setLinks_5 ?_
  obtain ⟨v1, hv1, h⟩ := obs h
  refine nmI hv1 ?_
  refine lv_istore (lv' := [(5, .int v1), (0, .ref (q 2)), (1, .int a0), (2, .int a1), (3, .long a2)]) hx hb dX6_setLinks_6 hl (by decide) rfl (fun ls hl => ?_)
  refine lv_iload hx hb dX6_setLinks_8 (lv_at hl 0 rfl) ?_
  refine lv_sipush (v := 192) hx hb dX6_setLinks_10 (by decide) ?_
  obtain ⟨p2, hp2, h⟩ := ob h
  refine onZ (runN (As := [.int v1, .int 192]) (rest := []) F E J (c_X7_outside v1 192 p2 hp2) cn_X6_81 ⟨rfl, rfl, Nat.le_of_ble_eq_true rfl, Nat.le_of_ble_eq_true rfl⟩ rfl hl.1 rfl (Nat.le_of_ble_eq_true rfl) dX6_setLinks_13) J (fun hzbp2 H locs J => ?_)
  refine lv_if_ne (tgt := 27) hx hb dX6_setLinks_16 (by decide) (fun c3 => ?_) (fun c3 => ?_)
  · have h := itn c3 h
    obtain rfl := Option.some.inj h
    exact ret _ _ _ _ J dX6_setLinks_27
  · have h := itp c3 h
    refine lv_aload_n hx hb dX6_setLinks_19 rfl (lv_at hl 1 rfl) ?_
    refine xg_2_3 F E J fl_X6_19 dX6_setLinks_20 ?_
    refine lv_iload hx hb dX6_setLinks_23 (lv_at hl 0 rfl) ?_
    refine lv_lload_n hx hb dX6_setLinks_25 rfl (lv_at hl 4 rfl) ?_
    obtain ⟨hi, h⟩ := gdt h
    refine xs_10 F E J (inbt hi) dX6_setLinks_26 (fun H locs J => ?_)
    obtain rfl := Option.some.inj h
    exact ret _ _ _ _ J dX6_setLinks_27
set_option maxHeartbeats 4000000 in
set_option maxRecDepth 100000 in
theorem c_X6_linkBy {l : Launch} {g : GG} {A : Nat → Prop} {q : Nat → Nat} {x_crowd x_latestFault x_places x_mask x_w_robots x_w_size x_w_nexts x_a_length x_t_length x_t_token x_t_from x_t_value x_t_behind x_r_wants x_r_pairs x_r_sees : Int32} {x_r_row : Int64} {x_b_size x_s_size : Int32} {x_w_names : Nat → Int32} {x_w_goals x_w_links : Nat → Int64} {x_w_linked x_w_ups x_w_downs x_w_next x_a_begun x_t_bytes : Nat → Int32} {x_b_rows : Nat → Int64} {x_b_acts : Nat → Int32} {x_s_rows : Nat → Int64} {x_s_acts : Nat → Int32} (a1 : Int32) (res : Int32 × (Nat → Int64) × (Nat → Int32) × (Nat → Int32) × (Nat → Int32) × (Nat → Int32)) (h : F_X6_linkBy a1 x_places x_mask x_w_size x_w_nexts x_b_size x_w_names x_w_links x_w_linked x_w_ups x_w_downs x_w_next x_b_rows x_b_acts = some res) : Met l yX6_linkBy (wS yX6_linkBy cX6_linkBy 4 none) rm_X6_linkBy (va_Pc [.ref (q 2), .ref (q 6), .int a1] (VB g A (XW g q x_crowd x_latestFault x_places x_mask x_w_robots x_w_size x_w_nexts x_a_length x_t_length x_t_token x_t_from x_t_value x_t_behind x_r_wants x_r_pairs x_r_sees x_r_row x_b_size x_s_size x_w_names x_w_goals x_w_links x_w_linked x_w_ups x_w_downs x_w_next x_a_begun x_t_bytes x_b_rows x_b_acts x_s_rows x_s_acts))) (va_Qv (fun (_ : Unit) => True) (fun _ => VB g A (XW g q x_crowd x_latestFault x_places x_mask x_w_robots x_w_size res.1 x_a_length x_t_length x_t_token x_t_from x_t_value x_t_behind x_r_wants x_r_pairs x_r_sees x_r_row x_b_size x_s_size x_w_names x_w_goals res.2.1 res.2.2.1 res.2.2.2.1 res.2.2.2.2.1 res.2.2.2.2.2 x_a_begun x_t_bytes x_b_rows x_b_acts x_s_rows x_s_acts)) A) 0 0 A := by
  unfold F_X6_linkBy at h
  refine MetV (own := RX6) (ws' := (XW g q x_crowd x_latestFault x_places x_mask x_w_robots x_w_size res.1 x_a_length x_t_length x_t_token x_t_from x_t_value x_t_behind x_r_wants x_r_pairs x_r_sees x_r_row x_b_size x_s_size x_w_names x_w_goals res.2.1 res.2.2.1 res.2.2.2.1 res.2.2.2.2.1 res.2.2.2.2.2 x_a_begun x_t_bytes x_b_rows x_b_acts x_s_rows x_s_acts)) (by decide) rfl (Nat.le_of_ble_eq_true rfl) ?_
  intro p e s m args below meth c Q F E ret ls J hl
  have hx := F.1
  have hb := F.2.1
  have hl : lv_has ls 4 [(0, .ref (q 2)), (1, .ref (q 6)), (2, .int a1)] := hl
  refine lv_iload_n hx hb dX6_linkBy_0 rfl (lv_at hl 2 rfl) ?_
  refine lv_iconst (v := 3) hx hb dX6_linkBy_1 (by decide) ?_
  obtain ⟨p1, hp1, h⟩ := ob h
  refine onZ (runN (As := [.int a1, .int 3]) (rest := []) F E J (c_X7_outside a1 3 p1 hp1) cn_X6_81 ⟨rfl, rfl, Nat.le_of_ble_eq_true rfl, Nat.le_of_ble_eq_true rfl⟩ rfl hl.1 rfl (Nat.le_of_ble_eq_true rfl) dX6_linkBy_2) J (fun hzbp1 H locs J => ?_)
  refine lv_if_ne (tgt := 17) hx hb dX6_linkBy_5 (by decide) (fun c2 => ?_) (fun c2 => ?_)
  · have h := itn c2 h
    obtain rfl := Option.some.inj h
    exact ret _ _ _ _ J dX6_linkBy_17
  · have h := itp c2 h
    refine lv_aload_n hx hb dX6_linkBy_8 rfl (lv_at hl 0 rfl) ?_
    refine xg_2_4 F E J fl_X6_22 dX6_linkBy_9 ?_
    refine lv_iload_n hx hb dX6_linkBy_12 rfl (lv_at hl 2 rfl) ?_
    obtain ⟨hi, h⟩ := gdt h
    refine xl_11 F E J (inbt hi) dX6_linkBy_13 ?_
    refine lv_if_eq (tgt := 18) hx hb dX6_linkBy_14 (by decide) (fun c3 => ?_) (fun c3 => ?_)
    · have h := itp c3 h
      refine lv_aload_n hx hb dX6_linkBy_18 rfl (lv_at hl 0 rfl) ?_
      refine xg_2_4 F E J fl_X6_22 dX6_linkBy_19 ?_
      refine lv_iload_n hx hb dX6_linkBy_22 rfl (lv_at hl 2 rfl) ?_
      refine lv_iconst (v := 1) hx hb dX6_linkBy_23 (by decide) ?_
      obtain ⟨hi, h⟩ := gdt h
      refine xs_11 F E J (inbt hi) dX6_linkBy_24 (fun H locs J => ?_)
      refine lv_iconst (v := 0) hx hb dX6_linkBy_25 (by decide) ?_
      refine lv_istore_n (lv' := [(3, .int 0), (0, .ref (q 2)), (1, .ref (q 6)), (2, .int a1)]) hx hb dX6_linkBy_26 rfl hl (by decide) rfl (fun ls hl => ?_)
      obtain ⟨o_L4, ho_L4, h⟩ := ob h
      have T_L4 : ∀ (f : Nat) (l3_L4 : Int32) (x_w_nexts_L4 : Int32) (x_w_links_L4 : Nat → Int64) (x_w_ups_L4 : Nat → Int32) (x_w_downs_L4 : Nat → Int32) (x_w_next_L4 : Nat → Int32) (o_L4 : Int32 × (Nat → Int64) × (Nat → Int32) × (Nat → Int32) × (Nat → Int32)), F_X6_linkBy_L4 a1 x_places x_mask x_w_size x_b_size x_w_names x_b_rows x_b_acts f l3_L4 x_w_nexts_L4 x_w_links_L4 x_w_ups_L4 x_w_downs_L4 x_w_next_L4 = some o_L4 → ∀ (H : Heap) (locs : List Loc) (ls : Array Slot), VJ g A s.heap (XW g q x_crowd x_latestFault x_places x_mask x_w_robots x_w_size x_w_nexts_L4 x_a_length x_t_length x_t_token x_t_from x_t_value x_t_behind x_r_wants x_r_pairs x_r_sees x_r_row x_b_size x_s_size x_w_names x_w_goals x_w_links_L4 (upd x_w_linked (Int32.toNatClampNeg a1) (vp_nar .boolean 1)) x_w_ups_L4 x_w_downs_L4 x_w_next_L4 x_a_begun x_t_bytes x_b_rows x_b_acts x_s_rows x_s_acts) H locs → lv_has ls 4 [(0, .ref (q 2)), (1, .ref (q 6)), (2, .int a1), (3, .int l3_L4)] → (∀ (H : Heap) (locs : List Loc) (ls : Array Slot), VJ g A s.heap (XW g q x_crowd x_latestFault x_places x_mask x_w_robots x_w_size o_L4.1 x_a_length x_t_length x_t_token x_t_from x_t_value x_t_behind x_r_wants x_r_pairs x_r_sees x_r_row x_b_size x_s_size x_w_names x_w_goals o_L4.2.1 (upd x_w_linked (Int32.toNatClampNeg a1) (vp_nar .boolean 1)) o_L4.2.2.1 o_L4.2.2.2.1 o_L4.2.2.2.2 x_a_begun x_t_bytes x_b_rows x_b_acts x_s_rows x_s_acts) H locs → lv_has ls 4 [] → W p l e rm_X6_linkBy s m args below meth c H locs 0 0 Q (F0 m 110 ls [])) → W p l e rm_X6_linkBy s m args below meth c H locs 0 0 Q (F0 m 27 ls []) := by
        clear h ho_L4 hl J
        intro f
        induction f with
        | zero => intro l3_L4 x_w_nexts_L4 x_w_links_L4 x_w_ups_L4 x_w_downs_L4 x_w_next_L4 o_L4 h; exact absurd h (by simp [F_X6_linkBy_L4])
        | succ f ih =>
          intro l3_L4 x_w_nexts_L4 x_w_links_L4 x_w_ups_L4 x_w_downs_L4 x_w_next_L4 o_L4 h H locs ls J hl K_L4
          rw [F_X6_linkBy_L4.eq_2] at h
          refine lv_iload_n hx hb dX6_linkBy_27 rfl (lv_at hl 3 rfl) ?_
          refine lv_aload_n hx hb dX6_linkBy_28 rfl (lv_at hl 0 rfl) ?_
          refine xg_2_9 F E J fl_X6_39 dX6_linkBy_29 ?_
          refine lv_icmp_ge (tgt := 110) hx hb dX6_linkBy_32 (by decide) (fun c5 => ?_) (fun c5 => ?_)
          · have h := itp c5 h
            obtain rfl := Option.some.inj h
            exact K_L4 _ _ _ J (lv_sub hl [] rfl)
          · have h := itn c5 h
            refine lv_iload_n hx hb dX6_linkBy_35 rfl (lv_at hl 3 rfl) ?_
            refine lv_bipush (v := 64) hx hb dX6_linkBy_36 (by decide) ?_
            refine lv_icmp_ge (tgt := 110) hx hb dX6_linkBy_38 (by decide) (fun c6 => ?_) (fun c6 => ?_)
            · have h := itp c6 h
              obtain rfl := Option.some.inj h
              exact K_L4 _ _ _ J (lv_sub hl [] rfl)
            · have h := itn c6 h
              refine lv_aload_n hx hb dX6_linkBy_41 rfl (lv_at hl 0 rfl) ?_
              refine lv_aload_n hx hb dX6_linkBy_42 rfl (lv_at hl 1 rfl) ?_
              refine lv_aload_n hx hb dX6_linkBy_43 rfl (lv_at hl 0 rfl) ?_
              refine xg_2_1 F E J fl_X6_11 dX6_linkBy_44 ?_
              refine lv_iload_n hx hb dX6_linkBy_47 rfl (lv_at hl 3 rfl) ?_
              obtain ⟨hi, h⟩ := gdt h
              refine xl_8 F E J (inbt hi) dX6_linkBy_48 ?_
              obtain ⟨p7, hp7, h⟩ := ob h
              refine onV (runV (As := [.ref (q 6), .int (x_w_names (Int32.toNatClampNeg l3_L4))]) (rest := []) F E J (c_X6_findMoves (x_w_names (Int32.toNatClampNeg l3_L4)) p7 hp7) cw_X6_84 ⟨rfl, rfl, Nat.le_of_ble_eq_true rfl, Nat.le_of_ble_eq_true rfl⟩ rcX2 rfl hl.1 rfl (Nat.le_of_ble_eq_true rfl) dX6_linkBy_49) J (fun H locs J => ?_)
              refine lv_aload_n hx hb dX6_linkBy_52 rfl (lv_at hl 0 rfl) ?_
              refine lv_iconst (v := 0) hx hb dX6_linkBy_53 (by decide) ?_
              refine xp_2_10 F E J fl_X6_42 dX6_linkBy_54 (fun H locs J => ?_)
              refine lv_iload_n hx hb dX6_linkBy_57 rfl (lv_at hl 2 rfl) ?_
              refine lv_iconst (v := 1) hx hb dX6_linkBy_58 (by decide) ?_
              obtain ⟨j8, hj8, h⟩ := ob h
              have Kj8 : ∀ (H : Heap) (locs : List Loc) (ls : Array Slot), VJ g A s.heap (XW g q x_crowd x_latestFault x_places x_mask x_w_robots x_w_size j8.1 x_a_length x_t_length x_t_token x_t_from x_t_value x_t_behind x_r_wants x_r_pairs x_r_sees x_r_row x_b_size x_s_size x_w_names x_w_goals x_w_links_L4 (upd x_w_linked (Int32.toNatClampNeg a1) (vp_nar .boolean 1)) p7.1 p7.2 j8.2 x_a_begun x_t_bytes x_b_rows x_b_acts x_s_rows x_s_acts) H locs → lv_has ls 4 [(0, .ref (q 2)), (1, .ref (q 6)), (2, .int a1), (3, .int l3_L4)] → W p l e rm_X6_linkBy s m args below meth c H locs 0 0 Q (F0 m 94 ls []) := by
                intro H locs ls J hl
                refine lv_aload_n hx hb dX6_linkBy_94 rfl (lv_at hl 0 rfl) ?_
                refine lv_iload_n hx hb dX6_linkBy_95 rfl (lv_at hl 2 rfl) ?_
                refine lv_iload_n hx hb dX6_linkBy_96 rfl (lv_at hl 3 rfl) ?_
                refine lv_aload_n hx hb dX6_linkBy_97 rfl (lv_at hl 0 rfl) ?_
                obtain ⟨p14, hp14, h⟩ := ob h
                refine onL (runV (As := []) (rest := [.int l3_L4, .int a1, .ref (q 2)]) F E J (c_X6_numbersOfNext  p14 hp14) cw_X6_96 ⟨rfl, rfl, Nat.le_of_ble_eq_true rfl, Nat.le_of_ble_eq_true rfl⟩ rcX2 rfl hl.1 rfl (Nat.le_of_ble_eq_true rfl) dX6_linkBy_98) J (fun H locs J => ?_)
                obtain ⟨p15, hp15, h⟩ := ob h
                refine onV (runV (As := [.int a1, .int l3_L4, .long p14]) (rest := []) F E J (c_X6_setLinks a1 l3_L4 p14 p15 hp15) cw_X6_100 ⟨rfl, rfl, Nat.le_of_ble_eq_true rfl, Nat.le_of_ble_eq_true rfl⟩ rcX2 rfl hl.1 rfl (Nat.le_of_ble_eq_true rfl) dX6_linkBy_101) J (fun H locs J => ?_)
                obtain ⟨v16, hv16, h⟩ := obs h
                refine lv_iinc (v := v16) (lv' := [(3, .int v16), (0, .ref (q 2)), (1, .ref (q 6)), (2, .int a1)]) hx hb dX6_linkBy_104 hl (k := 3) rfl (by rw [← hv16]; rfl) (by decide) rfl (fun ls hl => ?_)
                refine lv_goto (tgt := 27) hx hb dX6_linkBy_107 (by decide) ?_
                exact ih _ _ _ _ _ _ _ h _ _ _ J (lv_sub hl [1, 2, 3, 0] rfl) K_L4
              clear h
              have h := hj8
              refine lv_icmp_ne (tgt := 75) hx hb dX6_linkBy_59 (by decide) (fun c9 => ?_) (fun c9 => ?_)
              · have h := itn c9 h
                refine lv_aload_n hx hb dX6_linkBy_75 rfl (lv_at hl 0 rfl) ?_
                refine lv_aload_n hx hb dX6_linkBy_76 rfl (lv_at hl 0 rfl) ?_
                refine xg_2_1 F E J fl_X6_11 dX6_linkBy_77 ?_
                refine lv_iload_n hx hb dX6_linkBy_80 rfl (lv_at hl 3 rfl) ?_
                obtain ⟨hi, h⟩ := gdt h
                refine xl_8 F E J (inbt hi) dX6_linkBy_81 ?_
                refine lv_iload_n hx hb dX6_linkBy_82 rfl (lv_at hl 2 rfl) ?_
                obtain ⟨j10, hj10, h⟩ := ob h
                have Kj10 : ∀ (H : Heap) (locs : List Loc) (ls : Array Slot), VJ g A s.heap (XW g q x_crowd x_latestFault x_places x_mask x_w_robots x_w_size 0 x_a_length x_t_length x_t_token x_t_from x_t_value x_t_behind x_r_wants x_r_pairs x_r_sees x_r_row x_b_size x_s_size x_w_names x_w_goals x_w_links_L4 (upd x_w_linked (Int32.toNatClampNeg a1) (vp_nar .boolean 1)) p7.1 p7.2 x_w_next_L4 x_a_begun x_t_bytes x_b_rows x_b_acts x_s_rows x_s_acts) H locs → lv_has ls 4 [(0, .ref (q 2)), (1, .ref (q 6)), (2, .int a1), (3, .int l3_L4)] → W p l e rm_X6_linkBy s m args below meth c H locs 0 0 Q (F0 m 91 ls [.int j10, .int (x_w_names (Int32.toNatClampNeg l3_L4)), .ref (q 2)]) := by
                  intro H locs ls J hl
                  obtain ⟨p12, hp12, h⟩ := ob h
                  refine onV (runV (As := [.int (x_w_names (Int32.toNatClampNeg l3_L4)), .int j10]) (rest := []) F E J (c_X6_wakeSome (x_w_names (Int32.toNatClampNeg l3_L4)) j10 p12 hp12) cw_X6_92 ⟨rfl, rfl, Nat.le_of_ble_eq_true rfl, Nat.le_of_ble_eq_true rfl⟩ rcX2 rfl hl.1 rfl (Nat.le_of_ble_eq_true rfl) dX6_linkBy_91) J (fun H locs J => ?_)
                  obtain rfl := Option.some.inj h
                  exact Kj8 _ _ _ J (lv_sub hl [0, 1, 2, 3] rfl)
                clear h
                have h := hj10
                refine lv_if_ne (tgt := 90) hx hb dX6_linkBy_83 (by decide) (fun c11 => ?_) (fun c11 => ?_)
                · have h := itn c11 h
                  refine lv_iconst (v := 0) hx hb dX6_linkBy_90 (by decide) ?_
                  obtain rfl := Option.some.inj h
                  exact Kj10 _ _ _ J (lv_sub hl [0, 1, 2, 3] rfl)
                · have h := itp c11 h
                  refine lv_iconst (v := 1) hx hb dX6_linkBy_86 (by decide) ?_
                  refine lv_goto (tgt := 91) hx hb dX6_linkBy_87 (by decide) ?_
                  obtain rfl := Option.some.inj h
                  exact Kj10 _ _ _ J (lv_sub hl [0, 1, 2, 3] rfl)
              · have h := itp c9 h
                refine lv_aload_n hx hb dX6_linkBy_62 rfl (lv_at hl 0 rfl) ?_
                refine lv_aload_n hx hb dX6_linkBy_63 rfl (lv_at hl 0 rfl) ?_
                refine xg_2_1 F E J fl_X6_11 dX6_linkBy_64 ?_
                refine lv_iload_n hx hb dX6_linkBy_67 rfl (lv_at hl 3 rfl) ?_
                obtain ⟨hi, h⟩ := gdt h
                refine xl_8 F E J (inbt hi) dX6_linkBy_68 ?_
                obtain ⟨p13, hp13, h⟩ := ob h
                refine onV (runV (As := [.int (x_w_names (Int32.toNatClampNeg l3_L4))]) (rest := []) F E J (c_X6_wakeOne (x_w_names (Int32.toNatClampNeg l3_L4)) p13 hp13) cw_X6_88 ⟨rfl, rfl, Nat.le_of_ble_eq_true rfl, Nat.le_of_ble_eq_true rfl⟩ rcX2 rfl hl.1 rfl (Nat.le_of_ble_eq_true rfl) dX6_linkBy_69) J (fun H locs J => ?_)
                refine lv_goto (tgt := 94) hx hb dX6_linkBy_72 (by decide) ?_
                obtain rfl := Option.some.inj h
                exact Kj8 _ _ _ J (lv_sub hl [0, 1, 2, 3] rfl)
      refine T_L4 FU 0 x_w_nexts x_w_links x_w_ups x_w_downs x_w_next o_L4 ho_L4 _ _ _ J (lv_sub hl [1, 2, 3, 0] rfl) (fun H locs ls J hl => ?_)
      obtain rfl := Option.some.inj h
      exact ret _ _ _ _ J dX6_linkBy_110
    · have h := itn c3 h
      obtain rfl := Option.some.inj h
      exact ret _ _ _ _ J dX6_linkBy_17
set_option maxHeartbeats 4000000 in
set_option maxRecDepth 100000 in
theorem c_X6_ofGoal {l : Launch} {g : GG} {A : Nat → Prop} {q : Nat → Nat} {x_crowd x_latestFault x_places x_mask x_w_robots x_w_size x_w_nexts x_a_length x_t_length x_t_token x_t_from x_t_value x_t_behind x_r_wants x_r_pairs x_r_sees : Int32} {x_r_row : Int64} {x_b_size x_s_size : Int32} {x_w_names : Nat → Int32} {x_w_goals x_w_links : Nat → Int64} {x_w_linked x_w_ups x_w_downs x_w_next x_a_begun x_t_bytes : Nat → Int32} {x_b_rows : Nat → Int64} {x_b_acts : Nat → Int32} {x_s_rows : Nat → Int64} {x_s_acts : Nat → Int32} (a0 : Int32) (res : Int64) (h : F_X6_ofGoal a0 x_w_goals = some res) : Met l yX6_ofGoal (wS yX6_ofGoal cX6_ofGoal 2 (some .long)) rm_X6_ofGoal (va_Pc [.ref (q 2), .int a0] (VB g A (XW g q x_crowd x_latestFault x_places x_mask x_w_robots x_w_size x_w_nexts x_a_length x_t_length x_t_token x_t_from x_t_value x_t_behind x_r_wants x_r_pairs x_r_sees x_r_row x_b_size x_s_size x_w_names x_w_goals x_w_links x_w_linked x_w_ups x_w_downs x_w_next x_a_begun x_t_bytes x_b_rows x_b_acts x_s_rows x_s_acts))) (va_Ql (fun r (_ : Unit) => r = res) (fun _ => VB g A (XW g q x_crowd x_latestFault x_places x_mask x_w_robots x_w_size x_w_nexts x_a_length x_t_length x_t_token x_t_from x_t_value x_t_behind x_r_wants x_r_pairs x_r_sees x_r_row x_b_size x_s_size x_w_names x_w_goals x_w_links x_w_linked x_w_ups x_w_downs x_w_next x_a_begun x_t_bytes x_b_rows x_b_acts x_s_rows x_s_acts)) A) 0 0 A := by
  unfold F_X6_ofGoal at h
  refine MetL (res := res) (own := RX6) (ws' := (XW g q x_crowd x_latestFault x_places x_mask x_w_robots x_w_size x_w_nexts x_a_length x_t_length x_t_token x_t_from x_t_value x_t_behind x_r_wants x_r_pairs x_r_sees x_r_row x_b_size x_s_size x_w_names x_w_goals x_w_links x_w_linked x_w_ups x_w_downs x_w_next x_a_begun x_t_bytes x_b_rows x_b_acts x_s_rows x_s_acts)) (by decide) rfl (Nat.le_of_ble_eq_true rfl) ?_
  intro p e s m args below meth c Q F E ret ls J hl
  have hx := F.1
  have hb := F.2.1
  have hl : lv_has ls 2 [(0, .ref (q 2)), (1, .int a0)] := hl
  refine lv_iload_n hx hb dX6_ofGoal_0 rfl (lv_at hl 1 rfl) ?_
  refine lv_iconst (v := 3) hx hb dX6_ofGoal_1 (by decide) ?_
  obtain ⟨p1, hp1, h⟩ := ob h
  refine onZ (runN (As := [.int a0, .int 3]) (rest := []) F E J (c_X7_outside a0 3 p1 hp1) cn_X6_81 ⟨rfl, rfl, Nat.le_of_ble_eq_true rfl, Nat.le_of_ble_eq_true rfl⟩ rfl hl.1 rfl (Nat.le_of_ble_eq_true rfl) dX6_ofGoal_2) J (fun hzbp1 H locs J => ?_)
  refine lv_if_eq (tgt := 12) hx hb dX6_ofGoal_5 (by decide) (fun c2 => ?_) (fun c2 => ?_)
  · have h := itp c2 h
    refine lv_aload_n hx hb dX6_ofGoal_12 rfl (lv_at hl 0 rfl) ?_
    refine xg_2_2 F E J fl_X6_15 dX6_ofGoal_13 ?_
    refine lv_iload_n hx hb dX6_ofGoal_16 rfl (lv_at hl 1 rfl) ?_
    obtain ⟨hi, h⟩ := gdt h
    refine xl_9 F E J (inbt hi) dX6_ofGoal_17 ?_
    obtain rfl := Option.some.inj h
    exact ret _ _ _ _ J dX6_ofGoal_18
  · have h := itn c2 h
    refine lv_lconst (v := 0) hx hb dX6_ofGoal_8 (by decide) ?_
    refine lv_goto (tgt := 18) hx hb dX6_ofGoal_9 (by decide) ?_
    obtain rfl := Option.some.inj h
    exact ret _ _ _ _ J dX6_ofGoal_18
set_option maxHeartbeats 4000000 in
set_option maxRecDepth 100000 in
theorem c_X6_linksOf {l : Launch} {g : GG} {A : Nat → Prop} {q : Nat → Nat} {x_crowd x_latestFault x_places x_mask x_w_robots x_w_size x_w_nexts x_a_length x_t_length x_t_token x_t_from x_t_value x_t_behind x_r_wants x_r_pairs x_r_sees : Int32} {x_r_row : Int64} {x_b_size x_s_size : Int32} {x_w_names : Nat → Int32} {x_w_goals x_w_links : Nat → Int64} {x_w_linked x_w_ups x_w_downs x_w_next x_a_begun x_t_bytes : Nat → Int32} {x_b_rows : Nat → Int64} {x_b_acts : Nat → Int32} {x_s_rows : Nat → Int64} {x_s_acts : Nat → Int32} (a0 : Int32) (a1 : Int32) (res : Int64) (h : F_X6_linksOf a0 a1 x_w_links = some res) : Met l yX6_linksOf (wS yX6_linksOf cX6_linksOf 4 (some .long)) rm_X6_linksOf (va_Pc [.ref (q 2), .int a0, .int a1] (VB g A (XW g q x_crowd x_latestFault x_places x_mask x_w_robots x_w_size x_w_nexts x_a_length x_t_length x_t_token x_t_from x_t_value x_t_behind x_r_wants x_r_pairs x_r_sees x_r_row x_b_size x_s_size x_w_names x_w_goals x_w_links x_w_linked x_w_ups x_w_downs x_w_next x_a_begun x_t_bytes x_b_rows x_b_acts x_s_rows x_s_acts))) (va_Ql (fun r (_ : Unit) => r = res) (fun _ => VB g A (XW g q x_crowd x_latestFault x_places x_mask x_w_robots x_w_size x_w_nexts x_a_length x_t_length x_t_token x_t_from x_t_value x_t_behind x_r_wants x_r_pairs x_r_sees x_r_row x_b_size x_s_size x_w_names x_w_goals x_w_links x_w_linked x_w_ups x_w_downs x_w_next x_a_begun x_t_bytes x_b_rows x_b_acts x_s_rows x_s_acts)) A) 0 0 A := by
  unfold F_X6_linksOf at h
  refine MetL (res := res) (own := RX6) (ws' := (XW g q x_crowd x_latestFault x_places x_mask x_w_robots x_w_size x_w_nexts x_a_length x_t_length x_t_token x_t_from x_t_value x_t_behind x_r_wants x_r_pairs x_r_sees x_r_row x_b_size x_s_size x_w_names x_w_goals x_w_links x_w_linked x_w_ups x_w_downs x_w_next x_a_begun x_t_bytes x_b_rows x_b_acts x_s_rows x_s_acts)) (by decide) rfl (Nat.le_of_ble_eq_true rfl) ?_
  intro p e s m args below meth c Q F E ret ls J hl
  have hx := F.1
  have hb := F.2.1
  have hl : lv_has ls 4 [(0, .ref (q 2)), (1, .int a0), (2, .int a1)] := hl
  refine lv_iload_n hx hb dX6_linksOf_0 rfl (lv_at hl 1 rfl) ?_
  refine lv_bipush (v := 64) hx hb dX6_linksOf_1 (by decide) ?_
  refine lv_imul hx hb dX6_linksOf_3 ?_
  refine lv_iload_n hx hb dX6_linksOf_4 rfl (lv_at hl 2 rfl) ?_
  refine lv_iadd hx hb dX6_linksOf_5 ?_
  obtain ⟨v1, hv1, h⟩ := obs h
  refine nmI hv1 ?_
  refine lv_istore_n (lv' := [(3, .int v1), (0, .ref (q 2)), (1, .int a0), (2, .int a1)]) hx hb dX6_linksOf_6 rfl hl (by decide) rfl (fun ls hl => ?_)
  refine lv_iload_n hx hb dX6_linksOf_7 rfl (lv_at hl 0 rfl) ?_
  refine lv_sipush (v := 192) hx hb dX6_linksOf_8 (by decide) ?_
  obtain ⟨p2, hp2, h⟩ := ob h
  refine onZ (runN (As := [.int v1, .int 192]) (rest := []) F E J (c_X7_outside v1 192 p2 hp2) cn_X6_81 ⟨rfl, rfl, Nat.le_of_ble_eq_true rfl, Nat.le_of_ble_eq_true rfl⟩ rfl hl.1 rfl (Nat.le_of_ble_eq_true rfl) dX6_linksOf_11) J (fun hzbp2 H locs J => ?_)
  refine lv_if_eq (tgt := 21) hx hb dX6_linksOf_14 (by decide) (fun c3 => ?_) (fun c3 => ?_)
  · have h := itp c3 h
    refine lv_aload_n hx hb dX6_linksOf_21 rfl (lv_at hl 1 rfl) ?_
    refine xg_2_3 F E J fl_X6_19 dX6_linksOf_22 ?_
    refine lv_iload_n hx hb dX6_linksOf_25 rfl (lv_at hl 0 rfl) ?_
    obtain ⟨hi, h⟩ := gdt h
    refine xl_10 F E J (inbt hi) dX6_linksOf_26 ?_
    obtain rfl := Option.some.inj h
    exact ret _ _ _ _ J dX6_linksOf_27
  · have h := itn c3 h
    refine lv_lconst (v := 0) hx hb dX6_linksOf_17 (by decide) ?_
    refine lv_goto (tgt := 27) hx hb dX6_linksOf_18 (by decide) ?_
    obtain rfl := Option.some.inj h
    exact ret _ _ _ _ J dX6_linksOf_27
set_option maxHeartbeats 4000000 in
set_option maxRecDepth 100000 in
theorem c_X6_safeByOne {l : Launch} {g : GG} {A : Nat → Prop} {q : Nat → Nat} {x_crowd x_latestFault x_places x_mask x_w_robots x_w_size x_w_nexts x_a_length x_t_length x_t_token x_t_from x_t_value x_t_behind x_r_wants x_r_pairs x_r_sees : Int32} {x_r_row : Int64} {x_b_size x_s_size : Int32} {x_w_names : Nat → Int32} {x_w_goals x_w_links : Nat → Int64} {x_w_linked x_w_ups x_w_downs x_w_next x_a_begun x_t_bytes : Nat → Int32} {x_b_rows : Nat → Int64} {x_b_acts : Nat → Int32} {x_s_rows : Nat → Int64} {x_s_acts : Nat → Int32} (a0 : Int64) (a1 : Int32) (res : Int64) (h : F_X6_safeByOne a0 a1 x_w_size x_w_links = some res) : Met l yX6_safeByOne (wS yX6_safeByOne cX6_safeByOne 9 (some .long)) rm_X6_safeByOne (va_Pc [.ref (q 2), .long a0, .int a1] (VB g A (XW g q x_crowd x_latestFault x_places x_mask x_w_robots x_w_size x_w_nexts x_a_length x_t_length x_t_token x_t_from x_t_value x_t_behind x_r_wants x_r_pairs x_r_sees x_r_row x_b_size x_s_size x_w_names x_w_goals x_w_links x_w_linked x_w_ups x_w_downs x_w_next x_a_begun x_t_bytes x_b_rows x_b_acts x_s_rows x_s_acts))) (va_Ql (fun r (_ : Unit) => r = res) (fun _ => VB g A (XW g q x_crowd x_latestFault x_places x_mask x_w_robots x_w_size x_w_nexts x_a_length x_t_length x_t_token x_t_from x_t_value x_t_behind x_r_wants x_r_pairs x_r_sees x_r_row x_b_size x_s_size x_w_names x_w_goals x_w_links x_w_linked x_w_ups x_w_downs x_w_next x_a_begun x_t_bytes x_b_rows x_b_acts x_s_rows x_s_acts)) A) 0 0 A := by
  unfold F_X6_safeByOne at h
  refine MetL (res := res) (own := RX6) (ws' := (XW g q x_crowd x_latestFault x_places x_mask x_w_robots x_w_size x_w_nexts x_a_length x_t_length x_t_token x_t_from x_t_value x_t_behind x_r_wants x_r_pairs x_r_sees x_r_row x_b_size x_s_size x_w_names x_w_goals x_w_links x_w_linked x_w_ups x_w_downs x_w_next x_a_begun x_t_bytes x_b_rows x_b_acts x_s_rows x_s_acts)) (by decide) rfl (Nat.le_of_ble_eq_true rfl) ?_
  intro p e s m args below meth c Q F E ret ls J hl
  have hx := F.1
  have hb := F.2.1
  have hl : lv_has ls 9 [(0, .ref (q 2)), (1, .long a0), (3, .int a1)] := hl
  refine lv_lload_n hx hb dX6_safeByOne_0 rfl (lv_at hl 1 rfl) ?_
  refine lv_lstore (lv' := [(4, .long a0), (0, .ref (q 2)), (1, .long a0), (3, .int a1)]) hx hb dX6_safeByOne_1 hl (by decide) rfl (fun ls hl => ?_)
  refine lv_iconst (v := 0) hx hb dX6_safeByOne_3 (by decide) ?_
  refine lv_istore (lv' := [(6, .int 0), (4, .long a0), (0, .ref (q 2)), (1, .long a0), (3, .int a1)]) hx hb dX6_safeByOne_4 hl (by decide) rfl (fun ls hl => ?_)
  obtain ⟨o_L1, ho_L1, h⟩ := ob h
  have T_L1 : ∀ (f : Nat) (l4_L1 : Int64) (l6_L1 : Int32) (o_L1 : Int64), F_X6_safeByOne_L1 a0 a1 x_w_size x_w_links f l4_L1 l6_L1 = some o_L1 → ∀ (H : Heap) (locs : List Loc) (ls : Array Slot), VJ g A s.heap (XW g q x_crowd x_latestFault x_places x_mask x_w_robots x_w_size x_w_nexts x_a_length x_t_length x_t_token x_t_from x_t_value x_t_behind x_r_wants x_r_pairs x_r_sees x_r_row x_b_size x_s_size x_w_names x_w_goals x_w_links x_w_linked x_w_ups x_w_downs x_w_next x_a_begun x_t_bytes x_b_rows x_b_acts x_s_rows x_s_acts) H locs → lv_has ls 9 [(0, .ref (q 2)), (1, .long a0), (3, .int a1), (4, .long l4_L1), (6, .int l6_L1)] → (∀ (H : Heap) (locs : List Loc) (ls : Array Slot), VJ g A s.heap (XW g q x_crowd x_latestFault x_places x_mask x_w_robots x_w_size x_w_nexts x_a_length x_t_length x_t_token x_t_from x_t_value x_t_behind x_r_wants x_r_pairs x_r_sees x_r_row x_b_size x_s_size x_w_names x_w_goals x_w_links x_w_linked x_w_ups x_w_downs x_w_next x_a_begun x_t_bytes x_b_rows x_b_acts x_s_rows x_s_acts) H locs → lv_has ls 9 [(4, .long o_L1)] → W p l e rm_X6_safeByOne s m args below meth c H locs 0 0 Q (F0 m 59 ls [])) → W p l e rm_X6_safeByOne s m args below meth c H locs 0 0 Q (F0 m 6 ls []) := by
    clear h ho_L1 hl J
    intro f
    induction f with
    | zero => intro l4_L1 l6_L1 o_L1 h; exact absurd h (by simp [F_X6_safeByOne_L1])
    | succ f ih =>
      intro l4_L1 l6_L1 o_L1 h H locs ls J hl K_L1
      rw [F_X6_safeByOne_L1.eq_2] at h
      refine lv_iload hx hb dX6_safeByOne_6 (lv_at hl 4 rfl) ?_
      refine lv_aload_n hx hb dX6_safeByOne_8 rfl (lv_at hl 0 rfl) ?_
      refine xg_2_9 F E J fl_X6_39 dX6_safeByOne_9 ?_
      refine lv_icmp_ge (tgt := 59) hx hb dX6_safeByOne_12 (by decide) (fun c2 => ?_) (fun c2 => ?_)
      · have h := itp c2 h
        obtain rfl := Option.some.inj h
        exact K_L1 _ _ _ J (lv_sub hl [3] rfl)
      · have h := itn c2 h
        refine lv_aload_n hx hb dX6_safeByOne_15 rfl (lv_at hl 0 rfl) ?_
        refine lv_iload_n hx hb dX6_safeByOne_16 rfl (lv_at hl 2 rfl) ?_
        refine lv_iload hx hb dX6_safeByOne_17 (lv_at hl 4 rfl) ?_
        obtain ⟨p3, hp3, h⟩ := ob h
        refine onL (runV (As := [.int a1, .int l6_L1]) (rest := []) F E J (c_X6_linksOf a1 l6_L1 p3 hp3) cw_X6_132 ⟨rfl, rfl, Nat.le_of_ble_eq_true rfl, Nat.le_of_ble_eq_true rfl⟩ rcX2 rfl hl.1 rfl (Nat.le_of_ble_eq_true rfl) dX6_safeByOne_19) J (fun H locs J => ?_)
        refine lv_lstore (lv' := [(7, .long p3), (0, .ref (q 2)), (1, .long a0), (3, .int a1), (4, .long l4_L1), (6, .int l6_L1)]) hx hb dX6_safeByOne_22 hl (by decide) rfl (fun ls hl => ?_)
        refine lv_lload hx hb dX6_safeByOne_24 (lv_at hl 0 rfl) ?_
        refine lv_lconst (v := 0) hx hb dX6_safeByOne_26 (by decide) ?_
        refine W.lcmp hx hb dX6_safeByOne_27 ?_
        obtain ⟨j4, hj4, h⟩ := ob h
        have Kj4 : ∀ (H : Heap) (locs : List Loc) (ls : Array Slot), VJ g A s.heap (XW g q x_crowd x_latestFault x_places x_mask x_w_robots x_w_size x_w_nexts x_a_length x_t_length x_t_token x_t_from x_t_value x_t_behind x_r_wants x_r_pairs x_r_sees x_r_row x_b_size x_s_size x_w_names x_w_goals x_w_links x_w_linked x_w_ups x_w_downs x_w_next x_a_begun x_t_bytes x_b_rows x_b_acts x_s_rows x_s_acts) H locs → lv_has ls 9 [(0, .ref (q 2)), (1, .long a0), (3, .int a1), (4, .long j4), (6, .int l6_L1)] → W p l e rm_X6_safeByOne s m args below meth c H locs 0 0 Q (F0 m 53 ls []) := by
          intro H locs ls J hl
          obtain ⟨v8, hv8, h⟩ := obs h
          refine lv_iinc (v := v8) (lv' := [(6, .int v8), (0, .ref (q 2)), (1, .long a0), (3, .int a1), (4, .long j4)]) hx hb dX6_safeByOne_53 hl (k := 4) rfl (by rw [← hv8]; rfl) (by decide) rfl (fun ls hl => ?_)
          refine lv_goto (tgt := 6) hx hb dX6_safeByOne_56 (by decide) ?_
          exact ih _ _ _ h _ _ _ J (lv_sub hl [1, 2, 3, 4, 0] rfl) K_L1
        clear h
        have h := hj4
        refine lv_if_eq (tgt := 53) hx hb dX6_safeByOne_28 (by decide) (fun c5 => ?_) (fun c5 => ?_)
        · have h := itp c5 h
          obtain rfl := Option.some.inj h
          exact Kj4 _ _ _ J (lv_sub hl [1, 2, 3, 4, 5] rfl)
        · have h := itn c5 h
          refine lv_lload hx hb dX6_safeByOne_31 (lv_at hl 0 rfl) ?_
          refine lv_lload_n hx hb dX6_safeByOne_33 rfl (lv_at hl 2 rfl) ?_
          refine lv_ldc2 hx hb F.2.2.2.1 (F.2.2.2.2 _ kc_X6_136) dX6_safeByOne_34 ?_
          refine lv_lxor hx hb dX6_safeByOne_37 ?_
          refine lv_land hx hb dX6_safeByOne_38 ?_
          refine lv_lconst (v := 0) hx hb dX6_safeByOne_39 (by decide) ?_
          refine W.lcmp hx hb dX6_safeByOne_40 ?_
          refine lv_if_ne (tgt := 53) hx hb dX6_safeByOne_41 (by decide) (fun c6 => ?_) (fun c6 => ?_)
          · have h := itn c6 h
            obtain rfl := Option.some.inj h
            exact Kj4 _ _ _ J (lv_sub hl [1, 2, 3, 4, 5] rfl)
          · have h := itp c6 h
            refine lv_lload hx hb dX6_safeByOne_44 (lv_at hl 4 rfl) ?_
            refine lv_lconst (v := 1) hx hb dX6_safeByOne_46 (by decide) ?_
            refine lv_iload hx hb dX6_safeByOne_47 (lv_at hl 5 rfl) ?_
            refine lv_lshl (v := (jlshl 1 l6_L1)) hx hb dX6_safeByOne_49 rfl ?_
            refine lv_lor hx hb dX6_safeByOne_50 ?_
            obtain ⟨v7, hv7, h⟩ := obs h
            refine nmL hv7 ?_
            refine lv_lstore (lv' := [(4, .long v7), (7, .long p3), (0, .ref (q 2)), (1, .long a0), (3, .int a1), (6, .int l6_L1)]) hx hb dX6_safeByOne_51 hl (by decide) rfl (fun ls hl => ?_)
            obtain rfl := Option.some.inj h
            exact Kj4 _ _ _ J (lv_sub hl [2, 3, 4, 0, 5] rfl)
  refine T_L1 FU a0 0 o_L1 ho_L1 _ _ _ J (lv_sub hl [2, 3, 4, 1, 0] rfl) (fun H locs ls J hl => ?_)
  refine lv_lload hx hb dX6_safeByOne_59 (lv_at hl 0 rfl) ?_
  obtain rfl := Option.some.inj h
  exact ret _ _ _ _ J dX6_safeByOne_61
set_option maxHeartbeats 4000000 in
set_option maxRecDepth 100000 in
theorem c_X6_mostSteps {l : Launch} {g : GG} {A : Nat → Prop} {q : Nat → Nat} {x_crowd x_latestFault x_places x_mask x_w_robots x_w_size x_w_nexts x_a_length x_t_length x_t_token x_t_from x_t_value x_t_behind x_r_wants x_r_pairs x_r_sees : Int32} {x_r_row : Int64} {x_b_size x_s_size : Int32} {x_w_names : Nat → Int32} {x_w_goals x_w_links : Nat → Int64} {x_w_linked x_w_ups x_w_downs x_w_next x_a_begun x_t_bytes : Nat → Int32} {x_b_rows : Nat → Int64} {x_b_acts : Nat → Int32} {x_s_rows : Nat → Int64} {x_s_acts : Nat → Int32} (a0 : Int32) (a1 : Int32) (a2 : Int32) (res : Int32) (h : F_X6_mostSteps a0 a1 a2 x_w_size x_w_goals x_w_links = some res) : Met l yX6_mostSteps (wS yX6_mostSteps cX6_mostSteps 7 (some .int)) rm_X6_mostSteps (va_Pc [.ref (q 2), .int a0, .int a1, .int a2] (VB g A (XW g q x_crowd x_latestFault x_places x_mask x_w_robots x_w_size x_w_nexts x_a_length x_t_length x_t_token x_t_from x_t_value x_t_behind x_r_wants x_r_pairs x_r_sees x_r_row x_b_size x_s_size x_w_names x_w_goals x_w_links x_w_linked x_w_ups x_w_downs x_w_next x_a_begun x_t_bytes x_b_rows x_b_acts x_s_rows x_s_acts))) (va_Qi (fun r (_ : Unit) => r = res) (fun _ => VB g A (XW g q x_crowd x_latestFault x_places x_mask x_w_robots x_w_size x_w_nexts x_a_length x_t_length x_t_token x_t_from x_t_value x_t_behind x_r_wants x_r_pairs x_r_sees x_r_row x_b_size x_s_size x_w_names x_w_goals x_w_links x_w_linked x_w_ups x_w_downs x_w_next x_a_begun x_t_bytes x_b_rows x_b_acts x_s_rows x_s_acts)) A) 0 0 A := by
  unfold F_X6_mostSteps at h
  refine MetI (res := res) (own := RX6) (ws' := (XW g q x_crowd x_latestFault x_places x_mask x_w_robots x_w_size x_w_nexts x_a_length x_t_length x_t_token x_t_from x_t_value x_t_behind x_r_wants x_r_pairs x_r_sees x_r_row x_b_size x_s_size x_w_names x_w_goals x_w_links x_w_linked x_w_ups x_w_downs x_w_next x_a_begun x_t_bytes x_b_rows x_b_acts x_s_rows x_s_acts)) (by decide) rfl (Nat.le_of_ble_eq_true rfl) ?_
  intro p e s m args below meth c Q F E ret ls J hl
  have hx := F.1
  have hb := F.2.1
  have hl : lv_has ls 7 [(0, .ref (q 2)), (1, .int a0), (2, .int a1), (3, .int a2)] := hl
  refine lv_aload_n hx hb dX6_mostSteps_0 rfl (lv_at hl 0 rfl) ?_
  refine lv_iload_n hx hb dX6_mostSteps_1 rfl (lv_at hl 3 rfl) ?_
  obtain ⟨p1, hp1, h⟩ := ob h
  refine onL (runV (As := [.int a2]) (rest := []) F E J (c_X6_ofGoal a2 p1 hp1) cw_X6_138 ⟨rfl, rfl, Nat.le_of_ble_eq_true rfl, Nat.le_of_ble_eq_true rfl⟩ rcX2 rfl hl.1 rfl (Nat.le_of_ble_eq_true rfl) dX6_mostSteps_2) J (fun H locs J => ?_)
  refine lv_lstore (lv' := [(4, .long p1), (0, .ref (q 2)), (1, .int a0), (2, .int a1), (3, .int a2)]) hx hb dX6_mostSteps_5 hl (by decide) rfl (fun ls hl => ?_)
  refine lv_iconst (v := 0) hx hb dX6_mostSteps_7 (by decide) ?_
  refine lv_istore (lv' := [(6, .int 0), (4, .long p1), (0, .ref (q 2)), (1, .int a0), (2, .int a1), (3, .int a2)]) hx hb dX6_mostSteps_8 hl (by decide) rfl (fun ls hl => ?_)
  obtain ⟨o_L2s, ho_L2, h⟩ := ob h
  have T_L2 : ∀ (f : Nat) (l4_L2 : Int64) (l6_L2 : Int32) (o_L2s : Sum (Int32) (Unit)), F_X6_mostSteps_L2 a0 a1 x_w_size x_w_links f l4_L2 l6_L2 = some o_L2s → ∀ (H : Heap) (locs : List Loc) (ls : Array Slot), VJ g A s.heap (XW g q x_crowd x_latestFault x_places x_mask x_w_robots x_w_size x_w_nexts x_a_length x_t_length x_t_token x_t_from x_t_value x_t_behind x_r_wants x_r_pairs x_r_sees x_r_row x_b_size x_s_size x_w_names x_w_goals x_w_links x_w_linked x_w_ups x_w_downs x_w_next x_a_begun x_t_bytes x_b_rows x_b_acts x_s_rows x_s_acts) H locs → lv_has ls 7 [(0, .ref (q 2)), (1, .int a0), (2, .int a1), (4, .long l4_L2), (6, .int l6_L2)] → (∀ (o_L2 : Unit), o_L2s = .inr o_L2 → ∀ (H : Heap) (locs : List Loc) (ls : Array Slot), VJ g A s.heap (XW g q x_crowd x_latestFault x_places x_mask x_w_robots x_w_size x_w_nexts x_a_length x_t_length x_t_token x_t_from x_t_value x_t_behind x_r_wants x_r_pairs x_r_sees x_r_row x_b_size x_s_size x_w_names x_w_goals x_w_links x_w_linked x_w_ups x_w_downs x_w_next x_a_begun x_t_bytes x_b_rows x_b_acts x_s_rows x_s_acts) H locs → lv_has ls 7 [] → W p l e rm_X6_mostSteps s m args below meth c H locs 0 0 Q (F0 m 48 ls [])) → (∀ x, o_L2s = .inl x → x = res) → W p l e rm_X6_mostSteps s m args below meth c H locs 0 0 Q (F0 m 10 ls []) := by
    clear h ho_L2 hl J
    intro f
    induction f with
    | zero => intro l4_L2 l6_L2 o_L2s h; exact absurd h (by simp [F_X6_mostSteps_L2])
    | succ f ih =>
      intro l4_L2 l6_L2 o_L2s h H locs ls J hl K_L2 kr_L2
      rw [F_X6_mostSteps_L2.eq_2] at h
      refine lv_iload hx hb dX6_mostSteps_10 (lv_at hl 4 rfl) ?_
      refine lv_aload_n hx hb dX6_mostSteps_12 rfl (lv_at hl 0 rfl) ?_
      refine xg_2_9 F E J fl_X6_39 dX6_mostSteps_13 ?_
      refine lv_icmp_ge (tgt := 48) hx hb dX6_mostSteps_16 (by decide) (fun c3 => ?_) (fun c3 => ?_)
      · have h := itp c3 h
        obtain rfl := Option.some.inj h
        exact K_L2 _ rfl _ _ _ J (lv_sub hl [] rfl)
      · have h := itn c3 h
        refine lv_lload hx hb dX6_mostSteps_19 (lv_at hl 3 rfl) ?_
        refine lv_lconst (v := 1) hx hb dX6_mostSteps_21 (by decide) ?_
        refine lv_iload_n hx hb dX6_mostSteps_22 rfl (lv_at hl 1 rfl) ?_
        refine lv_lshl (v := (jlshl 1 a0)) hx hb dX6_mostSteps_23 rfl ?_
        refine lv_land hx hb dX6_mostSteps_24 ?_
        refine lv_lconst (v := 0) hx hb dX6_mostSteps_25 (by decide) ?_
        refine W.lcmp hx hb dX6_mostSteps_26 ?_
        refine lv_if_eq (tgt := 33) hx hb dX6_mostSteps_27 (by decide) (fun c4 => ?_) (fun c4 => ?_)
        · have h := itp c4 h
          refine lv_aload_n hx hb dX6_mostSteps_33 rfl (lv_at hl 0 rfl) ?_
          refine lv_lload hx hb dX6_mostSteps_34 (lv_at hl 3 rfl) ?_
          refine lv_iload_n hx hb dX6_mostSteps_36 rfl (lv_at hl 2 rfl) ?_
          obtain ⟨p5, hp5, h⟩ := ob h
          refine onL (runV (As := [.long l4_L2, .int a1]) (rest := []) F E J (c_X6_safeByOne l4_L2 a1 p5 hp5) cw_X6_142 ⟨rfl, rfl, Nat.le_of_ble_eq_true rfl, Nat.le_of_ble_eq_true rfl⟩ rcX2 rfl hl.1 rfl (Nat.le_of_ble_eq_true rfl) dX6_mostSteps_37) J (fun H locs J => ?_)
          refine lv_lstore (lv' := [(4, .long p5), (0, .ref (q 2)), (1, .int a0), (2, .int a1), (6, .int l6_L2)]) hx hb dX6_mostSteps_40 hl (by decide) rfl (fun ls hl => ?_)
          obtain ⟨v6, hv6, h⟩ := obs h
          refine lv_iinc (v := v6) (lv' := [(6, .int v6), (4, .long p5), (0, .ref (q 2)), (1, .int a0), (2, .int a1)]) hx hb dX6_mostSteps_42 hl (k := 4) rfl (by rw [← hv6]; rfl) (by decide) rfl (fun ls hl => ?_)
          refine lv_goto (tgt := 10) hx hb dX6_mostSteps_45 (by decide) ?_
          exact ih _ _ _ h _ _ _ J (lv_sub hl [2, 3, 4, 1, 0] rfl) K_L2 kr_L2
        · have h := itn c4 h
          refine lv_iload hx hb dX6_mostSteps_30 (lv_at hl 4 rfl) ?_
          obtain rfl := Option.some.inj h
          obtain rfl := kr_L2 _ rfl
          exact ret _ _ _ _ J dX6_mostSteps_32
  refine T_L2 FU p1 0 o_L2s ho_L2 _ _ _ J (lv_sub hl [2, 3, 4, 1, 0] rfl) (fun o_L2 eo H locs ls J hl => ?_) (fun x ex => ?_)
  · subst eo
    have h := elimR h
    refine lv_ldc hx hb F.2.2.2.1 (F.2.2.2.2 _ kc_X6_146) dX6_mostSteps_48 ?_
    obtain rfl := Option.some.inj h
    exact ret _ _ _ _ J dX6_mostSteps_50
  · subst ex
    exact Option.some.inj (elimL h)
set_option maxHeartbeats 4000000 in
set_option maxRecDepth 100000 in
theorem c_X6_reachedFrom {l : Launch} {g : GG} {A : Nat → Prop} {q : Nat → Nat} {x_crowd x_latestFault x_places x_mask x_w_robots x_w_size x_w_nexts x_a_length x_t_length x_t_token x_t_from x_t_value x_t_behind x_r_wants x_r_pairs x_r_sees : Int32} {x_r_row : Int64} {x_b_size x_s_size : Int32} {x_w_names : Nat → Int32} {x_w_goals x_w_links : Nat → Int64} {x_w_linked x_w_ups x_w_downs x_w_next x_a_begun x_t_bytes : Nat → Int32} {x_b_rows : Nat → Int64} {x_b_acts : Nat → Int32} {x_s_rows : Nat → Int64} {x_s_acts : Nat → Int32} (a0 : Int32) (a1 : Int32) (a2 : Int32) (res : Int64) (h : F_X6_reachedFrom a0 a1 a2 x_w_size x_w_goals x_w_links = some res) : Met l yX6_reachedFrom (wS yX6_reachedFrom cX6_reachedFrom 10 (some .long)) rm_X6_reachedFrom (va_Pc [.ref (q 2), .int a0, .int a1, .int a2] (VB g A (XW g q x_crowd x_latestFault x_places x_mask x_w_robots x_w_size x_w_nexts x_a_length x_t_length x_t_token x_t_from x_t_value x_t_behind x_r_wants x_r_pairs x_r_sees x_r_row x_b_size x_s_size x_w_names x_w_goals x_w_links x_w_linked x_w_ups x_w_downs x_w_next x_a_begun x_t_bytes x_b_rows x_b_acts x_s_rows x_s_acts))) (va_Ql (fun r (_ : Unit) => r = res) (fun _ => VB g A (XW g q x_crowd x_latestFault x_places x_mask x_w_robots x_w_size x_w_nexts x_a_length x_t_length x_t_token x_t_from x_t_value x_t_behind x_r_wants x_r_pairs x_r_sees x_r_row x_b_size x_s_size x_w_names x_w_goals x_w_links x_w_linked x_w_ups x_w_downs x_w_next x_a_begun x_t_bytes x_b_rows x_b_acts x_s_rows x_s_acts)) A) 0 0 A := by
  unfold F_X6_reachedFrom at h
  refine MetL (res := res) (own := RX6) (ws' := (XW g q x_crowd x_latestFault x_places x_mask x_w_robots x_w_size x_w_nexts x_a_length x_t_length x_t_token x_t_from x_t_value x_t_behind x_r_wants x_r_pairs x_r_sees x_r_row x_b_size x_s_size x_w_names x_w_goals x_w_links x_w_linked x_w_ups x_w_downs x_w_next x_a_begun x_t_bytes x_b_rows x_b_acts x_s_rows x_s_acts)) (by decide) rfl (Nat.le_of_ble_eq_true rfl) ?_
  intro p e s m args below meth c Q F E ret ls J hl
  have hx := F.1
  have hb := F.2.1
  have hl : lv_has ls 10 [(0, .ref (q 2)), (1, .int a0), (2, .int a1), (3, .int a2)] := hl
  refine lv_lconst (v := 1) hx hb dX6_reachedFrom_0 (by decide) ?_
  refine lv_iload_n hx hb dX6_reachedFrom_1 rfl (lv_at hl 1 rfl) ?_
  refine lv_lshl (v := (jlshl 1 a0)) hx hb dX6_reachedFrom_2 rfl ?_
  obtain ⟨v1, hv1, h⟩ := obs h
  refine nmL hv1 ?_
  refine lv_lstore (lv' := [(4, .long v1), (0, .ref (q 2)), (1, .int a0), (2, .int a1), (3, .int a2)]) hx hb dX6_reachedFrom_3 hl (by decide) rfl (fun ls hl => ?_)
  refine lv_iconst (v := 0) hx hb dX6_reachedFrom_5 (by decide) ?_
  refine lv_istore (lv' := [(6, .int 0), (4, .long v1), (0, .ref (q 2)), (1, .int a0), (2, .int a1), (3, .int a2)]) hx hb dX6_reachedFrom_6 hl (by decide) rfl (fun ls hl => ?_)
  obtain ⟨o_L2, ho_L2, h⟩ := ob h
  have T_L2 : ∀ (f : Nat) (l4_L2 : Int64) (l6_L2 : Int32) (o_L2 : Int64), F_X6_reachedFrom_L2 a1 a2 x_w_size x_w_goals x_w_links f l4_L2 l6_L2 = some o_L2 → ∀ (H : Heap) (locs : List Loc) (ls : Array Slot), VJ g A s.heap (XW g q x_crowd x_latestFault x_places x_mask x_w_robots x_w_size x_w_nexts x_a_length x_t_length x_t_token x_t_from x_t_value x_t_behind x_r_wants x_r_pairs x_r_sees x_r_row x_b_size x_s_size x_w_names x_w_goals x_w_links x_w_linked x_w_ups x_w_downs x_w_next x_a_begun x_t_bytes x_b_rows x_b_acts x_s_rows x_s_acts) H locs → lv_has ls 10 [(0, .ref (q 2)), (2, .int a1), (3, .int a2), (4, .long l4_L2), (6, .int l6_L2)] → (∀ (H : Heap) (locs : List Loc) (ls : Array Slot), VJ g A s.heap (XW g q x_crowd x_latestFault x_places x_mask x_w_robots x_w_size x_w_nexts x_a_length x_t_length x_t_token x_t_from x_t_value x_t_behind x_r_wants x_r_pairs x_r_sees x_r_row x_b_size x_s_size x_w_names x_w_goals x_w_links x_w_linked x_w_ups x_w_downs x_w_next x_a_begun x_t_bytes x_b_rows x_b_acts x_s_rows x_s_acts) H locs → lv_has ls 10 [(4, .long o_L2)] → W p l e rm_X6_reachedFrom s m args below meth c H locs 0 0 Q (F0 m 90 ls [])) → W p l e rm_X6_reachedFrom s m args below meth c H locs 0 0 Q (F0 m 8 ls []) := by
    clear h ho_L2 hl J
    intro f
    induction f with
    | zero => intro l4_L2 l6_L2 o_L2 h; exact absurd h (by simp [F_X6_reachedFrom_L2])
    | succ f ih =>
      intro l4_L2 l6_L2 o_L2 h H locs ls J hl K_L2
      rw [F_X6_reachedFrom_L2.eq_2] at h
      refine lv_iload hx hb dX6_reachedFrom_8 (lv_at hl 4 rfl) ?_
      refine lv_aload_n hx hb dX6_reachedFrom_10 rfl (lv_at hl 0 rfl) ?_
      refine xg_2_9 F E J fl_X6_39 dX6_reachedFrom_11 ?_
      refine lv_icmp_ge (tgt := 90) hx hb dX6_reachedFrom_14 (by decide) (fun c3 => ?_) (fun c3 => ?_)
      · have h := itp c3 h
        obtain rfl := Option.some.inj h
        exact K_L2 _ _ _ J (lv_sub hl [3] rfl)
      · have h := itn c3 h
        refine lv_lload hx hb dX6_reachedFrom_17 (lv_at hl 3 rfl) ?_
        refine lv_lstore (lv' := [(7, .long l4_L2), (0, .ref (q 2)), (2, .int a1), (3, .int a2), (4, .long l4_L2), (6, .int l6_L2)]) hx hb dX6_reachedFrom_19 hl (by decide) rfl (fun ls hl => ?_)
        refine lv_iconst (v := 0) hx hb dX6_reachedFrom_21 (by decide) ?_
        refine lv_istore (lv' := [(9, .int 0), (7, .long l4_L2), (0, .ref (q 2)), (2, .int a1), (3, .int a2), (4, .long l4_L2), (6, .int l6_L2)]) hx hb dX6_reachedFrom_22 hl (by decide) rfl (fun ls hl => ?_)
        obtain ⟨o_L4, ho_L4, h⟩ := ob h
        have T_L4 : ∀ (f : Nat) (l4_L4 : Int64) (l9_L4 : Int32) (o_L4 : Int64), F_X6_reachedFrom_L4 a1 a2 l4_L2 x_w_size x_w_goals x_w_links f l4_L4 l9_L4 = some o_L4 → ∀ (H : Heap) (locs : List Loc) (ls : Array Slot), VJ g A s.heap (XW g q x_crowd x_latestFault x_places x_mask x_w_robots x_w_size x_w_nexts x_a_length x_t_length x_t_token x_t_from x_t_value x_t_behind x_r_wants x_r_pairs x_r_sees x_r_row x_b_size x_s_size x_w_names x_w_goals x_w_links x_w_linked x_w_ups x_w_downs x_w_next x_a_begun x_t_bytes x_b_rows x_b_acts x_s_rows x_s_acts) H locs → lv_has ls 10 [(0, .ref (q 2)), (2, .int a1), (3, .int a2), (4, .long l4_L4), (6, .int l6_L2), (7, .long l4_L2), (9, .int l9_L4)] → (∀ (H : Heap) (locs : List Loc) (ls : Array Slot), VJ g A s.heap (XW g q x_crowd x_latestFault x_places x_mask x_w_robots x_w_size x_w_nexts x_a_length x_t_length x_t_token x_t_from x_t_value x_t_behind x_r_wants x_r_pairs x_r_sees x_r_row x_b_size x_s_size x_w_names x_w_goals x_w_links x_w_linked x_w_ups x_w_downs x_w_next x_a_begun x_t_bytes x_b_rows x_b_acts x_s_rows x_s_acts) H locs → lv_has ls 10 [(0, .ref (q 2)), (2, .int a1), (3, .int a2), (4, .long o_L4), (6, .int l6_L2), (7, .long l4_L2)] → W p l e rm_X6_reachedFrom s m args below meth c H locs 0 0 Q (F0 m 73 ls [])) → W p l e rm_X6_reachedFrom s m args below meth c H locs 0 0 Q (F0 m 24 ls []) := by
          clear h ho_L4 hl J
          intro f
          induction f with
          | zero => intro l4_L4 l9_L4 o_L4 h; exact absurd h (by simp [F_X6_reachedFrom_L4])
          | succ f ih =>
            intro l4_L4 l9_L4 o_L4 h H locs ls J hl K_L4
            rw [F_X6_reachedFrom_L4.eq_2] at h
            refine lv_iload hx hb dX6_reachedFrom_24 (lv_at hl 6 rfl) ?_
            refine lv_aload_n hx hb dX6_reachedFrom_26 rfl (lv_at hl 0 rfl) ?_
            refine xg_2_9 F E J fl_X6_39 dX6_reachedFrom_27 ?_
            refine lv_icmp_ge (tgt := 73) hx hb dX6_reachedFrom_30 (by decide) (fun c5 => ?_) (fun c5 => ?_)
            · have h := itp c5 h
              obtain rfl := Option.some.inj h
              exact K_L4 _ _ _ J (lv_sub hl [0, 1, 2, 3, 4, 5] rfl)
            · have h := itn c5 h
              refine lv_lload hx hb dX6_reachedFrom_33 (lv_at hl 5 rfl) ?_
              refine lv_aload_n hx hb dX6_reachedFrom_35 rfl (lv_at hl 0 rfl) ?_
              refine lv_iload_n hx hb dX6_reachedFrom_36 rfl (lv_at hl 2 rfl) ?_
              obtain ⟨p6, hp6, h⟩ := ob h
              refine onL (runV (As := [.int a2]) (rest := [.long l4_L2]) F E J (c_X6_ofGoal a2 p6 hp6) cw_X6_138 ⟨rfl, rfl, Nat.le_of_ble_eq_true rfl, Nat.le_of_ble_eq_true rfl⟩ rcX2 rfl hl.1 rfl (Nat.le_of_ble_eq_true rfl) dX6_reachedFrom_37) J (fun H locs J => ?_)
              refine lv_ldc2 hx hb F.2.2.2.1 (F.2.2.2.2 _ kc_X6_136) dX6_reachedFrom_40 ?_
              refine lv_lxor hx hb dX6_reachedFrom_43 ?_
              refine lv_land hx hb dX6_reachedFrom_44 ?_
              refine lv_lconst (v := 1) hx hb dX6_reachedFrom_45 (by decide) ?_
              refine lv_iload hx hb dX6_reachedFrom_46 (lv_at hl 6 rfl) ?_
              refine lv_lshl (v := (jlshl 1 l9_L4)) hx hb dX6_reachedFrom_48 rfl ?_
              refine lv_land hx hb dX6_reachedFrom_49 ?_
              refine lv_lconst (v := 0) hx hb dX6_reachedFrom_50 (by decide) ?_
              refine W.lcmp hx hb dX6_reachedFrom_51 ?_
              obtain ⟨j7, hj7, h⟩ := ob h
              have Kj7 : ∀ (H : Heap) (locs : List Loc) (ls : Array Slot), VJ g A s.heap (XW g q x_crowd x_latestFault x_places x_mask x_w_robots x_w_size x_w_nexts x_a_length x_t_length x_t_token x_t_from x_t_value x_t_behind x_r_wants x_r_pairs x_r_sees x_r_row x_b_size x_s_size x_w_names x_w_goals x_w_links x_w_linked x_w_ups x_w_downs x_w_next x_a_begun x_t_bytes x_b_rows x_b_acts x_s_rows x_s_acts) H locs → lv_has ls 10 [(0, .ref (q 2)), (2, .int a1), (3, .int a2), (4, .long j7), (6, .int l6_L2), (7, .long l4_L2), (9, .int l9_L4)] → W p l e rm_X6_reachedFrom s m args below meth c H locs 0 0 Q (F0 m 67 ls []) := by
                intro H locs ls J hl
                obtain ⟨v11, hv11, h⟩ := obs h
                refine lv_iinc (v := v11) (lv' := [(9, .int v11), (0, .ref (q 2)), (2, .int a1), (3, .int a2), (4, .long j7), (6, .int l6_L2), (7, .long l4_L2)]) hx hb dX6_reachedFrom_67 hl (k := 6) rfl (by rw [← hv11]; rfl) (by decide) rfl (fun ls hl => ?_)
                refine lv_goto (tgt := 24) hx hb dX6_reachedFrom_70 (by decide) ?_
                exact ih _ _ _ h _ _ _ J (lv_sub hl [1, 2, 3, 4, 5, 6, 0] rfl) K_L4
              clear h
              have h := hj7
              refine lv_if_eq (tgt := 67) hx hb dX6_reachedFrom_52 (by decide) (fun c8 => ?_) (fun c8 => ?_)
              · have h := itp c8 h
                obtain rfl := Option.some.inj h
                exact Kj7 _ _ _ J (lv_sub hl [0, 1, 2, 3, 4, 5, 6] rfl)
              · have h := itn c8 h
                refine lv_lload hx hb dX6_reachedFrom_55 (lv_at hl 3 rfl) ?_
                refine lv_aload_n hx hb dX6_reachedFrom_57 rfl (lv_at hl 0 rfl) ?_
                refine lv_iload_n hx hb dX6_reachedFrom_58 rfl (lv_at hl 1 rfl) ?_
                refine lv_iload hx hb dX6_reachedFrom_59 (lv_at hl 6 rfl) ?_
                obtain ⟨p9, hp9, h⟩ := ob h
                refine onL (runV (As := [.int a1, .int l9_L4]) (rest := [.long l4_L4]) F E J (c_X6_linksOf a1 l9_L4 p9 hp9) cw_X6_132 ⟨rfl, rfl, Nat.le_of_ble_eq_true rfl, Nat.le_of_ble_eq_true rfl⟩ rcX2 rfl hl.1 rfl (Nat.le_of_ble_eq_true rfl) dX6_reachedFrom_61) J (fun H locs J => ?_)
                refine lv_lor hx hb dX6_reachedFrom_64 ?_
                obtain ⟨v10, hv10, h⟩ := obs h
                refine nmL hv10 ?_
                refine lv_lstore (lv' := [(4, .long v10), (0, .ref (q 2)), (2, .int a1), (3, .int a2), (6, .int l6_L2), (7, .long l4_L2), (9, .int l9_L4)]) hx hb dX6_reachedFrom_65 hl (by decide) rfl (fun ls hl => ?_)
                obtain rfl := Option.some.inj h
                exact Kj7 _ _ _ J (lv_sub hl [1, 2, 3, 0, 4, 5, 6] rfl)
        refine T_L4 FU l4_L2 0 o_L4 ho_L4 _ _ _ J (lv_sub hl [2, 3, 4, 5, 6, 1, 0] rfl) (fun H locs ls J hl => ?_)
        refine lv_lload hx hb dX6_reachedFrom_73 (lv_at hl 3 rfl) ?_
        refine lv_lload hx hb dX6_reachedFrom_75 (lv_at hl 5 rfl) ?_
        refine W.lcmp hx hb dX6_reachedFrom_77 ?_
        refine lv_if_ne (tgt := 84) hx hb dX6_reachedFrom_78 (by decide) (fun c12 => ?_) (fun c12 => ?_)
        · have h := itn c12 h
          obtain ⟨v13, hv13, h⟩ := obs h
          refine lv_iinc (v := v13) (lv' := [(6, .int v13), (0, .ref (q 2)), (2, .int a1), (3, .int a2), (4, .long o_L4), (7, .long l4_L2)]) hx hb dX6_reachedFrom_84 hl (k := 4) rfl (by rw [← hv13]; rfl) (by decide) rfl (fun ls hl => ?_)
          refine lv_goto (tgt := 8) hx hb dX6_reachedFrom_87 (by decide) ?_
          exact ih _ _ _ h _ _ _ J (lv_sub hl [1, 2, 3, 4, 0] rfl) K_L2
        · have h := itp c12 h
          refine lv_goto (tgt := 90) hx hb dX6_reachedFrom_81 (by decide) ?_
          obtain rfl := Option.some.inj h
          exact K_L2 _ _ _ J (lv_sub hl [3] rfl)
  refine T_L2 FU v1 0 o_L2 ho_L2 _ _ _ J (lv_sub hl [2, 4, 5, 1, 0] rfl) (fun H locs ls J hl => ?_)
  refine lv_lload hx hb dX6_reachedFrom_90 (lv_at hl 0 rfl) ?_
  obtain rfl := Option.some.inj h
  exact ret _ _ _ _ J dX6_reachedFrom_92
set_option maxHeartbeats 4000000 in
set_option maxRecDepth 100000 in
theorem c_J13_bitCount_95d88 {l : Launch} {g : GG} {A : Nat → Prop} {ws : va_W} (a0 : Int64) (res : Int32) (h : F_J13_bitCount_95d88 a0 = some res) : Met l yJ13_bitCount_95d88 (wS yJ13_bitCount_95d88 cJ13_bitCount_95d88 2 (some .int)) rm_J13_bitCount_95d88 (va_Pc [.long a0] (VB g A ws)) (va_Qi (fun r (_ : Unit) => r = res) (fun _ => VB g A ws) A) 0 0 A := by
  unfold F_J13_bitCount_95d88 at h
  refine MetIF (res := res) (own := RJ13) (ws' := ws) (by decide +kernel) rfl (Nat.le_of_ble_eq_true rfl) ?_
  intro p e s m args below meth c Q F E ret ls J hl
  have hx := F.1
  have hb := F.2.1
  have hl : lv_has ls 2 [(0, .long a0)] := hl
  refine lv_lload_n hx hb dJ13_bitCount_95d88_0 rfl (lv_at hl 0 rfl) ?_
  refine lv_lload_n hx hb dJ13_bitCount_95d88_1 rfl (lv_at hl 0 rfl) ?_
  refine lv_iconst (v := 1) hx hb dJ13_bitCount_95d88_2 (by decide) ?_
  refine lv_lushr (v := (jlushr a0 1)) hx hb dJ13_bitCount_95d88_3 rfl ?_
  refine lv_ldc2 hx hb F.2.2.2.1 (F.2.2.2.2 _ kc_J13_314) dJ13_bitCount_95d88_4 ?_
  refine lv_land hx hb dJ13_bitCount_95d88_7 ?_
  refine lv_lsub hx hb dJ13_bitCount_95d88_8 ?_
  obtain ⟨v1, hv1, h⟩ := obs h
  refine nmL hv1 ?_
  refine lv_lstore_n (lv' := [(0, .long v1)]) hx hb dJ13_bitCount_95d88_9 rfl hl (by decide) rfl (fun ls hl => ?_)
  refine lv_lload_n hx hb dJ13_bitCount_95d88_10 rfl (lv_at hl 0 rfl) ?_
  refine lv_ldc2 hx hb F.2.2.2.1 (F.2.2.2.2 _ kc_J13_316) dJ13_bitCount_95d88_11 ?_
  refine lv_land hx hb dJ13_bitCount_95d88_14 ?_
  refine lv_lload_n hx hb dJ13_bitCount_95d88_15 rfl (lv_at hl 0 rfl) ?_
  refine lv_iconst (v := 2) hx hb dJ13_bitCount_95d88_16 (by decide) ?_
  refine lv_lushr (v := (jlushr v1 2)) hx hb dJ13_bitCount_95d88_17 rfl ?_
  refine lv_ldc2 hx hb F.2.2.2.1 (F.2.2.2.2 _ kc_J13_316) dJ13_bitCount_95d88_18 ?_
  refine lv_land hx hb dJ13_bitCount_95d88_21 ?_
  refine lv_ladd hx hb dJ13_bitCount_95d88_22 ?_
  obtain ⟨v2, hv2, h⟩ := obs h
  refine nmL hv2 ?_
  refine lv_lstore_n (lv' := [(0, .long v2)]) hx hb dJ13_bitCount_95d88_23 rfl hl (by decide) rfl (fun ls hl => ?_)
  refine lv_lload_n hx hb dJ13_bitCount_95d88_24 rfl (lv_at hl 0 rfl) ?_
  refine lv_lload_n hx hb dJ13_bitCount_95d88_25 rfl (lv_at hl 0 rfl) ?_
  refine lv_iconst (v := 4) hx hb dJ13_bitCount_95d88_26 (by decide) ?_
  refine lv_lushr (v := (jlushr v2 4)) hx hb dJ13_bitCount_95d88_27 rfl ?_
  refine lv_ladd hx hb dJ13_bitCount_95d88_28 ?_
  refine lv_ldc2 hx hb F.2.2.2.1 (F.2.2.2.2 _ kc_J13_318) dJ13_bitCount_95d88_29 ?_
  refine lv_land hx hb dJ13_bitCount_95d88_32 ?_
  obtain ⟨v3, hv3, h⟩ := obs h
  refine nmL hv3 ?_
  refine lv_lstore_n (lv' := [(0, .long v3)]) hx hb dJ13_bitCount_95d88_33 rfl hl (by decide) rfl (fun ls hl => ?_)
  refine lv_lload_n hx hb dJ13_bitCount_95d88_34 rfl (lv_at hl 0 rfl) ?_
  refine lv_lload_n hx hb dJ13_bitCount_95d88_35 rfl (lv_at hl 0 rfl) ?_
  refine lv_bipush (v := 8) hx hb dJ13_bitCount_95d88_36 (by decide) ?_
  refine lv_lushr (v := (jlushr v3 8)) hx hb dJ13_bitCount_95d88_38 rfl ?_
  refine lv_ladd hx hb dJ13_bitCount_95d88_39 ?_
  obtain ⟨v4, hv4, h⟩ := obs h
  refine nmL hv4 ?_
  refine lv_lstore_n (lv' := [(0, .long v4)]) hx hb dJ13_bitCount_95d88_40 rfl hl (by decide) rfl (fun ls hl => ?_)
  refine lv_lload_n hx hb dJ13_bitCount_95d88_41 rfl (lv_at hl 0 rfl) ?_
  refine lv_lload_n hx hb dJ13_bitCount_95d88_42 rfl (lv_at hl 0 rfl) ?_
  refine lv_bipush (v := 16) hx hb dJ13_bitCount_95d88_43 (by decide) ?_
  refine lv_lushr (v := (jlushr v4 16)) hx hb dJ13_bitCount_95d88_45 rfl ?_
  refine lv_ladd hx hb dJ13_bitCount_95d88_46 ?_
  obtain ⟨v5, hv5, h⟩ := obs h
  refine nmL hv5 ?_
  refine lv_lstore_n (lv' := [(0, .long v5)]) hx hb dJ13_bitCount_95d88_47 rfl hl (by decide) rfl (fun ls hl => ?_)
  refine lv_lload_n hx hb dJ13_bitCount_95d88_48 rfl (lv_at hl 0 rfl) ?_
  refine lv_lload_n hx hb dJ13_bitCount_95d88_49 rfl (lv_at hl 0 rfl) ?_
  refine lv_bipush (v := 32) hx hb dJ13_bitCount_95d88_50 (by decide) ?_
  refine lv_lushr (v := (jlushr v5 32)) hx hb dJ13_bitCount_95d88_52 rfl ?_
  refine lv_ladd hx hb dJ13_bitCount_95d88_53 ?_
  obtain ⟨v6, hv6, h⟩ := obs h
  refine nmL hv6 ?_
  refine lv_lstore_n (lv' := [(0, .long v6)]) hx hb dJ13_bitCount_95d88_54 rfl hl (by decide) rfl (fun ls hl => ?_)
  refine lv_lload_n hx hb dJ13_bitCount_95d88_55 rfl (lv_at hl 0 rfl) ?_
  refine lv_l2i (v := (Int64.toInt32 v6)) hx hb dJ13_bitCount_95d88_56 rfl ?_
  refine lv_bipush (v := 127) hx hb dJ13_bitCount_95d88_57 (by decide) ?_
  refine lv_iand hx hb dJ13_bitCount_95d88_59 ?_
  obtain rfl := Option.some.inj h
  exact ret _ _ _ _ J dJ13_bitCount_95d88_60
set_option maxHeartbeats 4000000 in
set_option maxRecDepth 100000 in
theorem c_X6_countReached {l : Launch} {g : GG} {A : Nat → Prop} {q : Nat → Nat} {x_crowd x_latestFault x_places x_mask x_w_robots x_w_size x_w_nexts x_a_length x_t_length x_t_token x_t_from x_t_value x_t_behind x_r_wants x_r_pairs x_r_sees : Int32} {x_r_row : Int64} {x_b_size x_s_size : Int32} {x_w_names : Nat → Int32} {x_w_goals x_w_links : Nat → Int64} {x_w_linked x_w_ups x_w_downs x_w_next x_a_begun x_t_bytes : Nat → Int32} {x_b_rows : Nat → Int64} {x_b_acts : Nat → Int32} {x_s_rows : Nat → Int64} {x_s_acts : Nat → Int32} (a0 : Int64) (a1 : Int32) (a2 : Int32) (a3 : Int32) (res : Int32) (h : F_X6_countReached a0 a1 a2 a3 x_w_size x_w_goals x_w_links = some res) : Met l yX6_countReached (wS yX6_countReached cX6_countReached 8 (some .int)) rm_X6_countReached (va_Pc [.ref (q 2), .long a0, .int a1, .int a2, .int a3] (VB g A (XW g q x_crowd x_latestFault x_places x_mask x_w_robots x_w_size x_w_nexts x_a_length x_t_length x_t_token x_t_from x_t_value x_t_behind x_r_wants x_r_pairs x_r_sees x_r_row x_b_size x_s_size x_w_names x_w_goals x_w_links x_w_linked x_w_ups x_w_downs x_w_next x_a_begun x_t_bytes x_b_rows x_b_acts x_s_rows x_s_acts))) (va_Qi (fun r (_ : Unit) => r = res) (fun _ => VB g A (XW g q x_crowd x_latestFault x_places x_mask x_w_robots x_w_size x_w_nexts x_a_length x_t_length x_t_token x_t_from x_t_value x_t_behind x_r_wants x_r_pairs x_r_sees x_r_row x_b_size x_s_size x_w_names x_w_goals x_w_links x_w_linked x_w_ups x_w_downs x_w_next x_a_begun x_t_bytes x_b_rows x_b_acts x_s_rows x_s_acts)) A) 0 0 A := by
  unfold F_X6_countReached at h
  refine MetI (res := res) (own := RX6) (ws' := (XW g q x_crowd x_latestFault x_places x_mask x_w_robots x_w_size x_w_nexts x_a_length x_t_length x_t_token x_t_from x_t_value x_t_behind x_r_wants x_r_pairs x_r_sees x_r_row x_b_size x_s_size x_w_names x_w_goals x_w_links x_w_linked x_w_ups x_w_downs x_w_next x_a_begun x_t_bytes x_b_rows x_b_acts x_s_rows x_s_acts)) (by decide) rfl (Nat.le_of_ble_eq_true rfl) ?_
  intro p e s m args below meth c Q F E ret ls J hl
  have hx := F.1
  have hb := F.2.1
  have hl : lv_has ls 8 [(0, .ref (q 2)), (1, .long a0), (3, .int a1), (4, .int a2), (5, .int a3)] := hl
  refine lv_iload hx hb dX6_countReached_0 (lv_at hl 4 rfl) ?_
  refine lv_iconst (v := 1) hx hb dX6_countReached_2 (by decide) ?_
  refine lv_icmp_ne (tgt := 11) hx hb dX6_countReached_3 (by decide) (fun c1 => ?_) (fun c1 => ?_)
  · have h := itn c1 h
    refine lv_iload hx hb dX6_countReached_11 (lv_at hl 4 rfl) ?_
    refine lv_iconst (v := 2) hx hb dX6_countReached_13 (by decide) ?_
    refine lv_icmp_ne (tgt := 29) hx hb dX6_countReached_14 (by decide) (fun c2 => ?_) (fun c2 => ?_)
    · have h := itn c2 h
      refine lv_iconst (v := 0) hx hb dX6_countReached_29 (by decide) ?_
      refine lv_istore (lv' := [(6, .int 0), (0, .ref (q 2)), (1, .long a0), (3, .int a1), (4, .int a2), (5, .int a3)]) hx hb dX6_countReached_30 hl (by decide) rfl (fun ls hl => ?_)
      refine lv_iconst (v := 0) hx hb dX6_countReached_32 (by decide) ?_
      refine lv_istore (lv' := [(7, .int 0), (6, .int 0), (0, .ref (q 2)), (1, .long a0), (3, .int a1), (4, .int a2), (5, .int a3)]) hx hb dX6_countReached_33 hl (by decide) rfl (fun ls hl => ?_)
      obtain ⟨o_L3, ho_L3, h⟩ := ob h
      have T_L3 : ∀ (f : Nat) (l6_L3 : Int32) (l7_L3 : Int32) (o_L3 : Int32), F_X6_countReached_L3 a0 a1 a2 x_w_size x_w_goals x_w_links f l6_L3 l7_L3 = some o_L3 → ∀ (H : Heap) (locs : List Loc) (ls : Array Slot), VJ g A s.heap (XW g q x_crowd x_latestFault x_places x_mask x_w_robots x_w_size x_w_nexts x_a_length x_t_length x_t_token x_t_from x_t_value x_t_behind x_r_wants x_r_pairs x_r_sees x_r_row x_b_size x_s_size x_w_names x_w_goals x_w_links x_w_linked x_w_ups x_w_downs x_w_next x_a_begun x_t_bytes x_b_rows x_b_acts x_s_rows x_s_acts) H locs → lv_has ls 8 [(0, .ref (q 2)), (1, .long a0), (3, .int a1), (4, .int a2), (6, .int l6_L3), (7, .int l7_L3)] → (∀ (H : Heap) (locs : List Loc) (ls : Array Slot), VJ g A s.heap (XW g q x_crowd x_latestFault x_places x_mask x_w_robots x_w_size x_w_nexts x_a_length x_t_length x_t_token x_t_from x_t_value x_t_behind x_r_wants x_r_pairs x_r_sees x_r_row x_b_size x_s_size x_w_names x_w_goals x_w_links x_w_linked x_w_ups x_w_downs x_w_next x_a_begun x_t_bytes x_b_rows x_b_acts x_s_rows x_s_acts) H locs → lv_has ls 8 [(6, .int o_L3)] → W p l e rm_X6_countReached s m args below meth c H locs 0 0 Q (F0 m 87 ls [])) → W p l e rm_X6_countReached s m args below meth c H locs 0 0 Q (F0 m 35 ls []) := by
        clear h ho_L3 hl J
        intro f
        induction f with
        | zero => intro l6_L3 l7_L3 o_L3 h; exact absurd h (by simp [F_X6_countReached_L3])
        | succ f ih =>
          intro l6_L3 l7_L3 o_L3 h H locs ls J hl K_L3
          rw [F_X6_countReached_L3.eq_2] at h
          refine lv_iload hx hb dX6_countReached_35 (lv_at hl 5 rfl) ?_
          refine lv_aload_n hx hb dX6_countReached_37 rfl (lv_at hl 0 rfl) ?_
          refine xg_2_9 F E J fl_X6_39 dX6_countReached_38 ?_
          refine lv_icmp_ge (tgt := 87) hx hb dX6_countReached_41 (by decide) (fun c4 => ?_) (fun c4 => ?_)
          · have h := itp c4 h
            obtain rfl := Option.some.inj h
            exact K_L3 _ _ _ J (lv_sub hl [4] rfl)
          · have h := itn c4 h
            refine lv_lload_n hx hb dX6_countReached_44 rfl (lv_at hl 1 rfl) ?_
            refine lv_aload_n hx hb dX6_countReached_45 rfl (lv_at hl 0 rfl) ?_
            refine lv_iload hx hb dX6_countReached_46 (lv_at hl 3 rfl) ?_
            obtain ⟨p5, hp5, h⟩ := ob h
            refine onL (runV (As := [.int a2]) (rest := [.long a0]) F E J (c_X6_ofGoal a2 p5 hp5) cw_X6_138 ⟨rfl, rfl, Nat.le_of_ble_eq_true rfl, Nat.le_of_ble_eq_true rfl⟩ rcX2 rfl hl.1 rfl (Nat.le_of_ble_eq_true rfl) dX6_countReached_48) J (fun H locs J => ?_)
            refine lv_ldc2 hx hb F.2.2.2.1 (F.2.2.2.2 _ kc_X6_136) dX6_countReached_51 ?_
            refine lv_lxor hx hb dX6_countReached_54 ?_
            refine lv_land hx hb dX6_countReached_55 ?_
            refine lv_lconst (v := 1) hx hb dX6_countReached_56 (by decide) ?_
            refine lv_iload hx hb dX6_countReached_57 (lv_at hl 5 rfl) ?_
            refine lv_lshl (v := (jlshl 1 l7_L3)) hx hb dX6_countReached_59 rfl ?_
            refine lv_land hx hb dX6_countReached_60 ?_
            refine lv_lconst (v := 0) hx hb dX6_countReached_61 (by decide) ?_
            refine W.lcmp hx hb dX6_countReached_62 ?_
            obtain ⟨j6, hj6, h⟩ := ob h
            have Kj6 : ∀ (H : Heap) (locs : List Loc) (ls : Array Slot), VJ g A s.heap (XW g q x_crowd x_latestFault x_places x_mask x_w_robots x_w_size x_w_nexts x_a_length x_t_length x_t_token x_t_from x_t_value x_t_behind x_r_wants x_r_pairs x_r_sees x_r_row x_b_size x_s_size x_w_names x_w_goals x_w_links x_w_linked x_w_ups x_w_downs x_w_next x_a_begun x_t_bytes x_b_rows x_b_acts x_s_rows x_s_acts) H locs → lv_has ls 8 [(0, .ref (q 2)), (1, .long a0), (3, .int a1), (4, .int a2), (6, .int j6), (7, .int l7_L3)] → W p l e rm_X6_countReached s m args below meth c H locs 0 0 Q (F0 m 81 ls []) := by
              intro H locs ls J hl
              obtain ⟨v11, hv11, h⟩ := obs h
              refine lv_iinc (v := v11) (lv' := [(7, .int v11), (0, .ref (q 2)), (1, .long a0), (3, .int a1), (4, .int a2), (6, .int j6)]) hx hb dX6_countReached_81 hl (k := 5) rfl (by rw [← hv11]; rfl) (by decide) rfl (fun ls hl => ?_)
              refine lv_goto (tgt := 35) hx hb dX6_countReached_84 (by decide) ?_
              exact ih _ _ _ h _ _ _ J (lv_sub hl [1, 2, 3, 4, 5, 0] rfl) K_L3
            clear h
            have h := hj6
            refine lv_if_eq (tgt := 81) hx hb dX6_countReached_63 (by decide) (fun c7 => ?_) (fun c7 => ?_)
            · have h := itp c7 h
              obtain rfl := Option.some.inj h
              exact Kj6 _ _ _ J (lv_sub hl [0, 1, 2, 3, 4, 5] rfl)
            · have h := itn c7 h
              refine lv_aload_n hx hb dX6_countReached_66 rfl (lv_at hl 0 rfl) ?_
              refine lv_iload_n hx hb dX6_countReached_67 rfl (lv_at hl 2 rfl) ?_
              refine lv_iload hx hb dX6_countReached_68 (lv_at hl 5 rfl) ?_
              obtain ⟨p8, hp8, h⟩ := ob h
              refine onL (runV (As := [.int a1, .int l7_L3]) (rest := []) F E J (c_X6_linksOf a1 l7_L3 p8 hp8) cw_X6_132 ⟨rfl, rfl, Nat.le_of_ble_eq_true rfl, Nat.le_of_ble_eq_true rfl⟩ rcX2 rfl hl.1 rfl (Nat.le_of_ble_eq_true rfl) dX6_countReached_70) J (fun H locs J => ?_)
              refine lv_lconst (v := 0) hx hb dX6_countReached_73 (by decide) ?_
              refine W.lcmp hx hb dX6_countReached_74 ?_
              refine lv_if_ne (tgt := 81) hx hb dX6_countReached_75 (by decide) (fun c9 => ?_) (fun c9 => ?_)
              · have h := itn c9 h
                obtain rfl := Option.some.inj h
                exact Kj6 _ _ _ J (lv_sub hl [0, 1, 2, 3, 4, 5] rfl)
              · have h := itp c9 h
                obtain ⟨v10, hv10, h⟩ := obs h
                refine lv_iinc (v := v10) (lv' := [(6, .int v10), (0, .ref (q 2)), (1, .long a0), (3, .int a1), (4, .int a2), (7, .int l7_L3)]) hx hb dX6_countReached_78 hl (k := 4) rfl (by rw [← hv10]; rfl) (by decide) rfl (fun ls hl => ?_)
                obtain rfl := Option.some.inj h
                exact Kj6 _ _ _ J (lv_sub hl [1, 2, 3, 4, 0, 5] rfl)
      refine T_L3 FU 0 0 o_L3 ho_L3 _ _ _ J (lv_sub hl [2, 3, 4, 5, 1, 0] rfl) (fun H locs ls J hl => ?_)
      refine lv_iload hx hb dX6_countReached_87 (lv_at hl 0 rfl) ?_
      obtain rfl := Option.some.inj h
      exact ret _ _ _ _ J dX6_countReached_89
    · have h := itp c2 h
      refine lv_lload_n hx hb dX6_countReached_17 rfl (lv_at hl 1 rfl) ?_
      refine lv_aload_n hx hb dX6_countReached_18 rfl (lv_at hl 0 rfl) ?_
      refine lv_iload hx hb dX6_countReached_19 (lv_at hl 3 rfl) ?_
      obtain ⟨p12, hp12, h⟩ := ob h
      refine onL (runV (As := [.int a2]) (rest := [.long a0]) F E J (c_X6_ofGoal a2 p12 hp12) cw_X6_138 ⟨rfl, rfl, Nat.le_of_ble_eq_true rfl, Nat.le_of_ble_eq_true rfl⟩ rcX2 rfl hl.1 rfl (Nat.le_of_ble_eq_true rfl) dX6_countReached_21) J (fun H locs J => ?_)
      refine lv_land hx hb dX6_countReached_24 ?_
      obtain ⟨p13, hp13, h⟩ := ob h
      refine onI (runS (As := [.long (a0 &&& p12)]) (rest := []) F E J (c_J13_bitCount_95d88 (a0 &&& p12) p13 hp13) cw_X6_147 ⟨rfl, rfl, Nat.le_of_ble_eq_true rfl, Nat.le_of_ble_eq_true rfl⟩ rfl hl.1 rfl (Nat.le_of_ble_eq_true rfl) dX6_countReached_25) J (fun H locs J => ?_)
      obtain rfl := Option.some.inj h
      exact ret _ _ _ _ J dX6_countReached_28
  · have h := itp c1 h
    refine lv_lload_n hx hb dX6_countReached_6 rfl (lv_at hl 1 rfl) ?_
    obtain ⟨p14, hp14, h⟩ := ob h
    refine onI (runS (As := [.long a0]) (rest := []) F E J (c_J13_bitCount_95d88 a0 p14 hp14) cw_X6_147 ⟨rfl, rfl, Nat.le_of_ble_eq_true rfl, Nat.le_of_ble_eq_true rfl⟩ rfl hl.1 rfl (Nat.le_of_ble_eq_true rfl) dX6_countReached_7) J (fun H locs J => ?_)
    obtain rfl := Option.some.inj h
    exact ret _ _ _ _ J dX6_countReached_10
set_option maxHeartbeats 4000000 in
set_option maxRecDepth 100000 in
theorem c_X7_proves {l : Launch} {g : GG} {A : Nat → Prop} {q : Nat → Nat} {x_crowd x_latestFault x_places x_mask x_w_robots x_w_size x_w_nexts x_a_length x_t_length x_t_token x_t_from x_t_value x_t_behind x_r_wants x_r_pairs x_r_sees : Int32} {x_r_row : Int64} {x_b_size x_s_size : Int32} {x_w_names : Nat → Int32} {x_w_goals x_w_links : Nat → Int64} {x_w_linked x_w_ups x_w_downs x_w_next x_a_begun x_t_bytes : Nat → Int32} {x_b_rows : Nat → Int64} {x_b_acts : Nat → Int32} {x_s_rows : Nat → Int64} {x_s_acts : Nat → Int32} (a0 : Int32) (a1 : Int32) (a2 : Int32) (res : Int32 × Int32 × Int32 × Int32 × (Nat → Int32) × (Nat → Int64) × (Nat → Int64) × (Nat → Int32) × (Nat → Int32) × (Nat → Int32) × (Nat → Int32)) (h : F_X7_proves a0 a1 a2 x_crowd x_places x_mask x_w_robots x_w_size x_w_nexts x_b_size x_w_names x_w_goals x_w_links x_w_linked x_w_ups x_w_downs x_w_next x_b_rows x_b_acts = some res) : Met l yX7_proves (wS yX7_proves cX7_proves 5 (some .int)) rm_X7_proves (va_Pc [.ref (q 0), .int a0, .int a1, .int a2] (VB g A (XW g q x_crowd x_latestFault x_places x_mask x_w_robots x_w_size x_w_nexts x_a_length x_t_length x_t_token x_t_from x_t_value x_t_behind x_r_wants x_r_pairs x_r_sees x_r_row x_b_size x_s_size x_w_names x_w_goals x_w_links x_w_linked x_w_ups x_w_downs x_w_next x_a_begun x_t_bytes x_b_rows x_b_acts x_s_rows x_s_acts))) (va_Qi (fun r (_ : Unit) => r = res.1) (fun _ => VB g A (XW g q x_crowd x_latestFault x_places x_mask res.2.1 res.2.2.1 res.2.2.2.1 x_a_length x_t_length x_t_token x_t_from x_t_value x_t_behind x_r_wants x_r_pairs x_r_sees x_r_row x_b_size x_s_size res.2.2.2.2.1 res.2.2.2.2.2.1 res.2.2.2.2.2.2.1 res.2.2.2.2.2.2.2.1 res.2.2.2.2.2.2.2.2.1 res.2.2.2.2.2.2.2.2.2.1 res.2.2.2.2.2.2.2.2.2.2 x_a_begun x_t_bytes x_b_rows x_b_acts x_s_rows x_s_acts)) A) 0 0 A := by
  unfold F_X7_proves at h
  refine MetI (res := res.1) (own := RX7) (ws' := (XW g q x_crowd x_latestFault x_places x_mask res.2.1 res.2.2.1 res.2.2.2.1 x_a_length x_t_length x_t_token x_t_from x_t_value x_t_behind x_r_wants x_r_pairs x_r_sees x_r_row x_b_size x_s_size res.2.2.2.2.1 res.2.2.2.2.2.1 res.2.2.2.2.2.2.1 res.2.2.2.2.2.2.2.1 res.2.2.2.2.2.2.2.2.1 res.2.2.2.2.2.2.2.2.2.1 res.2.2.2.2.2.2.2.2.2.2 x_a_begun x_t_bytes x_b_rows x_b_acts x_s_rows x_s_acts)) (by decide) rfl (Nat.le_of_ble_eq_true rfl) ?_
  intro p e s m args below meth c Q F E ret ls J hl
  have hx := F.1
  have hb := F.2.1
  have hl : lv_has ls 5 [(0, .ref (q 0)), (1, .int a0), (2, .int a1), (3, .int a2)] := hl
  refine lv_iload_n hx hb dX7_proves_0 rfl (lv_at hl 1 rfl) ?_
  refine lv_iconst (v := 3) hx hb dX7_proves_1 (by decide) ?_
  obtain ⟨p1, hp1, h⟩ := ob h
  refine onZ (runS (As := [.int a0, .int 3]) (rest := []) F E J (c_X7_outside a0 3 p1 hp1) cw_X7_110 ⟨rfl, rfl, Nat.le_of_ble_eq_true rfl, Nat.le_of_ble_eq_true rfl⟩ rfl hl.1 rfl (Nat.le_of_ble_eq_true rfl) dX7_proves_2) J (fun hzbp1 H locs J => ?_)
  refine lv_if_ne (tgt := 24) hx hb dX7_proves_5 (by decide) (fun c2 => ?_) (fun c2 => ?_)
  · have h := itn c2 h
    refine lv_ldc hx hb F.2.2.2.1 (F.2.2.2.2 _ kc_X7_80) dX7_proves_24 ?_
    obtain rfl := Option.some.inj h
    exact ret _ _ _ _ J dX7_proves_26
  · have h := itp c2 h
    refine lv_iload_n hx hb dX7_proves_8 rfl (lv_at hl 2 rfl) ?_
    refine lv_iconst (v := 3) hx hb dX7_proves_9 (by decide) ?_
    obtain ⟨p3, hp3, h⟩ := ob h
    refine onZ (runS (As := [.int a1, .int 3]) (rest := []) F E J (c_X7_outside a1 3 p3 hp3) cw_X7_110 ⟨rfl, rfl, Nat.le_of_ble_eq_true rfl, Nat.le_of_ble_eq_true rfl⟩ rfl hl.1 rfl (Nat.le_of_ble_eq_true rfl) dX7_proves_10) J (fun hzbp3 H locs J => ?_)
    refine lv_if_ne (tgt := 24) hx hb dX7_proves_13 (by decide) (fun c4 => ?_) (fun c4 => ?_)
    · have h := itn c4 h
      refine lv_ldc hx hb F.2.2.2.1 (F.2.2.2.2 _ kc_X7_80) dX7_proves_24 ?_
      obtain rfl := Option.some.inj h
      exact ret _ _ _ _ J dX7_proves_26
    · have h := itp c4 h
      refine lv_iload_n hx hb dX7_proves_16 rfl (lv_at hl 3 rfl) ?_
      refine lv_iconst (v := 5) hx hb dX7_proves_17 (by decide) ?_
      obtain ⟨p5, hp5, h⟩ := ob h
      refine onZ (runS (As := [.int a2, .int 5]) (rest := []) F E J (c_X7_outside a2 5 p5 hp5) cw_X7_110 ⟨rfl, rfl, Nat.le_of_ble_eq_true rfl, Nat.le_of_ble_eq_true rfl⟩ rfl hl.1 rfl (Nat.le_of_ble_eq_true rfl) dX7_proves_18) J (fun hzbp5 H locs J => ?_)
      refine lv_if_eq (tgt := 27) hx hb dX7_proves_21 (by decide) (fun c6 => ?_) (fun c6 => ?_)
      · have h := itp c6 h
        refine lv_aload_n hx hb dX7_proves_27 rfl (lv_at hl 0 rfl) ?_
        refine xg_0_7 F E J fl_X7_69 dX7_proves_28 ?_
        refine lv_if_ne (tgt := 37) hx hb dX7_proves_31 (by decide) (fun c7 => ?_) (fun c7 => ?_)
        · have h := itn c7 h
          refine lv_aload_n hx hb dX7_proves_37 rfl (lv_at hl 0 rfl) ?_
          refine xg_0_1 F E J fl_X7_32 dX7_proves_38 ?_
          refine lv_aload_n hx hb dX7_proves_41 rfl (lv_at hl 0 rfl) ?_
          refine xg_0_0 F E J fl_X7_23 dX7_proves_42 ?_
          refine lv_aload_n hx hb dX7_proves_45 rfl (lv_at hl 0 rfl) ?_
          refine xg_0_7 F E J fl_X7_69 dX7_proves_46 ?_
          obtain ⟨p8, hp8, h⟩ := ob h
          refine onI (runV (As := [.int x_crowd]) (rest := [.ref (q 2)]) F E J (c_X3_robotsIn x_crowd p8 hp8) cw_X7_81 ⟨rfl, rfl, Nat.le_of_ble_eq_true rfl, Nat.le_of_ble_eq_true rfl⟩ rcX1 rfl hl.1 rfl (Nat.le_of_ble_eq_true rfl) dX7_proves_49) J (fun H locs J => ?_)
          obtain ⟨p9, hp9, h⟩ := ob h
          refine onV (runV (As := [.int p8]) (rest := []) F E J (c_X6_gatherFor p8 p9 hp9) cw_X7_148 ⟨rfl, rfl, Nat.le_of_ble_eq_true rfl, Nat.le_of_ble_eq_true rfl⟩ rcX2 rfl hl.1 rfl (Nat.le_of_ble_eq_true rfl) dX7_proves_52) J (fun H locs J => ?_)
          refine lv_aload_n hx hb dX7_proves_55 rfl (lv_at hl 0 rfl) ?_
          refine xg_0_1 F E J fl_X7_32 dX7_proves_56 ?_
          refine lv_aload_n hx hb dX7_proves_59 rfl (lv_at hl 0 rfl) ?_
          refine xg_0_5 F E J fl_X7_62 dX7_proves_60 ?_
          refine lv_iload_n hx hb dX7_proves_63 rfl (lv_at hl 1 rfl) ?_
          obtain ⟨p10, hp10, h⟩ := ob h
          refine onV (runV (As := [.ref (q 6), .int a0]) (rest := []) F E J (c_X6_linkBy a0 p10 hp10) cw_X7_151 ⟨rfl, rfl, Nat.le_of_ble_eq_true rfl, Nat.le_of_ble_eq_true rfl⟩ rcX2 rfl hl.1 rfl (Nat.le_of_ble_eq_true rfl) dX7_proves_64) J (fun H locs J => ?_)
          refine lv_aload_n hx hb dX7_proves_67 rfl (lv_at hl 0 rfl) ?_
          refine xg_0_1 F E J fl_X7_32 dX7_proves_68 ?_
          refine lv_aload_n hx hb dX7_proves_71 rfl (lv_at hl 0 rfl) ?_
          refine xg_0_7 F E J fl_X7_69 dX7_proves_72 ?_
          obtain ⟨p11, hp11, h⟩ := ob h
          refine onI (runV (As := [.int x_crowd]) (rest := []) F E J (c_X6_numberOf x_crowd p11 hp11) cw_X7_155 ⟨rfl, rfl, Nat.le_of_ble_eq_true rfl, Nat.le_of_ble_eq_true rfl⟩ rcX2 rfl hl.1 rfl (Nat.le_of_ble_eq_true rfl) dX7_proves_75) J (fun H locs J => ?_)
          refine lv_istore (lv' := [(4, .int p11), (0, .ref (q 0)), (1, .int a0), (2, .int a1), (3, .int a2)]) hx hb dX7_proves_78 hl (by decide) rfl (fun ls hl => ?_)
          refine lv_iload_n hx hb dX7_proves_80 rfl (lv_at hl 4 rfl) ?_
          by_cases c12 : a2 = (0 : Int32)
          · have h := itp c12 h
            refine lv_lookup (tgt := 108) (off := 27) hx hb dX7_proves_81 (by decide) (by rw [c12]; rfl) (by decide) ?_
            refine lv_aload_n hx hb dX7_proves_108 rfl (lv_at hl 1 rfl) ?_
            refine xg_0_1 F E J fl_X7_32 dX7_proves_109 ?_
            refine lv_iload hx hb dX7_proves_112 (lv_at hl 0 rfl) ?_
            refine lv_iload_n hx hb dX7_proves_114 rfl (lv_at hl 2 rfl) ?_
            refine lv_iload_n hx hb dX7_proves_115 rfl (lv_at hl 3 rfl) ?_
            obtain ⟨p13, hp13, h⟩ := ob h
            refine onI (runV (As := [.int p11, .int a0, .int a1]) (rest := []) F E J (c_X6_mostSteps p11 a0 a1 p13 hp13) cw_X7_158 ⟨rfl, rfl, Nat.le_of_ble_eq_true rfl, Nat.le_of_ble_eq_true rfl⟩ rcX2 rfl hl.1 rfl (Nat.le_of_ble_eq_true rfl) dX7_proves_116) J (fun H locs J => ?_)
            refine lv_ldc hx hb F.2.2.2.1 (F.2.2.2.2 _ kc_X7_92) dX7_proves_119 ?_
            refine lv_icmp_ne (tgt := 128) hx hb dX7_proves_121 (by decide) (fun c14 => ?_) (fun c14 => ?_)
            · have h := itn c14 h
              refine lv_iconst (v := 1) hx hb dX7_proves_128 (by decide) ?_
              obtain rfl := Option.some.inj h
              exact ret _ _ _ _ J dX7_proves_129
            · have h := itp c14 h
              refine lv_iconst (v := 0) hx hb dX7_proves_124 (by decide) ?_
              refine lv_goto (tgt := 129) hx hb dX7_proves_125 (by decide) ?_
              obtain rfl := Option.some.inj h
              exact ret _ _ _ _ J dX7_proves_129
          · have h := itn c12 h
            by_cases c15 : a2 = (4 : Int32)
            · have h := itp c15 h
              refine lv_lookup (tgt := 130) (off := 49) hx hb dX7_proves_81 (by decide) (by rw [c15]; rfl) (by decide) ?_
              refine lv_aload_n hx hb dX7_proves_130 rfl (lv_at hl 1 rfl) ?_
              refine xg_0_1 F E J fl_X7_32 dX7_proves_131 ?_
              refine lv_iload hx hb dX7_proves_134 (lv_at hl 0 rfl) ?_
              refine lv_iload_n hx hb dX7_proves_136 rfl (lv_at hl 2 rfl) ?_
              refine lv_iload_n hx hb dX7_proves_137 rfl (lv_at hl 3 rfl) ?_
              obtain ⟨p16, hp16, h⟩ := ob h
              refine onI (runV (As := [.int p11, .int a0, .int a1]) (rest := []) F E J (c_X6_mostSteps p11 a0 a1 p16 hp16) cw_X7_158 ⟨rfl, rfl, Nat.le_of_ble_eq_true rfl, Nat.le_of_ble_eq_true rfl⟩ rcX2 rfl hl.1 rfl (Nat.le_of_ble_eq_true rfl) dX7_proves_138) J (fun H locs J => ?_)
              obtain rfl := Option.some.inj h
              exact ret _ _ _ _ J dX7_proves_141
            · have h := itn c15 h
              refine lv_lookup (tgt := 142) (off := 61) hx hb dX7_proves_81 (by decide) ((lv_osw c12 rfl).trans ((lv_osw c15 rfl).trans rfl)) (by decide) ?_
              refine lv_aload_n hx hb dX7_proves_142 rfl (lv_at hl 1 rfl) ?_
              refine xg_0_1 F E J fl_X7_32 dX7_proves_143 ?_
              refine lv_aload_n hx hb dX7_proves_146 rfl (lv_at hl 1 rfl) ?_
              refine xg_0_1 F E J fl_X7_32 dX7_proves_147 ?_
              refine lv_iload hx hb dX7_proves_150 (lv_at hl 0 rfl) ?_
              refine lv_iload_n hx hb dX7_proves_152 rfl (lv_at hl 2 rfl) ?_
              refine lv_iload_n hx hb dX7_proves_153 rfl (lv_at hl 3 rfl) ?_
              obtain ⟨p17, hp17, h⟩ := ob h
              refine onL (runV (As := [.int p11, .int a0, .int a1]) (rest := [.ref (q 2)]) F E J (c_X6_reachedFrom p11 a0 a1 p17 hp17) cw_X7_162 ⟨rfl, rfl, Nat.le_of_ble_eq_true rfl, Nat.le_of_ble_eq_true rfl⟩ rcX2 rfl hl.1 rfl (Nat.le_of_ble_eq_true rfl) dX7_proves_154) J (fun H locs J => ?_)
              refine lv_iload_n hx hb dX7_proves_157 rfl (lv_at hl 2 rfl) ?_
              refine lv_iload_n hx hb dX7_proves_158 rfl (lv_at hl 3 rfl) ?_
              refine lv_iload_n hx hb dX7_proves_159 rfl (lv_at hl 4 rfl) ?_
              obtain ⟨p18, hp18, h⟩ := ob h
              refine onI (runV (As := [.long p17, .int a0, .int a1, .int a2]) (rest := []) F E J (c_X6_countReached p17 a0 a1 a2 p18 hp18) cw_X7_166 ⟨rfl, rfl, Nat.le_of_ble_eq_true rfl, Nat.le_of_ble_eq_true rfl⟩ rcX2 rfl hl.1 rfl (Nat.le_of_ble_eq_true rfl) dX7_proves_160) J (fun H locs J => ?_)
              obtain rfl := Option.some.inj h
              exact ret _ _ _ _ J dX7_proves_163
        · have h := itp c7 h
          refine lv_ldc hx hb F.2.2.2.1 (F.2.2.2.2 _ kc_X7_117) dX7_proves_34 ?_
          obtain rfl := Option.some.inj h
          exact ret _ _ _ _ J dX7_proves_36
      · have h := itn c6 h
        refine lv_ldc hx hb F.2.2.2.1 (F.2.2.2.2 _ kc_X7_80) dX7_proves_24 ?_
        obtain rfl := Option.some.inj h
        exact ret _ _ _ _ J dX7_proves_26
set_option maxHeartbeats 4000000 in
set_option maxRecDepth 100000 in
theorem c_X6_working {l : Launch} {g : GG} {A : Nat → Prop} {q : Nat → Nat} {x_crowd x_latestFault x_places x_mask x_w_robots x_w_size x_w_nexts x_a_length x_t_length x_t_token x_t_from x_t_value x_t_behind x_r_wants x_r_pairs x_r_sees : Int32} {x_r_row : Int64} {x_b_size x_s_size : Int32} {x_w_names : Nat → Int32} {x_w_goals x_w_links : Nat → Int64} {x_w_linked x_w_ups x_w_downs x_w_next x_a_begun x_t_bytes : Nat → Int32} {x_b_rows : Nat → Int64} {x_b_acts : Nat → Int32} {x_s_rows : Nat → Int64} {x_s_acts : Nat → Int32} (a0 : Int32) (a1 : Int32) (res : Int64) (h : F_X6_working a0 a1 x_w_size x_w_goals x_w_links = some res) : Met l yX6_working (wS yX6_working cX6_working 8 (some .long)) rm_X6_working (va_Pc [.ref (q 2), .int a0, .int a1] (VB g A (XW g q x_crowd x_latestFault x_places x_mask x_w_robots x_w_size x_w_nexts x_a_length x_t_length x_t_token x_t_from x_t_value x_t_behind x_r_wants x_r_pairs x_r_sees x_r_row x_b_size x_s_size x_w_names x_w_goals x_w_links x_w_linked x_w_ups x_w_downs x_w_next x_a_begun x_t_bytes x_b_rows x_b_acts x_s_rows x_s_acts))) (va_Ql (fun r (_ : Unit) => r = res) (fun _ => VB g A (XW g q x_crowd x_latestFault x_places x_mask x_w_robots x_w_size x_w_nexts x_a_length x_t_length x_t_token x_t_from x_t_value x_t_behind x_r_wants x_r_pairs x_r_sees x_r_row x_b_size x_s_size x_w_names x_w_goals x_w_links x_w_linked x_w_ups x_w_downs x_w_next x_a_begun x_t_bytes x_b_rows x_b_acts x_s_rows x_s_acts)) A) 0 0 A := by
  unfold F_X6_working at h
  refine MetL (res := res) (own := RX6) (ws' := (XW g q x_crowd x_latestFault x_places x_mask x_w_robots x_w_size x_w_nexts x_a_length x_t_length x_t_token x_t_from x_t_value x_t_behind x_r_wants x_r_pairs x_r_sees x_r_row x_b_size x_s_size x_w_names x_w_goals x_w_links x_w_linked x_w_ups x_w_downs x_w_next x_a_begun x_t_bytes x_b_rows x_b_acts x_s_rows x_s_acts)) (by decide) rfl (Nat.le_of_ble_eq_true rfl) ?_
  intro p e s m args below meth c Q F E ret ls J hl
  have hx := F.1
  have hb := F.2.1
  have hl : lv_has ls 8 [(0, .ref (q 2)), (1, .int a0), (2, .int a1)] := hl
  refine lv_aload_n hx hb dX6_working_0 rfl (lv_at hl 0 rfl) ?_
  refine lv_iload_n hx hb dX6_working_1 rfl (lv_at hl 2 rfl) ?_
  obtain ⟨p1, hp1, h⟩ := ob h
  refine onL (runV (As := [.int a1]) (rest := []) F E J (c_X6_ofGoal a1 p1 hp1) cw_X6_138 ⟨rfl, rfl, Nat.le_of_ble_eq_true rfl, Nat.le_of_ble_eq_true rfl⟩ rcX2 rfl hl.1 rfl (Nat.le_of_ble_eq_true rfl) dX6_working_2) J (fun H locs J => ?_)
  refine lv_lstore_n (lv' := [(3, .long p1), (0, .ref (q 2)), (1, .int a0), (2, .int a1)]) hx hb dX6_working_5 rfl hl (by decide) rfl (fun ls hl => ?_)
  refine lv_iconst (v := 0) hx hb dX6_working_6 (by decide) ?_
  refine lv_istore (lv' := [(5, .int 0), (3, .long p1), (0, .ref (q 2)), (1, .int a0), (2, .int a1)]) hx hb dX6_working_7 hl (by decide) rfl (fun ls hl => ?_)
  obtain ⟨o_L2, ho_L2, h⟩ := ob h
  have T_L2 : ∀ (f : Nat) (l3_L2 : Int64) (l5_L2 : Int32) (o_L2 : Int64), F_X6_working_L2 a0 x_w_size x_w_links f l3_L2 l5_L2 = some o_L2 → ∀ (H : Heap) (locs : List Loc) (ls : Array Slot), VJ g A s.heap (XW g q x_crowd x_latestFault x_places x_mask x_w_robots x_w_size x_w_nexts x_a_length x_t_length x_t_token x_t_from x_t_value x_t_behind x_r_wants x_r_pairs x_r_sees x_r_row x_b_size x_s_size x_w_names x_w_goals x_w_links x_w_linked x_w_ups x_w_downs x_w_next x_a_begun x_t_bytes x_b_rows x_b_acts x_s_rows x_s_acts) H locs → lv_has ls 8 [(0, .ref (q 2)), (1, .int a0), (3, .long l3_L2), (5, .int l5_L2)] → (∀ (H : Heap) (locs : List Loc) (ls : Array Slot), VJ g A s.heap (XW g q x_crowd x_latestFault x_places x_mask x_w_robots x_w_size x_w_nexts x_a_length x_t_length x_t_token x_t_from x_t_value x_t_behind x_r_wants x_r_pairs x_r_sees x_r_row x_b_size x_s_size x_w_names x_w_goals x_w_links x_w_linked x_w_ups x_w_downs x_w_next x_a_begun x_t_bytes x_b_rows x_b_acts x_s_rows x_s_acts) H locs → lv_has ls 8 [(3, .long o_L2)] → W p l e rm_X6_working s m args below meth c H locs 0 0 Q (F0 m 45 ls [])) → W p l e rm_X6_working s m args below meth c H locs 0 0 Q (F0 m 9 ls []) := by
    clear h ho_L2 hl J
    intro f
    induction f with
    | zero => intro l3_L2 l5_L2 o_L2 h; exact absurd h (by simp [F_X6_working_L2])
    | succ f ih =>
      intro l3_L2 l5_L2 o_L2 h H locs ls J hl K_L2
      rw [F_X6_working_L2.eq_2] at h
      refine lv_iload hx hb dX6_working_9 (lv_at hl 3 rfl) ?_
      refine lv_aload_n hx hb dX6_working_11 rfl (lv_at hl 0 rfl) ?_
      refine xg_2_9 F E J fl_X6_39 dX6_working_12 ?_
      refine lv_icmp_ge (tgt := 45) hx hb dX6_working_15 (by decide) (fun c3 => ?_) (fun c3 => ?_)
      · have h := itp c3 h
        obtain rfl := Option.some.inj h
        exact K_L2 _ _ _ J (lv_sub hl [2] rfl)
      · have h := itn c3 h
        refine lv_lload_n hx hb dX6_working_18 rfl (lv_at hl 2 rfl) ?_
        refine lv_lstore (lv' := [(6, .long l3_L2), (0, .ref (q 2)), (1, .int a0), (3, .long l3_L2), (5, .int l5_L2)]) hx hb dX6_working_19 hl (by decide) rfl (fun ls hl => ?_)
        refine lv_aload_n hx hb dX6_working_21 rfl (lv_at hl 1 rfl) ?_
        refine lv_lload hx hb dX6_working_22 (lv_at hl 0 rfl) ?_
        refine lv_iload_n hx hb dX6_working_24 rfl (lv_at hl 2 rfl) ?_
        obtain ⟨p4, hp4, h⟩ := ob h
        refine onL (runV (As := [.long l3_L2, .int a0]) (rest := []) F E J (c_X6_safeByOne l3_L2 a0 p4 hp4) cw_X6_142 ⟨rfl, rfl, Nat.le_of_ble_eq_true rfl, Nat.le_of_ble_eq_true rfl⟩ rcX2 rfl hl.1 rfl (Nat.le_of_ble_eq_true rfl) dX6_working_25) J (fun H locs J => ?_)
        refine lv_lstore_n (lv' := [(3, .long p4), (6, .long l3_L2), (0, .ref (q 2)), (1, .int a0), (5, .int l5_L2)]) hx hb dX6_working_28 rfl hl (by decide) rfl (fun ls hl => ?_)
        refine lv_lload_n hx hb dX6_working_29 rfl (lv_at hl 0 rfl) ?_
        refine lv_lload hx hb dX6_working_30 (lv_at hl 1 rfl) ?_
        refine W.lcmp hx hb dX6_working_32 ?_
        refine lv_if_ne (tgt := 39) hx hb dX6_working_33 (by decide) (fun c5 => ?_) (fun c5 => ?_)
        · have h := itn c5 h
          obtain ⟨v6, hv6, h⟩ := obs h
          refine lv_iinc (v := v6) (lv' := [(5, .int v6), (3, .long p4), (6, .long l3_L2), (0, .ref (q 2)), (1, .int a0)]) hx hb dX6_working_39 hl (k := 4) rfl (by rw [← hv6]; rfl) (by decide) rfl (fun ls hl => ?_)
          refine lv_goto (tgt := 9) hx hb dX6_working_42 (by decide) ?_
          exact ih _ _ _ h _ _ _ J (lv_sub hl [3, 4, 1, 0] rfl) K_L2
        · have h := itp c5 h
          refine lv_goto (tgt := 45) hx hb dX6_working_36 (by decide) ?_
          obtain rfl := Option.some.inj h
          exact K_L2 _ _ _ J (lv_sub hl [0] rfl)
  refine T_L2 FU p1 0 o_L2 ho_L2 _ _ _ J (lv_sub hl [2, 3, 1, 0] rfl) (fun H locs ls J hl => ?_)
  refine lv_lload_n hx hb dX6_working_45 rfl (lv_at hl 0 rfl) ?_
  obtain rfl := Option.some.inj h
  exact ret _ _ _ _ J dX6_working_46
set_option maxHeartbeats 4000000 in
set_option maxRecDepth 100000 in
theorem c_X7_starts {l : Launch} {g : GG} {A : Nat → Prop} {q : Nat → Nat} {x_crowd x_latestFault x_places x_mask x_w_robots x_w_size x_w_nexts x_a_length x_t_length x_t_token x_t_from x_t_value x_t_behind x_r_wants x_r_pairs x_r_sees : Int32} {x_r_row : Int64} {x_b_size x_s_size : Int32} {x_w_names : Nat → Int32} {x_w_goals x_w_links : Nat → Int64} {x_w_linked x_w_ups x_w_downs x_w_next x_a_begun x_t_bytes : Nat → Int32} {x_b_rows : Nat → Int64} {x_b_acts : Nat → Int32} {x_s_rows : Nat → Int64} {x_s_acts : Nat → Int32} (a0 : Int32) (a1 : Int32) (a2 : Int32) (res : Int32 × Int32 × Int32 × Int32 × (Nat → Int32) × (Nat → Int64) × (Nat → Int64) × (Nat → Int32) × (Nat → Int32) × (Nat → Int32) × (Nat → Int32)) (h : F_X7_starts a0 a1 a2 x_crowd x_places x_mask x_w_robots x_w_size x_w_nexts x_b_size x_w_names x_w_goals x_w_links x_w_linked x_w_ups x_w_downs x_w_next x_b_rows x_b_acts = some res) : Met l yX7_starts (wS yX7_starts cX7_starts 4 (some .int)) rm_X7_starts (va_Pc [.ref (q 0), .int a0, .int a1, .int a2] (VB g A (XW g q x_crowd x_latestFault x_places x_mask x_w_robots x_w_size x_w_nexts x_a_length x_t_length x_t_token x_t_from x_t_value x_t_behind x_r_wants x_r_pairs x_r_sees x_r_row x_b_size x_s_size x_w_names x_w_goals x_w_links x_w_linked x_w_ups x_w_downs x_w_next x_a_begun x_t_bytes x_b_rows x_b_acts x_s_rows x_s_acts))) (va_Qi (fun r (_ : Unit) => r = res.1) (fun _ => VB g A (XW g q x_crowd x_latestFault x_places x_mask res.2.1 res.2.2.1 res.2.2.2.1 x_a_length x_t_length x_t_token x_t_from x_t_value x_t_behind x_r_wants x_r_pairs x_r_sees x_r_row x_b_size x_s_size res.2.2.2.2.1 res.2.2.2.2.2.1 res.2.2.2.2.2.2.1 res.2.2.2.2.2.2.2.1 res.2.2.2.2.2.2.2.2.1 res.2.2.2.2.2.2.2.2.2.1 res.2.2.2.2.2.2.2.2.2.2 x_a_begun x_t_bytes x_b_rows x_b_acts x_s_rows x_s_acts)) A) 0 0 A := by
  unfold F_X7_starts at h
  refine MetI (res := res.1) (own := RX7) (ws' := (XW g q x_crowd x_latestFault x_places x_mask res.2.1 res.2.2.1 res.2.2.2.1 x_a_length x_t_length x_t_token x_t_from x_t_value x_t_behind x_r_wants x_r_pairs x_r_sees x_r_row x_b_size x_s_size res.2.2.2.2.1 res.2.2.2.2.2.1 res.2.2.2.2.2.2.1 res.2.2.2.2.2.2.2.1 res.2.2.2.2.2.2.2.2.1 res.2.2.2.2.2.2.2.2.2.1 res.2.2.2.2.2.2.2.2.2.2 x_a_begun x_t_bytes x_b_rows x_b_acts x_s_rows x_s_acts)) (by decide) rfl (Nat.le_of_ble_eq_true rfl) ?_
  intro p e s m args below meth c Q F E ret ls J hl
  have hx := F.1
  have hb := F.2.1
  have hl : lv_has ls 4 [(0, .ref (q 0)), (1, .int a0), (2, .int a1), (3, .int a2)] := hl
  refine lv_iload_n hx hb dX7_starts_0 rfl (lv_at hl 1 rfl) ?_
  refine lv_iconst (v := 3) hx hb dX7_starts_1 (by decide) ?_
  obtain ⟨p1, hp1, h⟩ := ob h
  refine onZ (runS (As := [.int a0, .int 3]) (rest := []) F E J (c_X7_outside a0 3 p1 hp1) cw_X7_110 ⟨rfl, rfl, Nat.le_of_ble_eq_true rfl, Nat.le_of_ble_eq_true rfl⟩ rfl hl.1 rfl (Nat.le_of_ble_eq_true rfl) dX7_starts_2) J (fun hzbp1 H locs J => ?_)
  refine lv_if_ne (tgt := 24) hx hb dX7_starts_5 (by decide) (fun c2 => ?_) (fun c2 => ?_)
  · have h := itn c2 h
    refine lv_ldc hx hb F.2.2.2.1 (F.2.2.2.2 _ kc_X7_80) dX7_starts_24 ?_
    obtain rfl := Option.some.inj h
    exact ret _ _ _ _ J dX7_starts_26
  · have h := itp c2 h
    refine lv_iload_n hx hb dX7_starts_8 rfl (lv_at hl 2 rfl) ?_
    refine lv_iconst (v := 3) hx hb dX7_starts_9 (by decide) ?_
    obtain ⟨p3, hp3, h⟩ := ob h
    refine onZ (runS (As := [.int a1, .int 3]) (rest := []) F E J (c_X7_outside a1 3 p3 hp3) cw_X7_110 ⟨rfl, rfl, Nat.le_of_ble_eq_true rfl, Nat.le_of_ble_eq_true rfl⟩ rfl hl.1 rfl (Nat.le_of_ble_eq_true rfl) dX7_starts_10) J (fun hzbp3 H locs J => ?_)
    refine lv_if_ne (tgt := 24) hx hb dX7_starts_13 (by decide) (fun c4 => ?_) (fun c4 => ?_)
    · have h := itn c4 h
      refine lv_ldc hx hb F.2.2.2.1 (F.2.2.2.2 _ kc_X7_80) dX7_starts_24 ?_
      obtain rfl := Option.some.inj h
      exact ret _ _ _ _ J dX7_starts_26
    · have h := itp c4 h
      refine lv_iload_n hx hb dX7_starts_16 rfl (lv_at hl 3 rfl) ?_
      refine lv_iconst (v := 2) hx hb dX7_starts_17 (by decide) ?_
      obtain ⟨p5, hp5, h⟩ := ob h
      refine onZ (runS (As := [.int a2, .int 2]) (rest := []) F E J (c_X7_outside a2 2 p5 hp5) cw_X7_110 ⟨rfl, rfl, Nat.le_of_ble_eq_true rfl, Nat.le_of_ble_eq_true rfl⟩ rfl hl.1 rfl (Nat.le_of_ble_eq_true rfl) dX7_starts_18) J (fun hzbp5 H locs J => ?_)
      refine lv_if_eq (tgt := 27) hx hb dX7_starts_21 (by decide) (fun c6 => ?_) (fun c6 => ?_)
      · have h := itp c6 h
        refine lv_aload_n hx hb dX7_starts_27 rfl (lv_at hl 0 rfl) ?_
        refine xg_0_7 F E J fl_X7_69 dX7_starts_28 ?_
        refine lv_if_ne (tgt := 37) hx hb dX7_starts_31 (by decide) (fun c7 => ?_) (fun c7 => ?_)
        · have h := itn c7 h
          refine lv_aload_n hx hb dX7_starts_37 rfl (lv_at hl 0 rfl) ?_
          refine xg_0_1 F E J fl_X7_32 dX7_starts_38 ?_
          refine lv_aload_n hx hb dX7_starts_41 rfl (lv_at hl 0 rfl) ?_
          refine xg_0_0 F E J fl_X7_23 dX7_starts_42 ?_
          refine lv_aload_n hx hb dX7_starts_45 rfl (lv_at hl 0 rfl) ?_
          refine xg_0_7 F E J fl_X7_69 dX7_starts_46 ?_
          obtain ⟨p8, hp8, h⟩ := ob h
          refine onI (runV (As := [.int x_crowd]) (rest := [.ref (q 2)]) F E J (c_X3_robotsIn x_crowd p8 hp8) cw_X7_81 ⟨rfl, rfl, Nat.le_of_ble_eq_true rfl, Nat.le_of_ble_eq_true rfl⟩ rcX1 rfl hl.1 rfl (Nat.le_of_ble_eq_true rfl) dX7_starts_49) J (fun H locs J => ?_)
          obtain ⟨p9, hp9, h⟩ := ob h
          refine onV (runV (As := [.int p8]) (rest := []) F E J (c_X6_gatherFor p8 p9 hp9) cw_X7_148 ⟨rfl, rfl, Nat.le_of_ble_eq_true rfl, Nat.le_of_ble_eq_true rfl⟩ rcX2 rfl hl.1 rfl (Nat.le_of_ble_eq_true rfl) dX7_starts_52) J (fun H locs J => ?_)
          refine lv_iload_n hx hb dX7_starts_55 rfl (lv_at hl 3 rfl) ?_
          refine lv_if_ne (tgt := 67) hx hb dX7_starts_56 (by decide) (fun c10 => ?_) (fun c10 => ?_)
          · have h := itn c10 h
            refine lv_aload_n hx hb dX7_starts_67 rfl (lv_at hl 0 rfl) ?_
            refine xg_0_1 F E J fl_X7_32 dX7_starts_68 ?_
            refine lv_aload_n hx hb dX7_starts_71 rfl (lv_at hl 0 rfl) ?_
            refine xg_0_5 F E J fl_X7_62 dX7_starts_72 ?_
            refine lv_iload_n hx hb dX7_starts_75 rfl (lv_at hl 1 rfl) ?_
            obtain ⟨p11, hp11, h⟩ := ob h
            refine onV (runV (As := [.ref (q 6), .int a0]) (rest := []) F E J (c_X6_linkBy a0 p11 hp11) cw_X7_151 ⟨rfl, rfl, Nat.le_of_ble_eq_true rfl, Nat.le_of_ble_eq_true rfl⟩ rcX2 rfl hl.1 rfl (Nat.le_of_ble_eq_true rfl) dX7_starts_76) J (fun H locs J => ?_)
            refine lv_aload_n hx hb dX7_starts_79 rfl (lv_at hl 0 rfl) ?_
            refine xg_0_1 F E J fl_X7_32 dX7_starts_80 ?_
            refine lv_iload_n hx hb dX7_starts_83 rfl (lv_at hl 1 rfl) ?_
            refine lv_iload_n hx hb dX7_starts_84 rfl (lv_at hl 2 rfl) ?_
            obtain ⟨p12, hp12, h⟩ := ob h
            refine onL (runV (As := [.int a0, .int a1]) (rest := []) F E J (c_X6_working a0 a1 p12 hp12) cw_X7_171 ⟨rfl, rfl, Nat.le_of_ble_eq_true rfl, Nat.le_of_ble_eq_true rfl⟩ rcX2 rfl hl.1 rfl (Nat.le_of_ble_eq_true rfl) dX7_starts_85) J (fun H locs J => ?_)
            obtain ⟨p13, hp13, h⟩ := ob h
            refine onI (runS (As := [.long p12]) (rest := []) F E J (c_J13_bitCount_95d88 p12 p13 hp13) cw_X7_174 ⟨rfl, rfl, Nat.le_of_ble_eq_true rfl, Nat.le_of_ble_eq_true rfl⟩ rfl hl.1 rfl (Nat.le_of_ble_eq_true rfl) dX7_starts_88) J (fun H locs J => ?_)
            obtain rfl := Option.some.inj h
            exact ret _ _ _ _ J dX7_starts_91
          · have h := itp c10 h
            refine lv_aload_n hx hb dX7_starts_59 rfl (lv_at hl 0 rfl) ?_
            refine xg_0_1 F E J fl_X7_32 dX7_starts_60 ?_
            refine xgN_2_9 (host := RX7) F E J (by decide +kernel) dX7_starts_63 ?_
            obtain rfl := Option.some.inj h
            exact ret _ _ _ _ J dX7_starts_66
        · have h := itp c7 h
          refine lv_ldc hx hb F.2.2.2.1 (F.2.2.2.2 _ kc_X7_117) dX7_starts_34 ?_
          obtain rfl := Option.some.inj h
          exact ret _ _ _ _ J dX7_starts_36
      · have h := itn c6 h
        refine lv_ldc hx hb F.2.2.2.1 (F.2.2.2.2 _ kc_X7_80) dX7_starts_24 ?_
        obtain rfl := Option.some.inj h
        exact ret _ _ _ _ J dX7_starts_26
set_option maxHeartbeats 4000000 in
set_option maxRecDepth 100000 in
theorem c_X3_turnsBetween {l : Launch} {g : GG} {A : Nat → Prop} {q : Nat → Nat} {x_crowd x_latestFault x_places x_mask x_w_robots x_w_size x_w_nexts x_a_length x_t_length x_t_token x_t_from x_t_value x_t_behind x_r_wants x_r_pairs x_r_sees : Int32} {x_r_row : Int64} {x_b_size x_s_size : Int32} {x_w_names : Nat → Int32} {x_w_goals x_w_links : Nat → Int64} {x_w_linked x_w_ups x_w_downs x_w_next x_a_begun x_t_bytes : Nat → Int32} {x_b_rows : Nat → Int64} {x_b_acts : Nat → Int32} {x_s_rows : Nat → Int64} {x_s_acts : Nat → Int32} (a0 : Int32) (a1 : Int32) (res : Int32) (h : F_X3_turnsBetween a0 a1 x_places x_mask = some res) : Met l yX3_turnsBetween (wS yX3_turnsBetween cX3_turnsBetween 6 (some .int)) rm_X3_turnsBetween (va_Pc [.ref (q 1), .int a0, .int a1] (VB g A (XW g q x_crowd x_latestFault x_places x_mask x_w_robots x_w_size x_w_nexts x_a_length x_t_length x_t_token x_t_from x_t_value x_t_behind x_r_wants x_r_pairs x_r_sees x_r_row x_b_size x_s_size x_w_names x_w_goals x_w_links x_w_linked x_w_ups x_w_downs x_w_next x_a_begun x_t_bytes x_b_rows x_b_acts x_s_rows x_s_acts))) (va_Qi (fun r (_ : Unit) => r = res) (fun _ => VB g A (XW g q x_crowd x_latestFault x_places x_mask x_w_robots x_w_size x_w_nexts x_a_length x_t_length x_t_token x_t_from x_t_value x_t_behind x_r_wants x_r_pairs x_r_sees x_r_row x_b_size x_s_size x_w_names x_w_goals x_w_links x_w_linked x_w_ups x_w_downs x_w_next x_a_begun x_t_bytes x_b_rows x_b_acts x_s_rows x_s_acts)) A) 0 0 A := by
  unfold F_X3_turnsBetween at h
  refine MetI (res := res) (own := RX3) (ws' := (XW g q x_crowd x_latestFault x_places x_mask x_w_robots x_w_size x_w_nexts x_a_length x_t_length x_t_token x_t_from x_t_value x_t_behind x_r_wants x_r_pairs x_r_sees x_r_row x_b_size x_s_size x_w_names x_w_goals x_w_links x_w_linked x_w_ups x_w_downs x_w_next x_a_begun x_t_bytes x_b_rows x_b_acts x_s_rows x_s_acts)) (by decide) rfl (Nat.le_of_ble_eq_true rfl) ?_
  intro p e s m args below meth c Q F E ret ls J hl
  have hx := F.1
  have hb := F.2.1
  have hl : lv_has ls 6 [(0, .ref (q 1)), (1, .int a0), (2, .int a1)] := hl
  refine lv_iconst (v := 0) hx hb dX3_turnsBetween_0 (by decide) ?_
  refine lv_istore_n (lv' := [(3, .int 0), (0, .ref (q 1)), (1, .int a0), (2, .int a1)]) hx hb dX3_turnsBetween_1 rfl hl (by decide) rfl (fun ls hl => ?_)
  refine lv_iload_n hx hb dX3_turnsBetween_2 rfl (lv_at hl 2 rfl) ?_
  refine lv_istore (lv' := [(4, .int a0), (3, .int 0), (0, .ref (q 1)), (1, .int a0), (2, .int a1)]) hx hb dX3_turnsBetween_3 hl (by decide) rfl (fun ls hl => ?_)
  refine lv_iconst (v := 0) hx hb dX3_turnsBetween_5 (by decide) ?_
  refine lv_istore (lv' := [(5, .int 0), (4, .int a0), (3, .int 0), (0, .ref (q 1)), (1, .int a0), (2, .int a1)]) hx hb dX3_turnsBetween_6 hl (by decide) rfl (fun ls hl => ?_)
  obtain ⟨o_L1, ho_L1, h⟩ := ob h
  have T_L1 : ∀ (f : Nat) (l3_L1 : Int32) (l4_L1 : Int32) (l5_L1 : Int32) (o_L1 : Int32), F_X3_turnsBetween_L1 a1 x_places x_mask f l3_L1 l4_L1 l5_L1 = some o_L1 → ∀ (H : Heap) (locs : List Loc) (ls : Array Slot), VJ g A s.heap (XW g q x_crowd x_latestFault x_places x_mask x_w_robots x_w_size x_w_nexts x_a_length x_t_length x_t_token x_t_from x_t_value x_t_behind x_r_wants x_r_pairs x_r_sees x_r_row x_b_size x_s_size x_w_names x_w_goals x_w_links x_w_linked x_w_ups x_w_downs x_w_next x_a_begun x_t_bytes x_b_rows x_b_acts x_s_rows x_s_acts) H locs → lv_has ls 6 [(0, .ref (q 1)), (2, .int a1), (3, .int l3_L1), (4, .int l4_L1), (5, .int l5_L1)] → (∀ (H : Heap) (locs : List Loc) (ls : Array Slot), VJ g A s.heap (XW g q x_crowd x_latestFault x_places x_mask x_w_robots x_w_size x_w_nexts x_a_length x_t_length x_t_token x_t_from x_t_value x_t_behind x_r_wants x_r_pairs x_r_sees x_r_row x_b_size x_s_size x_w_names x_w_goals x_w_links x_w_linked x_w_ups x_w_downs x_w_next x_a_begun x_t_bytes x_b_rows x_b_acts x_s_rows x_s_acts) H locs → lv_has ls 6 [(3, .int o_L1)] → W p l e rm_X3_turnsBetween s m args below meth c H locs 0 0 Q (F0 m 40 ls [])) → W p l e rm_X3_turnsBetween s m args below meth c H locs 0 0 Q (F0 m 8 ls []) := by
    clear h ho_L1 hl J
    intro f
    induction f with
    | zero => intro l3_L1 l4_L1 l5_L1 o_L1 h; exact absurd h (by simp [F_X3_turnsBetween_L1])
    | succ f ih =>
      intro l3_L1 l4_L1 l5_L1 o_L1 h H locs ls J hl K_L1
      rw [F_X3_turnsBetween_L1.eq_2] at h
      refine lv_iload hx hb dX3_turnsBetween_8 (lv_at hl 4 rfl) ?_
      refine lv_aload_n hx hb dX3_turnsBetween_10 rfl (lv_at hl 0 rfl) ?_
      refine xg_1_0 F E J fl_X3_9 dX3_turnsBetween_11 ?_
      refine lv_icmp_ge (tgt := 40) hx hb dX3_turnsBetween_14 (by decide) (fun c2 => ?_) (fun c2 => ?_)
      · have h := itp c2 h
        obtain rfl := Option.some.inj h
        exact K_L1 _ _ _ J (lv_sub hl [2] rfl)
      · have h := itn c2 h
        refine lv_iload hx hb dX3_turnsBetween_17 (lv_at hl 3 rfl) ?_
        refine lv_iload_n hx hb dX3_turnsBetween_19 rfl (lv_at hl 1 rfl) ?_
        obtain ⟨j3, hj3, h⟩ := ob h
        have Kj3 : ∀ (H : Heap) (locs : List Loc) (ls : Array Slot), VJ g A s.heap (XW g q x_crowd x_latestFault x_places x_mask x_w_robots x_w_size x_w_nexts x_a_length x_t_length x_t_token x_t_from x_t_value x_t_behind x_r_wants x_r_pairs x_r_sees x_r_row x_b_size x_s_size x_w_names x_w_goals x_w_links x_w_linked x_w_ups x_w_downs x_w_next x_a_begun x_t_bytes x_b_rows x_b_acts x_s_rows x_s_acts) H locs → lv_has ls 6 [(0, .ref (q 1)), (2, .int a1), (3, .int j3), (4, .int l4_L1), (5, .int l5_L1)] → W p l e rm_X3_turnsBetween s m args below meth c H locs 0 0 Q (F0 m 26 ls []) := by
          intro H locs ls J hl
          refine lv_aload_n hx hb dX3_turnsBetween_26 rfl (lv_at hl 0 rfl) ?_
          refine lv_iload hx hb dX3_turnsBetween_27 (lv_at hl 3 rfl) ?_
          obtain ⟨p6, hp6, h⟩ := ob h
          refine onI (runV (As := [.int l4_L1]) (rest := []) F E J (c_X3_turned l4_L1 p6 hp6) cw_X3_37 ⟨rfl, rfl, Nat.le_of_ble_eq_true rfl, Nat.le_of_ble_eq_true rfl⟩ rcX1 rfl hl.1 rfl (Nat.le_of_ble_eq_true rfl) dX3_turnsBetween_29) J (fun H locs J => ?_)
          refine lv_istore (lv' := [(4, .int p6), (0, .ref (q 1)), (2, .int a1), (3, .int j3), (5, .int l5_L1)]) hx hb dX3_turnsBetween_32 hl (by decide) rfl (fun ls hl => ?_)
          obtain ⟨v7, hv7, h⟩ := obs h
          refine lv_iinc (v := v7) (lv' := [(5, .int v7), (4, .int p6), (0, .ref (q 1)), (2, .int a1), (3, .int j3)]) hx hb dX3_turnsBetween_34 hl (k := 4) rfl (by rw [← hv7]; rfl) (by decide) rfl (fun ls hl => ?_)
          refine lv_goto (tgt := 8) hx hb dX3_turnsBetween_37 (by decide) ?_
          exact ih _ _ _ _ h _ _ _ J (lv_sub hl [2, 3, 4, 1, 0] rfl) K_L1
        clear h
        have h := hj3
        refine lv_icmp_ne (tgt := 26) hx hb dX3_turnsBetween_20 (by decide) (fun c4 => ?_) (fun c4 => ?_)
        · have h := itn c4 h
          obtain rfl := Option.some.inj h
          exact Kj3 _ _ _ J (lv_sub hl [0, 1, 2, 3, 4] rfl)
        · have h := itp c4 h
          obtain ⟨v5, hv5, h⟩ := obs h
          refine lv_iinc (v := v5) (lv' := [(3, .int v5), (0, .ref (q 1)), (2, .int a1), (4, .int l4_L1), (5, .int l5_L1)]) hx hb dX3_turnsBetween_23 hl (k := 2) rfl (by rw [← hv5]; rfl) (by decide) rfl (fun ls hl => ?_)
          obtain rfl := Option.some.inj h
          exact Kj3 _ _ _ J (lv_sub hl [1, 2, 0, 3, 4] rfl)
  refine T_L1 FU 0 a0 0 o_L1 ho_L1 _ _ _ J (lv_sub hl [3, 5, 2, 1, 0] rfl) (fun H locs ls J hl => ?_)
  refine lv_iload_n hx hb dX3_turnsBetween_40 rfl (lv_at hl 0 rfl) ?_
  obtain rfl := Option.some.inj h
  exact ret _ _ _ _ J dX3_turnsBetween_41
set_option maxHeartbeats 4000000 in
set_option maxRecDepth 100000 in
theorem c_X3_turnsOf {l : Launch} {g : GG} {A : Nat → Prop} {q : Nat → Nat} {x_crowd x_latestFault x_places x_mask x_w_robots x_w_size x_w_nexts x_a_length x_t_length x_t_token x_t_from x_t_value x_t_behind x_r_wants x_r_pairs x_r_sees : Int32} {x_r_row : Int64} {x_b_size x_s_size : Int32} {x_w_names : Nat → Int32} {x_w_goals x_w_links : Nat → Int64} {x_w_linked x_w_ups x_w_downs x_w_next x_a_begun x_t_bytes : Nat → Int32} {x_b_rows : Nat → Int64} {x_b_acts : Nat → Int32} {x_s_rows : Nat → Int64} {x_s_acts : Nat → Int32} (a0 : Int32) (res : Int32) (h : F_X3_turnsOf a0 x_places x_mask = some res) : Met l yX3_turnsOf (wS yX3_turnsOf cX3_turnsOf 2 (some .int)) rm_X3_turnsOf (va_Pc [.ref (q 1), .int a0] (VB g A (XW g q x_crowd x_latestFault x_places x_mask x_w_robots x_w_size x_w_nexts x_a_length x_t_length x_t_token x_t_from x_t_value x_t_behind x_r_wants x_r_pairs x_r_sees x_r_row x_b_size x_s_size x_w_names x_w_goals x_w_links x_w_linked x_w_ups x_w_downs x_w_next x_a_begun x_t_bytes x_b_rows x_b_acts x_s_rows x_s_acts))) (va_Qi (fun r (_ : Unit) => r = res) (fun _ => VB g A (XW g q x_crowd x_latestFault x_places x_mask x_w_robots x_w_size x_w_nexts x_a_length x_t_length x_t_token x_t_from x_t_value x_t_behind x_r_wants x_r_pairs x_r_sees x_r_row x_b_size x_s_size x_w_names x_w_goals x_w_links x_w_linked x_w_ups x_w_downs x_w_next x_a_begun x_t_bytes x_b_rows x_b_acts x_s_rows x_s_acts)) A) 0 0 A := by
  unfold F_X3_turnsOf at h
  refine MetI (res := res) (own := RX3) (ws' := (XW g q x_crowd x_latestFault x_places x_mask x_w_robots x_w_size x_w_nexts x_a_length x_t_length x_t_token x_t_from x_t_value x_t_behind x_r_wants x_r_pairs x_r_sees x_r_row x_b_size x_s_size x_w_names x_w_goals x_w_links x_w_linked x_w_ups x_w_downs x_w_next x_a_begun x_t_bytes x_b_rows x_b_acts x_s_rows x_s_acts)) (by decide) rfl (Nat.le_of_ble_eq_true rfl) ?_
  intro p e s m args below meth c Q F E ret ls J hl
  have hx := F.1
  have hb := F.2.1
  have hl : lv_has ls 2 [(0, .ref (q 1)), (1, .int a0)] := hl
  refine lv_aload_n hx hb dX3_turnsOf_0 rfl (lv_at hl 0 rfl) ?_
  refine lv_iload_n hx hb dX3_turnsOf_1 rfl (lv_at hl 1 rfl) ?_
  refine lv_iload_n hx hb dX3_turnsOf_2 rfl (lv_at hl 1 rfl) ?_
  obtain ⟨p1, hp1, h⟩ := ob h
  refine onI (runV (As := [.int a0, .int a0]) (rest := []) F E J (c_X3_turnsBetween a0 a0 p1 hp1) cw_X3_40 ⟨rfl, rfl, Nat.le_of_ble_eq_true rfl, Nat.le_of_ble_eq_true rfl⟩ rcX1 rfl hl.1 rfl (Nat.le_of_ble_eq_true rfl) dX3_turnsOf_3) J (fun H locs J => ?_)
  obtain rfl := Option.some.inj h
  exact ret _ _ _ _ J dX3_turnsOf_6
set_option maxHeartbeats 4000000 in
set_option maxRecDepth 100000 in
theorem c_X3_mirrorsOf {l : Launch} {g : GG} {A : Nat → Prop} {q : Nat → Nat} {x_crowd x_latestFault x_places x_mask x_w_robots x_w_size x_w_nexts x_a_length x_t_length x_t_token x_t_from x_t_value x_t_behind x_r_wants x_r_pairs x_r_sees : Int32} {x_r_row : Int64} {x_b_size x_s_size : Int32} {x_w_names : Nat → Int32} {x_w_goals x_w_links : Nat → Int64} {x_w_linked x_w_ups x_w_downs x_w_next x_a_begun x_t_bytes : Nat → Int32} {x_b_rows : Nat → Int64} {x_b_acts : Nat → Int32} {x_s_rows : Nat → Int64} {x_s_acts : Nat → Int32} (a0 : Int32) (res : Int32) (h : F_X3_mirrorsOf a0 x_places x_mask = some res) : Met l yX3_mirrorsOf (wS yX3_mirrorsOf cX3_mirrorsOf 2 (some .int)) rm_X3_mirrorsOf (va_Pc [.ref (q 1), .int a0] (VB g A (XW g q x_crowd x_latestFault x_places x_mask x_w_robots x_w_size x_w_nexts x_a_length x_t_length x_t_token x_t_from x_t_value x_t_behind x_r_wants x_r_pairs x_r_sees x_r_row x_b_size x_s_size x_w_names x_w_goals x_w_links x_w_linked x_w_ups x_w_downs x_w_next x_a_begun x_t_bytes x_b_rows x_b_acts x_s_rows x_s_acts))) (va_Qi (fun r (_ : Unit) => r = res) (fun _ => VB g A (XW g q x_crowd x_latestFault x_places x_mask x_w_robots x_w_size x_w_nexts x_a_length x_t_length x_t_token x_t_from x_t_value x_t_behind x_r_wants x_r_pairs x_r_sees x_r_row x_b_size x_s_size x_w_names x_w_goals x_w_links x_w_linked x_w_ups x_w_downs x_w_next x_a_begun x_t_bytes x_b_rows x_b_acts x_s_rows x_s_acts)) A) 0 0 A := by
  unfold F_X3_mirrorsOf at h
  refine MetI (res := res) (own := RX3) (ws' := (XW g q x_crowd x_latestFault x_places x_mask x_w_robots x_w_size x_w_nexts x_a_length x_t_length x_t_token x_t_from x_t_value x_t_behind x_r_wants x_r_pairs x_r_sees x_r_row x_b_size x_s_size x_w_names x_w_goals x_w_links x_w_linked x_w_ups x_w_downs x_w_next x_a_begun x_t_bytes x_b_rows x_b_acts x_s_rows x_s_acts)) (by decide) rfl (Nat.le_of_ble_eq_true rfl) ?_
  intro p e s m args below meth c Q F E ret ls J hl
  have hx := F.1
  have hb := F.2.1
  have hl : lv_has ls 2 [(0, .ref (q 1)), (1, .int a0)] := hl
  refine lv_aload_n hx hb dX3_mirrorsOf_0 rfl (lv_at hl 0 rfl) ?_
  refine lv_aload_n hx hb dX3_mirrorsOf_1 rfl (lv_at hl 0 rfl) ?_
  refine lv_iload_n hx hb dX3_mirrorsOf_2 rfl (lv_at hl 1 rfl) ?_
  obtain ⟨p1, hp1, h⟩ := ob h
  refine onI (runV (As := [.int a0]) (rest := [.ref (q 1)]) F E J (c_X3_mirrored a0 p1 hp1) cw_X3_29 ⟨rfl, rfl, Nat.le_of_ble_eq_true rfl, Nat.le_of_ble_eq_true rfl⟩ rcX1 rfl hl.1 rfl (Nat.le_of_ble_eq_true rfl) dX3_mirrorsOf_3) J (fun H locs J => ?_)
  refine lv_iload_n hx hb dX3_mirrorsOf_6 rfl (lv_at hl 1 rfl) ?_
  obtain ⟨p2, hp2, h⟩ := ob h
  refine onI (runV (As := [.int p1, .int a0]) (rest := []) F E J (c_X3_turnsBetween p1 a0 p2 hp2) cw_X3_40 ⟨rfl, rfl, Nat.le_of_ble_eq_true rfl, Nat.le_of_ble_eq_true rfl⟩ rcX1 rfl hl.1 rfl (Nat.le_of_ble_eq_true rfl) dX3_mirrorsOf_7) J (fun H locs J => ?_)
  obtain rfl := Option.some.inj h
  exact ret _ _ _ _ J dX3_mirrorsOf_10
set_option maxHeartbeats 4000000 in
set_option maxRecDepth 100000 in
theorem c_X3_kindOf {l : Launch} {g : GG} {A : Nat → Prop} {q : Nat → Nat} {x_crowd x_latestFault x_places x_mask x_w_robots x_w_size x_w_nexts x_a_length x_t_length x_t_token x_t_from x_t_value x_t_behind x_r_wants x_r_pairs x_r_sees : Int32} {x_r_row : Int64} {x_b_size x_s_size : Int32} {x_w_names : Nat → Int32} {x_w_goals x_w_links : Nat → Int64} {x_w_linked x_w_ups x_w_downs x_w_next x_a_begun x_t_bytes : Nat → Int32} {x_b_rows : Nat → Int64} {x_b_acts : Nat → Int32} {x_s_rows : Nat → Int64} {x_s_acts : Nat → Int32} (a0 : Int32) (res : Int32) (h : F_X3_kindOf a0 x_places x_mask = some res) : Met l yX3_kindOf (wS yX3_kindOf cX3_kindOf 2 (some .int)) rm_X3_kindOf (va_Pc [.ref (q 1), .int a0] (VB g A (XW g q x_crowd x_latestFault x_places x_mask x_w_robots x_w_size x_w_nexts x_a_length x_t_length x_t_token x_t_from x_t_value x_t_behind x_r_wants x_r_pairs x_r_sees x_r_row x_b_size x_s_size x_w_names x_w_goals x_w_links x_w_linked x_w_ups x_w_downs x_w_next x_a_begun x_t_bytes x_b_rows x_b_acts x_s_rows x_s_acts))) (va_Qi (fun r (_ : Unit) => r = res) (fun _ => VB g A (XW g q x_crowd x_latestFault x_places x_mask x_w_robots x_w_size x_w_nexts x_a_length x_t_length x_t_token x_t_from x_t_value x_t_behind x_r_wants x_r_pairs x_r_sees x_r_row x_b_size x_s_size x_w_names x_w_goals x_w_links x_w_linked x_w_ups x_w_downs x_w_next x_a_begun x_t_bytes x_b_rows x_b_acts x_s_rows x_s_acts)) A) 0 0 A := by
  unfold F_X3_kindOf at h
  refine MetI (res := res) (own := RX3) (ws' := (XW g q x_crowd x_latestFault x_places x_mask x_w_robots x_w_size x_w_nexts x_a_length x_t_length x_t_token x_t_from x_t_value x_t_behind x_r_wants x_r_pairs x_r_sees x_r_row x_b_size x_s_size x_w_names x_w_goals x_w_links x_w_linked x_w_ups x_w_downs x_w_next x_a_begun x_t_bytes x_b_rows x_b_acts x_s_rows x_s_acts)) (by decide) rfl (Nat.le_of_ble_eq_true rfl) ?_
  intro p e s m args below meth c Q F E ret ls J hl
  have hx := F.1
  have hb := F.2.1
  have hl : lv_has ls 2 [(0, .ref (q 1)), (1, .int a0)] := hl
  refine lv_aload_n hx hb dX3_kindOf_0 rfl (lv_at hl 0 rfl) ?_
  refine lv_iload_n hx hb dX3_kindOf_1 rfl (lv_at hl 1 rfl) ?_
  obtain ⟨p1, hp1, h⟩ := ob h
  refine onI (runV (As := [.int a0]) (rest := []) F E J (c_X3_turnsOf a0 p1 hp1) cw_X3_43 ⟨rfl, rfl, Nat.le_of_ble_eq_true rfl, Nat.le_of_ble_eq_true rfl⟩ rcX1 rfl hl.1 rfl (Nat.le_of_ble_eq_true rfl) dX3_kindOf_2) J (fun H locs J => ?_)
  refine lv_iconst (v := 1) hx hb dX3_kindOf_5 (by decide) ?_
  refine lv_icmp_le (tgt := 11) hx hb dX3_kindOf_6 (by decide) (fun c2 => ?_) (fun c2 => ?_)
  · have h := itp c2 h
    refine lv_aload_n hx hb dX3_kindOf_11 rfl (lv_at hl 0 rfl) ?_
    refine lv_iload_n hx hb dX3_kindOf_12 rfl (lv_at hl 1 rfl) ?_
    obtain ⟨p3, hp3, h⟩ := ob h
    refine onI (runV (As := [.int a0]) (rest := []) F E J (c_X3_mirrorsOf a0 p3 hp3) cw_X3_46 ⟨rfl, rfl, Nat.le_of_ble_eq_true rfl, Nat.le_of_ble_eq_true rfl⟩ rcX1 rfl hl.1 rfl (Nat.le_of_ble_eq_true rfl) dX3_kindOf_13) J (fun H locs J => ?_)
    refine lv_if_le (tgt := 23) hx hb dX3_kindOf_16 (by decide) (fun c4 => ?_) (fun c4 => ?_)
    · have h := itp c4 h
      refine lv_iconst (v := 3) hx hb dX3_kindOf_23 (by decide) ?_
      obtain rfl := Option.some.inj h
      exact ret _ _ _ _ J dX3_kindOf_24
    · have h := itn c4 h
      refine lv_iconst (v := 1) hx hb dX3_kindOf_19 (by decide) ?_
      refine lv_goto (tgt := 24) hx hb dX3_kindOf_20 (by decide) ?_
      obtain rfl := Option.some.inj h
      exact ret _ _ _ _ J dX3_kindOf_24
  · have h := itn c2 h
    refine lv_iconst (v := 2) hx hb dX3_kindOf_9 (by decide) ?_
    obtain rfl := Option.some.inj h
    exact ret _ _ _ _ J dX3_kindOf_10
set_option maxHeartbeats 4000000 in
set_option maxRecDepth 100000 in
theorem c_X7_kind {l : Launch} {g : GG} {A : Nat → Prop} {q : Nat → Nat} {x_crowd x_latestFault x_places x_mask x_w_robots x_w_size x_w_nexts x_a_length x_t_length x_t_token x_t_from x_t_value x_t_behind x_r_wants x_r_pairs x_r_sees : Int32} {x_r_row : Int64} {x_b_size x_s_size : Int32} {x_w_names : Nat → Int32} {x_w_goals x_w_links : Nat → Int64} {x_w_linked x_w_ups x_w_downs x_w_next x_a_begun x_t_bytes : Nat → Int32} {x_b_rows : Nat → Int64} {x_b_acts : Nat → Int32} {x_s_rows : Nat → Int64} {x_s_acts : Nat → Int32} (res : Int32) (h : F_X7_kind x_crowd x_places x_mask = some res) : Met l yX7_kind (wS yX7_kind cX7_kind 1 (some .int)) rm_X7_kind (va_Pc [.ref (q 0)] (VB g A (XW g q x_crowd x_latestFault x_places x_mask x_w_robots x_w_size x_w_nexts x_a_length x_t_length x_t_token x_t_from x_t_value x_t_behind x_r_wants x_r_pairs x_r_sees x_r_row x_b_size x_s_size x_w_names x_w_goals x_w_links x_w_linked x_w_ups x_w_downs x_w_next x_a_begun x_t_bytes x_b_rows x_b_acts x_s_rows x_s_acts))) (va_Qi (fun r (_ : Unit) => r = res) (fun _ => VB g A (XW g q x_crowd x_latestFault x_places x_mask x_w_robots x_w_size x_w_nexts x_a_length x_t_length x_t_token x_t_from x_t_value x_t_behind x_r_wants x_r_pairs x_r_sees x_r_row x_b_size x_s_size x_w_names x_w_goals x_w_links x_w_linked x_w_ups x_w_downs x_w_next x_a_begun x_t_bytes x_b_rows x_b_acts x_s_rows x_s_acts)) A) 0 0 A := by
  unfold F_X7_kind at h
  refine MetI (res := res) (own := RX7) (ws' := (XW g q x_crowd x_latestFault x_places x_mask x_w_robots x_w_size x_w_nexts x_a_length x_t_length x_t_token x_t_from x_t_value x_t_behind x_r_wants x_r_pairs x_r_sees x_r_row x_b_size x_s_size x_w_names x_w_goals x_w_links x_w_linked x_w_ups x_w_downs x_w_next x_a_begun x_t_bytes x_b_rows x_b_acts x_s_rows x_s_acts)) (by decide) rfl (Nat.le_of_ble_eq_true rfl) ?_
  intro p e s m args below meth c Q F E ret ls J hl
  have hx := F.1
  have hb := F.2.1
  have hl : lv_has ls 1 [(0, .ref (q 0))] := hl
  refine lv_aload_n hx hb dX7_kind_0 rfl (lv_at hl 0 rfl) ?_
  refine xg_0_7 F E J fl_X7_69 dX7_kind_1 ?_
  refine lv_if_ne (tgt := 12) hx hb dX7_kind_4 (by decide) (fun c1 => ?_) (fun c1 => ?_)
  · have h := itn c1 h
    refine lv_aload_n hx hb dX7_kind_12 rfl (lv_at hl 0 rfl) ?_
    refine xg_0_0 F E J fl_X7_23 dX7_kind_13 ?_
    refine lv_aload_n hx hb dX7_kind_16 rfl (lv_at hl 0 rfl) ?_
    refine xg_0_7 F E J fl_X7_69 dX7_kind_17 ?_
    obtain ⟨p2, hp2, h⟩ := ob h
    refine onI (runV (As := [.int x_crowd]) (rest := []) F E J (c_X3_kindOf x_crowd p2 hp2) cw_X7_180 ⟨rfl, rfl, Nat.le_of_ble_eq_true rfl, Nat.le_of_ble_eq_true rfl⟩ rcX1 rfl hl.1 rfl (Nat.le_of_ble_eq_true rfl) dX7_kind_20) J (fun H locs J => ?_)
    obtain rfl := Option.some.inj h
    exact ret _ _ _ _ J dX7_kind_23
  · have h := itp c1 h
    refine lv_ldc hx hb F.2.2.2.1 (F.2.2.2.2 _ kc_X7_117) dX7_kind_7 ?_
    refine lv_goto (tgt := 23) hx hb dX7_kind_9 (by decide) ?_
    obtain rfl := Option.some.inj h
    exact ret _ _ _ _ J dX7_kind_23
set_option maxHeartbeats 4000000 in
set_option maxRecDepth 100000 in
theorem c_X7_as {l : Launch} {g : GG} {A : Nat → Prop} {q : Nat → Nat} {x_crowd x_latestFault x_places x_mask x_w_robots x_w_size x_w_nexts x_a_length x_t_length x_t_token x_t_from x_t_value x_t_behind x_r_wants x_r_pairs x_r_sees : Int32} {x_r_row : Int64} {x_b_size x_s_size : Int32} {x_w_names : Nat → Int32} {x_w_goals x_w_links : Nat → Int64} {x_w_linked x_w_ups x_w_downs x_w_next x_a_begun x_t_bytes : Nat → Int32} {x_b_rows : Nat → Int64} {x_b_acts : Nat → Int32} {x_s_rows : Nat → Int64} {x_s_acts : Nat → Int32} (a0 : Int32) (res : Int32) (h : F_X7_as a0 x_crowd x_places x_mask = some res) : Met l yX7_as (wS yX7_as cX7_as 2 (some .int)) rm_X7_as (va_Pc [.ref (q 0), .int a0] (VB g A (XW g q x_crowd x_latestFault x_places x_mask x_w_robots x_w_size x_w_nexts x_a_length x_t_length x_t_token x_t_from x_t_value x_t_behind x_r_wants x_r_pairs x_r_sees x_r_row x_b_size x_s_size x_w_names x_w_goals x_w_links x_w_linked x_w_ups x_w_downs x_w_next x_a_begun x_t_bytes x_b_rows x_b_acts x_s_rows x_s_acts))) (va_Qi (fun r (_ : Unit) => r = res) (fun _ => VB g A (XW g q x_crowd x_latestFault x_places x_mask x_w_robots x_w_size x_w_nexts x_a_length x_t_length x_t_token x_t_from x_t_value x_t_behind x_r_wants x_r_pairs x_r_sees x_r_row x_b_size x_s_size x_w_names x_w_goals x_w_links x_w_linked x_w_ups x_w_downs x_w_next x_a_begun x_t_bytes x_b_rows x_b_acts x_s_rows x_s_acts)) A) 0 0 A := by
  unfold F_X7_as at h
  refine MetI (res := res) (own := RX7) (ws' := (XW g q x_crowd x_latestFault x_places x_mask x_w_robots x_w_size x_w_nexts x_a_length x_t_length x_t_token x_t_from x_t_value x_t_behind x_r_wants x_r_pairs x_r_sees x_r_row x_b_size x_s_size x_w_names x_w_goals x_w_links x_w_linked x_w_ups x_w_downs x_w_next x_a_begun x_t_bytes x_b_rows x_b_acts x_s_rows x_s_acts)) (by decide) rfl (Nat.le_of_ble_eq_true rfl) ?_
  intro p e s m args below meth c Q F E ret ls J hl
  have hx := F.1
  have hb := F.2.1
  have hl : lv_has ls 2 [(0, .ref (q 0)), (1, .int a0)] := hl
  refine lv_iload_n hx hb dX7_as_0 rfl (lv_at hl 1 rfl) ?_
  refine lv_iconst (v := 4) hx hb dX7_as_1 (by decide) ?_
  obtain ⟨p1, hp1, h⟩ := ob h
  refine onZ (runS (As := [.int a0, .int 4]) (rest := []) F E J (c_X7_outside a0 4 p1 hp1) cw_X7_110 ⟨rfl, rfl, Nat.le_of_ble_eq_true rfl, Nat.le_of_ble_eq_true rfl⟩ rfl hl.1 rfl (Nat.le_of_ble_eq_true rfl) dX7_as_2) J (fun hzbp1 H locs J => ?_)
  refine lv_if_eq (tgt := 11) hx hb dX7_as_5 (by decide) (fun c2 => ?_) (fun c2 => ?_)
  · have h := itp c2 h
    refine lv_aload_n hx hb dX7_as_11 rfl (lv_at hl 0 rfl) ?_
    refine xg_0_7 F E J fl_X7_69 dX7_as_12 ?_
    refine lv_if_ne (tgt := 21) hx hb dX7_as_15 (by decide) (fun c3 => ?_) (fun c3 => ?_)
    · have h := itn c3 h
      refine lv_iload_n hx hb dX7_as_21 rfl (lv_at hl 1 rfl) ?_
      refine lv_if_eq (tgt := 40) hx hb dX7_as_22 (by decide) (fun c4 => ?_) (fun c4 => ?_)
      · have h := itp c4 h
        refine lv_aload_n hx hb dX7_as_40 rfl (lv_at hl 0 rfl) ?_
        refine xg_0_0 F E J fl_X7_23 dX7_as_41 ?_
        refine lv_aload_n hx hb dX7_as_44 rfl (lv_at hl 0 rfl) ?_
        refine xg_0_7 F E J fl_X7_69 dX7_as_45 ?_
        obtain ⟨p5, hp5, h⟩ := ob h
        refine onI (runV (As := [.int x_crowd]) (rest := []) F E J (c_X3_robotsIn x_crowd p5 hp5) cw_X7_81 ⟨rfl, rfl, Nat.le_of_ble_eq_true rfl, Nat.le_of_ble_eq_true rfl⟩ rcX1 rfl hl.1 rfl (Nat.le_of_ble_eq_true rfl) dX7_as_48) J (fun H locs J => ?_)
        refine lv_goto (tgt := 56) hx hb dX7_as_51 (by decide) ?_
        obtain rfl := Option.some.inj h
        exact ret _ _ _ _ J dX7_as_56
      · have h := itn c4 h
        refine lv_iload_n hx hb dX7_as_25 rfl (lv_at hl 1 rfl) ?_
        refine lv_aload_n hx hb dX7_as_26 rfl (lv_at hl 0 rfl) ?_
        refine xg_0_0 F E J fl_X7_23 dX7_as_27 ?_
        refine lv_aload_n hx hb dX7_as_30 rfl (lv_at hl 0 rfl) ?_
        refine xg_0_7 F E J fl_X7_69 dX7_as_31 ?_
        obtain ⟨p6, hp6, h⟩ := ob h
        refine onI (runV (As := [.int x_crowd]) (rest := [.int a0]) F E J (c_X3_kindOf x_crowd p6 hp6) cw_X7_180 ⟨rfl, rfl, Nat.le_of_ble_eq_true rfl, Nat.le_of_ble_eq_true rfl⟩ rcX1 rfl hl.1 rfl (Nat.le_of_ble_eq_true rfl) dX7_as_34) J (fun H locs J => ?_)
        refine lv_icmp_ne (tgt := 54) hx hb dX7_as_37 (by decide) (fun c7 => ?_) (fun c7 => ?_)
        · have h := itn c7 h
          refine lv_ldc hx hb F.2.2.2.1 (F.2.2.2.2 _ kc_X7_183) dX7_as_54 ?_
          obtain rfl := Option.some.inj h
          exact ret _ _ _ _ J dX7_as_56
        · have h := itp c7 h
          refine lv_aload_n hx hb dX7_as_40 rfl (lv_at hl 0 rfl) ?_
          refine xg_0_0 F E J fl_X7_23 dX7_as_41 ?_
          refine lv_aload_n hx hb dX7_as_44 rfl (lv_at hl 0 rfl) ?_
          refine xg_0_7 F E J fl_X7_69 dX7_as_45 ?_
          obtain ⟨p8, hp8, h⟩ := ob h
          refine onI (runV (As := [.int x_crowd]) (rest := []) F E J (c_X3_robotsIn x_crowd p8 hp8) cw_X7_81 ⟨rfl, rfl, Nat.le_of_ble_eq_true rfl, Nat.le_of_ble_eq_true rfl⟩ rcX1 rfl hl.1 rfl (Nat.le_of_ble_eq_true rfl) dX7_as_48) J (fun H locs J => ?_)
          refine lv_goto (tgt := 56) hx hb dX7_as_51 (by decide) ?_
          obtain rfl := Option.some.inj h
          exact ret _ _ _ _ J dX7_as_56
    · have h := itp c3 h
      refine lv_ldc hx hb F.2.2.2.1 (F.2.2.2.2 _ kc_X7_117) dX7_as_18 ?_
      obtain rfl := Option.some.inj h
      exact ret _ _ _ _ J dX7_as_20
  · have h := itn c2 h
    refine lv_ldc hx hb F.2.2.2.1 (F.2.2.2.2 _ kc_X7_80) dX7_as_8 ?_
    obtain rfl := Option.some.inj h
    exact ret _ _ _ _ J dX7_as_10
set_option maxHeartbeats 4000000 in
set_option maxRecDepth 100000 in
theorem c_X0_begin {l : Launch} {g : GG} {A : Nat → Prop} {q : Nat → Nat} {x_crowd x_latestFault x_places x_mask x_w_robots x_w_size x_w_nexts x_a_length x_t_length x_t_token x_t_from x_t_value x_t_behind x_r_wants x_r_pairs x_r_sees : Int32} {x_r_row : Int64} {x_b_size x_s_size : Int32} {x_w_names : Nat → Int32} {x_w_goals x_w_links : Nat → Int64} {x_w_linked x_w_ups x_w_downs x_w_next x_a_begun x_t_bytes : Nat → Int32} {x_b_rows : Nat → Int64} {x_b_acts : Nat → Int32} {x_s_rows : Nat → Int64} {x_s_acts : Nat → Int32} (a0 : Int32) (res : Int32 × (Nat → Int32)) (h : F_X0_begin a0 x_a_length x_a_begun = some res) : Met l yX0_begin (wS yX0_begin cX0_begin 2 none) rm_X0_begin (va_Pc [.ref (q 3), .int a0] (VB g A (XW g q x_crowd x_latestFault x_places x_mask x_w_robots x_w_size x_w_nexts x_a_length x_t_length x_t_token x_t_from x_t_value x_t_behind x_r_wants x_r_pairs x_r_sees x_r_row x_b_size x_s_size x_w_names x_w_goals x_w_links x_w_linked x_w_ups x_w_downs x_w_next x_a_begun x_t_bytes x_b_rows x_b_acts x_s_rows x_s_acts))) (va_Qv (fun (_ : Unit) => True) (fun _ => VB g A (XW g q x_crowd x_latestFault x_places x_mask x_w_robots x_w_size x_w_nexts res.1 x_t_length x_t_token x_t_from x_t_value x_t_behind x_r_wants x_r_pairs x_r_sees x_r_row x_b_size x_s_size x_w_names x_w_goals x_w_links x_w_linked x_w_ups x_w_downs x_w_next res.2 x_t_bytes x_b_rows x_b_acts x_s_rows x_s_acts)) A) 0 0 A := by
  unfold F_X0_begin at h
  refine MetV (own := RX0) (ws' := (XW g q x_crowd x_latestFault x_places x_mask x_w_robots x_w_size x_w_nexts res.1 x_t_length x_t_token x_t_from x_t_value x_t_behind x_r_wants x_r_pairs x_r_sees x_r_row x_b_size x_s_size x_w_names x_w_goals x_w_links x_w_linked x_w_ups x_w_downs x_w_next res.2 x_t_bytes x_b_rows x_b_acts x_s_rows x_s_acts)) (by decide) rfl (Nat.le_of_ble_eq_true rfl) ?_
  intro p e s m args below meth c Q F E ret ls J hl
  have hx := F.1
  have hb := F.2.1
  have hl : lv_has ls 2 [(0, .ref (q 3)), (1, .int a0)] := hl
  refine lv_aload_n hx hb dX0_begin_0 rfl (lv_at hl 0 rfl) ?_
  refine xg_3_2 F E J fl_X0_15 dX0_begin_1 ?_
  refine lv_bipush (v := 16) hx hb dX0_begin_4 (by decide) ?_
  refine lv_icmp_ge (tgt := 29) hx hb dX0_begin_6 (by decide) (fun c1 => ?_) (fun c1 => ?_)
  · have h := itp c1 h
    obtain rfl := Option.some.inj h
    exact ret _ _ _ _ J dX0_begin_29
  · have h := itn c1 h
    refine lv_aload_n hx hb dX0_begin_9 rfl (lv_at hl 0 rfl) ?_
    refine xg_3_1 F E J fl_X0_9 dX0_begin_10 ?_
    refine lv_aload_n hx hb dX0_begin_13 rfl (lv_at hl 0 rfl) ?_
    refine xg_3_2 F E J fl_X0_15 dX0_begin_14 ?_
    refine lv_iload_n hx hb dX0_begin_17 rfl (lv_at hl 1 rfl) ?_
    obtain ⟨hi, h⟩ := gdt h
    refine xs_15 F E J (inbt hi) dX0_begin_18 (fun H locs J => ?_)
    refine lv_aload_n hx hb dX0_begin_19 rfl (lv_at hl 0 rfl) ?_
    refine lv_dup hx hb dX0_begin_20 rfl ?_
    refine xg_3_2 F E J fl_X0_15 dX0_begin_21 ?_
    refine lv_iconst (v := 1) hx hb dX0_begin_24 (by decide) ?_
    refine lv_iadd hx hb dX0_begin_25 ?_
    obtain ⟨v2, hv2, h⟩ := obs h
    refine nmI hv2 ?_
    refine xp_3_2 F E J fl_X0_15 dX0_begin_26 (fun H locs J => ?_)
    obtain rfl := Option.some.inj h
    exact ret _ _ _ _ J dX0_begin_29
set_option maxHeartbeats 4000000 in
set_option maxRecDepth 100000 in
theorem c_X0_lentMark {l : Launch} {g : GG} {A : Nat → Prop} {q : Nat → Nat} {x_crowd x_latestFault x_places x_mask x_w_robots x_w_size x_w_nexts x_a_length x_t_length x_t_token x_t_from x_t_value x_t_behind x_r_wants x_r_pairs x_r_sees : Int32} {x_r_row : Int64} {x_b_size x_s_size : Int32} {x_w_names : Nat → Int32} {x_w_goals x_w_links : Nat → Int64} {x_w_linked x_w_ups x_w_downs x_w_next x_a_begun x_t_bytes : Nat → Int32} {x_b_rows : Nat → Int64} {x_b_acts : Nat → Int32} {x_s_rows : Nat → Int64} {x_s_acts : Nat → Int32} (a0 : Int32) (res : Int32 × Int32 × (Nat → Int32)) (h : F_X0_lentMark a0 x_places x_a_length x_a_begun = some res) : Met l yX0_lentMark (wS yX0_lentMark cX0_lentMark 2 (some .int)) rm_X0_lentMark (va_Pc [.ref (q 3), .int a0] (VB g A (XW g q x_crowd x_latestFault x_places x_mask x_w_robots x_w_size x_w_nexts x_a_length x_t_length x_t_token x_t_from x_t_value x_t_behind x_r_wants x_r_pairs x_r_sees x_r_row x_b_size x_s_size x_w_names x_w_goals x_w_links x_w_linked x_w_ups x_w_downs x_w_next x_a_begun x_t_bytes x_b_rows x_b_acts x_s_rows x_s_acts))) (va_Qi (fun r (_ : Unit) => r = res.1) (fun _ => VB g A (XW g q x_crowd x_latestFault x_places x_mask x_w_robots x_w_size x_w_nexts res.2.1 x_t_length x_t_token x_t_from x_t_value x_t_behind x_r_wants x_r_pairs x_r_sees x_r_row x_b_size x_s_size x_w_names x_w_goals x_w_links x_w_linked x_w_ups x_w_downs x_w_next res.2.2 x_t_bytes x_b_rows x_b_acts x_s_rows x_s_acts)) A) 0 0 A := by
  unfold F_X0_lentMark at h
  refine MetI (res := res.1) (own := RX0) (ws' := (XW g q x_crowd x_latestFault x_places x_mask x_w_robots x_w_size x_w_nexts res.2.1 x_t_length x_t_token x_t_from x_t_value x_t_behind x_r_wants x_r_pairs x_r_sees x_r_row x_b_size x_s_size x_w_names x_w_goals x_w_links x_w_linked x_w_ups x_w_downs x_w_next res.2.2 x_t_bytes x_b_rows x_b_acts x_s_rows x_s_acts)) (by decide) rfl (Nat.le_of_ble_eq_true rfl) ?_
  intro p e s m args below meth c Q F E ret ls J hl
  have hx := F.1
  have hb := F.2.1
  have hl : lv_has ls 2 [(0, .ref (q 3)), (1, .int a0)] := hl
  refine lv_aload_n hx hb dX0_lentMark_0 rfl (lv_at hl 0 rfl) ?_
  refine lv_bipush (v := 20) hx hb dX0_lentMark_1 (by decide) ?_
  obtain ⟨p1, hp1, h⟩ := ob h
  refine onV (runV (As := [.int 20]) (rest := []) F E J (c_X0_begin 20 p1 hp1) cw_X0_40 ⟨rfl, rfl, Nat.le_of_ble_eq_true rfl, Nat.le_of_ble_eq_true rfl⟩ rcX3 rfl hl.1 rfl (Nat.le_of_ble_eq_true rfl) dX0_lentMark_3) J (fun H locs J => ?_)
  refine lv_aload_n hx hb dX0_lentMark_6 rfl (lv_at hl 0 rfl) ?_
  refine xg_3_0 F E J fl_X0_19 dX0_lentMark_7 ?_
  refine lv_iload_n hx hb dX0_lentMark_10 rfl (lv_at hl 1 rfl) ?_
  obtain ⟨p2, hp2, h⟩ := ob h
  refine onI (runV (As := [.int a0]) (rest := []) F E J (c_X3_takenIn a0 p2 hp2) cw_X0_59 ⟨rfl, rfl, Nat.le_of_ble_eq_true rfl, Nat.le_of_ble_eq_true rfl⟩ rcX1 rfl hl.1 rfl (Nat.le_of_ble_eq_true rfl) dX0_lentMark_11) J (fun H locs J => ?_)
  obtain rfl := Option.some.inj h
  exact ret _ _ _ _ J dX0_lentMark_14
set_option maxHeartbeats 4000000 in
set_option maxRecDepth 100000 in
theorem c_X0_lentSize {l : Launch} {g : GG} {A : Nat → Prop} {q : Nat → Nat} {x_crowd x_latestFault x_places x_mask x_w_robots x_w_size x_w_nexts x_a_length x_t_length x_t_token x_t_from x_t_value x_t_behind x_r_wants x_r_pairs x_r_sees : Int32} {x_r_row : Int64} {x_b_size x_s_size : Int32} {x_w_names : Nat → Int32} {x_w_goals x_w_links : Nat → Int64} {x_w_linked x_w_ups x_w_downs x_w_next x_a_begun x_t_bytes : Nat → Int32} {x_b_rows : Nat → Int64} {x_b_acts : Nat → Int32} {x_s_rows : Nat → Int64} {x_s_acts : Nat → Int32} (a0 : Int32) (res : Int32 × Int32 × (Nat → Int32)) (h : F_X0_lentSize a0 x_places x_a_length x_a_begun = some res) : Met l yX0_lentSize (wS yX0_lentSize cX0_lentSize 2 (some .int)) rm_X0_lentSize (va_Pc [.ref (q 3), .int a0] (VB g A (XW g q x_crowd x_latestFault x_places x_mask x_w_robots x_w_size x_w_nexts x_a_length x_t_length x_t_token x_t_from x_t_value x_t_behind x_r_wants x_r_pairs x_r_sees x_r_row x_b_size x_s_size x_w_names x_w_goals x_w_links x_w_linked x_w_ups x_w_downs x_w_next x_a_begun x_t_bytes x_b_rows x_b_acts x_s_rows x_s_acts))) (va_Qi (fun r (_ : Unit) => r = res.1) (fun _ => VB g A (XW g q x_crowd x_latestFault x_places x_mask x_w_robots x_w_size x_w_nexts res.2.1 x_t_length x_t_token x_t_from x_t_value x_t_behind x_r_wants x_r_pairs x_r_sees x_r_row x_b_size x_s_size x_w_names x_w_goals x_w_links x_w_linked x_w_ups x_w_downs x_w_next res.2.2 x_t_bytes x_b_rows x_b_acts x_s_rows x_s_acts)) A) 0 0 A := by
  unfold F_X0_lentSize at h
  refine MetI (res := res.1) (own := RX0) (ws' := (XW g q x_crowd x_latestFault x_places x_mask x_w_robots x_w_size x_w_nexts res.2.1 x_t_length x_t_token x_t_from x_t_value x_t_behind x_r_wants x_r_pairs x_r_sees x_r_row x_b_size x_s_size x_w_names x_w_goals x_w_links x_w_linked x_w_ups x_w_downs x_w_next res.2.2 x_t_bytes x_b_rows x_b_acts x_s_rows x_s_acts)) (by decide) rfl (Nat.le_of_ble_eq_true rfl) ?_
  intro p e s m args below meth c Q F E ret ls J hl
  have hx := F.1
  have hb := F.2.1
  have hl : lv_has ls 2 [(0, .ref (q 3)), (1, .int a0)] := hl
  refine lv_aload_n hx hb dX0_lentSize_0 rfl (lv_at hl 0 rfl) ?_
  refine lv_bipush (v := 10) hx hb dX0_lentSize_1 (by decide) ?_
  obtain ⟨p1, hp1, h⟩ := ob h
  refine onV (runV (As := [.int 10]) (rest := []) F E J (c_X0_begin 10 p1 hp1) cw_X0_40 ⟨rfl, rfl, Nat.le_of_ble_eq_true rfl, Nat.le_of_ble_eq_true rfl⟩ rcX3 rfl hl.1 rfl (Nat.le_of_ble_eq_true rfl) dX0_lentSize_3) J (fun H locs J => ?_)
  refine lv_aload_n hx hb dX0_lentSize_6 rfl (lv_at hl 0 rfl) ?_
  refine xg_3_0 F E J fl_X0_19 dX0_lentSize_7 ?_
  refine lv_iload_n hx hb dX0_lentSize_10 rfl (lv_at hl 1 rfl) ?_
  obtain ⟨p2, hp2, h⟩ := ob h
  refine onI (runV (As := [.int a0]) (rest := []) F E J (c_X3_robotsIn a0 p2 hp2) cw_X0_53 ⟨rfl, rfl, Nat.le_of_ble_eq_true rfl, Nat.le_of_ble_eq_true rfl⟩ rcX1 rfl hl.1 rfl (Nat.le_of_ble_eq_true rfl) dX0_lentSize_11) J (fun H locs J => ?_)
  obtain rfl := Option.some.inj h
  exact ret _ _ _ _ J dX0_lentSize_14
set_option maxHeartbeats 4000000 in
set_option maxRecDepth 100000 in
theorem c_X0_sizeOf {l : Launch} {g : GG} {A : Nat → Prop} {q : Nat → Nat} {x_crowd x_latestFault x_places x_mask x_w_robots x_w_size x_w_nexts x_a_length x_t_length x_t_token x_t_from x_t_value x_t_behind x_r_wants x_r_pairs x_r_sees : Int32} {x_r_row : Int64} {x_b_size x_s_size : Int32} {x_w_names : Nat → Int32} {x_w_goals x_w_links : Nat → Int64} {x_w_linked x_w_ups x_w_downs x_w_next x_a_begun x_t_bytes : Nat → Int32} {x_b_rows : Nat → Int64} {x_b_acts : Nat → Int32} {x_s_rows : Nat → Int64} {x_s_acts : Nat → Int32} (a0 : Int32) (res : Int32 × Int32 × (Nat → Int32)) (h : F_X0_sizeOf a0 x_places x_mask x_a_length x_a_begun = some res) : Met l yX0_sizeOf (wS yX0_sizeOf cX0_sizeOf 2 (some .int)) rm_X0_sizeOf (va_Pc [.ref (q 3), .int a0] (VB g A (XW g q x_crowd x_latestFault x_places x_mask x_w_robots x_w_size x_w_nexts x_a_length x_t_length x_t_token x_t_from x_t_value x_t_behind x_r_wants x_r_pairs x_r_sees x_r_row x_b_size x_s_size x_w_names x_w_goals x_w_links x_w_linked x_w_ups x_w_downs x_w_next x_a_begun x_t_bytes x_b_rows x_b_acts x_s_rows x_s_acts))) (va_Qi (fun r (_ : Unit) => r = res.1) (fun _ => VB g A (XW g q x_crowd x_latestFault x_places x_mask x_w_robots x_w_size x_w_nexts res.2.1 x_t_length x_t_token x_t_from x_t_value x_t_behind x_r_wants x_r_pairs x_r_sees x_r_row x_b_size x_s_size x_w_names x_w_goals x_w_links x_w_linked x_w_ups x_w_downs x_w_next res.2.2 x_t_bytes x_b_rows x_b_acts x_s_rows x_s_acts)) A) 0 0 A := by
  unfold F_X0_sizeOf at h
  refine MetI (res := res.1) (own := RX0) (ws' := (XW g q x_crowd x_latestFault x_places x_mask x_w_robots x_w_size x_w_nexts res.2.1 x_t_length x_t_token x_t_from x_t_value x_t_behind x_r_wants x_r_pairs x_r_sees x_r_row x_b_size x_s_size x_w_names x_w_goals x_w_links x_w_linked x_w_ups x_w_downs x_w_next res.2.2 x_t_bytes x_b_rows x_b_acts x_s_rows x_s_acts)) (by decide) rfl (Nat.le_of_ble_eq_true rfl) ?_
  intro p e s m args below meth c Q F E ret ls J hl
  have hx := F.1
  have hb := F.2.1
  have hl : lv_has ls 2 [(0, .ref (q 3)), (1, .int a0)] := hl
  refine lv_aload_n hx hb dX0_sizeOf_0 rfl (lv_at hl 0 rfl) ?_
  refine xg_3_0 F E J fl_X0_19 dX0_sizeOf_1 ?_
  refine lv_iload_n hx hb dX0_sizeOf_4 rfl (lv_at hl 1 rfl) ?_
  obtain ⟨p1, hp1, h⟩ := ob h
  refine onI (runV (As := [.int a0]) (rest := []) F E J (c_X3_kindOf a0 p1 hp1) cw_X0_35 ⟨rfl, rfl, Nat.le_of_ble_eq_true rfl, Nat.le_of_ble_eq_true rfl⟩ rcX1 rfl hl.1 rfl (Nat.le_of_ble_eq_true rfl) dX0_sizeOf_5) J (fun H locs J => ?_)
  by_cases c2 : p1 = (1 : Int32)
  · have h := itp c2 h
    refine lv_tableIn (tgt := 36) (off := 28) hx hb dX0_sizeOf_8 (by rw [c2]; decide) (by rw [c2]; decide) (by rw [c2]; rfl) (by decide) ?_
    refine lv_aload_n hx hb dX0_sizeOf_36 rfl (lv_at hl 0 rfl) ?_
    refine lv_bipush (v := 11) hx hb dX0_sizeOf_37 (by decide) ?_
    obtain ⟨p3, hp3, h⟩ := ob h
    refine onV (runV (As := [.int 11]) (rest := []) F E J (c_X0_begin 11 p3 hp3) cw_X0_40 ⟨rfl, rfl, Nat.le_of_ble_eq_true rfl, Nat.le_of_ble_eq_true rfl⟩ rcX3 rfl hl.1 rfl (Nat.le_of_ble_eq_true rfl) dX0_sizeOf_39) J (fun H locs J => ?_)
    refine lv_aload_n hx hb dX0_sizeOf_42 rfl (lv_at hl 0 rfl) ?_
    refine lv_iload_n hx hb dX0_sizeOf_43 rfl (lv_at hl 1 rfl) ?_
    obtain ⟨p4, hp4, h⟩ := ob h
    refine onI (runV (As := [.int a0]) (rest := []) F E J (c_X0_lentSize a0 p4 hp4) cw_X0_44 ⟨rfl, rfl, Nat.le_of_ble_eq_true rfl, Nat.le_of_ble_eq_true rfl⟩ rcX3 rfl hl.1 rfl (Nat.le_of_ble_eq_true rfl) dX0_sizeOf_44) J (fun H locs J => ?_)
    refine lv_aload_n hx hb dX0_sizeOf_47 rfl (lv_at hl 0 rfl) ?_
    refine xg_3_0 F E J fl_X0_19 dX0_sizeOf_48 ?_
    refine xgN_1_0 (host := RX7) F E J (by decide +kernel) dX0_sizeOf_51 ?_
    refine lv_iadd hx hb dX0_sizeOf_54 ?_
    obtain rfl := Option.some.inj h
    exact ret _ _ _ _ J dX0_sizeOf_55
  · have h := itn c2 h
    by_cases c5 : p1 = (2 : Int32)
    · have h := itp c5 h
      refine lv_tableIn (tgt := 56) (off := 48) hx hb dX0_sizeOf_8 (by rw [c5]; decide) (by rw [c5]; decide) (by rw [c5]; rfl) (by decide) ?_
      refine lv_aload_n hx hb dX0_sizeOf_56 rfl (lv_at hl 0 rfl) ?_
      refine lv_bipush (v := 12) hx hb dX0_sizeOf_57 (by decide) ?_
      obtain ⟨p6, hp6, h⟩ := ob h
      refine onV (runV (As := [.int 12]) (rest := []) F E J (c_X0_begin 12 p6 hp6) cw_X0_40 ⟨rfl, rfl, Nat.le_of_ble_eq_true rfl, Nat.le_of_ble_eq_true rfl⟩ rcX3 rfl hl.1 rfl (Nat.le_of_ble_eq_true rfl) dX0_sizeOf_59) J (fun H locs J => ?_)
      refine lv_aload_n hx hb dX0_sizeOf_62 rfl (lv_at hl 0 rfl) ?_
      refine lv_iload_n hx hb dX0_sizeOf_63 rfl (lv_at hl 1 rfl) ?_
      obtain ⟨p7, hp7, h⟩ := ob h
      refine onI (runV (As := [.int a0]) (rest := []) F E J (c_X0_lentSize a0 p7 hp7) cw_X0_44 ⟨rfl, rfl, Nat.le_of_ble_eq_true rfl, Nat.le_of_ble_eq_true rfl⟩ rcX3 rfl hl.1 rfl (Nat.le_of_ble_eq_true rfl) dX0_sizeOf_64) J (fun H locs J => ?_)
      refine lv_aload_n hx hb dX0_sizeOf_67 rfl (lv_at hl 0 rfl) ?_
      refine xg_3_0 F E J fl_X0_19 dX0_sizeOf_68 ?_
      refine lv_iload_n hx hb dX0_sizeOf_71 rfl (lv_at hl 1 rfl) ?_
      obtain ⟨p8, hp8, h⟩ := ob h
      refine onI (runV (As := [.int a0]) (rest := [.int p7.1]) F E J (c_X3_turnsOf a0 p8 hp8) cw_X0_50 ⟨rfl, rfl, Nat.le_of_ble_eq_true rfl, Nat.le_of_ble_eq_true rfl⟩ rcX1 rfl hl.1 rfl (Nat.le_of_ble_eq_true rfl) dX0_sizeOf_72) J (fun H locs J => ?_)
      refine lv_iadd hx hb dX0_sizeOf_75 ?_
      obtain rfl := Option.some.inj h
      exact ret _ _ _ _ J dX0_sizeOf_76
    · have h := itn c5 h
      by_cases c9 : p1 = (3 : Int32)
      · have h := itp c9 h
        refine lv_tableIn (tgt := 77) (off := 69) hx hb dX0_sizeOf_8 (by rw [c9]; decide) (by rw [c9]; decide) (by rw [c9]; rfl) (by decide) ?_
        refine lv_aload_n hx hb dX0_sizeOf_77 rfl (lv_at hl 0 rfl) ?_
        refine lv_bipush (v := 13) hx hb dX0_sizeOf_78 (by decide) ?_
        obtain ⟨p10, hp10, h⟩ := ob h
        refine onV (runV (As := [.int 13]) (rest := []) F E J (c_X0_begin 13 p10 hp10) cw_X0_40 ⟨rfl, rfl, Nat.le_of_ble_eq_true rfl, Nat.le_of_ble_eq_true rfl⟩ rcX3 rfl hl.1 rfl (Nat.le_of_ble_eq_true rfl) dX0_sizeOf_80) J (fun H locs J => ?_)
        refine lv_iconst (v := 2) hx hb dX0_sizeOf_83 (by decide) ?_
        refine lv_aload_n hx hb dX0_sizeOf_84 rfl (lv_at hl 0 rfl) ?_
        refine lv_iload_n hx hb dX0_sizeOf_85 rfl (lv_at hl 1 rfl) ?_
        obtain ⟨p11, hp11, h⟩ := ob h
        refine onI (runV (As := [.int a0]) (rest := [.int 2]) F E J (c_X0_lentSize a0 p11 hp11) cw_X0_44 ⟨rfl, rfl, Nat.le_of_ble_eq_true rfl, Nat.le_of_ble_eq_true rfl⟩ rcX3 rfl hl.1 rfl (Nat.le_of_ble_eq_true rfl) dX0_sizeOf_86) J (fun H locs J => ?_)
        refine lv_imul hx hb dX0_sizeOf_89 ?_
        obtain rfl := Option.some.inj h
        exact ret _ _ _ _ J dX0_sizeOf_90
      · have h := itn c9 h
        refine lv_tableOut (tgt := 91) hx hb dX0_sizeOf_8 (by have a0 := lv_neT (a := 1) c2 rfl; have a1 := lv_neT (a := 2) c5 rfl; have a2 := lv_neT (a := 3) c9 rfl; omega) (by decide) ?_
        refine lv_aload_n hx hb dX0_sizeOf_91 rfl (lv_at hl 0 rfl) ?_
        refine lv_iload_n hx hb dX0_sizeOf_92 rfl (lv_at hl 1 rfl) ?_
        obtain ⟨p12, hp12, h⟩ := ob h
        refine onI (runV (As := [.int a0]) (rest := []) F E J (c_X0_lentSize a0 p12 hp12) cw_X0_44 ⟨rfl, rfl, Nat.le_of_ble_eq_true rfl, Nat.le_of_ble_eq_true rfl⟩ rcX3 rfl hl.1 rfl (Nat.le_of_ble_eq_true rfl) dX0_sizeOf_93) J (fun H locs J => ?_)
        obtain rfl := Option.some.inj h
        exact ret _ _ _ _ J dX0_sizeOf_96
set_option maxHeartbeats 4000000 in
set_option maxRecDepth 100000 in
theorem c_X0_markOf {l : Launch} {g : GG} {A : Nat → Prop} {q : Nat → Nat} {x_crowd x_latestFault x_places x_mask x_w_robots x_w_size x_w_nexts x_a_length x_t_length x_t_token x_t_from x_t_value x_t_behind x_r_wants x_r_pairs x_r_sees : Int32} {x_r_row : Int64} {x_b_size x_s_size : Int32} {x_w_names : Nat → Int32} {x_w_goals x_w_links : Nat → Int64} {x_w_linked x_w_ups x_w_downs x_w_next x_a_begun x_t_bytes : Nat → Int32} {x_b_rows : Nat → Int64} {x_b_acts : Nat → Int32} {x_s_rows : Nat → Int64} {x_s_acts : Nat → Int32} (a0 : Int32) (res : Int32 × Int32 × (Nat → Int32)) (h : F_X0_markOf a0 x_places x_mask x_a_length x_a_begun = some res) : Met l yX0_markOf (wS yX0_markOf cX0_markOf 2 (some .int)) rm_X0_markOf (va_Pc [.ref (q 3), .int a0] (VB g A (XW g q x_crowd x_latestFault x_places x_mask x_w_robots x_w_size x_w_nexts x_a_length x_t_length x_t_token x_t_from x_t_value x_t_behind x_r_wants x_r_pairs x_r_sees x_r_row x_b_size x_s_size x_w_names x_w_goals x_w_links x_w_linked x_w_ups x_w_downs x_w_next x_a_begun x_t_bytes x_b_rows x_b_acts x_s_rows x_s_acts))) (va_Qi (fun r (_ : Unit) => r = res.1) (fun _ => VB g A (XW g q x_crowd x_latestFault x_places x_mask x_w_robots x_w_size x_w_nexts res.2.1 x_t_length x_t_token x_t_from x_t_value x_t_behind x_r_wants x_r_pairs x_r_sees x_r_row x_b_size x_s_size x_w_names x_w_goals x_w_links x_w_linked x_w_ups x_w_downs x_w_next res.2.2 x_t_bytes x_b_rows x_b_acts x_s_rows x_s_acts)) A) 0 0 A := by
  unfold F_X0_markOf at h
  refine MetI (res := res.1) (own := RX0) (ws' := (XW g q x_crowd x_latestFault x_places x_mask x_w_robots x_w_size x_w_nexts res.2.1 x_t_length x_t_token x_t_from x_t_value x_t_behind x_r_wants x_r_pairs x_r_sees x_r_row x_b_size x_s_size x_w_names x_w_goals x_w_links x_w_linked x_w_ups x_w_downs x_w_next res.2.2 x_t_bytes x_b_rows x_b_acts x_s_rows x_s_acts)) (by decide) rfl (Nat.le_of_ble_eq_true rfl) ?_
  intro p e s m args below meth c Q F E ret ls J hl
  have hx := F.1
  have hb := F.2.1
  have hl : lv_has ls 2 [(0, .ref (q 3)), (1, .int a0)] := hl
  refine lv_aload_n hx hb dX0_markOf_0 rfl (lv_at hl 0 rfl) ?_
  refine xg_3_0 F E J fl_X0_19 dX0_markOf_1 ?_
  refine lv_iload_n hx hb dX0_markOf_4 rfl (lv_at hl 1 rfl) ?_
  obtain ⟨p1, hp1, h⟩ := ob h
  refine onI (runV (As := [.int a0]) (rest := []) F E J (c_X3_kindOf a0 p1 hp1) cw_X0_35 ⟨rfl, rfl, Nat.le_of_ble_eq_true rfl, Nat.le_of_ble_eq_true rfl⟩ rcX1 rfl hl.1 rfl (Nat.le_of_ble_eq_true rfl) dX0_markOf_5) J (fun H locs J => ?_)
  by_cases c2 : p1 = (2 : Int32)
  · have h := itp c2 h
    refine lv_lookup (tgt := 36) (off := 28) hx hb dX0_markOf_8 (by decide) (by rw [c2]; rfl) (by decide) ?_
    refine lv_aload_n hx hb dX0_markOf_36 rfl (lv_at hl 0 rfl) ?_
    refine lv_bipush (v := 21) hx hb dX0_markOf_37 (by decide) ?_
    obtain ⟨p3, hp3, h⟩ := ob h
    refine onV (runV (As := [.int 21]) (rest := []) F E J (c_X0_begin 21 p3 hp3) cw_X0_40 ⟨rfl, rfl, Nat.le_of_ble_eq_true rfl, Nat.le_of_ble_eq_true rfl⟩ rcX3 rfl hl.1 rfl (Nat.le_of_ble_eq_true rfl) dX0_markOf_39) J (fun H locs J => ?_)
    refine lv_aload_n hx hb dX0_markOf_42 rfl (lv_at hl 0 rfl) ?_
    refine lv_iload_n hx hb dX0_markOf_43 rfl (lv_at hl 1 rfl) ?_
    obtain ⟨p4, hp4, h⟩ := ob h
    refine onI (runV (As := [.int a0]) (rest := []) F E J (c_X0_lentMark a0 p4 hp4) cw_X0_56 ⟨rfl, rfl, Nat.le_of_ble_eq_true rfl, Nat.le_of_ble_eq_true rfl⟩ rcX3 rfl hl.1 rfl (Nat.le_of_ble_eq_true rfl) dX0_markOf_44) J (fun H locs J => ?_)
    refine lv_aload_n hx hb dX0_markOf_47 rfl (lv_at hl 0 rfl) ?_
    refine lv_iload_n hx hb dX0_markOf_48 rfl (lv_at hl 1 rfl) ?_
    obtain ⟨p5, hp5, h⟩ := ob h
    refine onI (runV (As := [.int a0]) (rest := [.int p4.1]) F E J (c_X0_sizeOf a0 p5 hp5) cw_X0_23 ⟨rfl, rfl, Nat.le_of_ble_eq_true rfl, Nat.le_of_ble_eq_true rfl⟩ rcX3 rfl hl.1 rfl (Nat.le_of_ble_eq_true rfl) dX0_markOf_49) J (fun H locs J => ?_)
    refine lv_iadd hx hb dX0_markOf_52 ?_
    obtain rfl := Option.some.inj h
    exact ret _ _ _ _ J dX0_markOf_53
  · have h := itn c2 h
    by_cases c6 : p1 = (3 : Int32)
    · have h := itp c6 h
      refine lv_lookup (tgt := 54) (off := 46) hx hb dX0_markOf_8 (by decide) (by rw [c6]; rfl) (by decide) ?_
      refine lv_aload_n hx hb dX0_markOf_54 rfl (lv_at hl 0 rfl) ?_
      refine lv_bipush (v := 22) hx hb dX0_markOf_55 (by decide) ?_
      obtain ⟨p7, hp7, h⟩ := ob h
      refine onV (runV (As := [.int 22]) (rest := []) F E J (c_X0_begin 22 p7 hp7) cw_X0_40 ⟨rfl, rfl, Nat.le_of_ble_eq_true rfl, Nat.le_of_ble_eq_true rfl⟩ rcX3 rfl hl.1 rfl (Nat.le_of_ble_eq_true rfl) dX0_markOf_57) J (fun H locs J => ?_)
      refine lv_aload_n hx hb dX0_markOf_60 rfl (lv_at hl 0 rfl) ?_
      refine lv_iload_n hx hb dX0_markOf_61 rfl (lv_at hl 1 rfl) ?_
      obtain ⟨p8, hp8, h⟩ := ob h
      refine onI (runV (As := [.int a0]) (rest := []) F E J (c_X0_lentMark a0 p8 hp8) cw_X0_56 ⟨rfl, rfl, Nat.le_of_ble_eq_true rfl, Nat.le_of_ble_eq_true rfl⟩ rcX3 rfl hl.1 rfl (Nat.le_of_ble_eq_true rfl) dX0_markOf_62) J (fun H locs J => ?_)
      refine lv_bipush (v := 100) hx hb dX0_markOf_65 (by decide) ?_
      refine lv_iadd hx hb dX0_markOf_67 ?_
      obtain rfl := Option.some.inj h
      exact ret _ _ _ _ J dX0_markOf_68
    · have h := itn c6 h
      refine lv_lookup (tgt := 69) (off := 61) hx hb dX0_markOf_8 (by decide) ((lv_osw c2 rfl).trans ((lv_osw c6 rfl).trans rfl)) (by decide) ?_
      refine lv_aload_n hx hb dX0_markOf_69 rfl (lv_at hl 0 rfl) ?_
      refine lv_iload_n hx hb dX0_markOf_70 rfl (lv_at hl 1 rfl) ?_
      obtain ⟨p9, hp9, h⟩ := ob h
      refine onI (runV (As := [.int a0]) (rest := []) F E J (c_X0_lentMark a0 p9 hp9) cw_X0_56 ⟨rfl, rfl, Nat.le_of_ble_eq_true rfl, Nat.le_of_ble_eq_true rfl⟩ rcX3 rfl hl.1 rfl (Nat.le_of_ble_eq_true rfl) dX0_markOf_71) J (fun H locs J => ?_)
      obtain rfl := Option.some.inj h
      exact ret _ _ _ _ J dX0_markOf_74
set_option maxHeartbeats 4000000 in
set_option maxRecDepth 100000 in
theorem c_X0_answer {l : Launch} {g : GG} {A : Nat → Prop} {q : Nat → Nat} {x_crowd x_latestFault x_places x_mask x_w_robots x_w_size x_w_nexts x_a_length x_t_length x_t_token x_t_from x_t_value x_t_behind x_r_wants x_r_pairs x_r_sees : Int32} {x_r_row : Int64} {x_b_size x_s_size : Int32} {x_w_names : Nat → Int32} {x_w_goals x_w_links : Nat → Int64} {x_w_linked x_w_ups x_w_downs x_w_next x_a_begun x_t_bytes : Nat → Int32} {x_b_rows : Nat → Int64} {x_b_acts : Nat → Int32} {x_s_rows : Nat → Int64} {x_s_acts : Nat → Int32} (a0 : Int32) (a1 : Int32) (res : Int32 × Int32 × (Nat → Int32)) (h : F_X0_answer a0 a1 x_places x_mask x_a_begun = some res) : Met l yX0_answer (wS yX0_answer cX0_answer 3 (some .int)) rm_X0_answer (va_Pc [.ref (q 3), .int a0, .int a1] (VB g A (XW g q x_crowd x_latestFault x_places x_mask x_w_robots x_w_size x_w_nexts x_a_length x_t_length x_t_token x_t_from x_t_value x_t_behind x_r_wants x_r_pairs x_r_sees x_r_row x_b_size x_s_size x_w_names x_w_goals x_w_links x_w_linked x_w_ups x_w_downs x_w_next x_a_begun x_t_bytes x_b_rows x_b_acts x_s_rows x_s_acts))) (va_Qi (fun r (_ : Unit) => r = res.1) (fun _ => VB g A (XW g q x_crowd x_latestFault x_places x_mask x_w_robots x_w_size x_w_nexts res.2.1 x_t_length x_t_token x_t_from x_t_value x_t_behind x_r_wants x_r_pairs x_r_sees x_r_row x_b_size x_s_size x_w_names x_w_goals x_w_links x_w_linked x_w_ups x_w_downs x_w_next res.2.2 x_t_bytes x_b_rows x_b_acts x_s_rows x_s_acts)) A) 0 0 A := by
  unfold F_X0_answer at h
  refine MetI (res := res.1) (own := RX0) (ws' := (XW g q x_crowd x_latestFault x_places x_mask x_w_robots x_w_size x_w_nexts res.2.1 x_t_length x_t_token x_t_from x_t_value x_t_behind x_r_wants x_r_pairs x_r_sees x_r_row x_b_size x_s_size x_w_names x_w_goals x_w_links x_w_linked x_w_ups x_w_downs x_w_next res.2.2 x_t_bytes x_b_rows x_b_acts x_s_rows x_s_acts)) (by decide) rfl (Nat.le_of_ble_eq_true rfl) ?_
  intro p e s m args below meth c Q F E ret ls J hl
  have hx := F.1
  have hb := F.2.1
  have hl : lv_has ls 3 [(0, .ref (q 3)), (1, .int a0), (2, .int a1)] := hl
  refine lv_aload_n hx hb dX0_answer_0 rfl (lv_at hl 0 rfl) ?_
  refine lv_iconst (v := 0) hx hb dX0_answer_1 (by decide) ?_
  refine xp_3_2 F E J fl_X0_15 dX0_answer_2 (fun H locs J => ?_)
  refine lv_iload_n hx hb dX0_answer_5 rfl (lv_at hl 1 rfl) ?_
  refine lv_if_ne (tgt := 17) hx hb dX0_answer_6 (by decide) (fun c1 => ?_) (fun c1 => ?_)
  · have h := itn c1 h
    refine lv_aload_n hx hb dX0_answer_17 rfl (lv_at hl 0 rfl) ?_
    refine lv_iload_n hx hb dX0_answer_18 rfl (lv_at hl 2 rfl) ?_
    obtain ⟨p2, hp2, h⟩ := ob h
    refine onI (runV (As := [.int a1]) (rest := []) F E J (c_X0_markOf a1 p2 hp2) cw_X0_27 ⟨rfl, rfl, Nat.le_of_ble_eq_true rfl, Nat.le_of_ble_eq_true rfl⟩ rcX3 rfl hl.1 rfl (Nat.le_of_ble_eq_true rfl) dX0_answer_19) J (fun H locs J => ?_)
    obtain rfl := Option.some.inj h
    exact ret _ _ _ _ J dX0_answer_22
  · have h := itp c1 h
    refine lv_aload_n hx hb dX0_answer_9 rfl (lv_at hl 0 rfl) ?_
    refine lv_iload_n hx hb dX0_answer_10 rfl (lv_at hl 2 rfl) ?_
    obtain ⟨p3, hp3, h⟩ := ob h
    refine onI (runV (As := [.int a1]) (rest := []) F E J (c_X0_sizeOf a1 p3 hp3) cw_X0_23 ⟨rfl, rfl, Nat.le_of_ble_eq_true rfl, Nat.le_of_ble_eq_true rfl⟩ rcX3 rfl hl.1 rfl (Nat.le_of_ble_eq_true rfl) dX0_answer_11) J (fun H locs J => ?_)
    refine lv_goto (tgt := 22) hx hb dX0_answer_14 (by decide) ?_
    obtain rfl := Option.some.inj h
    exact ret _ _ _ _ J dX0_answer_22
set_option maxHeartbeats 4000000 in
set_option maxRecDepth 100000 in
theorem c_X7_ask {l : Launch} {g : GG} {A : Nat → Prop} {q : Nat → Nat} {x_crowd x_latestFault x_places x_mask x_w_robots x_w_size x_w_nexts x_a_length x_t_length x_t_token x_t_from x_t_value x_t_behind x_r_wants x_r_pairs x_r_sees : Int32} {x_r_row : Int64} {x_b_size x_s_size : Int32} {x_w_names : Nat → Int32} {x_w_goals x_w_links : Nat → Int64} {x_w_linked x_w_ups x_w_downs x_w_next x_a_begun x_t_bytes : Nat → Int32} {x_b_rows : Nat → Int64} {x_b_acts : Nat → Int32} {x_s_rows : Nat → Int64} {x_s_acts : Nat → Int32} (a0 : Int32) (res : Int32 × Int32 × (Nat → Int32)) (h : F_X7_ask a0 x_crowd x_places x_mask x_a_length x_a_begun = some res) : Met l yX7_ask (wS yX7_ask cX7_ask 2 (some .int)) rm_X7_ask (va_Pc [.ref (q 0), .int a0] (VB g A (XW g q x_crowd x_latestFault x_places x_mask x_w_robots x_w_size x_w_nexts x_a_length x_t_length x_t_token x_t_from x_t_value x_t_behind x_r_wants x_r_pairs x_r_sees x_r_row x_b_size x_s_size x_w_names x_w_goals x_w_links x_w_linked x_w_ups x_w_downs x_w_next x_a_begun x_t_bytes x_b_rows x_b_acts x_s_rows x_s_acts))) (va_Qi (fun r (_ : Unit) => r = res.1) (fun _ => VB g A (XW g q x_crowd x_latestFault x_places x_mask x_w_robots x_w_size x_w_nexts res.2.1 x_t_length x_t_token x_t_from x_t_value x_t_behind x_r_wants x_r_pairs x_r_sees x_r_row x_b_size x_s_size x_w_names x_w_goals x_w_links x_w_linked x_w_ups x_w_downs x_w_next res.2.2 x_t_bytes x_b_rows x_b_acts x_s_rows x_s_acts)) A) 0 0 A := by
  unfold F_X7_ask at h
  refine MetI (res := res.1) (own := RX7) (ws' := (XW g q x_crowd x_latestFault x_places x_mask x_w_robots x_w_size x_w_nexts res.2.1 x_t_length x_t_token x_t_from x_t_value x_t_behind x_r_wants x_r_pairs x_r_sees x_r_row x_b_size x_s_size x_w_names x_w_goals x_w_links x_w_linked x_w_ups x_w_downs x_w_next res.2.2 x_t_bytes x_b_rows x_b_acts x_s_rows x_s_acts)) (by decide) rfl (Nat.le_of_ble_eq_true rfl) ?_
  intro p e s m args below meth c Q F E ret ls J hl
  have hx := F.1
  have hb := F.2.1
  have hl : lv_has ls 2 [(0, .ref (q 0)), (1, .int a0)] := hl
  refine lv_iload_n hx hb dX7_ask_0 rfl (lv_at hl 1 rfl) ?_
  refine lv_iconst (v := 2) hx hb dX7_ask_1 (by decide) ?_
  obtain ⟨p1, hp1, h⟩ := ob h
  refine onZ (runS (As := [.int a0, .int 2]) (rest := []) F E J (c_X7_outside a0 2 p1 hp1) cw_X7_110 ⟨rfl, rfl, Nat.le_of_ble_eq_true rfl, Nat.le_of_ble_eq_true rfl⟩ rfl hl.1 rfl (Nat.le_of_ble_eq_true rfl) dX7_ask_2) J (fun hzbp1 H locs J => ?_)
  refine lv_if_eq (tgt := 11) hx hb dX7_ask_5 (by decide) (fun c2 => ?_) (fun c2 => ?_)
  · have h := itp c2 h
    refine lv_aload_n hx hb dX7_ask_11 rfl (lv_at hl 0 rfl) ?_
    refine xg_0_7 F E J fl_X7_69 dX7_ask_12 ?_
    refine lv_if_ne (tgt := 21) hx hb dX7_ask_15 (by decide) (fun c3 => ?_) (fun c3 => ?_)
    · have h := itn c3 h
      refine lv_aload_n hx hb dX7_ask_21 rfl (lv_at hl 0 rfl) ?_
      refine xg_0_2 F E J fl_X7_39 dX7_ask_22 ?_
      refine lv_iload_n hx hb dX7_ask_25 rfl (lv_at hl 1 rfl) ?_
      refine lv_aload_n hx hb dX7_ask_26 rfl (lv_at hl 0 rfl) ?_
      refine xg_0_7 F E J fl_X7_69 dX7_ask_27 ?_
      obtain ⟨p4, hp4, h⟩ := ob h
      refine onI (runV (As := [.int a0, .int x_crowd]) (rest := []) F E J (c_X0_answer a0 x_crowd p4 hp4) cw_X7_184 ⟨rfl, rfl, Nat.le_of_ble_eq_true rfl, Nat.le_of_ble_eq_true rfl⟩ rcX3 rfl hl.1 rfl (Nat.le_of_ble_eq_true rfl) dX7_ask_30) J (fun H locs J => ?_)
      obtain rfl := Option.some.inj h
      exact ret _ _ _ _ J dX7_ask_33
    · have h := itp c3 h
      refine lv_ldc hx hb F.2.2.2.1 (F.2.2.2.2 _ kc_X7_117) dX7_ask_18 ?_
      obtain rfl := Option.some.inj h
      exact ret _ _ _ _ J dX7_ask_20
  · have h := itn c2 h
    refine lv_ldc hx hb F.2.2.2.1 (F.2.2.2.2 _ kc_X7_80) dX7_ask_8 ?_
    obtain rfl := Option.some.inj h
    exact ret _ _ _ _ J dX7_ask_10
set_option maxHeartbeats 4000000 in
set_option maxRecDepth 100000 in
theorem c_X0_traced {l : Launch} {g : GG} {A : Nat → Prop} {q : Nat → Nat} {x_crowd x_latestFault x_places x_mask x_w_robots x_w_size x_w_nexts x_a_length x_t_length x_t_token x_t_from x_t_value x_t_behind x_r_wants x_r_pairs x_r_sees : Int32} {x_r_row : Int64} {x_b_size x_s_size : Int32} {x_w_names : Nat → Int32} {x_w_goals x_w_links : Nat → Int64} {x_w_linked x_w_ups x_w_downs x_w_next x_a_begun x_t_bytes : Nat → Int32} {x_b_rows : Nat → Int64} {x_b_acts : Nat → Int32} {x_s_rows : Nat → Int64} {x_s_acts : Nat → Int32} (a0 : Int32) (res : Int32) (h : F_X0_traced a0 x_a_length x_a_begun = some res) : Met l yX0_traced (wS yX0_traced cX0_traced 2 (some .int)) rm_X0_traced (va_Pc [.ref (q 3), .int a0] (VB g A (XW g q x_crowd x_latestFault x_places x_mask x_w_robots x_w_size x_w_nexts x_a_length x_t_length x_t_token x_t_from x_t_value x_t_behind x_r_wants x_r_pairs x_r_sees x_r_row x_b_size x_s_size x_w_names x_w_goals x_w_links x_w_linked x_w_ups x_w_downs x_w_next x_a_begun x_t_bytes x_b_rows x_b_acts x_s_rows x_s_acts))) (va_Qi (fun r (_ : Unit) => r = res) (fun _ => VB g A (XW g q x_crowd x_latestFault x_places x_mask x_w_robots x_w_size x_w_nexts x_a_length x_t_length x_t_token x_t_from x_t_value x_t_behind x_r_wants x_r_pairs x_r_sees x_r_row x_b_size x_s_size x_w_names x_w_goals x_w_links x_w_linked x_w_ups x_w_downs x_w_next x_a_begun x_t_bytes x_b_rows x_b_acts x_s_rows x_s_acts)) A) 0 0 A := by
  unfold F_X0_traced at h
  refine MetI (res := res) (own := RX0) (ws' := (XW g q x_crowd x_latestFault x_places x_mask x_w_robots x_w_size x_w_nexts x_a_length x_t_length x_t_token x_t_from x_t_value x_t_behind x_r_wants x_r_pairs x_r_sees x_r_row x_b_size x_s_size x_w_names x_w_goals x_w_links x_w_linked x_w_ups x_w_downs x_w_next x_a_begun x_t_bytes x_b_rows x_b_acts x_s_rows x_s_acts)) (by decide) rfl (Nat.le_of_ble_eq_true rfl) ?_
  intro p e s m args below meth c Q F E ret ls J hl
  have hx := F.1
  have hb := F.2.1
  have hl : lv_has ls 2 [(0, .ref (q 3)), (1, .int a0)] := hl
  refine lv_iload_n hx hb dX0_traced_0 rfl (lv_at hl 1 rfl) ?_
  refine lv_aload_n hx hb dX0_traced_1 rfl (lv_at hl 0 rfl) ?_
  refine xg_3_2 F E J fl_X0_15 dX0_traced_2 ?_
  obtain ⟨p1, hp1, h⟩ := ob h
  refine onZ (runN (As := [.int a0, .int x_a_length]) (rest := []) F E J (c_X7_outside a0 x_a_length p1 hp1) cn_X0_30 ⟨rfl, rfl, Nat.le_of_ble_eq_true rfl, Nat.le_of_ble_eq_true rfl⟩ rfl hl.1 rfl (Nat.le_of_ble_eq_true rfl) dX0_traced_5) J (fun hzbp1 H locs J => ?_)
  refine lv_if_ne (tgt := 17) hx hb dX0_traced_8 (by decide) (fun c2 => ?_) (fun c2 => ?_)
  · have h := itn c2 h
    refine lv_ldc hx hb F.2.2.2.1 (F.2.2.2.2 _ kc_X0_34) dX0_traced_17 ?_
    refine lv_goto (tgt := 28) hx hb dX0_traced_19 (by decide) ?_
    obtain rfl := Option.some.inj h
    exact ret _ _ _ _ J dX0_traced_28
  · have h := itp c2 h
    refine lv_iload_n hx hb dX0_traced_11 rfl (lv_at hl 1 rfl) ?_
    refine lv_bipush (v := 16) hx hb dX0_traced_12 (by decide) ?_
    refine lv_icmp_lt (tgt := 22) hx hb dX0_traced_14 (by decide) (fun c3 => ?_) (fun c3 => ?_)
    · have h := itp c3 h
      refine lv_aload_n hx hb dX0_traced_22 rfl (lv_at hl 0 rfl) ?_
      refine xg_3_1 F E J fl_X0_9 dX0_traced_23 ?_
      refine lv_iload_n hx hb dX0_traced_26 rfl (lv_at hl 1 rfl) ?_
      obtain ⟨hi, h⟩ := gdt h
      refine xl_15 F E J (inbt hi) dX0_traced_27 ?_
      obtain rfl := Option.some.inj h
      exact ret _ _ _ _ J dX0_traced_28
    · have h := itn c3 h
      refine lv_ldc hx hb F.2.2.2.1 (F.2.2.2.2 _ kc_X0_34) dX0_traced_17 ?_
      refine lv_goto (tgt := 28) hx hb dX0_traced_19 (by decide) ?_
      obtain rfl := Option.some.inj h
      exact ret _ _ _ _ J dX0_traced_28
set_option maxHeartbeats 4000000 in
set_option maxRecDepth 100000 in
theorem c_X7_trace {l : Launch} {g : GG} {A : Nat → Prop} {q : Nat → Nat} {x_crowd x_latestFault x_places x_mask x_w_robots x_w_size x_w_nexts x_a_length x_t_length x_t_token x_t_from x_t_value x_t_behind x_r_wants x_r_pairs x_r_sees : Int32} {x_r_row : Int64} {x_b_size x_s_size : Int32} {x_w_names : Nat → Int32} {x_w_goals x_w_links : Nat → Int64} {x_w_linked x_w_ups x_w_downs x_w_next x_a_begun x_t_bytes : Nat → Int32} {x_b_rows : Nat → Int64} {x_b_acts : Nat → Int32} {x_s_rows : Nat → Int64} {x_s_acts : Nat → Int32} (a0 : Int32) (res : Int32) (h : F_X7_trace a0 x_a_length x_a_begun = some res) : Met l yX7_trace (wS yX7_trace cX7_trace 2 (some .int)) rm_X7_trace (va_Pc [.ref (q 0), .int a0] (VB g A (XW g q x_crowd x_latestFault x_places x_mask x_w_robots x_w_size x_w_nexts x_a_length x_t_length x_t_token x_t_from x_t_value x_t_behind x_r_wants x_r_pairs x_r_sees x_r_row x_b_size x_s_size x_w_names x_w_goals x_w_links x_w_linked x_w_ups x_w_downs x_w_next x_a_begun x_t_bytes x_b_rows x_b_acts x_s_rows x_s_acts))) (va_Qi (fun r (_ : Unit) => r = res) (fun _ => VB g A (XW g q x_crowd x_latestFault x_places x_mask x_w_robots x_w_size x_w_nexts x_a_length x_t_length x_t_token x_t_from x_t_value x_t_behind x_r_wants x_r_pairs x_r_sees x_r_row x_b_size x_s_size x_w_names x_w_goals x_w_links x_w_linked x_w_ups x_w_downs x_w_next x_a_begun x_t_bytes x_b_rows x_b_acts x_s_rows x_s_acts)) A) 0 0 A := by
  unfold F_X7_trace at h
  refine MetI (res := res) (own := RX7) (ws' := (XW g q x_crowd x_latestFault x_places x_mask x_w_robots x_w_size x_w_nexts x_a_length x_t_length x_t_token x_t_from x_t_value x_t_behind x_r_wants x_r_pairs x_r_sees x_r_row x_b_size x_s_size x_w_names x_w_goals x_w_links x_w_linked x_w_ups x_w_downs x_w_next x_a_begun x_t_bytes x_b_rows x_b_acts x_s_rows x_s_acts)) (by decide) rfl (Nat.le_of_ble_eq_true rfl) ?_
  intro p e s m args below meth c Q F E ret ls J hl
  have hx := F.1
  have hb := F.2.1
  have hl : lv_has ls 2 [(0, .ref (q 0)), (1, .int a0)] := hl
  refine lv_aload_n hx hb dX7_trace_0 rfl (lv_at hl 0 rfl) ?_
  refine xg_0_2 F E J fl_X7_39 dX7_trace_1 ?_
  refine lv_iload_n hx hb dX7_trace_4 rfl (lv_at hl 1 rfl) ?_
  obtain ⟨p1, hp1, h⟩ := ob h
  refine onI (runV (As := [.int a0]) (rest := []) F E J (c_X0_traced a0 p1 hp1) cw_X7_187 ⟨rfl, rfl, Nat.le_of_ble_eq_true rfl, Nat.le_of_ble_eq_true rfl⟩ rcX3 rfl hl.1 rfl (Nat.le_of_ble_eq_true rfl) dX7_trace_5) J (fun H locs J => ?_)
  obtain rfl := Option.some.inj h
  exact ret _ _ _ _ J dX7_trace_8
set_option maxHeartbeats 4000000 in
set_option maxRecDepth 100000 in
theorem c_X7_count {l : Launch} {g : GG} {A : Nat → Prop} {q : Nat → Nat} {x_crowd x_latestFault x_places x_mask x_w_robots x_w_size x_w_nexts x_a_length x_t_length x_t_token x_t_from x_t_value x_t_behind x_r_wants x_r_pairs x_r_sees : Int32} {x_r_row : Int64} {x_b_size x_s_size : Int32} {x_w_names : Nat → Int32} {x_w_goals x_w_links : Nat → Int64} {x_w_linked x_w_ups x_w_downs x_w_next x_a_begun x_t_bytes : Nat → Int32} {x_b_rows : Nat → Int64} {x_b_acts : Nat → Int32} {x_s_rows : Nat → Int64} {x_s_acts : Nat → Int32} (a0 : Int32) (res : Int32) (h : F_X7_count a0 x_crowd x_places x_mask x_t_length x_b_size = some res) : Met l yX7_count (wS yX7_count cX7_count 2 (some .int)) rm_X7_count (va_Pc [.ref (q 0), .int a0] (VB g A (XW g q x_crowd x_latestFault x_places x_mask x_w_robots x_w_size x_w_nexts x_a_length x_t_length x_t_token x_t_from x_t_value x_t_behind x_r_wants x_r_pairs x_r_sees x_r_row x_b_size x_s_size x_w_names x_w_goals x_w_links x_w_linked x_w_ups x_w_downs x_w_next x_a_begun x_t_bytes x_b_rows x_b_acts x_s_rows x_s_acts))) (va_Qi (fun r (_ : Unit) => r = res) (fun _ => VB g A (XW g q x_crowd x_latestFault x_places x_mask x_w_robots x_w_size x_w_nexts x_a_length x_t_length x_t_token x_t_from x_t_value x_t_behind x_r_wants x_r_pairs x_r_sees x_r_row x_b_size x_s_size x_w_names x_w_goals x_w_links x_w_linked x_w_ups x_w_downs x_w_next x_a_begun x_t_bytes x_b_rows x_b_acts x_s_rows x_s_acts)) A) 0 0 A := by
  unfold F_X7_count at h
  refine MetI (res := res) (own := RX7) (ws' := (XW g q x_crowd x_latestFault x_places x_mask x_w_robots x_w_size x_w_nexts x_a_length x_t_length x_t_token x_t_from x_t_value x_t_behind x_r_wants x_r_pairs x_r_sees x_r_row x_b_size x_s_size x_w_names x_w_goals x_w_links x_w_linked x_w_ups x_w_downs x_w_next x_a_begun x_t_bytes x_b_rows x_b_acts x_s_rows x_s_acts)) (by decide) rfl (Nat.le_of_ble_eq_true rfl) ?_
  intro p e s m args below meth c Q F E ret ls J hl
  have hx := F.1
  have hb := F.2.1
  have hl : lv_has ls 2 [(0, .ref (q 0)), (1, .int a0)] := hl
  refine lv_iload_n hx hb dX7_count_0 rfl (lv_at hl 1 rfl) ?_
  refine lv_bipush (v := 7) hx hb dX7_count_1 (by decide) ?_
  obtain ⟨p1, hp1, h⟩ := ob h
  refine onZ (runS (As := [.int a0, .int 7]) (rest := []) F E J (c_X7_outside a0 7 p1 hp1) cw_X7_110 ⟨rfl, rfl, Nat.le_of_ble_eq_true rfl, Nat.le_of_ble_eq_true rfl⟩ rfl hl.1 rfl (Nat.le_of_ble_eq_true rfl) dX7_count_3) J (fun hzbp1 H locs J => ?_)
  refine lv_if_eq (tgt := 12) hx hb dX7_count_6 (by decide) (fun c2 => ?_) (fun c2 => ?_)
  · have h := itp c2 h
    refine lv_iload_n hx hb dX7_count_12 rfl (lv_at hl 1 rfl) ?_
    by_cases c3 : a0 = (0 : Int32)
    · have h := itp c3 h
      refine lv_tableIn (tgt := 52) (off := 39) hx hb dX7_count_13 (by rw [c3]; decide) (by rw [c3]; decide) (by rw [c3]; rfl) (by decide) ?_
      refine lv_aload_n hx hb dX7_count_52 rfl (lv_at hl 0 rfl) ?_
      refine xg_0_0 F E J fl_X7_23 dX7_count_53 ?_
      refine xgN_1_0 (host := RX7) F E J (by decide +kernel) dX7_count_56 ?_
      obtain rfl := Option.some.inj h
      exact ret _ _ _ _ J dX7_count_59
    · have h := itn c3 h
      by_cases c4 : a0 = (1 : Int32)
      · have h := itp c4 h
        refine lv_tableIn (tgt := 60) (off := 47) hx hb dX7_count_13 (by rw [c4]; decide) (by rw [c4]; decide) (by rw [c4]; rfl) (by decide) ?_
        refine lv_aload_n hx hb dX7_count_60 rfl (lv_at hl 0 rfl) ?_
        refine xg_0_0 F E J fl_X7_23 dX7_count_61 ?_
        refine lv_aload_n hx hb dX7_count_64 rfl (lv_at hl 0 rfl) ?_
        refine xg_0_7 F E J fl_X7_69 dX7_count_65 ?_
        obtain ⟨p5, hp5, h⟩ := ob h
        refine onI (runV (As := [.int x_crowd]) (rest := []) F E J (c_X3_robotsIn x_crowd p5 hp5) cw_X7_81 ⟨rfl, rfl, Nat.le_of_ble_eq_true rfl, Nat.le_of_ble_eq_true rfl⟩ rcX1 rfl hl.1 rfl (Nat.le_of_ble_eq_true rfl) dX7_count_68) J (fun H locs J => ?_)
        obtain rfl := Option.some.inj h
        exact ret _ _ _ _ J dX7_count_71
      · have h := itn c4 h
        by_cases c6 : a0 = (2 : Int32)
        · have h := itp c6 h
          refine lv_tableIn (tgt := 72) (off := 59) hx hb dX7_count_13 (by rw [c6]; decide) (by rw [c6]; decide) (by rw [c6]; rfl) (by decide) ?_
          refine lv_aload_n hx hb dX7_count_72 rfl (lv_at hl 0 rfl) ?_
          refine xg_0_0 F E J fl_X7_23 dX7_count_73 ?_
          refine lv_aload_n hx hb dX7_count_76 rfl (lv_at hl 0 rfl) ?_
          refine xg_0_7 F E J fl_X7_69 dX7_count_77 ?_
          obtain ⟨p7, hp7, h⟩ := ob h
          refine onI (runV (As := [.int x_crowd]) (rest := []) F E J (c_X3_takenIn x_crowd p7 hp7) cw_X7_190 ⟨rfl, rfl, Nat.le_of_ble_eq_true rfl, Nat.le_of_ble_eq_true rfl⟩ rcX1 rfl hl.1 rfl (Nat.le_of_ble_eq_true rfl) dX7_count_80) J (fun H locs J => ?_)
          obtain rfl := Option.some.inj h
          exact ret _ _ _ _ J dX7_count_83
        · have h := itn c6 h
          by_cases c8 : a0 = (3 : Int32)
          · have h := itp c8 h
            refine lv_tableIn (tgt := 84) (off := 71) hx hb dX7_count_13 (by rw [c8]; decide) (by rw [c8]; decide) (by rw [c8]; rfl) (by decide) ?_
            refine lv_aload_n hx hb dX7_count_84 rfl (lv_at hl 0 rfl) ?_
            refine xg_0_5 F E J fl_X7_62 dX7_count_85 ?_
            refine xgN_6_2 (host := RX7) F E J (by decide +kernel) dX7_count_88 ?_
            obtain rfl := Option.some.inj h
            exact ret _ _ _ _ J dX7_count_91
          · have h := itn c8 h
            by_cases c9 : a0 = (4 : Int32)
            · have h := itp c9 h
              refine lv_tableIn (tgt := 92) (off := 79) hx hb dX7_count_13 (by rw [c9]; decide) (by rw [c9]; decide) (by rw [c9]; rfl) (by decide) ?_
              refine lv_aload_n hx hb dX7_count_92 rfl (lv_at hl 0 rfl) ?_
              refine xg_0_0 F E J fl_X7_23 dX7_count_93 ?_
              refine lv_aload_n hx hb dX7_count_96 rfl (lv_at hl 0 rfl) ?_
              refine xg_0_7 F E J fl_X7_69 dX7_count_97 ?_
              obtain ⟨p10, hp10, h⟩ := ob h
              refine onI (runV (As := [.int x_crowd]) (rest := []) F E J (c_X3_turnsOf x_crowd p10 hp10) cw_X7_193 ⟨rfl, rfl, Nat.le_of_ble_eq_true rfl, Nat.le_of_ble_eq_true rfl⟩ rcX1 rfl hl.1 rfl (Nat.le_of_ble_eq_true rfl) dX7_count_100) J (fun H locs J => ?_)
              obtain rfl := Option.some.inj h
              exact ret _ _ _ _ J dX7_count_103
            · have h := itn c9 h
              by_cases c11 : a0 = (5 : Int32)
              · have h := itp c11 h
                refine lv_tableIn (tgt := 104) (off := 91) hx hb dX7_count_13 (by rw [c11]; decide) (by rw [c11]; decide) (by rw [c11]; rfl) (by decide) ?_
                refine lv_aload_n hx hb dX7_count_104 rfl (lv_at hl 0 rfl) ?_
                refine xg_0_0 F E J fl_X7_23 dX7_count_105 ?_
                refine lv_aload_n hx hb dX7_count_108 rfl (lv_at hl 0 rfl) ?_
                refine xg_0_7 F E J fl_X7_69 dX7_count_109 ?_
                obtain ⟨p12, hp12, h⟩ := ob h
                refine onI (runV (As := [.int x_crowd]) (rest := []) F E J (c_X3_mirrorsOf x_crowd p12 hp12) cw_X7_196 ⟨rfl, rfl, Nat.le_of_ble_eq_true rfl, Nat.le_of_ble_eq_true rfl⟩ rcX1 rfl hl.1 rfl (Nat.le_of_ble_eq_true rfl) dX7_count_112) J (fun H locs J => ?_)
                obtain rfl := Option.some.inj h
                exact ret _ _ _ _ J dX7_count_115
              · have h := itn c11 h
                refine lv_tableOut (tgt := 116) hx hb dX7_count_13 (by have a0 := lv_neT (a := 0) c3 rfl; have a1 := lv_neT (a := 1) c4 rfl; have a2 := lv_neT (a := 2) c6 rfl; have a3 := lv_neT (a := 3) c8 rfl; have a4 := lv_neT (a := 4) c9 rfl; have a5 := lv_neT (a := 5) c11 rfl; omega) (by decide) ?_
                refine lv_aload_n hx hb dX7_count_116 rfl (lv_at hl 0 rfl) ?_
                refine xg_0_3 F E J fl_X7_46 dX7_count_117 ?_
                refine xgN_4_1 (host := RX7) F E J (by decide +kernel) dX7_count_120 ?_
                obtain rfl := Option.some.inj h
                exact ret _ _ _ _ J dX7_count_123
  · have h := itn c2 h
    refine lv_ldc hx hb F.2.2.2.1 (F.2.2.2.2 _ kc_X7_80) dX7_count_9 ?_
    obtain rfl := Option.some.inj h
    exact ret _ _ _ _ J dX7_count_11
set_option maxHeartbeats 4000000 in
set_option maxRecDepth 100000 in
theorem c_X1_clear_s {l : Launch} {g : GG} {A : Nat → Prop} {q : Nat → Nat} {x_crowd x_latestFault x_places x_mask x_w_robots x_w_size x_w_nexts x_a_length x_t_length x_t_token x_t_from x_t_value x_t_behind x_r_wants x_r_pairs x_r_sees : Int32} {x_r_row : Int64} {x_b_size x_s_size : Int32} {x_w_names : Nat → Int32} {x_w_goals x_w_links : Nat → Int64} {x_w_linked x_w_ups x_w_downs x_w_next x_a_begun x_t_bytes : Nat → Int32} {x_b_rows : Nat → Int64} {x_b_acts : Nat → Int32} {x_s_rows : Nat → Int64} {x_s_acts : Nat → Int32} (res : Int32) (h : F_X1_clear_s  = some res) : Met l yX1_clear (wS yX1_clear cX1_clear 1 none) rm_X1_clear_s (va_Pc [.ref (q 7)] (VB g A (XW g q x_crowd x_latestFault x_places x_mask x_w_robots x_w_size x_w_nexts x_a_length x_t_length x_t_token x_t_from x_t_value x_t_behind x_r_wants x_r_pairs x_r_sees x_r_row x_b_size x_s_size x_w_names x_w_goals x_w_links x_w_linked x_w_ups x_w_downs x_w_next x_a_begun x_t_bytes x_b_rows x_b_acts x_s_rows x_s_acts))) (va_Qv (fun (_ : Unit) => True) (fun _ => VB g A (XW g q x_crowd x_latestFault x_places x_mask x_w_robots x_w_size x_w_nexts x_a_length x_t_length x_t_token x_t_from x_t_value x_t_behind x_r_wants x_r_pairs x_r_sees x_r_row x_b_size res x_w_names x_w_goals x_w_links x_w_linked x_w_ups x_w_downs x_w_next x_a_begun x_t_bytes x_b_rows x_b_acts x_s_rows x_s_acts)) A) 0 0 A := by
  unfold F_X1_clear_s at h
  refine MetV (own := RX1) (ws' := (XW g q x_crowd x_latestFault x_places x_mask x_w_robots x_w_size x_w_nexts x_a_length x_t_length x_t_token x_t_from x_t_value x_t_behind x_r_wants x_r_pairs x_r_sees x_r_row x_b_size res x_w_names x_w_goals x_w_links x_w_linked x_w_ups x_w_downs x_w_next x_a_begun x_t_bytes x_b_rows x_b_acts x_s_rows x_s_acts)) (by decide) rfl (Nat.le_of_ble_eq_true rfl) ?_
  intro p e s m args below meth c Q F E ret ls J hl
  have hx := F.1
  have hb := F.2.1
  have hl : lv_has ls 1 [(0, .ref (q 7))] := hl
  refine lv_aload_n hx hb dX1_clear_0 rfl (lv_at hl 0 rfl) ?_
  refine lv_iconst (v := 0) hx hb dX1_clear_1 (by decide) ?_
  refine xp_7_2 F E J fl_X1_19 dX1_clear_2 (fun H locs J => ?_)
  obtain rfl := Option.some.inj h
  exact ret _ _ _ _ J dX1_clear_5
set_option maxHeartbeats 4000000 in
set_option maxRecDepth 100000 in
theorem c_X5_rewind {l : Launch} {g : GG} {A : Nat → Prop} {q : Nat → Nat} {x_crowd x_latestFault x_places x_mask x_w_robots x_w_size x_w_nexts x_a_length x_t_length x_t_token x_t_from x_t_value x_t_behind x_r_wants x_r_pairs x_r_sees : Int32} {x_r_row : Int64} {x_b_size x_s_size : Int32} {x_w_names : Nat → Int32} {x_w_goals x_w_links : Nat → Int64} {x_w_linked x_w_ups x_w_downs x_w_next x_a_begun x_t_bytes : Nat → Int32} {x_b_rows : Nat → Int64} {x_b_acts : Nat → Int32} {x_s_rows : Nat → Int64} {x_s_acts : Nat → Int32} (res : Int32 × Int32 × Int32 × Int32) (h : F_X5_rewind  = some res) : Met l yX5_rewind (wS yX5_rewind cX5_rewind 1 none) rm_X5_rewind (va_Pc [.ref (q 4)] (VB g A (XW g q x_crowd x_latestFault x_places x_mask x_w_robots x_w_size x_w_nexts x_a_length x_t_length x_t_token x_t_from x_t_value x_t_behind x_r_wants x_r_pairs x_r_sees x_r_row x_b_size x_s_size x_w_names x_w_goals x_w_links x_w_linked x_w_ups x_w_downs x_w_next x_a_begun x_t_bytes x_b_rows x_b_acts x_s_rows x_s_acts))) (va_Qv (fun (_ : Unit) => True) (fun _ => VB g A (XW g q x_crowd x_latestFault x_places x_mask x_w_robots x_w_size x_w_nexts x_a_length x_t_length res.1 res.2.1 res.2.2.1 res.2.2.2 x_r_wants x_r_pairs x_r_sees x_r_row x_b_size x_s_size x_w_names x_w_goals x_w_links x_w_linked x_w_ups x_w_downs x_w_next x_a_begun x_t_bytes x_b_rows x_b_acts x_s_rows x_s_acts)) A) 0 0 A := by
  unfold F_X5_rewind at h
  refine MetV (own := RX5) (ws' := (XW g q x_crowd x_latestFault x_places x_mask x_w_robots x_w_size x_w_nexts x_a_length x_t_length res.1 res.2.1 res.2.2.1 res.2.2.2 x_r_wants x_r_pairs x_r_sees x_r_row x_b_size x_s_size x_w_names x_w_goals x_w_links x_w_linked x_w_ups x_w_downs x_w_next x_a_begun x_t_bytes x_b_rows x_b_acts x_s_rows x_s_acts)) (by decide) rfl (Nat.le_of_ble_eq_true rfl) ?_
  intro p e s m args below meth c Q F E ret ls J hl
  have hx := F.1
  have hb := F.2.1
  have hl : lv_has ls 1 [(0, .ref (q 4))] := hl
  refine lv_aload_n hx hb dX5_rewind_0 rfl (lv_at hl 0 rfl) ?_
  refine lv_iconst (v := 0) hx hb dX5_rewind_1 (by decide) ?_
  refine xp_4_2 F E J fl_X5_19 dX5_rewind_2 (fun H locs J => ?_)
  refine lv_aload_n hx hb dX5_rewind_5 rfl (lv_at hl 0 rfl) ?_
  refine lv_iconst (v := 0) hx hb dX5_rewind_6 (by decide) ?_
  refine xp_4_3 F E J fl_X5_22 dX5_rewind_7 (fun H locs J => ?_)
  refine lv_aload_n hx hb dX5_rewind_10 rfl (lv_at hl 0 rfl) ?_
  refine lv_iconst (v := 0) hx hb dX5_rewind_11 (by decide) ?_
  refine xp_4_4 F E J fl_X5_25 dX5_rewind_12 (fun H locs J => ?_)
  refine lv_aload_n hx hb dX5_rewind_15 rfl (lv_at hl 0 rfl) ?_
  refine lv_iconst (v := 0) hx hb dX5_rewind_16 (by decide) ?_
  refine xp_4_5 F E J fl_X5_28 dX5_rewind_17 (fun H locs J => ?_)
  obtain rfl := Option.some.inj h
  exact ret _ _ _ _ J dX5_rewind_20
set_option maxHeartbeats 4000000 in
set_option maxRecDepth 100000 in
theorem c_X5_byteAt {l : Launch} {g : GG} {A : Nat → Prop} {q : Nat → Nat} {x_crowd x_latestFault x_places x_mask x_w_robots x_w_size x_w_nexts x_a_length x_t_length x_t_token x_t_from x_t_value x_t_behind x_r_wants x_r_pairs x_r_sees : Int32} {x_r_row : Int64} {x_b_size x_s_size : Int32} {x_w_names : Nat → Int32} {x_w_goals x_w_links : Nat → Int64} {x_w_linked x_w_ups x_w_downs x_w_next x_a_begun x_t_bytes : Nat → Int32} {x_b_rows : Nat → Int64} {x_b_acts : Nat → Int32} {x_s_rows : Nat → Int64} {x_s_acts : Nat → Int32} (a0 : Int32) (res : Int32) (h : F_X5_byteAt a0 x_t_length x_t_bytes = some res) : Met l yX5_byteAt (wS yX5_byteAt cX5_byteAt 2 (some .int)) rm_X5_byteAt (va_Pc [.ref (q 4), .int a0] (VB g A (XW g q x_crowd x_latestFault x_places x_mask x_w_robots x_w_size x_w_nexts x_a_length x_t_length x_t_token x_t_from x_t_value x_t_behind x_r_wants x_r_pairs x_r_sees x_r_row x_b_size x_s_size x_w_names x_w_goals x_w_links x_w_linked x_w_ups x_w_downs x_w_next x_a_begun x_t_bytes x_b_rows x_b_acts x_s_rows x_s_acts))) (va_Qi (fun r (_ : Unit) => r = res) (fun _ => VB g A (XW g q x_crowd x_latestFault x_places x_mask x_w_robots x_w_size x_w_nexts x_a_length x_t_length x_t_token x_t_from x_t_value x_t_behind x_r_wants x_r_pairs x_r_sees x_r_row x_b_size x_s_size x_w_names x_w_goals x_w_links x_w_linked x_w_ups x_w_downs x_w_next x_a_begun x_t_bytes x_b_rows x_b_acts x_s_rows x_s_acts)) A) 0 0 A := by
  unfold F_X5_byteAt at h
  refine MetI (res := res) (own := RX5) (ws' := (XW g q x_crowd x_latestFault x_places x_mask x_w_robots x_w_size x_w_nexts x_a_length x_t_length x_t_token x_t_from x_t_value x_t_behind x_r_wants x_r_pairs x_r_sees x_r_row x_b_size x_s_size x_w_names x_w_goals x_w_links x_w_linked x_w_ups x_w_downs x_w_next x_a_begun x_t_bytes x_b_rows x_b_acts x_s_rows x_s_acts)) (by decide) rfl (Nat.le_of_ble_eq_true rfl) ?_
  intro p e s m args below meth c Q F E ret ls J hl
  have hx := F.1
  have hb := F.2.1
  have hl : lv_has ls 2 [(0, .ref (q 4)), (1, .int a0)] := hl
  refine lv_iload_n hx hb dX5_byteAt_0 rfl (lv_at hl 1 rfl) ?_
  refine lv_aload_n hx hb dX5_byteAt_1 rfl (lv_at hl 0 rfl) ?_
  refine xg_4_1 F E J fl_X5_15 dX5_byteAt_2 ?_
  obtain ⟨p1, hp1, h⟩ := ob h
  refine onZ (runN (As := [.int a0, .int x_t_length]) (rest := []) F E J (c_X7_outside a0 x_t_length p1 hp1) cn_X5_75 ⟨rfl, rfl, Nat.le_of_ble_eq_true rfl, Nat.le_of_ble_eq_true rfl⟩ rfl hl.1 rfl (Nat.le_of_ble_eq_true rfl) dX5_byteAt_5) J (fun hzbp1 H locs J => ?_)
  refine lv_if_ne (tgt := 18) hx hb dX5_byteAt_8 (by decide) (fun c2 => ?_) (fun c2 => ?_)
  · have h := itn c2 h
    refine lv_iconst (v := (-1)) hx hb dX5_byteAt_18 (by decide) ?_
    refine lv_goto (tgt := 28) hx hb dX5_byteAt_19 (by decide) ?_
    obtain rfl := Option.some.inj h
    exact ret _ _ _ _ J dX5_byteAt_28
  · have h := itp c2 h
    refine lv_iload_n hx hb dX5_byteAt_11 rfl (lv_at hl 1 rfl) ?_
    refine lv_sipush (v := 400) hx hb dX5_byteAt_12 (by decide) ?_
    refine lv_icmp_lt (tgt := 22) hx hb dX5_byteAt_15 (by decide) (fun c3 => ?_) (fun c3 => ?_)
    · have h := itp c3 h
      refine lv_aload_n hx hb dX5_byteAt_22 rfl (lv_at hl 0 rfl) ?_
      refine xg_4_0 F E J fl_X5_9 dX5_byteAt_23 ?_
      refine lv_iload_n hx hb dX5_byteAt_26 rfl (lv_at hl 1 rfl) ?_
      obtain ⟨hi, h⟩ := gdt h
      refine xl_16 F E J (inbt hi) dX5_byteAt_27 ?_
      obtain rfl := Option.some.inj h
      exact ret _ _ _ _ J dX5_byteAt_28
    · have h := itn c3 h
      refine lv_iconst (v := (-1)) hx hb dX5_byteAt_18 (by decide) ?_
      refine lv_goto (tgt := 28) hx hb dX5_byteAt_19 (by decide) ?_
      obtain rfl := Option.some.inj h
      exact ret _ _ _ _ J dX5_byteAt_28
set_option maxHeartbeats 4000000 in
set_option maxRecDepth 100000 in
theorem c_X5_isBlank {l : Launch} {g : GG} {A : Nat → Prop} {ws : va_W} (a0 : Int32) (res : Int32) (h : F_X5_isBlank a0 = some res) : Met l yX5_isBlank (wS yX5_isBlank cX5_isBlank 1 (some .boolean)) rm_X5_isBlank (va_Pc [.int a0] (VB g A ws)) (va_Qi (fun r (_ : Unit) => r = res ∧ zB r) (fun _ => VB g A ws) A) 0 0 A := by
  unfold F_X5_isBlank at h
  refine MetZ (res := res) (own := RX5) (ws' := ws) (by decide) rfl (Nat.le_of_ble_eq_true rfl) ?_
  intro p e s m args below meth c Q F E ret ls J hl
  have hx := F.1
  have hb := F.2.1
  have hl : lv_has ls 1 [(0, .int a0)] := hl
  refine lv_iload_n hx hb dX5_isBlank_0 rfl (lv_at hl 0 rfl) ?_
  refine lv_bipush (v := 32) hx hb dX5_isBlank_1 (by decide) ?_
  refine lv_icmp_eq (tgt := 12) hx hb dX5_isBlank_3 (by decide) (fun c1 => ?_) (fun c1 => ?_)
  · have h := itp c1 h
    refine lv_iconst (v := 1) hx hb dX5_isBlank_12 (by decide) ?_
    refine lv_goto (tgt := 17) hx hb dX5_isBlank_13 (by decide) ?_
    obtain rfl := Option.some.inj h
    exact ret _ _ _ _ zB1 J dX5_isBlank_17
  · have h := itn c1 h
    refine lv_iload_n hx hb dX5_isBlank_6 rfl (lv_at hl 0 rfl) ?_
    refine lv_bipush (v := 10) hx hb dX5_isBlank_7 (by decide) ?_
    refine lv_icmp_ne (tgt := 16) hx hb dX5_isBlank_9 (by decide) (fun c2 => ?_) (fun c2 => ?_)
    · have h := itn c2 h
      refine lv_iconst (v := 0) hx hb dX5_isBlank_16 (by decide) ?_
      obtain rfl := Option.some.inj h
      exact ret _ _ _ _ zB0 J dX5_isBlank_17
    · have h := itp c2 h
      refine lv_iconst (v := 1) hx hb dX5_isBlank_12 (by decide) ?_
      refine lv_goto (tgt := 17) hx hb dX5_isBlank_13 (by decide) ?_
      obtain rfl := Option.some.inj h
      exact ret _ _ _ _ zB1 J dX5_isBlank_17
set_option maxHeartbeats 4000000 in
set_option maxRecDepth 100000 in
theorem c_X5_isFigure {l : Launch} {g : GG} {A : Nat → Prop} {ws : va_W} (a0 : Int32) (res : Int32) (h : F_X5_isFigure a0 = some res) : Met l yX5_isFigure (wS yX5_isFigure cX5_isFigure 1 (some .boolean)) rm_X5_isFigure (va_Pc [.int a0] (VB g A ws)) (va_Qi (fun r (_ : Unit) => r = res ∧ zB r) (fun _ => VB g A ws) A) 0 0 A := by
  unfold F_X5_isFigure at h
  refine MetZ (res := res) (own := RX5) (ws' := ws) (by decide) rfl (Nat.le_of_ble_eq_true rfl) ?_
  intro p e s m args below meth c Q F E ret ls J hl
  have hx := F.1
  have hb := F.2.1
  have hl : lv_has ls 1 [(0, .int a0)] := hl
  refine lv_iload_n hx hb dX5_isFigure_0 rfl (lv_at hl 0 rfl) ?_
  refine lv_bipush (v := 48) hx hb dX5_isFigure_1 (by decide) ?_
  refine lv_icmp_lt (tgt := 16) hx hb dX5_isFigure_3 (by decide) (fun c1 => ?_) (fun c1 => ?_)
  · have h := itp c1 h
    refine lv_iconst (v := 0) hx hb dX5_isFigure_16 (by decide) ?_
    obtain rfl := Option.some.inj h
    exact ret _ _ _ _ zB0 J dX5_isFigure_17
  · have h := itn c1 h
    refine lv_iload_n hx hb dX5_isFigure_6 rfl (lv_at hl 0 rfl) ?_
    refine lv_bipush (v := 57) hx hb dX5_isFigure_7 (by decide) ?_
    refine lv_icmp_gt (tgt := 16) hx hb dX5_isFigure_9 (by decide) (fun c2 => ?_) (fun c2 => ?_)
    · have h := itp c2 h
      refine lv_iconst (v := 0) hx hb dX5_isFigure_16 (by decide) ?_
      obtain rfl := Option.some.inj h
      exact ret _ _ _ _ zB0 J dX5_isFigure_17
    · have h := itn c2 h
      refine lv_iconst (v := 1) hx hb dX5_isFigure_12 (by decide) ?_
      refine lv_goto (tgt := 17) hx hb dX5_isFigure_13 (by decide) ?_
      obtain rfl := Option.some.inj h
      exact ret _ _ _ _ zB1 J dX5_isFigure_17
set_option maxHeartbeats 4000000 in
set_option maxRecDepth 100000 in
theorem c_X5_isLetter {l : Launch} {g : GG} {A : Nat → Prop} {ws : va_W} (a0 : Int32) (res : Int32) (h : F_X5_isLetter a0 = some res) : Met l yX5_isLetter (wS yX5_isLetter cX5_isLetter 1 (some .boolean)) rm_X5_isLetter (va_Pc [.int a0] (VB g A ws)) (va_Qi (fun r (_ : Unit) => r = res ∧ zB r) (fun _ => VB g A ws) A) 0 0 A := by
  unfold F_X5_isLetter at h
  refine MetZ (res := res) (own := RX5) (ws' := ws) (by decide) rfl (Nat.le_of_ble_eq_true rfl) ?_
  intro p e s m args below meth c Q F E ret ls J hl
  have hx := F.1
  have hb := F.2.1
  have hl : lv_has ls 1 [(0, .int a0)] := hl
  refine lv_iload_n hx hb dX5_isLetter_0 rfl (lv_at hl 0 rfl) ?_
  refine lv_bipush (v := 97) hx hb dX5_isLetter_1 (by decide) ?_
  refine lv_icmp_lt (tgt := 16) hx hb dX5_isLetter_3 (by decide) (fun c1 => ?_) (fun c1 => ?_)
  · have h := itp c1 h
    refine lv_iconst (v := 0) hx hb dX5_isLetter_16 (by decide) ?_
    obtain rfl := Option.some.inj h
    exact ret _ _ _ _ zB0 J dX5_isLetter_17
  · have h := itn c1 h
    refine lv_iload_n hx hb dX5_isLetter_6 rfl (lv_at hl 0 rfl) ?_
    refine lv_bipush (v := 122) hx hb dX5_isLetter_7 (by decide) ?_
    refine lv_icmp_gt (tgt := 16) hx hb dX5_isLetter_9 (by decide) (fun c2 => ?_) (fun c2 => ?_)
    · have h := itp c2 h
      refine lv_iconst (v := 0) hx hb dX5_isLetter_16 (by decide) ?_
      obtain rfl := Option.some.inj h
      exact ret _ _ _ _ zB0 J dX5_isLetter_17
    · have h := itn c2 h
      refine lv_iconst (v := 1) hx hb dX5_isLetter_12 (by decide) ?_
      refine lv_goto (tgt := 17) hx hb dX5_isLetter_13 (by decide) ?_
      obtain rfl := Option.some.inj h
      exact ret _ _ _ _ zB1 J dX5_isLetter_17
set_option maxHeartbeats 4000000 in
set_option maxRecDepth 100000 in
theorem c_X5_readNumber {l : Launch} {g : GG} {A : Nat → Prop} {q : Nat → Nat} {x_crowd x_latestFault x_places x_mask x_w_robots x_w_size x_w_nexts x_a_length x_t_length x_t_token x_t_from x_t_value x_t_behind x_r_wants x_r_pairs x_r_sees : Int32} {x_r_row : Int64} {x_b_size x_s_size : Int32} {x_w_names : Nat → Int32} {x_w_goals x_w_links : Nat → Int64} {x_w_linked x_w_ups x_w_downs x_w_next x_a_begun x_t_bytes : Nat → Int32} {x_b_rows : Nat → Int64} {x_b_acts : Nat → Int32} {x_s_rows : Nat → Int64} {x_s_acts : Nat → Int32} (res : Int32 × Int32 × Int32) (h : F_X5_readNumber x_t_length x_t_from x_t_value x_t_behind x_t_bytes = some res) : Met l yX5_readNumber (wS yX5_readNumber cX5_readNumber 2 none) rm_X5_readNumber (va_Pc [.ref (q 4)] (VB g A (XW g q x_crowd x_latestFault x_places x_mask x_w_robots x_w_size x_w_nexts x_a_length x_t_length x_t_token x_t_from x_t_value x_t_behind x_r_wants x_r_pairs x_r_sees x_r_row x_b_size x_s_size x_w_names x_w_goals x_w_links x_w_linked x_w_ups x_w_downs x_w_next x_a_begun x_t_bytes x_b_rows x_b_acts x_s_rows x_s_acts))) (va_Qv (fun (_ : Unit) => True) (fun _ => VB g A (XW g q x_crowd x_latestFault x_places x_mask x_w_robots x_w_size x_w_nexts x_a_length x_t_length res.1 x_t_from res.2.1 res.2.2 x_r_wants x_r_pairs x_r_sees x_r_row x_b_size x_s_size x_w_names x_w_goals x_w_links x_w_linked x_w_ups x_w_downs x_w_next x_a_begun x_t_bytes x_b_rows x_b_acts x_s_rows x_s_acts)) A) 0 0 A := by
  unfold F_X5_readNumber at h
  refine MetV (own := RX5) (ws' := (XW g q x_crowd x_latestFault x_places x_mask x_w_robots x_w_size x_w_nexts x_a_length x_t_length res.1 x_t_from res.2.1 res.2.2 x_r_wants x_r_pairs x_r_sees x_r_row x_b_size x_s_size x_w_names x_w_goals x_w_links x_w_linked x_w_ups x_w_downs x_w_next x_a_begun x_t_bytes x_b_rows x_b_acts x_s_rows x_s_acts)) (by decide) rfl (Nat.le_of_ble_eq_true rfl) ?_
  intro p e s m args below meth c Q F E ret ls J hl
  have hx := F.1
  have hb := F.2.1
  have hl : lv_has ls 2 [(0, .ref (q 4))] := hl
  obtain ⟨o_L1, ho_L1, h⟩ := ob h
  have T_L1 : ∀ (f : Nat) (x_t_behind_L1 : Int32) (o_L1 : Int32), F_X5_readNumber_L1 x_t_length x_t_bytes f x_t_behind_L1 = some o_L1 → ∀ (H : Heap) (locs : List Loc) (ls : Array Slot), VJ g A s.heap (XW g q x_crowd x_latestFault x_places x_mask x_w_robots x_w_size x_w_nexts x_a_length x_t_length x_t_token x_t_from x_t_value x_t_behind_L1 x_r_wants x_r_pairs x_r_sees x_r_row x_b_size x_s_size x_w_names x_w_goals x_w_links x_w_linked x_w_ups x_w_downs x_w_next x_a_begun x_t_bytes x_b_rows x_b_acts x_s_rows x_s_acts) H locs → lv_has ls 2 [(0, .ref (q 4))] → (∀ (H : Heap) (locs : List Loc) (ls : Array Slot), VJ g A s.heap (XW g q x_crowd x_latestFault x_places x_mask x_w_robots x_w_size x_w_nexts x_a_length x_t_length x_t_token x_t_from x_t_value o_L1 x_r_wants x_r_pairs x_r_sees x_r_row x_b_size x_s_size x_w_names x_w_goals x_w_links x_w_linked x_w_ups x_w_downs x_w_next x_a_begun x_t_bytes x_b_rows x_b_acts x_s_rows x_s_acts) H locs → lv_has ls 2 [(0, .ref (q 4))] → W p l e rm_X5_readNumber s m args below meth c H locs 0 0 Q (F0 m 38 ls [])) → W p l e rm_X5_readNumber s m args below meth c H locs 0 0 Q (F0 m 0 ls []) := by
    clear h ho_L1 hl J
    intro f
    induction f with
    | zero => intro x_t_behind_L1 o_L1 h; exact absurd h (by simp [F_X5_readNumber_L1])
    | succ f ih =>
      intro x_t_behind_L1 o_L1 h H locs ls J hl K_L1
      rw [F_X5_readNumber_L1.eq_2] at h
      refine lv_aload_n hx hb dX5_readNumber_0 rfl (lv_at hl 0 rfl) ?_
      refine xg_4_5 F E J fl_X5_28 dX5_readNumber_1 ?_
      refine lv_aload_n hx hb dX5_readNumber_4 rfl (lv_at hl 0 rfl) ?_
      refine xg_4_1 F E J fl_X5_15 dX5_readNumber_5 ?_
      refine lv_icmp_ge (tgt := 38) hx hb dX5_readNumber_8 (by decide) (fun c2 => ?_) (fun c2 => ?_)
      · have h := itp c2 h
        obtain rfl := Option.some.inj h
        exact K_L1 _ _ _ J (lv_sub hl [0] rfl)
      · have h := itn c2 h
        refine lv_aload_n hx hb dX5_readNumber_11 rfl (lv_at hl 0 rfl) ?_
        refine lv_aload_n hx hb dX5_readNumber_12 rfl (lv_at hl 0 rfl) ?_
        refine xg_4_5 F E J fl_X5_28 dX5_readNumber_13 ?_
        obtain ⟨p3, hp3, h⟩ := ob h
        refine onI (runV (As := [.int x_t_behind_L1]) (rest := []) F E J (c_X5_byteAt x_t_behind_L1 p3 hp3) cw_X5_34 ⟨rfl, rfl, Nat.le_of_ble_eq_true rfl, Nat.le_of_ble_eq_true rfl⟩ rcX4 rfl hl.1 rfl (Nat.le_of_ble_eq_true rfl) dX5_readNumber_16) J (fun H locs J => ?_)
        obtain ⟨p4, hp4, h⟩ := ob h
        refine onZ (runS (As := [.int p3]) (rest := []) F E J (c_X5_isFigure p3 p4 hp4) cw_X5_42 ⟨rfl, rfl, Nat.le_of_ble_eq_true rfl, Nat.le_of_ble_eq_true rfl⟩ rfl hl.1 rfl (Nat.le_of_ble_eq_true rfl) dX5_readNumber_19) J (fun hzbp4 H locs J => ?_)
        refine lv_if_eq (tgt := 38) hx hb dX5_readNumber_22 (by decide) (fun c5 => ?_) (fun c5 => ?_)
        · have h := itp c5 h
          obtain rfl := Option.some.inj h
          exact K_L1 _ _ _ J (lv_sub hl [0] rfl)
        · have h := itn c5 h
          refine lv_aload_n hx hb dX5_readNumber_25 rfl (lv_at hl 0 rfl) ?_
          refine lv_dup hx hb dX5_readNumber_26 rfl ?_
          refine xg_4_5 F E J fl_X5_28 dX5_readNumber_27 ?_
          refine lv_iconst (v := 1) hx hb dX5_readNumber_30 (by decide) ?_
          refine lv_iadd hx hb dX5_readNumber_31 ?_
          obtain ⟨v6, hv6, h⟩ := obs h
          refine nmI hv6 ?_
          refine xp_4_5 F E J fl_X5_28 dX5_readNumber_32 (fun H locs J => ?_)
          refine lv_goto (tgt := 0) hx hb dX5_readNumber_35 (by decide) ?_
          exact ih _ _ h _ _ _ J (lv_sub hl [0] rfl) K_L1
  refine T_L1 FU x_t_behind o_L1 ho_L1 _ _ _ J (lv_sub hl [0] rfl) (fun H locs ls J hl => ?_)
  refine lv_aload_n hx hb dX5_readNumber_38 rfl (lv_at hl 0 rfl) ?_
  refine lv_aload_n hx hb dX5_readNumber_39 rfl (lv_at hl 0 rfl) ?_
  refine xg_4_5 F E J fl_X5_28 dX5_readNumber_40 ?_
  refine lv_aload_n hx hb dX5_readNumber_43 rfl (lv_at hl 0 rfl) ?_
  refine xg_4_3 F E J fl_X5_22 dX5_readNumber_44 ?_
  refine lv_isub hx hb dX5_readNumber_47 ?_
  refine lv_iconst (v := 2) hx hb dX5_readNumber_48 (by decide) ?_
  obtain ⟨j7, hj7, h⟩ := ob h
  have Kj7 : ∀ (H : Heap) (locs : List Loc) (ls : Array Slot), VJ g A s.heap (XW g q x_crowd x_latestFault x_places x_mask x_w_robots x_w_size x_w_nexts x_a_length x_t_length x_t_token x_t_from x_t_value o_L1 x_r_wants x_r_pairs x_r_sees x_r_row x_b_size x_s_size x_w_names x_w_goals x_w_links x_w_linked x_w_ups x_w_downs x_w_next x_a_begun x_t_bytes x_b_rows x_b_acts x_s_rows x_s_acts) H locs → lv_has ls 2 [(0, .ref (q 4))] → W p l e rm_X5_readNumber s m args below meth c H locs 0 0 Q (F0 m 57 ls [.int j7, .ref (q 4)]) := by
    intro H locs ls J hl
    refine xp_4_2 F E J fl_X5_19 dX5_readNumber_57 (fun H locs J => ?_)
    refine lv_aload_n hx hb dX5_readNumber_60 rfl (lv_at hl 0 rfl) ?_
    refine xg_4_3 F E J fl_X5_22 dX5_readNumber_61 ?_
    refine lv_istore_n (lv' := [(1, .int x_t_from), (0, .ref (q 4))]) hx hb dX5_readNumber_64 rfl hl (by decide) rfl (fun ls hl => ?_)
    obtain ⟨o_L9, ho_L9, h⟩ := ob h
    have T_L9 : ∀ (f : Nat) (l1_L9 : Int32) (x_t_value_L9 : Int32) (o_L9 : Int32), F_X5_readNumber_L9 x_t_length j7 o_L1 x_t_bytes f l1_L9 x_t_value_L9 = some o_L9 → ∀ (H : Heap) (locs : List Loc) (ls : Array Slot), VJ g A s.heap (XW g q x_crowd x_latestFault x_places x_mask x_w_robots x_w_size x_w_nexts x_a_length x_t_length j7 x_t_from x_t_value_L9 o_L1 x_r_wants x_r_pairs x_r_sees x_r_row x_b_size x_s_size x_w_names x_w_goals x_w_links x_w_linked x_w_ups x_w_downs x_w_next x_a_begun x_t_bytes x_b_rows x_b_acts x_s_rows x_s_acts) H locs → lv_has ls 2 [(0, .ref (q 4)), (1, .int l1_L9)] → (∀ (H : Heap) (locs : List Loc) (ls : Array Slot), VJ g A s.heap (XW g q x_crowd x_latestFault x_places x_mask x_w_robots x_w_size x_w_nexts x_a_length x_t_length j7 x_t_from o_L9 o_L1 x_r_wants x_r_pairs x_r_sees x_r_row x_b_size x_s_size x_w_names x_w_goals x_w_links x_w_linked x_w_ups x_w_downs x_w_next x_a_begun x_t_bytes x_b_rows x_b_acts x_s_rows x_s_acts) H locs → lv_has ls 2 [] → W p l e rm_X5_readNumber s m args below meth c H locs 0 0 Q (F0 m 107 ls [])) → W p l e rm_X5_readNumber s m args below meth c H locs 0 0 Q (F0 m 65 ls []) := by
      clear h ho_L9 hl J
      intro f
      induction f with
      | zero => intro l1_L9 x_t_value_L9 o_L9 h; exact absurd h (by simp [F_X5_readNumber_L9])
      | succ f ih =>
        intro l1_L9 x_t_value_L9 o_L9 h H locs ls J hl K_L9
        rw [F_X5_readNumber_L9.eq_2] at h
        refine lv_iload_n hx hb dX5_readNumber_65 rfl (lv_at hl 1 rfl) ?_
        refine lv_aload_n hx hb dX5_readNumber_66 rfl (lv_at hl 0 rfl) ?_
        refine xg_4_5 F E J fl_X5_28 dX5_readNumber_67 ?_
        refine lv_icmp_ge (tgt := 107) hx hb dX5_readNumber_70 (by decide) (fun c10 => ?_) (fun c10 => ?_)
        · have h := itp c10 h
          obtain rfl := Option.some.inj h
          exact K_L9 _ _ _ J (lv_sub hl [] rfl)
        · have h := itn c10 h
          refine lv_aload_n hx hb dX5_readNumber_73 rfl (lv_at hl 0 rfl) ?_
          refine xg_4_2 F E J fl_X5_19 dX5_readNumber_74 ?_
          refine lv_iconst (v := 2) hx hb dX5_readNumber_77 (by decide) ?_
          refine lv_icmp_ne (tgt := 107) hx hb dX5_readNumber_78 (by decide) (fun c11 => ?_) (fun c11 => ?_)
          · have h := itn c11 h
            obtain rfl := Option.some.inj h
            exact K_L9 _ _ _ J (lv_sub hl [] rfl)
          · have h := itp c11 h
            refine lv_aload_n hx hb dX5_readNumber_81 rfl (lv_at hl 0 rfl) ?_
            refine lv_bipush (v := 10) hx hb dX5_readNumber_82 (by decide) ?_
            refine lv_aload_n hx hb dX5_readNumber_84 rfl (lv_at hl 0 rfl) ?_
            refine xg_4_4 F E J fl_X5_25 dX5_readNumber_85 ?_
            refine lv_imul hx hb dX5_readNumber_88 ?_
            refine lv_aload_n hx hb dX5_readNumber_89 rfl (lv_at hl 0 rfl) ?_
            refine lv_iload_n hx hb dX5_readNumber_90 rfl (lv_at hl 1 rfl) ?_
            obtain ⟨p12, hp12, h⟩ := ob h
            refine onI (runV (As := [.int l1_L9]) (rest := [.int (10 * x_t_value_L9), .ref (q 4)]) F E J (c_X5_byteAt l1_L9 p12 hp12) cw_X5_34 ⟨rfl, rfl, Nat.le_of_ble_eq_true rfl, Nat.le_of_ble_eq_true rfl⟩ rcX4 rfl hl.1 rfl (Nat.le_of_ble_eq_true rfl) dX5_readNumber_91) J (fun H locs J => ?_)
            refine lv_iadd hx hb dX5_readNumber_94 ?_
            refine lv_bipush (v := 48) hx hb dX5_readNumber_95 (by decide) ?_
            refine lv_isub hx hb dX5_readNumber_97 ?_
            obtain ⟨v13, hv13, h⟩ := obs h
            refine nmI hv13 ?_
            refine xp_4_4 F E J fl_X5_25 dX5_readNumber_98 (fun H locs J => ?_)
            obtain ⟨v14, hv14, h⟩ := obs h
            refine lv_iinc (v := v14) (lv' := [(1, .int v14), (0, .ref (q 4))]) hx hb dX5_readNumber_101 hl (k := 1) rfl (by rw [← hv14]; rfl) (by decide) rfl (fun ls hl => ?_)
            refine lv_goto (tgt := 65) hx hb dX5_readNumber_104 (by decide) ?_
            exact ih _ _ _ h _ _ _ J (lv_sub hl [1, 0] rfl) K_L9
    refine T_L9 FU x_t_from x_t_value o_L9 ho_L9 _ _ _ J (lv_sub hl [1, 0] rfl) (fun H locs ls J hl => ?_)
    obtain rfl := Option.some.inj h
    exact ret _ _ _ _ J dX5_readNumber_107
  clear h
  have h := hj7
  refine lv_icmp_le (tgt := 56) hx hb dX5_readNumber_49 (by decide) (fun c8 => ?_) (fun c8 => ?_)
  · have h := itp c8 h
    refine lv_iconst (v := 2) hx hb dX5_readNumber_56 (by decide) ?_
    obtain rfl := Option.some.inj h
    exact Kj7 _ _ _ J (lv_sub hl [0] rfl)
  · have h := itn c8 h
    refine lv_iconst (v := 0) hx hb dX5_readNumber_52 (by decide) ?_
    refine lv_goto (tgt := 57) hx hb dX5_readNumber_53 (by decide) ?_
    obtain rfl := Option.some.inj h
    exact Kj7 _ _ _ J (lv_sub hl [0] rfl)
set_option maxHeartbeats 4000000 in
set_option maxRecDepth 100000 in
theorem c_X2_isPlaced {l : Launch} {g : GG} {A : Nat → Prop} {q : Nat → Nat} {x_crowd x_latestFault x_places x_mask x_w_robots x_w_size x_w_nexts x_a_length x_t_length x_t_token x_t_from x_t_value x_t_behind x_r_wants x_r_pairs x_r_sees : Int32} {x_r_row : Int64} {x_b_size x_s_size : Int32} {x_w_names : Nat → Int32} {x_w_goals x_w_links : Nat → Int64} {x_w_linked x_w_ups x_w_downs x_w_next x_a_begun x_t_bytes : Nat → Int32} {x_b_rows : Nat → Int64} {x_b_acts : Nat → Int32} {x_s_rows : Nat → Int64} {x_s_acts : Nat → Int32} (res : Int32) (h : F_X2_isPlaced x_t_token x_r_wants = some res) : Met l yX2_isPlaced (wS yX2_isPlaced cX2_isPlaced 1 (some .boolean)) rm_X2_isPlaced (va_Pc [.ref (q 5)] (VB g A (XW g q x_crowd x_latestFault x_places x_mask x_w_robots x_w_size x_w_nexts x_a_length x_t_length x_t_token x_t_from x_t_value x_t_behind x_r_wants x_r_pairs x_r_sees x_r_row x_b_size x_s_size x_w_names x_w_goals x_w_links x_w_linked x_w_ups x_w_downs x_w_next x_a_begun x_t_bytes x_b_rows x_b_acts x_s_rows x_s_acts))) (va_Qi (fun r (_ : Unit) => r = res ∧ zB r) (fun _ => VB g A (XW g q x_crowd x_latestFault x_places x_mask x_w_robots x_w_size x_w_nexts x_a_length x_t_length x_t_token x_t_from x_t_value x_t_behind x_r_wants x_r_pairs x_r_sees x_r_row x_b_size x_s_size x_w_names x_w_goals x_w_links x_w_linked x_w_ups x_w_downs x_w_next x_a_begun x_t_bytes x_b_rows x_b_acts x_s_rows x_s_acts)) A) 0 0 A := by
  unfold F_X2_isPlaced at h
  refine MetZ (res := res) (own := RX2) (ws' := (XW g q x_crowd x_latestFault x_places x_mask x_w_robots x_w_size x_w_nexts x_a_length x_t_length x_t_token x_t_from x_t_value x_t_behind x_r_wants x_r_pairs x_r_sees x_r_row x_b_size x_s_size x_w_names x_w_goals x_w_links x_w_linked x_w_ups x_w_downs x_w_next x_a_begun x_t_bytes x_b_rows x_b_acts x_s_rows x_s_acts)) (by decide) rfl (Nat.le_of_ble_eq_true rfl) ?_
  intro p e s m args below meth c Q F E ret ls J hl
  have hx := F.1
  have hb := F.2.1
  have hl : lv_has ls 1 [(0, .ref (q 5))] := hl
  refine lv_aload_n hx hb dX2_isPlaced_0 rfl (lv_at hl 0 rfl) ?_
  refine xg_5_1 F E J fl_X2_11 dX2_isPlaced_1 ?_
  by_cases c1 : x_r_wants = (0 : Int32)
  · have h := itp c1 h
    refine lv_tableIn (tgt := 40) (off := 36) hx hb dX2_isPlaced_4 (by rw [c1]; decide) (by rw [c1]; decide) (by rw [c1]; rfl) (by decide) ?_
    refine lv_aload_n hx hb dX2_isPlaced_40 rfl (lv_at hl 0 rfl) ?_
    refine xg_5_0 F E J fl_X2_25 dX2_isPlaced_41 ?_
    refine xgN_4_2 (host := RX7) F E J (by decide +kernel) dX2_isPlaced_44 ?_
    refine lv_iconst (v := 5) hx hb dX2_isPlaced_47 (by decide) ?_
    refine lv_icmp_eq (tgt := 62) hx hb dX2_isPlaced_48 (by decide) (fun c2 => ?_) (fun c2 => ?_)
    · have h := itp c2 h
      refine lv_iconst (v := 1) hx hb dX2_isPlaced_62 (by decide) ?_
      refine lv_goto (tgt := 67) hx hb dX2_isPlaced_63 (by decide) ?_
      obtain rfl := Option.some.inj h
      exact ret _ _ _ _ zB1 J dX2_isPlaced_67
    · have h := itn c2 h
      refine lv_aload_n hx hb dX2_isPlaced_51 rfl (lv_at hl 0 rfl) ?_
      refine xg_5_0 F E J fl_X2_25 dX2_isPlaced_52 ?_
      refine xgN_4_2 (host := RX7) F E J (by decide +kernel) dX2_isPlaced_55 ?_
      refine lv_iconst (v := 1) hx hb dX2_isPlaced_58 (by decide) ?_
      refine lv_icmp_ne (tgt := 66) hx hb dX2_isPlaced_59 (by decide) (fun c3 => ?_) (fun c3 => ?_)
      · have h := itn c3 h
        refine lv_iconst (v := 0) hx hb dX2_isPlaced_66 (by decide) ?_
        obtain rfl := Option.some.inj h
        exact ret _ _ _ _ zB0 J dX2_isPlaced_67
      · have h := itp c3 h
        refine lv_iconst (v := 1) hx hb dX2_isPlaced_62 (by decide) ?_
        refine lv_goto (tgt := 67) hx hb dX2_isPlaced_63 (by decide) ?_
        obtain rfl := Option.some.inj h
        exact ret _ _ _ _ zB1 J dX2_isPlaced_67
  · have h := itn c1 h
    by_cases c4 : x_r_wants = (1 : Int32)
    · have h := itp c4 h
      refine lv_tableIn (tgt := 114) (off := 110) hx hb dX2_isPlaced_4 (by rw [c4]; decide) (by rw [c4]; decide) (by rw [c4]; rfl) (by decide) ?_
      refine lv_aload_n hx hb dX2_isPlaced_114 rfl (lv_at hl 0 rfl) ?_
      refine xg_5_0 F E J fl_X2_25 dX2_isPlaced_115 ?_
      refine xgN_4_2 (host := RX7) F E J (by decide +kernel) dX2_isPlaced_118 ?_
      refine lv_iconst (v := 2) hx hb dX2_isPlaced_121 (by decide) ?_
      refine lv_icmp_ne (tgt := 129) hx hb dX2_isPlaced_122 (by decide) (fun c5 => ?_) (fun c5 => ?_)
      · have h := itn c5 h
        refine lv_iconst (v := 0) hx hb dX2_isPlaced_129 (by decide) ?_
        obtain rfl := Option.some.inj h
        exact ret _ _ _ _ zB0 J dX2_isPlaced_130
      · have h := itp c5 h
        refine lv_iconst (v := 1) hx hb dX2_isPlaced_125 (by decide) ?_
        refine lv_goto (tgt := 130) hx hb dX2_isPlaced_126 (by decide) ?_
        obtain rfl := Option.some.inj h
        exact ret _ _ _ _ zB1 J dX2_isPlaced_130
    · have h := itn c4 h
      by_cases c6 : x_r_wants = (2 : Int32)
      · have h := itp c6 h
        refine lv_tableIn (tgt := 114) (off := 110) hx hb dX2_isPlaced_4 (by rw [c6]; decide) (by rw [c6]; decide) (by rw [c6]; rfl) (by decide) ?_
        refine lv_aload_n hx hb dX2_isPlaced_114 rfl (lv_at hl 0 rfl) ?_
        refine xg_5_0 F E J fl_X2_25 dX2_isPlaced_115 ?_
        refine xgN_4_2 (host := RX7) F E J (by decide +kernel) dX2_isPlaced_118 ?_
        refine lv_iconst (v := 2) hx hb dX2_isPlaced_121 (by decide) ?_
        refine lv_icmp_ne (tgt := 129) hx hb dX2_isPlaced_122 (by decide) (fun c7 => ?_) (fun c7 => ?_)
        · have h := itn c7 h
          refine lv_iconst (v := 0) hx hb dX2_isPlaced_129 (by decide) ?_
          obtain rfl := Option.some.inj h
          exact ret _ _ _ _ zB0 J dX2_isPlaced_130
        · have h := itp c7 h
          refine lv_iconst (v := 1) hx hb dX2_isPlaced_125 (by decide) ?_
          refine lv_goto (tgt := 130) hx hb dX2_isPlaced_126 (by decide) ?_
          obtain rfl := Option.some.inj h
          exact ret _ _ _ _ zB1 J dX2_isPlaced_130
      · have h := itn c6 h
        by_cases c8 : x_r_wants = (3 : Int32)
        · have h := itp c8 h
          refine lv_tableIn (tgt := 68) (off := 64) hx hb dX2_isPlaced_4 (by rw [c8]; decide) (by rw [c8]; decide) (by rw [c8]; rfl) (by decide) ?_
          refine lv_aload_n hx hb dX2_isPlaced_68 rfl (lv_at hl 0 rfl) ?_
          refine xg_5_0 F E J fl_X2_25 dX2_isPlaced_69 ?_
          refine xgN_4_2 (host := RX7) F E J (by decide +kernel) dX2_isPlaced_72 ?_
          refine lv_iconst (v := 3) hx hb dX2_isPlaced_75 (by decide) ?_
          refine lv_icmp_eq (tgt := 91) hx hb dX2_isPlaced_76 (by decide) (fun c9 => ?_) (fun c9 => ?_)
          · have h := itp c9 h
            refine lv_iconst (v := 1) hx hb dX2_isPlaced_91 (by decide) ?_
            refine lv_goto (tgt := 96) hx hb dX2_isPlaced_92 (by decide) ?_
            obtain rfl := Option.some.inj h
            exact ret _ _ _ _ zB1 J dX2_isPlaced_96
          · have h := itn c9 h
            refine lv_aload_n hx hb dX2_isPlaced_79 rfl (lv_at hl 0 rfl) ?_
            refine xg_5_0 F E J fl_X2_25 dX2_isPlaced_80 ?_
            refine xgN_4_2 (host := RX7) F E J (by decide +kernel) dX2_isPlaced_83 ?_
            refine lv_bipush (v := 6) hx hb dX2_isPlaced_86 (by decide) ?_
            refine lv_icmp_ne (tgt := 95) hx hb dX2_isPlaced_88 (by decide) (fun c10 => ?_) (fun c10 => ?_)
            · have h := itn c10 h
              refine lv_iconst (v := 0) hx hb dX2_isPlaced_95 (by decide) ?_
              obtain rfl := Option.some.inj h
              exact ret _ _ _ _ zB0 J dX2_isPlaced_96
            · have h := itp c10 h
              refine lv_iconst (v := 1) hx hb dX2_isPlaced_91 (by decide) ?_
              refine lv_goto (tgt := 96) hx hb dX2_isPlaced_92 (by decide) ?_
              obtain rfl := Option.some.inj h
              exact ret _ _ _ _ zB1 J dX2_isPlaced_96
        · have h := itn c8 h
          by_cases c11 : x_r_wants = (4 : Int32)
          · have h := itp c11 h
            refine lv_tableIn (tgt := 97) (off := 93) hx hb dX2_isPlaced_4 (by rw [c11]; decide) (by rw [c11]; decide) (by rw [c11]; rfl) (by decide) ?_
            refine lv_aload_n hx hb dX2_isPlaced_97 rfl (lv_at hl 0 rfl) ?_
            refine xg_5_0 F E J fl_X2_25 dX2_isPlaced_98 ?_
            refine xgN_4_2 (host := RX7) F E J (by decide +kernel) dX2_isPlaced_101 ?_
            refine lv_iconst (v := 4) hx hb dX2_isPlaced_104 (by decide) ?_
            refine lv_icmp_ne (tgt := 112) hx hb dX2_isPlaced_105 (by decide) (fun c12 => ?_) (fun c12 => ?_)
            · have h := itn c12 h
              refine lv_iconst (v := 0) hx hb dX2_isPlaced_112 (by decide) ?_
              obtain rfl := Option.some.inj h
              exact ret _ _ _ _ zB0 J dX2_isPlaced_113
            · have h := itp c12 h
              refine lv_iconst (v := 1) hx hb dX2_isPlaced_108 (by decide) ?_
              refine lv_goto (tgt := 113) hx hb dX2_isPlaced_109 (by decide) ?_
              obtain rfl := Option.some.inj h
              exact ret _ _ _ _ zB1 J dX2_isPlaced_113
          · have h := itn c11 h
            refine lv_tableOut (tgt := 114) hx hb dX2_isPlaced_4 (by have a0 := lv_neT (a := 0) c1 rfl; have a1 := lv_neT (a := 1) c4 rfl; have a2 := lv_neT (a := 2) c6 rfl; have a3 := lv_neT (a := 3) c8 rfl; have a4 := lv_neT (a := 4) c11 rfl; omega) (by decide) ?_
            refine lv_aload_n hx hb dX2_isPlaced_114 rfl (lv_at hl 0 rfl) ?_
            refine xg_5_0 F E J fl_X2_25 dX2_isPlaced_115 ?_
            refine xgN_4_2 (host := RX7) F E J (by decide +kernel) dX2_isPlaced_118 ?_
            refine lv_iconst (v := 2) hx hb dX2_isPlaced_121 (by decide) ?_
            refine lv_icmp_ne (tgt := 129) hx hb dX2_isPlaced_122 (by decide) (fun c13 => ?_) (fun c13 => ?_)
            · have h := itn c13 h
              refine lv_iconst (v := 0) hx hb dX2_isPlaced_129 (by decide) ?_
              obtain rfl := Option.some.inj h
              exact ret _ _ _ _ zB0 J dX2_isPlaced_130
            · have h := itp c13 h
              refine lv_iconst (v := 1) hx hb dX2_isPlaced_125 (by decide) ?_
              refine lv_goto (tgt := 130) hx hb dX2_isPlaced_126 (by decide) ?_
              obtain rfl := Option.some.inj h
              exact ret _ _ _ _ zB1 J dX2_isPlaced_130
