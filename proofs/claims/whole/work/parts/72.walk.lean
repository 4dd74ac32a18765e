set_option maxHeartbeats 4000000 in
set_option maxRecDepth 100000 in
theorem c_X1_find_s {l : Launch} {g : GG} {A : Nat → Prop} {q : Nat → Nat} {x_crowd x_latestFault x_places x_mask x_w_robots x_w_size x_w_nexts x_a_length x_t_length x_t_token x_t_from x_t_value x_t_behind x_r_wants x_r_pairs x_r_sees : Int32} {x_r_row : Int64} {x_b_size x_s_size : Int32} {x_w_names : Nat → Int32} {x_w_goals x_w_links : Nat → Int64} {x_w_linked x_w_ups x_w_downs x_w_next x_a_begun x_t_bytes : Nat → Int32} {x_b_rows : Nat → Int64} {x_b_acts : Nat → Int32} {x_s_rows : Nat → Int64} {x_s_acts : Nat → Int32} (a0 : Int64) (res : Int32) (h : F_X1_find_s a0 x_s_size x_s_rows = some res) : Met l yX1_find (wS yX1_find cX1_find 4 (some .int)) rm_X1_find_s (va_Pc [.ref (q 7), .long a0] (VB g A (XW g q x_crowd x_latestFault x_places x_mask x_w_robots x_w_size x_w_nexts x_a_length x_t_length x_t_token x_t_from x_t_value x_t_behind x_r_wants x_r_pairs x_r_sees x_r_row x_b_size x_s_size x_w_names x_w_goals x_w_links x_w_linked x_w_ups x_w_downs x_w_next x_a_begun x_t_bytes x_b_rows x_b_acts x_s_rows x_s_acts))) (va_Qi (fun r (_ : Unit) => r = res) (fun _ => VB g A (XW g q x_crowd x_latestFault x_places x_mask x_w_robots x_w_size x_w_nexts x_a_length x_t_length x_t_token x_t_from x_t_value x_t_behind x_r_wants x_r_pairs x_r_sees x_r_row x_b_size x_s_size x_w_names x_w_goals x_w_links x_w_linked x_w_ups x_w_downs x_w_next x_a_begun x_t_bytes x_b_rows x_b_acts x_s_rows x_s_acts)) A) 0 0 A := by
  unfold F_X1_find_s at h
  refine MetI (res := res) (own := RX1) (ws' := (XW g q x_crowd x_latestFault x_places x_mask x_w_robots x_w_size x_w_nexts x_a_length x_t_length x_t_token x_t_from x_t_value x_t_behind x_r_wants x_r_pairs x_r_sees x_r_row x_b_size x_s_size x_w_names x_w_goals x_w_links x_w_linked x_w_ups x_w_downs x_w_next x_a_begun x_t_bytes x_b_rows x_b_acts x_s_rows x_s_acts)) (by decide) rfl (Nat.le_of_ble_eq_true rfl) ?_
  intro p e s m args below meth c Q F E ret ls J hl
  have hx := F.1
  have hb := F.2.1
  have hl : lv_has ls 4 [(0, .ref (q 7)), (1, .long a0)] := hl
  refine lv_iconst (v := 0) hx hb dX1_find_0 (by decide) ?_
  refine lv_istore_n (lv' := [(3, .int 0), (0, .ref (q 7)), (1, .long a0)]) hx hb dX1_find_1 rfl hl (by decide) rfl (fun ls hl => ?_)
  obtain ⟨o_L1s, ho_L1, h⟩ := ob h
  have T_L1 : ∀ (f : Nat) (l3_L1 : Int32) (o_L1s : Sum (Int32) (Unit)), F_X1_find_s_L1 a0 x_s_size x_s_rows f l3_L1 = some o_L1s → ∀ (H : Heap) (locs : List Loc) (ls : Array Slot), VJ g A s.heap (XW g q x_crowd x_latestFault x_places x_mask x_w_robots x_w_size x_w_nexts x_a_length x_t_length x_t_token x_t_from x_t_value x_t_behind x_r_wants x_r_pairs x_r_sees x_r_row x_b_size x_s_size x_w_names x_w_goals x_w_links x_w_linked x_w_ups x_w_downs x_w_next x_a_begun x_t_bytes x_b_rows x_b_acts x_s_rows x_s_acts) H locs → lv_has ls 4 [(0, .ref (q 7)), (1, .long a0), (3, .int l3_L1)] → (∀ (o_L1 : Unit), o_L1s = .inr o_L1 → ∀ (H : Heap) (locs : List Loc) (ls : Array Slot), VJ g A s.heap (XW g q x_crowd x_latestFault x_places x_mask x_w_robots x_w_size x_w_nexts x_a_length x_t_length x_t_token x_t_from x_t_value x_t_behind x_r_wants x_r_pairs x_r_sees x_r_row x_b_size x_s_size x_w_names x_w_goals x_w_links x_w_linked x_w_ups x_w_downs x_w_next x_a_begun x_t_bytes x_b_rows x_b_acts x_s_rows x_s_acts) H locs → lv_has ls 4 [] → W p l e rm_X1_find_s s m args below meth c H locs 0 0 Q (F0 m 35 ls [])) → (∀ x, o_L1s = .inl x → x = res) → W p l e rm_X1_find_s s m args below meth c H locs 0 0 Q (F0 m 2 ls []) := by
    clear h ho_L1 hl J
    intro f
    induction f with
    | zero => intro l3_L1 o_L1s h; exact absurd h (by simp [F_X1_find_s_L1])
    | succ f ih =>
      intro l3_L1 o_L1s h H locs ls J hl K_L1 kr_L1
      rw [F_X1_find_s_L1.eq_2] at h
      refine lv_iload_n hx hb dX1_find_2 rfl (lv_at hl 2 rfl) ?_
      refine lv_aload_n hx hb dX1_find_3 rfl (lv_at hl 0 rfl) ?_
      refine xg_7_2 F E J fl_X1_19 dX1_find_4 ?_
      refine lv_icmp_ge (tgt := 35) hx hb dX1_find_7 (by decide) (fun c2 => ?_) (fun c2 => ?_)
      · have h := itp c2 h
        obtain rfl := Option.some.inj h
        exact K_L1 _ rfl _ _ _ J (lv_sub hl [] rfl)
      · have h := itn c2 h
        refine lv_iload_n hx hb dX1_find_10 rfl (lv_at hl 2 rfl) ?_
        refine lv_bipush (v := 30) hx hb dX1_find_11 (by decide) ?_
        refine lv_icmp_ge (tgt := 35) hx hb dX1_find_13 (by decide) (fun c3 => ?_) (fun c3 => ?_)
        · have h := itp c3 h
          obtain rfl := Option.some.inj h
          exact K_L1 _ rfl _ _ _ J (lv_sub hl [] rfl)
        · have h := itn c3 h
          refine lv_aload_n hx hb dX1_find_16 rfl (lv_at hl 0 rfl) ?_
          refine xg_7_0 F E J fl_X1_9 dX1_find_17 ?_
          refine lv_iload_n hx hb dX1_find_20 rfl (lv_at hl 2 rfl) ?_
          obtain ⟨hi, h⟩ := gdt h
          refine xl_19 F E J (inbt hi) dX1_find_21 ?_
          refine lv_lload_n hx hb dX1_find_22 rfl (lv_at hl 1 rfl) ?_
          refine W.lcmp hx hb dX1_find_23 ?_
          refine lv_if_ne (tgt := 29) hx hb dX1_find_24 (by decide) (fun c4 => ?_) (fun c4 => ?_)
          · have h := itn c4 h
            obtain ⟨v5, hv5, h⟩ := obs h
            refine lv_iinc (v := v5) (lv' := [(3, .int v5), (0, .ref (q 7)), (1, .long a0)]) hx hb dX1_find_29 hl (k := 2) rfl (by rw [← hv5]; rfl) (by decide) rfl (fun ls hl => ?_)
            refine lv_goto (tgt := 2) hx hb dX1_find_32 (by decide) ?_
            exact ih _ _ h _ _ _ J (lv_sub hl [1, 2, 0] rfl) K_L1 kr_L1
          · have h := itp c4 h
            refine lv_iload_n hx hb dX1_find_27 rfl (lv_at hl 2 rfl) ?_
            obtain rfl := Option.some.inj h
            obtain rfl := kr_L1 _ rfl
            exact ret _ _ _ _ J dX1_find_28
  refine T_L1 FU 0 o_L1s ho_L1 _ _ _ J (lv_sub hl [1, 2, 0] rfl) (fun o_L1 eo H locs ls J hl => ?_) (fun x ex => ?_)
  · subst eo
    have h := elimR h
    refine lv_iconst (v := (-1)) hx hb dX1_find_35 (by decide) ?_
    obtain rfl := Option.some.inj h
    exact ret _ _ _ _ J dX1_find_36
  · subst ex
    exact Option.some.inj (elimL h)
set_option maxHeartbeats 4000000 in
set_option maxRecDepth 100000 in
theorem c_X1_has_s {l : Launch} {g : GG} {A : Nat → Prop} {q : Nat → Nat} {x_crowd x_latestFault x_places x_mask x_w_robots x_w_size x_w_nexts x_a_length x_t_length x_t_token x_t_from x_t_value x_t_behind x_r_wants x_r_pairs x_r_sees : Int32} {x_r_row : Int64} {x_b_size x_s_size : Int32} {x_w_names : Nat → Int32} {x_w_goals x_w_links : Nat → Int64} {x_w_linked x_w_ups x_w_downs x_w_next x_a_begun x_t_bytes : Nat → Int32} {x_b_rows : Nat → Int64} {x_b_acts : Nat → Int32} {x_s_rows : Nat → Int64} {x_s_acts : Nat → Int32} (a0 : Int64) (res : Int32) (h : F_X1_has_s a0 x_s_size x_s_rows = some res) : Met l yX1_has (wS yX1_has cX1_has 3 (some .boolean)) rm_X1_has_s (va_Pc [.ref (q 7), .long a0] (VB g A (XW g q x_crowd x_latestFault x_places x_mask x_w_robots x_w_size x_w_nexts x_a_length x_t_length x_t_token x_t_from x_t_value x_t_behind x_r_wants x_r_pairs x_r_sees x_r_row x_b_size x_s_size x_w_names x_w_goals x_w_links x_w_linked x_w_ups x_w_downs x_w_next x_a_begun x_t_bytes x_b_rows x_b_acts x_s_rows x_s_acts))) (va_Qi (fun r (_ : Unit) => r = res ∧ zB r) (fun _ => VB g A (XW g q x_crowd x_latestFault x_places x_mask x_w_robots x_w_size x_w_nexts x_a_length x_t_length x_t_token x_t_from x_t_value x_t_behind x_r_wants x_r_pairs x_r_sees x_r_row x_b_size x_s_size x_w_names x_w_goals x_w_links x_w_linked x_w_ups x_w_downs x_w_next x_a_begun x_t_bytes x_b_rows x_b_acts x_s_rows x_s_acts)) A) 0 0 A := by
  unfold F_X1_has_s at h
  refine MetZ (res := res) (own := RX1) (ws' := (XW g q x_crowd x_latestFault x_places x_mask x_w_robots x_w_size x_w_nexts x_a_length x_t_length x_t_token x_t_from x_t_value x_t_behind x_r_wants x_r_pairs x_r_sees x_r_row x_b_size x_s_size x_w_names x_w_goals x_w_links x_w_linked x_w_ups x_w_downs x_w_next x_a_begun x_t_bytes x_b_rows x_b_acts x_s_rows x_s_acts)) (by decide) rfl (Nat.le_of_ble_eq_true rfl) ?_
  intro p e s m args below meth c Q F E ret ls J hl
  have hx := F.1
  have hb := F.2.1
  have hl : lv_has ls 3 [(0, .ref (q 7)), (1, .long a0)] := hl
  refine lv_aload_n hx hb dX1_has_0 rfl (lv_at hl 0 rfl) ?_
  refine lv_lload_n hx hb dX1_has_1 rfl (lv_at hl 1 rfl) ?_
  obtain ⟨p1, hp1, h⟩ := ob h
  refine onI (runV (As := [.long a0]) (rest := []) F E J (c_X1_find_s a0 p1 hp1) cw_X1_23 ⟨rfl, rfl, Nat.le_of_ble_eq_true rfl, Nat.le_of_ble_eq_true rfl⟩ rcX7 rfl hl.1 rfl (Nat.le_of_ble_eq_true rfl) dX1_has_2) J (fun H locs J => ?_)
  refine lv_if_lt (tgt := 12) hx hb dX1_has_5 (by decide) (fun c2 => ?_) (fun c2 => ?_)
  · have h := itp c2 h
    refine lv_iconst (v := 0) hx hb dX1_has_12 (by decide) ?_
    obtain rfl := Option.some.inj h
    exact ret _ _ _ _ zB0 J dX1_has_13
  · have h := itn c2 h
    refine lv_iconst (v := 1) hx hb dX1_has_8 (by decide) ?_
    refine lv_goto (tgt := 13) hx hb dX1_has_9 (by decide) ?_
    obtain rfl := Option.some.inj h
    exact ret _ _ _ _ zB1 J dX1_has_13
set_option maxHeartbeats 4000000 in
set_option maxRecDepth 100000 in
theorem c_X2_isTooMuch {l : Launch} {g : GG} {A : Nat → Prop} {q : Nat → Nat} {x_crowd x_latestFault x_places x_mask x_w_robots x_w_size x_w_nexts x_a_length x_t_length x_t_token x_t_from x_t_value x_t_behind x_r_wants x_r_pairs x_r_sees : Int32} {x_r_row : Int64} {x_b_size x_s_size : Int32} {x_w_names : Nat → Int32} {x_w_goals x_w_links : Nat → Int64} {x_w_linked x_w_ups x_w_downs x_w_next x_a_begun x_t_bytes : Nat → Int32} {x_b_rows : Nat → Int64} {x_b_acts : Nat → Int32} {x_s_rows : Nat → Int64} {x_s_acts : Nat → Int32} (res : Int32) (h : F_X2_isTooMuch x_t_token x_r_pairs x_r_sees x_r_row x_s_size x_s_rows = some res) : Met l yX2_isTooMuch (wS yX2_isTooMuch cX2_isTooMuch 2 (some .boolean)) rm_X2_isTooMuch (va_Pc [.ref (q 5), .ref (q 7)] (VB g A (XW g q x_crowd x_latestFault x_places x_mask x_w_robots x_w_size x_w_nexts x_a_length x_t_length x_t_token x_t_from x_t_value x_t_behind x_r_wants x_r_pairs x_r_sees x_r_row x_b_size x_s_size x_w_names x_w_goals x_w_links x_w_linked x_w_ups x_w_downs x_w_next x_a_begun x_t_bytes x_b_rows x_b_acts x_s_rows x_s_acts))) (va_Qi (fun r (_ : Unit) => r = res ∧ zB r) (fun _ => VB g A (XW g q x_crowd x_latestFault x_places x_mask x_w_robots x_w_size x_w_nexts x_a_length x_t_length x_t_token x_t_from x_t_value x_t_behind x_r_wants x_r_pairs x_r_sees x_r_row x_b_size x_s_size x_w_names x_w_goals x_w_links x_w_linked x_w_ups x_w_downs x_w_next x_a_begun x_t_bytes x_b_rows x_b_acts x_s_rows x_s_acts)) A) 0 0 A := by
  unfold F_X2_isTooMuch at h
  refine MetZ (res := res) (own := RX2) (ws' := (XW g q x_crowd x_latestFault x_places x_mask x_w_robots x_w_size x_w_nexts x_a_length x_t_length x_t_token x_t_from x_t_value x_t_behind x_r_wants x_r_pairs x_r_sees x_r_row x_b_size x_s_size x_w_names x_w_goals x_w_links x_w_linked x_w_ups x_w_downs x_w_next x_a_begun x_t_bytes x_b_rows x_b_acts x_s_rows x_s_acts)) (by decide) rfl (Nat.le_of_ble_eq_true rfl) ?_
  intro p e s m args below meth c Q F E ret ls J hl
  have hx := F.1
  have hb := F.2.1
  have hl : lv_has ls 2 [(0, .ref (q 5)), (1, .ref (q 7))] := hl
  refine lv_aload_n hx hb dX2_isTooMuch_0 rfl (lv_at hl 0 rfl) ?_
  refine xg_5_0 F E J fl_X2_25 dX2_isTooMuch_1 ?_
  refine xgN_4_2 (host := RX7) F E J (by decide +kernel) dX2_isTooMuch_4 ?_
  by_cases c1 : x_t_token = (3 : Int32)
  · have h := itp c1 h
    refine lv_tableIn (tgt := 36) (off := 29) hx hb dX2_isTooMuch_7 (by rw [c1]; decide) (by rw [c1]; decide) (by rw [c1]; rfl) (by decide) ?_
    refine lv_aload_n hx hb dX2_isTooMuch_36 rfl (lv_at hl 0 rfl) ?_
    refine xg_5_2 F E J fl_X2_15 dX2_isTooMuch_37 ?_
    refine lv_iconst (v := 4) hx hb dX2_isTooMuch_40 (by decide) ?_
    refine lv_icmp_lt (tgt := 48) hx hb dX2_isTooMuch_41 (by decide) (fun c2 => ?_) (fun c2 => ?_)
    · have h := itp c2 h
      refine lv_iconst (v := 0) hx hb dX2_isTooMuch_48 (by decide) ?_
      obtain rfl := Option.some.inj h
      exact ret _ _ _ _ zB0 J dX2_isTooMuch_49
    · have h := itn c2 h
      refine lv_iconst (v := 1) hx hb dX2_isTooMuch_44 (by decide) ?_
      refine lv_goto (tgt := 49) hx hb dX2_isTooMuch_45 (by decide) ?_
      obtain rfl := Option.some.inj h
      exact ret _ _ _ _ zB1 J dX2_isTooMuch_49
  · have h := itn c1 h
    by_cases c3 : x_t_token = (4 : Int32)
    · have h := itp c3 h
      refine lv_tableIn (tgt := 74) (off := 67) hx hb dX2_isTooMuch_7 (by rw [c3]; decide) (by rw [c3]; decide) (by rw [c3]; rfl) (by decide) ?_
      refine lv_iconst (v := 0) hx hb dX2_isTooMuch_74 (by decide) ?_
      obtain rfl := Option.some.inj h
      exact ret _ _ _ _ zB0 J dX2_isTooMuch_75
    · have h := itn c3 h
      by_cases c4 : x_t_token = (5 : Int32)
      · have h := itp c4 h
        refine lv_tableIn (tgt := 50) (off := 43) hx hb dX2_isTooMuch_7 (by rw [c4]; decide) (by rw [c4]; decide) (by rw [c4]; rfl) (by decide) ?_
        refine lv_aload_n hx hb dX2_isTooMuch_50 rfl (lv_at hl 0 rfl) ?_
        refine xg_5_3 F E J fl_X2_18 dX2_isTooMuch_51 ?_
        refine lv_bipush (v := 30) hx hb dX2_isTooMuch_54 (by decide) ?_
        refine lv_icmp_lt (tgt := 63) hx hb dX2_isTooMuch_56 (by decide) (fun c5 => ?_) (fun c5 => ?_)
        · have h := itp c5 h
          refine lv_iconst (v := 0) hx hb dX2_isTooMuch_63 (by decide) ?_
          obtain rfl := Option.some.inj h
          exact ret _ _ _ _ zB0 J dX2_isTooMuch_64
        · have h := itn c5 h
          refine lv_iconst (v := 1) hx hb dX2_isTooMuch_59 (by decide) ?_
          refine lv_goto (tgt := 64) hx hb dX2_isTooMuch_60 (by decide) ?_
          obtain rfl := Option.some.inj h
          exact ret _ _ _ _ zB1 J dX2_isTooMuch_64
      · have h := itn c4 h
        by_cases c6 : x_t_token = (6 : Int32)
        · have h := itp c6 h
          refine lv_tableIn (tgt := 65) (off := 58) hx hb dX2_isTooMuch_7 (by rw [c6]; decide) (by rw [c6]; decide) (by rw [c6]; rfl) (by decide) ?_
          refine lv_aload_n hx hb dX2_isTooMuch_65 rfl (lv_at hl 1 rfl) ?_
          refine lv_aload_n hx hb dX2_isTooMuch_66 rfl (lv_at hl 0 rfl) ?_
          refine xg_5_4 F E J fl_X2_21 dX2_isTooMuch_67 ?_
          obtain ⟨p7, hp7, h⟩ := ob h
          refine onZ (runV (As := [.long x_r_row]) (rest := []) F E J (c_X1_has_s x_r_row p7 hp7) cw_X2_64 ⟨rfl, rfl, Nat.le_of_ble_eq_true rfl, Nat.le_of_ble_eq_true rfl⟩ rcX7 rfl hl.1 rfl (Nat.le_of_ble_eq_true rfl) dX2_isTooMuch_70) J (fun hzbp7 H locs J => ?_)
          obtain rfl := Option.some.inj h
          exact ret _ _ _ _ (by assumption) J dX2_isTooMuch_73
        · have h := itn c6 h
          refine lv_tableOut (tgt := 74) hx hb dX2_isTooMuch_7 (by have a0 := lv_neT (a := 3) c1 rfl; have a1 := lv_neT (a := 4) c3 rfl; have a2 := lv_neT (a := 5) c4 rfl; have a3 := lv_neT (a := 6) c6 rfl; omega) (by decide) ?_
          refine lv_iconst (v := 0) hx hb dX2_isTooMuch_74 (by decide) ?_
          obtain rfl := Option.some.inj h
          exact ret _ _ _ _ zB0 J dX2_isTooMuch_75
set_option maxHeartbeats 4000000 in
set_option maxRecDepth 100000 in
theorem c_X2_faultAgainst {l : Launch} {g : GG} {A : Nat → Prop} {q : Nat → Nat} {x_crowd x_latestFault x_places x_mask x_w_robots x_w_size x_w_nexts x_a_length x_t_length x_t_token x_t_from x_t_value x_t_behind x_r_wants x_r_pairs x_r_sees : Int32} {x_r_row : Int64} {x_b_size x_s_size : Int32} {x_w_names : Nat → Int32} {x_w_goals x_w_links : Nat → Int64} {x_w_linked x_w_ups x_w_downs x_w_next x_a_begun x_t_bytes : Nat → Int32} {x_b_rows : Nat → Int64} {x_b_acts : Nat → Int32} {x_s_rows : Nat → Int64} {x_s_acts : Nat → Int32} (res : Int32) (h : F_X2_faultAgainst x_t_token x_t_value x_r_wants x_r_pairs x_r_sees x_r_row x_s_size x_s_rows = some res) : Met l yX2_faultAgainst (wS yX2_faultAgainst cX2_faultAgainst 2 (some .int)) rm_X2_faultAgainst (va_Pc [.ref (q 5), .ref (q 7)] (VB g A (XW g q x_crowd x_latestFault x_places x_mask x_w_robots x_w_size x_w_nexts x_a_length x_t_length x_t_token x_t_from x_t_value x_t_behind x_r_wants x_r_pairs x_r_sees x_r_row x_b_size x_s_size x_w_names x_w_goals x_w_links x_w_linked x_w_ups x_w_downs x_w_next x_a_begun x_t_bytes x_b_rows x_b_acts x_s_rows x_s_acts))) (va_Qi (fun r (_ : Unit) => r = res) (fun _ => VB g A (XW g q x_crowd x_latestFault x_places x_mask x_w_robots x_w_size x_w_nexts x_a_length x_t_length x_t_token x_t_from x_t_value x_t_behind x_r_wants x_r_pairs x_r_sees x_r_row x_b_size x_s_size x_w_names x_w_goals x_w_links x_w_linked x_w_ups x_w_downs x_w_next x_a_begun x_t_bytes x_b_rows x_b_acts x_s_rows x_s_acts)) A) 0 0 A := by
  unfold F_X2_faultAgainst at h
  refine MetI (res := res) (own := RX2) (ws' := (XW g q x_crowd x_latestFault x_places x_mask x_w_robots x_w_size x_w_nexts x_a_length x_t_length x_t_token x_t_from x_t_value x_t_behind x_r_wants x_r_pairs x_r_sees x_r_row x_b_size x_s_size x_w_names x_w_goals x_w_links x_w_linked x_w_ups x_w_downs x_w_next x_a_begun x_t_bytes x_b_rows x_b_acts x_s_rows x_s_acts)) (by decide) rfl (Nat.le_of_ble_eq_true rfl) ?_
  intro p e s m args below meth c Q F E ret ls J hl
  have hx := F.1
  have hb := F.2.1
  have hl : lv_has ls 2 [(0, .ref (q 5)), (1, .ref (q 7))] := hl
  refine lv_aload_n hx hb dX2_faultAgainst_0 rfl (lv_at hl 0 rfl) ?_
  obtain ⟨p1, hp1, h⟩ := ob h
  refine onZ (runV (As := []) (rest := []) F E J (c_X2_isPlaced  p1 hp1) cw_X2_53 ⟨rfl, rfl, Nat.le_of_ble_eq_true rfl, Nat.le_of_ble_eq_true rfl⟩ rcX5 rfl hl.1 rfl (Nat.le_of_ble_eq_true rfl) dX2_faultAgainst_1) J (fun hzbp1 H locs J => ?_)
  refine lv_if_ne (tgt := 9) hx hb dX2_faultAgainst_4 (by decide) (fun c2 => ?_) (fun c2 => ?_)
  · have h := itn c2 h
    refine lv_aload_n hx hb dX2_faultAgainst_9 rfl (lv_at hl 0 rfl) ?_
    refine xg_5_0 F E J fl_X2_25 dX2_faultAgainst_10 ?_
    refine xgN_4_2 (host := RX7) F E J (by decide +kernel) dX2_faultAgainst_13 ?_
    refine lv_iconst (v := 2) hx hb dX2_faultAgainst_16 (by decide) ?_
    refine lv_icmp_ne (tgt := 32) hx hb dX2_faultAgainst_17 (by decide) (fun c3 => ?_) (fun c3 => ?_)
    · have h := itn c3 h
      refine lv_aload_n hx hb dX2_faultAgainst_32 rfl (lv_at hl 0 rfl) ?_
      refine lv_aload_n hx hb dX2_faultAgainst_33 rfl (lv_at hl 1 rfl) ?_
      obtain ⟨p4, hp4, h⟩ := ob h
      refine onZ (runV (As := [.ref (q 7)]) (rest := []) F E J (c_X2_isTooMuch  p4 hp4) cw_X2_60 ⟨rfl, rfl, Nat.le_of_ble_eq_true rfl, Nat.le_of_ble_eq_true rfl⟩ rcX5 rfl hl.1 rfl (Nat.le_of_ble_eq_true rfl) dX2_faultAgainst_34) J (fun hzbp4 H locs J => ?_)
      refine lv_if_eq (tgt := 44) hx hb dX2_faultAgainst_37 (by decide) (fun c5 => ?_) (fun c5 => ?_)
      · have h := itp c5 h
        refine lv_iconst (v := 0) hx hb dX2_faultAgainst_44 (by decide) ?_
        obtain rfl := Option.some.inj h
        exact ret _ _ _ _ J dX2_faultAgainst_45
      · have h := itn c5 h
        refine lv_iconst (v := 3) hx hb dX2_faultAgainst_40 (by decide) ?_
        refine lv_goto (tgt := 45) hx hb dX2_faultAgainst_41 (by decide) ?_
        obtain rfl := Option.some.inj h
        exact ret _ _ _ _ J dX2_faultAgainst_45
    · have h := itp c3 h
      refine lv_aload_n hx hb dX2_faultAgainst_20 rfl (lv_at hl 0 rfl) ?_
      refine xg_5_0 F E J fl_X2_25 dX2_faultAgainst_21 ?_
      refine xgN_4_4 (host := RX7) F E J (by decide +kernel) dX2_faultAgainst_24 ?_
      refine lv_if_ne (tgt := 32) hx hb dX2_faultAgainst_27 (by decide) (fun c6 => ?_) (fun c6 => ?_)
      · have h := itn c6 h
        refine lv_aload_n hx hb dX2_faultAgainst_32 rfl (lv_at hl 0 rfl) ?_
        refine lv_aload_n hx hb dX2_faultAgainst_33 rfl (lv_at hl 1 rfl) ?_
        obtain ⟨p7, hp7, h⟩ := ob h
        refine onZ (runV (As := [.ref (q 7)]) (rest := []) F E J (c_X2_isTooMuch  p7 hp7) cw_X2_60 ⟨rfl, rfl, Nat.le_of_ble_eq_true rfl, Nat.le_of_ble_eq_true rfl⟩ rcX5 rfl hl.1 rfl (Nat.le_of_ble_eq_true rfl) dX2_faultAgainst_34) J (fun hzbp7 H locs J => ?_)
        refine lv_if_eq (tgt := 44) hx hb dX2_faultAgainst_37 (by decide) (fun c8 => ?_) (fun c8 => ?_)
        · have h := itp c8 h
          refine lv_iconst (v := 0) hx hb dX2_faultAgainst_44 (by decide) ?_
          obtain rfl := Option.some.inj h
          exact ret _ _ _ _ J dX2_faultAgainst_45
        · have h := itn c8 h
          refine lv_iconst (v := 3) hx hb dX2_faultAgainst_40 (by decide) ?_
          refine lv_goto (tgt := 45) hx hb dX2_faultAgainst_41 (by decide) ?_
          obtain rfl := Option.some.inj h
          exact ret _ _ _ _ J dX2_faultAgainst_45
      · have h := itp c6 h
        refine lv_iconst (v := 2) hx hb dX2_faultAgainst_30 (by decide) ?_
        obtain rfl := Option.some.inj h
        exact ret _ _ _ _ J dX2_faultAgainst_31
  · have h := itp c2 h
    refine lv_iconst (v := 1) hx hb dX2_faultAgainst_7 (by decide) ?_
    obtain rfl := Option.some.inj h
    exact ret _ _ _ _ J dX2_faultAgainst_8
set_option maxHeartbeats 4000000 in
set_option maxRecDepth 100000 in
theorem c_X2_takeNumber {l : Launch} {g : GG} {A : Nat → Prop} {q : Nat → Nat} {x_crowd x_latestFault x_places x_mask x_w_robots x_w_size x_w_nexts x_a_length x_t_length x_t_token x_t_from x_t_value x_t_behind x_r_wants x_r_pairs x_r_sees : Int32} {x_r_row : Int64} {x_b_size x_s_size : Int32} {x_w_names : Nat → Int32} {x_w_goals x_w_links : Nat → Int64} {x_w_linked x_w_ups x_w_downs x_w_next x_a_begun x_t_bytes : Nat → Int32} {x_b_rows : Nat → Int64} {x_b_acts : Nat → Int32} {x_s_rows : Nat → Int64} {x_s_acts : Nat → Int32} (res : Int32 × Int32 × Int64) (h : F_X2_takeNumber x_t_value x_r_wants x_r_pairs x_r_row = some res) : Met l yX2_takeNumber (wS yX2_takeNumber cX2_takeNumber 1 none) rm_X2_takeNumber (va_Pc [.ref (q 5)] (VB g A (XW g q x_crowd x_latestFault x_places x_mask x_w_robots x_w_size x_w_nexts x_a_length x_t_length x_t_token x_t_from x_t_value x_t_behind x_r_wants x_r_pairs x_r_sees x_r_row x_b_size x_s_size x_w_names x_w_goals x_w_links x_w_linked x_w_ups x_w_downs x_w_next x_a_begun x_t_bytes x_b_rows x_b_acts x_s_rows x_s_acts))) (va_Qv (fun (_ : Unit) => True) (fun _ => VB g A (XW g q x_crowd x_latestFault x_places x_mask x_w_robots x_w_size x_w_nexts x_a_length x_t_length x_t_token x_t_from x_t_value x_t_behind res.1 res.2.1 x_r_sees res.2.2 x_b_size x_s_size x_w_names x_w_goals x_w_links x_w_linked x_w_ups x_w_downs x_w_next x_a_begun x_t_bytes x_b_rows x_b_acts x_s_rows x_s_acts)) A) 0 0 A := by
  unfold F_X2_takeNumber at h
  refine MetV (own := RX2) (ws' := (XW g q x_crowd x_latestFault x_places x_mask x_w_robots x_w_size x_w_nexts x_a_length x_t_length x_t_token x_t_from x_t_value x_t_behind res.1 res.2.1 x_r_sees res.2.2 x_b_size x_s_size x_w_names x_w_goals x_w_links x_w_linked x_w_ups x_w_downs x_w_next x_a_begun x_t_bytes x_b_rows x_b_acts x_s_rows x_s_acts)) (by decide) rfl (Nat.le_of_ble_eq_true rfl) ?_
  intro p e s m args below meth c Q F E ret ls J hl
  have hx := F.1
  have hb := F.2.1
  have hl : lv_has ls 1 [(0, .ref (q 5))] := hl
  refine lv_aload_n hx hb dX2_takeNumber_0 rfl (lv_at hl 0 rfl) ?_
  refine lv_aload_n hx hb dX2_takeNumber_1 rfl (lv_at hl 0 rfl) ?_
  refine xg_5_4 F E J fl_X2_21 dX2_takeNumber_2 ?_
  refine lv_aload_n hx hb dX2_takeNumber_5 rfl (lv_at hl 0 rfl) ?_
  refine xg_5_0 F E J fl_X2_25 dX2_takeNumber_6 ?_
  refine xgN_4_4 (host := RX7) F E J (by decide +kernel) dX2_takeNumber_9 ?_
  obtain ⟨p1, hp1, h⟩ := ob h
  refine onL (runS (As := [.long x_r_row, .int x_t_value]) (rest := [.ref (q 5)]) F E J (c_X4_with x_r_row x_t_value p1 hp1) cw_X2_75 ⟨rfl, rfl, Nat.le_of_ble_eq_true rfl, Nat.le_of_ble_eq_true rfl⟩ rfl hl.1 rfl (Nat.le_of_ble_eq_true rfl) dX2_takeNumber_12) J (fun H locs J => ?_)
  refine xp_5_4 F E J fl_X2_21 dX2_takeNumber_15 (fun H locs J => ?_)
  refine lv_aload_n hx hb dX2_takeNumber_18 rfl (lv_at hl 0 rfl) ?_
  refine xg_5_1 F E J fl_X2_11 dX2_takeNumber_19 ?_
  refine lv_iconst (v := 2) hx hb dX2_takeNumber_22 (by decide) ?_
  obtain ⟨j2, hj2, h⟩ := ob h
  have Kj2 : ∀ (H : Heap) (locs : List Loc) (ls : Array Slot), VJ g A s.heap (XW g q x_crowd x_latestFault x_places x_mask x_w_robots x_w_size x_w_nexts x_a_length x_t_length x_t_token x_t_from x_t_value x_t_behind x_r_wants j2 x_r_sees p1 x_b_size x_s_size x_w_names x_w_goals x_w_links x_w_linked x_w_ups x_w_downs x_w_next x_a_begun x_t_bytes x_b_rows x_b_acts x_s_rows x_s_acts) H locs → lv_has ls 1 [(0, .ref (q 5))] → W p l e rm_X2_takeNumber s m args below meth c H locs 0 0 Q (F0 m 36 ls []) := by
    intro H locs ls J hl
    refine lv_aload_n hx hb dX2_takeNumber_36 rfl (lv_at hl 0 rfl) ?_
    refine lv_aload_n hx hb dX2_takeNumber_37 rfl (lv_at hl 0 rfl) ?_
    refine xg_5_1 F E J fl_X2_11 dX2_takeNumber_38 ?_
    refine lv_iconst (v := 1) hx hb dX2_takeNumber_41 (by decide) ?_
    refine lv_icmp_ne (tgt := 49) hx hb dX2_takeNumber_42 (by decide) (fun c5 => ?_) (fun c5 => ?_)
    · have h := itn c5 h
      refine lv_iconst (v := 3) hx hb dX2_takeNumber_49 (by decide) ?_
      refine xp_5_1 F E J fl_X2_11 dX2_takeNumber_50 (fun H locs J => ?_)
      obtain rfl := Option.some.inj h
      exact ret _ _ _ _ J dX2_takeNumber_53
    · have h := itp c5 h
      refine lv_iconst (v := 2) hx hb dX2_takeNumber_45 (by decide) ?_
      refine lv_goto (tgt := 50) hx hb dX2_takeNumber_46 (by decide) ?_
      refine xp_5_1 F E J fl_X2_11 dX2_takeNumber_50 (fun H locs J => ?_)
      obtain rfl := Option.some.inj h
      exact ret _ _ _ _ J dX2_takeNumber_53
  clear h
  have h := hj2
  refine lv_icmp_ne (tgt := 36) hx hb dX2_takeNumber_23 (by decide) (fun c3 => ?_) (fun c3 => ?_)
  · have h := itn c3 h
    obtain rfl := Option.some.inj h
    exact Kj2 _ _ _ J (lv_sub hl [0] rfl)
  · have h := itp c3 h
    refine lv_aload_n hx hb dX2_takeNumber_26 rfl (lv_at hl 0 rfl) ?_
    refine lv_dup hx hb dX2_takeNumber_27 rfl ?_
    refine xg_5_2 F E J fl_X2_15 dX2_takeNumber_28 ?_
    refine lv_iconst (v := 1) hx hb dX2_takeNumber_31 (by decide) ?_
    refine lv_iadd hx hb dX2_takeNumber_32 ?_
    obtain ⟨v4, hv4, h⟩ := obs h
    refine nmI hv4 ?_
    refine xp_5_2 F E J fl_X2_15 dX2_takeNumber_33 (fun H locs J => ?_)
    obtain rfl := Option.some.inj h
    exact Kj2 _ _ _ J (lv_sub hl [0] rfl)
set_option maxHeartbeats 4000000 in
set_option maxRecDepth 100000 in
theorem c_X1_put_s {l : Launch} {g : GG} {A : Nat → Prop} {q : Nat → Nat} {x_crowd x_latestFault x_places x_mask x_w_robots x_w_size x_w_nexts x_a_length x_t_length x_t_token x_t_from x_t_value x_t_behind x_r_wants x_r_pairs x_r_sees : Int32} {x_r_row : Int64} {x_b_size x_s_size : Int32} {x_w_names : Nat → Int32} {x_w_goals x_w_links : Nat → Int64} {x_w_linked x_w_ups x_w_downs x_w_next x_a_begun x_t_bytes : Nat → Int32} {x_b_rows : Nat → Int64} {x_b_acts : Nat → Int32} {x_s_rows : Nat → Int64} {x_s_acts : Nat → Int32} (a0 : Int64) (a1 : Int32) (res : Int32 × (Nat → Int64) × (Nat → Int32)) (h : F_X1_put_s a0 a1 x_s_size x_s_rows x_s_acts = some res) : Met l yX1_put (wS yX1_put cX1_put 4 none) rm_X1_put_s (va_Pc [.ref (q 7), .long a0, .int a1] (VB g A (XW g q x_crowd x_latestFault x_places x_mask x_w_robots x_w_size x_w_nexts x_a_length x_t_length x_t_token x_t_from x_t_value x_t_behind x_r_wants x_r_pairs x_r_sees x_r_row x_b_size x_s_size x_w_names x_w_goals x_w_links x_w_linked x_w_ups x_w_downs x_w_next x_a_begun x_t_bytes x_b_rows x_b_acts x_s_rows x_s_acts))) (va_Qv (fun (_ : Unit) => True) (fun _ => VB g A (XW g q x_crowd x_latestFault x_places x_mask x_w_robots x_w_size x_w_nexts x_a_length x_t_length x_t_token x_t_from x_t_value x_t_behind x_r_wants x_r_pairs x_r_sees x_r_row x_b_size res.1 x_w_names x_w_goals x_w_links x_w_linked x_w_ups x_w_downs x_w_next x_a_begun x_t_bytes x_b_rows x_b_acts res.2.1 res.2.2)) A) 0 0 A := by
  unfold F_X1_put_s at h
  refine MetV (own := RX1) (ws' := (XW g q x_crowd x_latestFault x_places x_mask x_w_robots x_w_size x_w_nexts x_a_length x_t_length x_t_token x_t_from x_t_value x_t_behind x_r_wants x_r_pairs x_r_sees x_r_row x_b_size res.1 x_w_names x_w_goals x_w_links x_w_linked x_w_ups x_w_downs x_w_next x_a_begun x_t_bytes x_b_rows x_b_acts res.2.1 res.2.2)) (by decide) rfl (Nat.le_of_ble_eq_true rfl) ?_
  intro p e s m args below meth c Q F E ret ls J hl
  have hx := F.1
  have hb := F.2.1
  have hl : lv_has ls 4 [(0, .ref (q 7)), (1, .long a0), (3, .int a1)] := hl
  refine lv_aload_n hx hb dX1_put_0 rfl (lv_at hl 0 rfl) ?_
  refine xg_7_2 F E J fl_X1_19 dX1_put_1 ?_
  refine lv_bipush (v := 30) hx hb dX1_put_4 (by decide) ?_
  refine lv_icmp_ge (tgt := 39) hx hb dX1_put_6 (by decide) (fun c1 => ?_) (fun c1 => ?_)
  · have h := itp c1 h
    obtain rfl := Option.some.inj h
    exact ret _ _ _ _ J dX1_put_39
  · have h := itn c1 h
    refine lv_aload_n hx hb dX1_put_9 rfl (lv_at hl 0 rfl) ?_
    refine xg_7_0 F E J fl_X1_9 dX1_put_10 ?_
    refine lv_aload_n hx hb dX1_put_13 rfl (lv_at hl 0 rfl) ?_
    refine xg_7_2 F E J fl_X1_19 dX1_put_14 ?_
    refine lv_lload_n hx hb dX1_put_17 rfl (lv_at hl 1 rfl) ?_
    obtain ⟨hi, h⟩ := gdt h
    refine xs_19 F E J (inbt hi) dX1_put_18 (fun H locs J => ?_)
    refine lv_aload_n hx hb dX1_put_19 rfl (lv_at hl 0 rfl) ?_
    refine xg_7_1 F E J fl_X1_15 dX1_put_20 ?_
    refine lv_aload_n hx hb dX1_put_23 rfl (lv_at hl 0 rfl) ?_
    refine xg_7_2 F E J fl_X1_19 dX1_put_24 ?_
    refine lv_iload_n hx hb dX1_put_27 rfl (lv_at hl 2 rfl) ?_
    obtain ⟨hi, h⟩ := gdt h
    refine xs_20 F E J (inbt hi) dX1_put_28 (fun H locs J => ?_)
    refine lv_aload_n hx hb dX1_put_29 rfl (lv_at hl 0 rfl) ?_
    refine lv_dup hx hb dX1_put_30 rfl ?_
    refine xg_7_2 F E J fl_X1_19 dX1_put_31 ?_
    refine lv_iconst (v := 1) hx hb dX1_put_34 (by decide) ?_
    refine lv_iadd hx hb dX1_put_35 ?_
    obtain ⟨v2, hv2, h⟩ := obs h
    refine nmI hv2 ?_
    refine xp_7_2 F E J fl_X1_19 dX1_put_36 (fun H locs J => ?_)
    obtain rfl := Option.some.inj h
    exact ret _ _ _ _ J dX1_put_39
set_option maxHeartbeats 4000000 in
set_option maxRecDepth 100000 in
theorem c_X2_take {l : Launch} {g : GG} {A : Nat → Prop} {q : Nat → Nat} {x_crowd x_latestFault x_places x_mask x_w_robots x_w_size x_w_nexts x_a_length x_t_length x_t_token x_t_from x_t_value x_t_behind x_r_wants x_r_pairs x_r_sees : Int32} {x_r_row : Int64} {x_b_size x_s_size : Int32} {x_w_names : Nat → Int32} {x_w_goals x_w_links : Nat → Int64} {x_w_linked x_w_ups x_w_downs x_w_next x_a_begun x_t_bytes : Nat → Int32} {x_b_rows : Nat → Int64} {x_b_acts : Nat → Int32} {x_s_rows : Nat → Int64} {x_s_acts : Nat → Int32} (res : Int32 × Int32 × Int32 × Int64 × Int32 × (Nat → Int64) × (Nat → Int32)) (h : F_X2_take x_t_token x_t_value x_r_wants x_r_pairs x_r_sees x_r_row x_s_size x_s_rows x_s_acts = some res) : Met l yX2_take (wS yX2_take cX2_take 2 none) rm_X2_take (va_Pc [.ref (q 5), .ref (q 7)] (VB g A (XW g q x_crowd x_latestFault x_places x_mask x_w_robots x_w_size x_w_nexts x_a_length x_t_length x_t_token x_t_from x_t_value x_t_behind x_r_wants x_r_pairs x_r_sees x_r_row x_b_size x_s_size x_w_names x_w_goals x_w_links x_w_linked x_w_ups x_w_downs x_w_next x_a_begun x_t_bytes x_b_rows x_b_acts x_s_rows x_s_acts))) (va_Qv (fun (_ : Unit) => True) (fun _ => VB g A (XW g q x_crowd x_latestFault x_places x_mask x_w_robots x_w_size x_w_nexts x_a_length x_t_length x_t_token x_t_from x_t_value x_t_behind res.1 res.2.1 res.2.2.1 res.2.2.2.1 x_b_size res.2.2.2.2.1 x_w_names x_w_goals x_w_links x_w_linked x_w_ups x_w_downs x_w_next x_a_begun x_t_bytes x_b_rows x_b_acts res.2.2.2.2.2.1 res.2.2.2.2.2.2)) A) 0 0 A := by
  unfold F_X2_take at h
  refine MetV (own := RX2) (ws' := (XW g q x_crowd x_latestFault x_places x_mask x_w_robots x_w_size x_w_nexts x_a_length x_t_length x_t_token x_t_from x_t_value x_t_behind res.1 res.2.1 res.2.2.1 res.2.2.2.1 x_b_size res.2.2.2.2.1 x_w_names x_w_goals x_w_links x_w_linked x_w_ups x_w_downs x_w_next x_a_begun x_t_bytes x_b_rows x_b_acts res.2.2.2.2.2.1 res.2.2.2.2.2.2)) (by decide) rfl (Nat.le_of_ble_eq_true rfl) ?_
  intro p e s m args below meth c Q F E ret ls J hl
  have hx := F.1
  have hb := F.2.1
  have hl : lv_has ls 2 [(0, .ref (q 5)), (1, .ref (q 7))] := hl
  refine lv_aload_n hx hb dX2_take_0 rfl (lv_at hl 0 rfl) ?_
  refine xg_5_0 F E J fl_X2_25 dX2_take_1 ?_
  refine xgN_4_2 (host := RX7) F E J (by decide +kernel) dX2_take_4 ?_
  by_cases c1 : x_t_token = (2 : Int32)
  · have h := itp c1 h
    refine lv_tableIn (tgt := 68) (off := 61) hx hb dX2_take_7 (by rw [c1]; decide) (by rw [c1]; decide) (by rw [c1]; rfl) (by decide) ?_
    refine lv_aload_n hx hb dX2_take_68 rfl (lv_at hl 0 rfl) ?_
    obtain ⟨p2, hp2, h⟩ := ob h
    refine onV (runV (As := []) (rest := []) F E J (c_X2_takeNumber  p2 hp2) cw_X2_68 ⟨rfl, rfl, Nat.le_of_ble_eq_true rfl, Nat.le_of_ble_eq_true rfl⟩ rcX5 rfl hl.1 rfl (Nat.le_of_ble_eq_true rfl) dX2_take_69) J (fun H locs J => ?_)
    refine lv_goto (tgt := 111) hx hb dX2_take_72 (by decide) ?_
    obtain rfl := Option.some.inj h
    exact ret _ _ _ _ J dX2_take_111
  · have h := itn c1 h
    by_cases c3 : x_t_token = (3 : Int32)
    · have h := itp c3 h
      refine lv_tableIn (tgt := 75) (off := 68) hx hb dX2_take_7 (by rw [c3]; decide) (by rw [c3]; decide) (by rw [c3]; rfl) (by decide) ?_
      refine lv_aload_n hx hb dX2_take_75 rfl (lv_at hl 0 rfl) ?_
      refine lv_iconst (v := 1) hx hb dX2_take_76 (by decide) ?_
      refine xp_5_1 F E J fl_X2_11 dX2_take_77 (fun H locs J => ?_)
      refine lv_goto (tgt := 111) hx hb dX2_take_80 (by decide) ?_
      obtain rfl := Option.some.inj h
      exact ret _ _ _ _ J dX2_take_111
    · have h := itn c3 h
      by_cases c4 : x_t_token = (4 : Int32)
      · have h := itp c4 h
        refine lv_tableIn (tgt := 106) (off := 99) hx hb dX2_take_7 (by rw [c4]; decide) (by rw [c4]; decide) (by rw [c4]; rfl) (by decide) ?_
        refine lv_aload_n hx hb dX2_take_106 rfl (lv_at hl 0 rfl) ?_
        refine lv_iconst (v := 0) hx hb dX2_take_107 (by decide) ?_
        refine xp_5_1 F E J fl_X2_11 dX2_take_108 (fun H locs J => ?_)
        obtain rfl := Option.some.inj h
        exact ret _ _ _ _ J dX2_take_111
      · have h := itn c4 h
        by_cases c5 : x_t_token = (5 : Int32)
        · have h := itp c5 h
          refine lv_tableIn (tgt := 40) (off := 33) hx hb dX2_take_7 (by rw [c5]; decide) (by rw [c5]; decide) (by rw [c5]; rfl) (by decide) ?_
          refine lv_aload_n hx hb dX2_take_40 rfl (lv_at hl 0 rfl) ?_
          refine lv_dup hx hb dX2_take_41 rfl ?_
          refine xg_5_3 F E J fl_X2_18 dX2_take_42 ?_
          refine lv_iconst (v := 1) hx hb dX2_take_45 (by decide) ?_
          refine lv_iadd hx hb dX2_take_46 ?_
          obtain ⟨v6, hv6, h⟩ := obs h
          refine nmI hv6 ?_
          refine xp_5_3 F E J fl_X2_18 dX2_take_47 (fun H locs J => ?_)
          refine lv_aload_n hx hb dX2_take_50 rfl (lv_at hl 0 rfl) ?_
          refine lv_iconst (v := 0) hx hb dX2_take_51 (by decide) ?_
          refine xp_5_2 F E J fl_X2_15 dX2_take_52 (fun H locs J => ?_)
          refine lv_aload_n hx hb dX2_take_55 rfl (lv_at hl 0 rfl) ?_
          refine lv_lconst (v := 0) hx hb dX2_take_56 (by decide) ?_
          refine xp_5_4 F E J fl_X2_21 dX2_take_57 (fun H locs J => ?_)
          refine lv_aload_n hx hb dX2_take_60 rfl (lv_at hl 0 rfl) ?_
          refine lv_iconst (v := 1) hx hb dX2_take_61 (by decide) ?_
          refine xp_5_1 F E J fl_X2_11 dX2_take_62 (fun H locs J => ?_)
          refine lv_goto (tgt := 111) hx hb dX2_take_65 (by decide) ?_
          obtain rfl := Option.some.inj h
          exact ret _ _ _ _ J dX2_take_111
        · have h := itn c5 h
          by_cases c7 : x_t_token = (6 : Int32)
          · have h := itp c7 h
            refine lv_tableIn (tgt := 83) (off := 76) hx hb dX2_take_7 (by rw [c7]; decide) (by rw [c7]; decide) (by rw [c7]; rfl) (by decide) ?_
            refine lv_aload_n hx hb dX2_take_83 rfl (lv_at hl 1 rfl) ?_
            refine lv_aload_n hx hb dX2_take_84 rfl (lv_at hl 0 rfl) ?_
            refine xg_5_4 F E J fl_X2_21 dX2_take_85 ?_
            refine lv_aload_n hx hb dX2_take_88 rfl (lv_at hl 0 rfl) ?_
            refine xg_5_0 F E J fl_X2_25 dX2_take_89 ?_
            refine xgN_4_4 (host := RX7) F E J (by decide +kernel) dX2_take_92 ?_
            obtain ⟨p8, hp8, h⟩ := ob h
            refine onV (runV (As := [.long x_r_row, .int x_t_value]) (rest := []) F E J (c_X1_put_s x_r_row x_t_value p8 hp8) cw_X2_71 ⟨rfl, rfl, Nat.le_of_ble_eq_true rfl, Nat.le_of_ble_eq_true rfl⟩ rcX7 rfl hl.1 rfl (Nat.le_of_ble_eq_true rfl) dX2_take_95) J (fun H locs J => ?_)
            refine lv_aload_n hx hb dX2_take_98 rfl (lv_at hl 0 rfl) ?_
            refine lv_iconst (v := 4) hx hb dX2_take_99 (by decide) ?_
            refine xp_5_1 F E J fl_X2_11 dX2_take_100 (fun H locs J => ?_)
            refine lv_goto (tgt := 111) hx hb dX2_take_103 (by decide) ?_
            obtain rfl := Option.some.inj h
            exact ret _ _ _ _ J dX2_take_111
          · have h := itn c7 h
            refine lv_tableOut (tgt := 106) hx hb dX2_take_7 (by have a0 := lv_neT (a := 2) c1 rfl; have a1 := lv_neT (a := 3) c3 rfl; have a2 := lv_neT (a := 4) c4 rfl; have a3 := lv_neT (a := 5) c5 rfl; have a4 := lv_neT (a := 6) c7 rfl; omega) (by decide) ?_
            refine lv_aload_n hx hb dX2_take_106 rfl (lv_at hl 0 rfl) ?_
            refine lv_iconst (v := 0) hx hb dX2_take_107 (by decide) ?_
            refine xp_5_1 F E J fl_X2_11 dX2_take_108 (fun H locs J => ?_)
            obtain rfl := Option.some.inj h
            exact ret _ _ _ _ J dX2_take_111
set_option maxHeartbeats 4000000 in
set_option maxRecDepth 100000 in
theorem c_X5_clear {l : Launch} {g : GG} {A : Nat → Prop} {q : Nat → Nat} {x_crowd x_latestFault x_places x_mask x_w_robots x_w_size x_w_nexts x_a_length x_t_length x_t_token x_t_from x_t_value x_t_behind x_r_wants x_r_pairs x_r_sees : Int32} {x_r_row : Int64} {x_b_size x_s_size : Int32} {x_w_names : Nat → Int32} {x_w_goals x_w_links : Nat → Int64} {x_w_linked x_w_ups x_w_downs x_w_next x_a_begun x_t_bytes : Nat → Int32} {x_b_rows : Nat → Int64} {x_b_acts : Nat → Int32} {x_s_rows : Nat → Int64} {x_s_acts : Nat → Int32} (res : Int32 × Int32 × Int32 × Int32 × Int32) (h : F_X5_clear  = some res) : Met l yX5_clear (wS yX5_clear cX5_clear 1 none) rm_X5_clear (va_Pc [.ref (q 4)] (VB g A (XW g q x_crowd x_latestFault x_places x_mask x_w_robots x_w_size x_w_nexts x_a_length x_t_length x_t_token x_t_from x_t_value x_t_behind x_r_wants x_r_pairs x_r_sees x_r_row x_b_size x_s_size x_w_names x_w_goals x_w_links x_w_linked x_w_ups x_w_downs x_w_next x_a_begun x_t_bytes x_b_rows x_b_acts x_s_rows x_s_acts))) (va_Qv (fun (_ : Unit) => True) (fun _ => VB g A (XW g q x_crowd x_latestFault x_places x_mask x_w_robots x_w_size x_w_nexts x_a_length res.1 res.2.1 res.2.2.1 res.2.2.2.1 res.2.2.2.2 x_r_wants x_r_pairs x_r_sees x_r_row x_b_size x_s_size x_w_names x_w_goals x_w_links x_w_linked x_w_ups x_w_downs x_w_next x_a_begun x_t_bytes x_b_rows x_b_acts x_s_rows x_s_acts)) A) 0 0 A := by
  unfold F_X5_clear at h
  refine MetV (own := RX5) (ws' := (XW g q x_crowd x_latestFault x_places x_mask x_w_robots x_w_size x_w_nexts x_a_length res.1 res.2.1 res.2.2.1 res.2.2.2.1 res.2.2.2.2 x_r_wants x_r_pairs x_r_sees x_r_row x_b_size x_s_size x_w_names x_w_goals x_w_links x_w_linked x_w_ups x_w_downs x_w_next x_a_begun x_t_bytes x_b_rows x_b_acts x_s_rows x_s_acts)) (by decide) rfl (Nat.le_of_ble_eq_true rfl) ?_
  intro p e s m args below meth c Q F E ret ls J hl
  have hx := F.1
  have hb := F.2.1
  have hl : lv_has ls 1 [(0, .ref (q 4))] := hl
  refine lv_aload_n hx hb dX5_clear_0 rfl (lv_at hl 0 rfl) ?_
  refine lv_iconst (v := 0) hx hb dX5_clear_1 (by decide) ?_
  refine xp_4_1 F E J fl_X5_15 dX5_clear_2 (fun H locs J => ?_)
  refine lv_aload_n hx hb dX5_clear_5 rfl (lv_at hl 0 rfl) ?_
  obtain ⟨p1, hp1, h⟩ := ob h
  refine onV (runV (As := []) (rest := []) F E J (c_X5_rewind  p1 hp1) cw_X5_31 ⟨rfl, rfl, Nat.le_of_ble_eq_true rfl, Nat.le_of_ble_eq_true rfl⟩ rcX4 rfl hl.1 rfl (Nat.le_of_ble_eq_true rfl) dX5_clear_6) J (fun H locs J => ?_)
  obtain rfl := Option.some.inj h
  exact ret _ _ _ _ J dX5_clear_9
