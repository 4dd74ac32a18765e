/-! rules(): the two books change places -/
def qs (q : Nat → Nat) : Nat → Nat := fun k => if k = 6 then q 7 else if k = 7 then q 6 else if k = 17 then q 19 else if k = 18 then q 20 else if k = 19 then q 17 else if k = 20 then q 18 else q k
def qsw (b : Bool) (q : Nat → Nat) : Nat → Nat := match b with
  | true => qs q
  | false => q
def XW2 (g : GG) (q : Nat → Nat) (bk sp : Nat) (x_crowd x_latestFault x_places x_mask x_w_robots x_w_size x_w_nexts x_a_length x_t_length x_t_token x_t_from x_t_value x_t_behind x_r_wants x_r_pairs x_r_sees : Int32) (x_r_row : Int64) (x_b_size x_s_size : Int32) (x_w_names : Nat → Int32) (x_w_goals x_w_links : Nat → Int64) (x_w_linked x_w_ups x_w_downs x_w_next x_a_begun x_t_bytes : Nat → Int32) (x_b_rows : Nat → Int64) (x_b_acts : Nat → Int32) (x_s_rows : Nat → Int64) (x_s_acts : Nat → Int32) : va_W := [(q 0, .inr (6, [.ref (q 1), .ref (q 2), .ref (q 3), .ref (q 4), .ref (q 5), .ref bk, .ref sp, .int x_crowd, .int x_latestFault])), (q 1, .inr (3, [.int x_places, .int x_mask])), (q 2, .inr (5, [.ref (q 1), .ref (q 8), .ref (q 9), .ref (q 10), .ref (q 11), .ref (q 12), .ref (q 13), .ref (q 14), .int x_w_robots, .int x_w_size, .int x_w_nexts])), (q 3, .inr (0, [.ref (q 1), .ref (q 15), .int x_a_length])), (q 4, .inr (4, [.ref (q 16), .int x_t_length, .int x_t_token, .int x_t_from, .int x_t_value, .int x_t_behind])), (q 5, .inr (2, [.ref (q 4), .int x_r_wants, .int x_r_pairs, .int x_r_sees, .long x_r_row])), (q 6, .inr (1, [.ref (q 17), .ref (q 18), .int x_b_size])), (q 7, .inr (1, [.ref (q 19), .ref (q 20), .int x_s_size])), (q 8, .inl (g.2.1.1, 64, .inl x_w_names)), (q 9, .inl (g.2.1.2.1, 3, .inr (.inl x_w_goals))), (q 10, .inl (g.2.1.2.1, 192, .inr (.inl x_w_links))), (q 11, .inl (g.2.1.2.2, 3, .inl x_w_linked)), (q 12, .inl (g.2.1.1, 9, .inl x_w_ups)), (q 13, .inl (g.2.1.1, 9, .inl x_w_downs)), (q 14, .inl (g.2.1.1, 81, .inl x_w_next)), (q 15, .inl (g.2.1.1, 16, .inl x_a_begun)), (q 16, .inl (g.2.1.1, 400, .inl x_t_bytes)), (q 17, .inl (g.2.1.2.1, 30, .inr (.inl x_b_rows))), (q 18, .inl (g.2.1.1, 30, .inl x_b_acts)), (q 19, .inl (g.2.1.2.1, 30, .inr (.inl x_s_rows))), (q 20, .inl (g.2.1.1, 30, .inl x_s_acts))]
section XRULES
variable {p : Program} {l : Launch} {e : Env} {R : Room} {s : State} {m : MethodId} {args : Array Value} {below : List Frame} {meth : Method} {c : Code} {H : Heap} {locs : List Loc} {Q : State → Prop}
variable {g : GG} {A : Nat → Prop} {cc : ByteArray} {nL index pc : Nat} {own host : String} {ls : Array Slot} {rest : List Value} {q : Nat → Nat}
variable {x_crowd x_latestFault x_places x_mask x_w_robots x_w_size x_w_nexts x_a_length x_t_length x_t_token x_t_from x_t_value x_t_behind x_r_wants x_r_pairs x_r_sees : Int32} {x_r_row : Int64} {x_b_size x_s_size : Int32} {x_w_names : Nat → Int32} {x_w_goals x_w_links : Nat → Int64} {x_w_linked x_w_ups x_w_downs x_w_next x_a_begun x_t_bytes : Nat → Int32} {x_b_rows : Nat → Int64} {x_b_acts : Nat → Int32} {x_s_rows : Nat → Int64} {x_s_acts : Nat → Int32}
theorem xPutBook {z : Nat} (F : CallFix p m c cc nL s args BIG own) (E : EV g A s) (J : VJ g A s.heap (XW g q x_crowd x_latestFault x_places x_mask x_w_robots x_w_size x_w_nexts x_a_length x_t_length x_t_token x_t_from x_t_value x_t_behind x_r_wants x_r_pairs x_r_sees x_r_row x_b_size x_s_size x_w_names x_w_goals x_w_links x_w_linked x_w_ups x_w_downs x_w_next x_a_begun x_t_bytes x_b_rows x_b_acts x_s_rows x_s_acts) H locs) (hl : Cond.fieldLink own index RX7 "book" "LRingCrowd$Book;" ∈ BIG) (hdg : decode cc pc = .ok (.putfield index, 3)) (kk : ∀ (H1 : Heap) (locs1 : List Loc), VJ g A s.heap (XW2 g q z (q 7) x_crowd x_latestFault x_places x_mask x_w_robots x_w_size x_w_nexts x_a_length x_t_length x_t_token x_t_from x_t_value x_t_behind x_r_wants x_r_pairs x_r_sees x_r_row x_b_size x_s_size x_w_names x_w_goals x_w_links x_w_linked x_w_ups x_w_downs x_w_next x_a_begun x_t_bytes x_b_rows x_b_acts x_s_rows x_s_acts) H1 locs1 → W p l e R s m args below meth c H1 locs1 0 0 Q (F0 m (pc + 3) ls rest)) : W p l e R s m args below meth c H locs 0 0 Q (F0 m pc ls (.ref z :: .ref (q 0) :: rest)) := cPut (ty := .object "RingCrowd$Book") (ci := 6) (fs := [.ref (q 1), .ref (q 2), .ref (q 3), .ref (q 4), .ref (q 5), .ref (q 6), .ref (q 7), .int x_crowd, .int x_latestFault]) (ws' := (XW2 g q z (q 7) x_crowd x_latestFault x_places x_mask x_w_robots x_w_size x_w_nexts x_a_length x_t_length x_t_token x_t_from x_t_value x_t_behind x_r_wants x_r_pairs x_r_sees x_r_row x_b_size x_s_size x_w_names x_w_goals x_w_links x_w_linked x_w_ups x_w_downs x_w_next x_a_begun x_t_bytes x_b_rows x_b_acts x_s_rows x_s_acts)) uX7 tyX7 tyX7_ok nmX7 0 rfl rfl 5 (by decide) rfl (by decide +kernel) rfl rfl (show 5 < 9 by decide) rfl F E J hl hdg kk
variable {b0 : Nat}
theorem xPutSpare {z : Nat} (F : CallFix p m c cc nL s args BIG own) (E : EV g A s) (J : VJ g A s.heap (XW2 g q b0 (q 7) x_crowd x_latestFault x_places x_mask x_w_robots x_w_size x_w_nexts x_a_length x_t_length x_t_token x_t_from x_t_value x_t_behind x_r_wants x_r_pairs x_r_sees x_r_row x_b_size x_s_size x_w_names x_w_goals x_w_links x_w_linked x_w_ups x_w_downs x_w_next x_a_begun x_t_bytes x_b_rows x_b_acts x_s_rows x_s_acts) H locs) (hl : Cond.fieldLink own index RX7 "spare" "LRingCrowd$Book;" ∈ BIG) (hdg : decode cc pc = .ok (.putfield index, 3)) (kk : ∀ (H1 : Heap) (locs1 : List Loc), VJ g A s.heap (XW2 g q b0 z x_crowd x_latestFault x_places x_mask x_w_robots x_w_size x_w_nexts x_a_length x_t_length x_t_token x_t_from x_t_value x_t_behind x_r_wants x_r_pairs x_r_sees x_r_row x_b_size x_s_size x_w_names x_w_goals x_w_links x_w_linked x_w_ups x_w_downs x_w_next x_a_begun x_t_bytes x_b_rows x_b_acts x_s_rows x_s_acts) H1 locs1 → W p l e R s m args below meth c H1 locs1 0 0 Q (F0 m (pc + 3) ls rest)) : W p l e R s m args below meth c H locs 0 0 Q (F0 m pc ls (.ref z :: .ref (q 0) :: rest)) := cPut (ty := .object "RingCrowd$Book") (ci := 6) (fs := [.ref (q 1), .ref (q 2), .ref (q 3), .ref (q 4), .ref (q 5), .ref b0, .ref (q 7), .int x_crowd, .int x_latestFault]) (ws' := (XW2 g q b0 z x_crowd x_latestFault x_places x_mask x_w_robots x_w_size x_w_nexts x_a_length x_t_length x_t_token x_t_from x_t_value x_t_behind x_r_wants x_r_pairs x_r_sees x_r_row x_b_size x_s_size x_w_names x_w_goals x_w_links x_w_linked x_w_ups x_w_downs x_w_next x_a_begun x_t_bytes x_b_rows x_b_acts x_s_rows x_s_acts)) uX7 tyX7 tyX7_ok nmX7 0 rfl rfl 6 (by decide) rfl (by decide +kernel) rfl rfl (show 6 < 9 by decide) rfl F E J hl hdg kk
theorem xSwap {H0 : Heap} (J : VJ g A H0 (XW2 g q (q 7) (q 6) x_crowd x_latestFault x_places x_mask x_w_robots x_w_size x_w_nexts x_a_length x_t_length x_t_token x_t_from x_t_value x_t_behind x_r_wants x_r_pairs x_r_sees x_r_row x_b_size x_s_size x_w_names x_w_goals x_w_links x_w_linked x_w_ups x_w_downs x_w_next x_a_begun x_t_bytes x_b_rows x_b_acts x_s_rows x_s_acts) H locs) : VJ g A H0 (XW g (qs q) x_crowd x_latestFault x_places x_mask x_w_robots x_w_size x_w_nexts x_a_length x_t_length x_t_token x_t_from x_t_value x_t_behind x_r_wants x_r_pairs x_r_sees x_r_row x_s_size x_b_size x_w_names x_w_goals x_w_links x_w_linked x_w_ups x_w_downs x_w_next x_a_begun x_t_bytes x_s_rows x_s_acts x_b_rows x_b_acts) H locs := ⟨J.1.sub [0, 1, 2, 3, 4, 5, 7, 6, 8, 9, 10, 11, 12, 13, 14, 15, 16, 19, 20, 17, 18] rfl, J.2.1.sub [0, 1, 2, 3, 4, 5, 7, 6, 8, 9, 10, 11, 12, 13, 14, 15, 16, 19, 20, 17, 18] (by decide) rfl, J.2.2⟩
end XRULES
set_option maxHeartbeats 4000000 in
set_option maxRecDepth 100000 in
theorem c_X7_rules {l : Launch} {g : GG} {A : Nat → Prop} {q : Nat → Nat} {x_crowd x_latestFault x_places x_mask x_w_robots x_w_size x_w_nexts x_a_length x_t_length x_t_token x_t_from x_t_value x_t_behind x_r_wants x_r_pairs x_r_sees : Int32} {x_r_row : Int64} {x_b_size x_s_size : Int32} {x_w_names : Nat → Int32} {x_w_goals x_w_links : Nat → Int64} {x_w_linked x_w_ups x_w_downs x_w_next x_a_begun x_t_bytes : Nat → Int32} {x_b_rows : Nat → Int64} {x_b_acts : Nat → Int32} {x_s_rows : Nat → Int64} {x_s_acts : Nat → Int32} (res : Int32 × Bool × Int32 × Int32 × Int32 × Int32 × Int32 × Int32 × Int32 × Int32 × Int32 × Int64 × Int32 × Int32 × (Nat → Int32) × (Nat → Int64) × (Nat → Int32) × (Nat → Int64) × (Nat → Int32)) (h : F_X7_rules x_latestFault x_t_length x_r_pairs x_r_row x_b_size x_w_linked x_t_bytes x_b_rows x_b_acts x_s_rows x_s_acts = some res) : Met l yX7_rules (wS yX7_rules cX7_rules 4 (some .int)) rm_X7_rules (va_Pc [.ref (q 0)] (VB g A (XW g q x_crowd x_latestFault x_places x_mask x_w_robots x_w_size x_w_nexts x_a_length x_t_length x_t_token x_t_from x_t_value x_t_behind x_r_wants x_r_pairs x_r_sees x_r_row x_b_size x_s_size x_w_names x_w_goals x_w_links x_w_linked x_w_ups x_w_downs x_w_next x_a_begun x_t_bytes x_b_rows x_b_acts x_s_rows x_s_acts))) (va_Qi (fun r (_ : Unit) => r = res.1) (fun _ => VB g A (XW g (qsw res.2.1 q) x_crowd res.2.2.1 x_places x_mask x_w_robots x_w_size x_w_nexts x_a_length res.2.2.2.1 res.2.2.2.2.1 res.2.2.2.2.2.1 res.2.2.2.2.2.2.1 res.2.2.2.2.2.2.2.1 res.2.2.2.2.2.2.2.2.1 res.2.2.2.2.2.2.2.2.2.1 res.2.2.2.2.2.2.2.2.2.2.1 res.2.2.2.2.2.2.2.2.2.2.2.1 res.2.2.2.2.2.2.2.2.2.2.2.2.1 res.2.2.2.2.2.2.2.2.2.2.2.2.2.1 x_w_names x_w_goals x_w_links res.2.2.2.2.2.2.2.2.2.2.2.2.2.2.1 x_w_ups x_w_downs x_w_next x_a_begun x_t_bytes res.2.2.2.2.2.2.2.2.2.2.2.2.2.2.2.1 res.2.2.2.2.2.2.2.2.2.2.2.2.2.2.2.2.1 res.2.2.2.2.2.2.2.2.2.2.2.2.2.2.2.2.2.1 res.2.2.2.2.2.2.2.2.2.2.2.2.2.2.2.2.2.2)) A) 0 0 A := by
  unfold F_X7_rules at h
  refine MetI (res := res.1) (own := RX7) (ws' := (XW g (qsw res.2.1 q) x_crowd res.2.2.1 x_places x_mask x_w_robots x_w_size x_w_nexts x_a_length res.2.2.2.1 res.2.2.2.2.1 res.2.2.2.2.2.1 res.2.2.2.2.2.2.1 res.2.2.2.2.2.2.2.1 res.2.2.2.2.2.2.2.2.1 res.2.2.2.2.2.2.2.2.2.1 res.2.2.2.2.2.2.2.2.2.2.1 res.2.2.2.2.2.2.2.2.2.2.2.1 res.2.2.2.2.2.2.2.2.2.2.2.2.1 res.2.2.2.2.2.2.2.2.2.2.2.2.2.1 x_w_names x_w_goals x_w_links res.2.2.2.2.2.2.2.2.2.2.2.2.2.2.1 x_w_ups x_w_downs x_w_next x_a_begun x_t_bytes res.2.2.2.2.2.2.2.2.2.2.2.2.2.2.2.1 res.2.2.2.2.2.2.2.2.2.2.2.2.2.2.2.2.1 res.2.2.2.2.2.2.2.2.2.2.2.2.2.2.2.2.2.1 res.2.2.2.2.2.2.2.2.2.2.2.2.2.2.2.2.2.2)) (by decide) rfl (Nat.le_of_ble_eq_true rfl) ?_
  intro p e s m args below meth c Q F E ret ls J hl
  have hx := F.1
  have hb := F.2.1
  have hl : lv_has ls 4 [(0, .ref (q 0))] := hl
  refine lv_aload_n hx hb dX7_rules_0 rfl (lv_at hl 0 rfl) ?_
  refine xg_0_4 F E J fl_X7_55 dX7_rules_1 ?_
  refine lv_aload_n hx hb dX7_rules_4 rfl (lv_at hl 0 rfl) ?_
  refine xg_0_6 F E J fl_X7_66 dX7_rules_5 ?_
  obtain ⟨p1, hp1, h⟩ := ob h
  refine onI (runV (As := [.ref (q 7)]) (rest := []) F E J (c_X2_read  p1 hp1) cw_X7_131 ⟨rfl, rfl, Nat.le_of_ble_eq_true rfl, Nat.le_of_ble_eq_true rfl⟩ rcX5 rfl hl.1 rfl (Nat.le_of_ble_eq_true rfl) dX7_rules_8) J (fun H locs J => ?_)
  refine lv_istore_n (lv' := [(1, .int p1.1), (0, .ref (q 0))]) hx hb dX7_rules_11 rfl hl (by decide) rfl (fun ls hl => ?_)
  refine lv_aload_n hx hb dX7_rules_12 rfl (lv_at hl 1 rfl) ?_
  refine xg_0_3 F E J fl_X7_46 dX7_rules_13 ?_
  refine xgN_4_3 (host := RX7) F E J (by decide +kernel) dX7_rules_16 ?_
  refine lv_istore_n (lv' := [(2, .int p1.2.2.1), (1, .int p1.1), (0, .ref (q 0))]) hx hb dX7_rules_19 rfl hl (by decide) rfl (fun ls hl => ?_)
  refine lv_aload_n hx hb dX7_rules_20 rfl (lv_at hl 2 rfl) ?_
  refine xg_0_3 F E J fl_X7_46 dX7_rules_21 ?_
  obtain ⟨p2, hp2, h⟩ := ob h
  refine onV (runV (As := []) (rest := []) F E J (c_X5_clear  p2 hp2) cw_X7_138 ⟨rfl, rfl, Nat.le_of_ble_eq_true rfl, Nat.le_of_ble_eq_true rfl⟩ rcX4 rfl hl.1 rfl (Nat.le_of_ble_eq_true rfl) dX7_rules_24) J (fun H locs J => ?_)
  refine lv_iload_n hx hb dX7_rules_27 rfl (lv_at hl 1 rfl) ?_
  refine lv_if_eq (tgt := 41) hx hb dX7_rules_28 (by decide) (fun c3 => ?_) (fun c3 => ?_)
  · have h := itp c3 h
    refine lv_aload_n hx hb dX7_rules_41 rfl (lv_at hl 2 rfl) ?_
    refine xg_0_5 F E J fl_X7_62 dX7_rules_42 ?_
    refine lv_astore_n (lv' := [(3, .ref (q 6)), (0, .ref (q 0))]) hx hb dX7_rules_45 rfl (lv_sub hl [2] rfl) (by decide) rfl (fun ls hl => ?_)
    refine lv_aload_n hx hb dX7_rules_46 rfl (lv_at hl 1 rfl) ?_
    refine lv_aload_n hx hb dX7_rules_47 rfl (lv_at hl 1 rfl) ?_
    refine xg_0_6 F E J fl_X7_66 dX7_rules_48 ?_
    refine xPutBook F E J fl_X7_62 dX7_rules_51 (fun H locs J => ?_)
    refine lv_aload_n hx hb dX7_rules_54 rfl (lv_at hl 1 rfl) ?_
    refine lv_aload_n hx hb dX7_rules_55 rfl (lv_at hl 0 rfl) ?_
    refine xPutSpare F E J fl_X7_66 dX7_rules_56 (fun H locs J => ?_)
    obtain ⟨q2, hq2⟩ : ∃ q2, q2 = qs q := ⟨_, rfl⟩
    have J : VJ g A s.heap (XW g q2 x_crowd x_latestFault x_places x_mask x_w_robots x_w_size x_w_nexts x_a_length p2.1 p2.2.1 p2.2.2.1 p2.2.2.2.1 p2.2.2.2.2 p1.2.2.2.2.2.1 p1.2.2.2.2.2.2.1 p1.2.2.2.2.2.2.2.1 p1.2.2.2.2.2.2.2.2.1 p1.2.2.2.2.2.2.2.2.2.1 x_b_size x_w_names x_w_goals x_w_links x_w_linked x_w_ups x_w_downs x_w_next x_a_begun x_t_bytes p1.2.2.2.2.2.2.2.2.2.2.1 p1.2.2.2.2.2.2.2.2.2.2.2 x_b_rows x_b_acts) H locs := by rw [hq2]; exact xSwap J
    have hl : lv_has ls 4 [(0, .ref (q2 0))] := by rw [hq2]; exact lv_sub hl [1] rfl
    refine lv_aload_n hx hb dX7_rules_59 rfl (lv_at hl 0 rfl) ?_
    refine xg_0_1 F E J fl_X7_32 dX7_rules_60 ?_
    obtain ⟨p4, hp4, h⟩ := ob h
    refine onV (runV (As := []) (rest := []) F E J (c_X6_forgetRules  p4 hp4) cw_X7_142 ⟨rfl, rfl, Nat.le_of_ble_eq_true rfl, Nat.le_of_ble_eq_true rfl⟩ rcX2 rfl hl.1 rfl (Nat.le_of_ble_eq_true rfl) dX7_rules_63) J (fun H locs J => ?_)
    refine lv_aload_n hx hb dX7_rules_66 rfl (lv_at hl 0 rfl) ?_
    refine xg_0_5 F E J fl_X7_62 dX7_rules_67 ?_
    refine xgN_6_2 (host := RX7) F E J (by decide +kernel) dX7_rules_70 ?_
    obtain rfl := Option.some.inj h
    subst hq2
    exact ret _ _ _ _ J dX7_rules_73
  · have h := itn c3 h
    refine lv_aload_n hx hb dX7_rules_31 rfl (lv_at hl 2 rfl) ?_
    refine lv_iload_n hx hb dX7_rules_32 rfl (lv_at hl 1 rfl) ?_
    refine xp_0_8 F E J fl_X7_73 dX7_rules_33 (fun H locs J => ?_)
    refine lv_ldc hx hb F.2.2.2.1 (F.2.2.2.2 _ kc_X7_141) dX7_rules_36 ?_
    refine lv_iload_n hx hb dX7_rules_38 rfl (lv_at hl 0 rfl) ?_
    refine lv_isub hx hb dX7_rules_39 ?_
    obtain rfl := Option.some.inj h
    exact ret _ _ _ _ J dX7_rules_40
