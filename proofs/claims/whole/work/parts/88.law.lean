/-! the law's walk -/
section LAWW
variable {p : Program} {l : Launch} {e : Env} {R : Room} {s : State} {m : MethodId} {args : Array Value} {below : List Frame} {meth : Method} {c : Code} {H : Heap} {locs : List Loc} {cells slots : Nat} {Q : State → Prop}
variable {g : GG} {AA : Nat → Prop} {ws : va_W} {cc : ByteArray} {nL pc b L : Nat} {xs : Nat → Int32} {ls : Array Slot} {rest : List Value}
theorem XB.blind {av : List Value} : FrameBlind (va_Pc av (XB b L xs)) := fun a U f mk h => ⟨h.1, va_X.moved (Vm.Alike.refl U.vm) h.2.1, h.2.2⟩
theorem lawCell (F : CallFix p m c cc nL s args BIG RL) (hX : va_X b L xs s s.heap) (hbl : b < s.heap.size) (hbA : ¬ AA b) (hL : L < 2 ^ 31) (J : VJ g AA s.heap ws H locs) (hR : 1 ≤ R.frames ∧ 21 ≤ R.locals) (hf : cells ≤ R.cells ∧ slots ≤ R.slots) (hl : ls.size = nL) (hW : (rest.map fun v => v.category).sum ≤ 8) (hdg : decode cc pc = .ok (.invokestatic 9, 3))
    (kk : ∀ (H1 : Heap) (locs1 : List Loc), VJ g AA s.heap ws H1 locs1 → W p l e R s m args below meth c H1 locs1 cells slots Q (F0 m (pc + 3) ls (.int (cellV L xs 0) :: rest))) : W p l e R s m args below meth c H locs cells slots Q (F0 m pc ls (.int 0 :: .ref b :: rest)) := by
  have ht := F.2.2.2.2
  have hS := J.2.2
  have hr := va_runS (bytes := cL_cell) (maxL := 2) (ret := some .int) (n := 2) (cells := cells) (slots := slots) (below := below) (meth := meth) (locs := locs) (H := H) (g := F0 m pc ls (.int 0 :: .ref b :: rest)) (rest := rest) (R := R) (e := e) (index := 9) (As := [.ref b, .int (nI 0)]) F (c_cell l b L xs hL 0 (by decide)) ⟨callB_of 2 ht (wS_good cl_code) rfl rfl rfl (ht _ cl_ini) (ht _ cl_link) cl_h ⟨hR.1, hR.2⟩, ht _ cl_stat⟩ ⟨XB.blind, fun U hU hWm => ⟨rfl, by rw [hU]; exact (hX.kept (hS.2.1 b hbl hbA)).moved hWm.alike, by rw [hU]; exact Nat.lt_of_lt_of_le hbl hS.1⟩⟩ rfl rfl hl rfl (lv_room hW) hdg ⟨hf.1, hf.2⟩
  refine va_calli hr hS (fun q _ h => absurd h id) (fun q h => absurd h id) (fun r u t H1 locs1 ht1 hvm hw hB hz hk hS1 => ?_)
  subst hw
  exact kk H1 locs1 ⟨J.1.kept (fun k q hq => hk q.1 (J.1 k q hq).lt id), J.2.1, hS1⟩
end LAWW
set_option maxHeartbeats 8000000 in
set_option maxRecDepth 100000 in
theorem law_loop {p : Program} {l : Launch} {e : Env} {s : State} {m : MethodId} {below : List Frame} {meth : Method} {c : Code} {g : GG} {b L ox om : Nat} {xs : Nat → Int32} (hL : L ≤ 2049) (C0 : lw_At p s m meth c b L xs) (E : EV g (fun q => s.heap.size ≤ q) s) :
    ∀ (n j : Nat) (wx wm : va_W) (H : Heap) (locs : List Loc) (ls : Array Slot), j ≤ L + 1 → L + 2 ≤ j + n → REL g ox om wx wm → DJ g (fun q => s.heap.size ≤ q) s.heap wx wm H locs → lv_has ls 4 [(0, .ref b), (1, .ref ox), (2, .ref om), (3, .int (nI j))] → W p l e room_1 s m #[Value.ref b] below meth c H locs 46 17921 (lw_Z below #[Value.ref b] s) (F0 m 28 ls [])
  | 0, j, wx, wm, H, locs, ls, h1, h2, _, _, _ => absurd h2 (by omega)
  | n + 1, j, wx, wm, H, locs, ls, h1, h2, hrel, J, hl => by
    have C0' := C0
    obtain ⟨hx, hb, hr, hml, hown, hts, hX, hbl, hlocks, hgv⟩ := C0'
    have hbA : ¬ (fun q : Nat => s.heap.size ≤ q) b := Nat.not_le.mpr hbl
    have hS := J.2.2.2.2.2
    refine lv_iload_n hx hb dL_law_28 rfl (lv_at hl 3 rfl) ?_
    refine lv_aload_n hx hb dL_law_29 rfl (lv_at hl 0 rfl) ?_
    refine va_slen hx hb hX hbl hbA hS dL_law_30 ?_
    refine lv_iconst (v := 4) hx hb dL_law_31 (by decide) ?_
    refine lv_isub hx hb dL_law_32 ?_
    refine lv_icmp_gt (tgt := 625) hx hb dL_law_33 (by decide) (fun c10 => ?_) (fun c10 => ?_)
    · refine lv_iconst (v := 1) hx hb dL_law_625 (by decide) ?_
      refine va_forget (fun q hq => hS.2.2 q hq) ?_
      refine W.widen (k := 600000) (n := 7302249) (Nat.le_of_ble_eq_true rfl) (Nat.le_of_ble_eq_true rfl) ?_
      exact lw_ret hx hb hr hlocks dL_law_626
    · have hj : j + 3 < L := by
        refine Classical.byContradiction fun z => c10 ?_
        show Int32.ofNat L - 4 < nI j
        apply Int32.lt_iff_toInt_lt.mpr
        rw [nI_toInt (by omega)]
        rcases Nat.lt_or_ge L 4 with q | q
        · have : (Int32.ofNat L - 4).toInt < 0 := by
            rcases (show L = 0 ∨ L = 1 ∨ L = 2 ∨ L = 3 by omega) with e | e | e | e <;> rw [e] <;> decide
          omega
        · rw [show Int32.ofNat L - 4 = nI (L - 4) from q_sub (a := L) (b := 4) q, nI_toInt (by omega)]
          omega
      refine lv_aload_n hx hb dL_law_36 rfl (lv_at hl 0 rfl) ?_
      refine lv_iload_n hx hb dL_law_37 rfl (lv_at hl 3 rfl) ?_
      refine va_sld hx hb hX hbl hbA hS (vp_in_nI (by omega) (by omega)) dL_law_38 ?_
      refine lv_bipush (v := 31) hx hb dL_law_39 (by decide) ?_
      refine lv_iand hx hb dL_law_41 ?_
      obtain ⟨x, ex⟩ : ∃ x, xs (nI j).toNatClampNeg &&& 31 = x := ⟨_, rfl⟩
      refine nmW ex ?_
      have kk : ∀ (wx' wm' : va_W) (H1 : Heap) (locs1 : List Loc), REL g ox om wx' wm' → DJ g (fun q => s.heap.size ≤ q) s.heap wx' wm' H1 locs1 → W p l e room_1 s m #[Value.ref b] below meth c H1 locs1 46 17921 (lw_Z below #[Value.ref b] s) (F0 m 619 ls []) := by
        intro wx' wm' H1 locs1 hrel1 J1
        refine lv_iinc (v := nI (j + 4)) (lv' := [(3, .int (nI (j + 4))), (0, .ref b), (1, .ref ox), (2, .ref om)]) hx hb dL_law_619 hl (k := 3) rfl (show nI j + 4 = nI (j + 4) from q_add j 4) (by decide) rfl (fun ls hl => ?_)
        refine lv_goto (tgt := 28) hx hb dL_law_622 (by decide) ?_
        exact law_loop hL C0 E n (j + 4) wx' wm' H1 locs1 ls (by omega) (by omega) hrel1 J1 (lv_sub hl [1, 2, 3, 0] rfl)
      rcases ix3 x (b := 19) (by decide) with q | ⟨k, hk, ek⟩
      · refine lv_tableOut (tgt := 619) hx hb dL_law_42 ?_ (by decide) ?_
        · rcases q with q | q
          · have := Int32.lt_iff_toInt_lt.mp q
            have e0 : (0 : Int32).toInt = 0 := by decide
            left
            omega
          · have := Int32.le_iff_toInt_le.mp q
            have e0 : (nI 19).toInt = 19 := by decide
            right
            omega
        · exact kk wx wm H locs hrel J
      · rcases (show k = 0 ∨ k = 1 ∨ k = 2 ∨ k = 3 ∨ k = 4 ∨ k = 5 ∨ k = 6 ∨ k = 7 ∨ k = 8 ∨ k = 9 ∨ k = 10 ∨ k = 11 ∨ k = 12 ∨ k = 13 ∨ k = 14 ∨ k = 15 ∨ k = 16 ∨ k = 17 ∨ k = 18 by omega) with ec | ec | ec | ec | ec | ec | ec | ec | ec | ec | ec | ec | ec | ec | ec | ec | ec | ec | ec
        · rw [ec] at ek
          refine lv_tableIn (tgt := 132) (off := 90) hx hb dL_law_42 (by rw [ek]; decide) (by rw [ek]; decide) (by rw [ek]; rfl) (by decide) ?_
          exact lc_robot C0 hL E hj hrel J hl kk
        · rw [ec] at ek
          refine lv_tableIn (tgt := 155) (off := 113) hx hb dL_law_42 (by rw [ek]; decide) (by rw [ek]; decide) (by rw [ek]; rfl) (by decide) ?_
          exact lc_wipe C0 hL E hj hrel J hl kk
        · rw [ec] at ek
          refine lv_tableIn (tgt := 168) (off := 126) hx hb dL_law_42 (by rw [ek]; decide) (by rw [ek]; decide) (by rw [ek]; rfl) (by decide) ?_
          exact lc_at C0 hL E hj hrel J hl kk
        · rw [ec] at ek
          refine lv_tableIn (tgt := 191) (off := 149) hx hb dL_law_42 (by rw [ek]; decide) (by rw [ek]; decide) (by rw [ek]; rfl) (by decide) ?_
          exact lc_view C0 hL E hj hrel J hl kk
        · rw [ec] at ek
          refine lv_tableIn (tgt := 224) (off := 182) hx hb dL_law_42 (by rw [ek]; decide) (by rw [ek]; decide) (by rw [ek]; rfl) (by decide) ?_
          exact lc_does C0 hL E hj hrel J hl kk
        · rw [ec] at ek
          refine lv_tableIn (tgt := 247) (off := 205) hx hb dL_law_42 (by rw [ek]; decide) (by rw [ek]; decide) (by rw [ek]; rfl) (by decide) ?_
          exact lc_name C0 hL E hj hrel J hl kk
        · rw [ec] at ek
          refine lv_tableIn (tgt := 270) (off := 228) hx hb dL_law_42 (by rw [ek]; decide) (by rw [ek]; decide) (by rw [ek]; rfl) (by decide) ?_
          exact lc_goal C0 hL E hj hrel J hl kk
        · rw [ec] at ek
          refine lv_tableIn (tgt := 293) (off := 251) hx hb dL_law_42 (by rw [ek]; decide) (by rw [ek]; decide) (by rw [ek]; rfl) (by decide) ?_
          exact lc_step C0 hL E hj hrel J hl kk
        · rw [ec] at ek
          refine lv_tableIn (tgt := 306) (off := 264) hx hb dL_law_42 (by rw [ek]; decide) (by rw [ek]; decide) (by rw [ek]; rfl) (by decide) ?_
          exact lc_go C0 hL E hj hrel J hl kk
        · rw [ec] at ek
          refine lv_tableIn (tgt := 339) (off := 297) hx hb dL_law_42 (by rw [ek]; decide) (by rw [ek]; decide) (by rw [ek]; rfl) (by decide) ?_
          exact lc_feed C0 hL E hj hrel J hl kk
        · rw [ec] at ek
          refine lv_tableIn (tgt := 402) (off := 360) hx hb dL_law_42 (by rw [ek]; decide) (by rw [ek]; decide) (by rw [ek]; rfl) (by decide) ?_
          exact lc_rules C0 hL E hj hrel J hl kk
        · rw [ec] at ek
          refine lv_tableIn (tgt := 415) (off := 373) hx hb dL_law_42 (by rw [ek]; decide) (by rw [ek]; decide) (by rw [ek]; rfl) (by decide) ?_
          exact lc_fault C0 hL E hj hrel J hl kk
        · rw [ec] at ek
          refine lv_tableIn (tgt := 428) (off := 386) hx hb dL_law_42 (by rw [ek]; decide) (by rw [ek]; decide) (by rw [ek]; rfl) (by decide) ?_
          exact lc_proves C0 hL E hj hrel J hl kk
        · rw [ec] at ek
          refine lv_tableIn (tgt := 471) (off := 429) hx hb dL_law_42 (by rw [ek]; decide) (by rw [ek]; decide) (by rw [ek]; rfl) (by decide) ?_
          exact lc_starts C0 hL E hj hrel J hl kk
        · rw [ec] at ek
          refine lv_tableIn (tgt := 514) (off := 472) hx hb dL_law_42 (by rw [ek]; decide) (by rw [ek]; decide) (by rw [ek]; rfl) (by decide) ?_
          exact lc_kind C0 hL E hj hrel J hl kk
        · rw [ec] at ek
          refine lv_tableIn (tgt := 527) (off := 485) hx hb dL_law_42 (by rw [ek]; decide) (by rw [ek]; decide) (by rw [ek]; rfl) (by decide) ?_
          exact lc_as C0 hL E hj hrel J hl kk
        · rw [ec] at ek
          refine lv_tableIn (tgt := 550) (off := 508) hx hb dL_law_42 (by rw [ek]; decide) (by rw [ek]; decide) (by rw [ek]; rfl) (by decide) ?_
          exact lc_ask C0 hL E hj hrel J hl kk
        · rw [ec] at ek
          refine lv_tableIn (tgt := 573) (off := 531) hx hb dL_law_42 (by rw [ek]; decide) (by rw [ek]; decide) (by rw [ek]; rfl) (by decide) ?_
          exact lc_trace C0 hL E hj hrel J hl kk
        · rw [ec] at ek
          refine lv_tableIn (tgt := 596) (off := 554) hx hb dL_law_42 (by rw [ek]; decide) (by rw [ek]; decide) (by rw [ek]; rfl) (by decide) ?_
          exact lc_count C0 hL E hj hrel J hl kk
set_option maxHeartbeats 8000000 in
set_option maxRecDepth 100000 in
theorem whole_start {p : Program} {e : Env} {s : State} {m : MethodId} {below : List Frame} {meth : Method} {c : Code} (l : Launch) (hflags : l.flags = flags0) {b L : Nat} {xs : Nat → Int32} (hL : L ≤ 2049) (C0 : lw_At p s m meth c b L xs) : W p l e room_1 s m #[Value.ref b] below meth c s.heap [] 0 0 (lw_Z below #[Value.ref b] s) (entryFrame m ([Value.ref b] : List Value).toArray 4) := by
  obtain ⟨g, E⟩ := ev_start C0
  have hB := big_hts C0
  have C0' := C0
  obtain ⟨hx, hb, hr, hml, hown, hts, hX, hbl, hlocks, hgv⟩ := C0'
  have F : CallFix p m c code 4 s #[Value.ref b] BIG RL := ⟨hx, hb, hml, hown, hB⟩
  have hA : ∀ q, s.heap.size ≤ q → (fun q : Nat => s.heap.size ≤ q) q := fun _ h => h
  have hbA : ¬ (fun q : Nat => s.heap.size ≤ q) b := Nat.not_le.mpr hbl
  have hK := E.1
  have N0 := E.2.1
  have J : VJ g (fun q => s.heap.size ≤ q) s.heap [] s.heap [] := ⟨fun k q h => by simp at h, ⟨fun i j p q h => by simp at h, fun k q h => by simp at h⟩, va_S.rf⟩
  have hl := lv_entry ([.ref b]) (n := 4) (Nat.le_of_ble_eq_true rfl)
  rw [lg_entry_eq]
  generalize (lg_sl ([.ref b]) ++ List.replicate (4 - (lg_sl ([.ref b])).length) Slot.unset).toArray = ls at hl ⊢
  have hl : lv_has ls 4 [(0, .ref b)] := hl
  refine kNew (ci := 6) (fs := [.null, .null, .null, .null, .null, .null, .null, .int 0, .int 0]) uX7 tyX7 tyX7_ok cl_L_7 in_X7 iz_X7 rfl (by decide) F hK hA J (Nat.le_of_ble_eq_true rfl) (Nat.le_of_ble_eq_true rfl) dL_law_0 (fun n0 H J => ?_)
  refine lv_dup hx hb dL_law_3 rfl ?_
  refine lv_aload_n hx hb dL_law_4 rfl (lv_at hl 0 rfl) ?_
  refine lv_iconst (v := 0) hx hb dL_law_5 (by decide) ?_
  refine lawCell F hX hbl hbA (by omega) J ⟨(Nat.le_of_ble_eq_true rfl), (Nat.le_of_ble_eq_true rfl)⟩ ⟨(Nat.le_of_ble_eq_true rfl), (Nat.le_of_ble_eq_true rfl)⟩ hl.1 (Nat.le_of_ble_eq_true rfl) dL_law_6 (fun H locs J => ?_)
  obtain ⟨n, hn, en, em, ek⟩ := clamp_n (cellV L xs 0)
  refine kCall (wc := [(n0, .inr (6, [.null, .null, .null, .null, .null, .null, .null, .int 0, .int 0]))]) (wr := []) N0 F hK hA J (ci_X7 l g n0 H.size (cellV L xs 0)) [0] [] rfl rfl rfl rfl rfl (by decide) (kRunI N0 F hK J (ci_X7 l g n0 H.size (cellV L xs 0)) [0] rfl rfl rfl il_L_15 im_X7.1 im_X7.2.1 im_X7.2.2.1 rfl im_X7.2.2.2 ⟨rfl, rfl, (Nat.le_of_ble_eq_true rfl), (Nat.le_of_ble_eq_true rfl)⟩ (As := [.int (cellV L xs 0)]) (rest := [.ref n0]) rfl hl.1 rfl (Nat.le_of_ble_eq_true rfl) dL_law_9 ⟨(Nat.le_of_ble_eq_true rfl), (Nat.le_of_ble_eq_true rfl)⟩) (fun u1 H locs J => ?_)
  have J : VJ g (fun q => s.heap.size ≤ q) s.heap (XN g n0 u1 (if 3 < (if (cellV L xs 0) < 9 then (cellV L xs 0) else 9) then (if (cellV L xs 0) < 9 then (cellV L xs 0) else 9) else 3) ((jshl 1 (3 * (if 3 < (if (cellV L xs 0) < 9 then (cellV L xs 0) else 9) then (if (cellV L xs 0) < 9 then (cellV L xs 0) else 9) else 3))) - 1)) H locs := J
  rw [en, ek] at J
  refine lv_astore_n (lv' := [(1, .ref n0), (0, .ref b)]) hx hb dL_law_12 rfl hl (by decide) rfl (fun ls hl => ?_)
  refine kNew (ci := 7) (fs := [.int 0, .int 0, .int 0, .null, .null, .int 0, .null, .null, .null, .int 0, .null, .null, .null, .null, .null, .null, .int 0, .int 0, .int 0, .int 0, .int 0, .int 0, .int 0, .int 0, .int 0, .int 0, .null, .null, .null, .null, .int 0, .null, .null, .null, .null, .null, .null, .null, .null, .null, .int 0]) uX8 tyX8 tyX8_ok cl_L_18 in_X8 iz_X8 rfl (by decide) F hK hA J (Nat.le_of_ble_eq_true rfl) (Nat.le_of_ble_eq_true rfl) dL_law_13 (fun n1 H J => ?_)
  refine lv_dup hx hb dL_law_16 rfl ?_
  refine lv_aload_n hx hb dL_law_17 rfl (lv_at hl 1 rfl) ?_
  refine lv_iconst (v := 0) hx hb dL_law_18 (by decide) ?_
  refine lawCell F hX hbl hbA (by omega) J ⟨(Nat.le_of_ble_eq_true rfl), (Nat.le_of_ble_eq_true rfl)⟩ ⟨(Nat.le_of_ble_eq_true rfl), (Nat.le_of_ble_eq_true rfl)⟩ hl.1 (Nat.le_of_ble_eq_true rfl) dL_law_19 (fun H locs J => ?_)
  refine kCall (wc := [(n1, .inr (7, [.int 0, .int 0, .int 0, .null, .null, .int 0, .null, .null, .null, .int 0, .null, .null, .null, .null, .null, .null, .int 0, .int 0, .int 0, .int 0, .int 0, .int 0, .int 0, .int 0, .int 0, .int 0, .null, .null, .null, .null, .int 0, .null, .null, .null, .null, .null, .null, .null, .null, .null, .int 0]))]) (wr := XN g n0 u1 (nI n) (nI (mskN n))) N0 F hK hA J (ci_X8 l g n1 H.size (cellV L xs 0)) [21] [0, 1, 2, 3, 4, 5, 6, 7, 8, 9, 10, 11, 12, 13, 14, 15, 16, 17, 18, 19, 20] rfl rfl rfl rfl rfl (by decide) (kRunI N0 F hK J (ci_X8 l g n1 H.size (cellV L xs 0)) [21] rfl rfl rfl il_L_20 im_X8.1 im_X8.2.1 im_X8.2.2.1 rfl im_X8.2.2.2 ⟨rfl, rfl, (Nat.le_of_ble_eq_true rfl), (Nat.le_of_ble_eq_true rfl)⟩ (As := [.int (cellV L xs 0)]) (rest := [.ref n1]) rfl hl.1 rfl (Nat.le_of_ble_eq_true rfl) dL_law_22 ⟨(Nat.le_of_ble_eq_true rfl), (Nat.le_of_ble_eq_true rfl)⟩) (fun u2 H locs J => ?_)
  have J : VJ g (fun q => s.heap.size ≤ q) s.heap (XN g n0 u1 (nI n) (nI (mskN n)) ++ MN g n1 u2 (cl8 (cellV L xs 0))) H locs := J
  rw [em, mn_f] at J
  have DJ0 := J.split.perm [0, 1, 2, 10, 12, 14, 15, 18, 3, 4, 5, 6, 7, 8, 9, 11, 13, 16, 17, 19, 20] (xn_f g n0 u1 n) rfl (xn_m g n0 u1 n)
  refine lv_astore_n (lv' := [(2, .ref n1), (1, .ref n0), (0, .ref b)]) hx hb dL_law_25 rfl hl (by decide) rfl (fun ls hl => ?_)
  refine lv_iconst (v := 1) hx hb dL_law_26 (by decide) ?_
  refine lv_istore_n (lv' := [(3, .int 1), (2, .ref n1), (1, .ref n0), (0, .ref b)]) hx hb dL_law_27 rfl hl (by decide) rfl (fun ls hl => ?_)
  exact law_loop hL C0 E (L + 1) 1 _ _ H locs ls (by omega) (by omega) (REL_0 hn) DJ0 (lv_sub hl [3, 2, 1, 0] rfl)
