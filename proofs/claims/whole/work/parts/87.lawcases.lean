/-! the law's cases -/
theorem nmW {p : Program} {l : Launch} {e : Env} {R : Room} {s : State} {m : MethodId} {args : Array Value} {below : List Frame} {meth : Method} {c : Code} {H : Heap} {locs : List Loc} {cells slots pc : Nat} {Q : State → Prop} {ls : Array Slot} {rest : List Value} {x v : Int32} (h : x = v) (k : W p l e R s m args below meth c H locs cells slots Q (F0 m pc ls (.int v :: rest))) : W p l e R s m args below meth c H locs cells slots Q (F0 m pc ls (.int x :: rest)) := by rw [h]; exact k
set_option maxHeartbeats 4000000 in
theorem lc_robot {p : Program} {l : Launch} {e : Env} {s : State} {m : MethodId} {below : List Frame} {meth : Method} {c : Code} {g : GG} {b L j : Nat} {xs : Nat → Int32} {Q : State → Prop} {ox om : Nat} {wx wm : va_W} {H : Heap} {locs : List Loc} {ls : Array Slot} (C0 : lw_At p s m meth c b L xs) (hL : L ≤ 2049) (E : EV g (fun q => s.heap.size ≤ q) s) (hj : j + 3 < L) (h : REL g ox om wx wm) (J : DJ g (fun q => s.heap.size ≤ q) s.heap wx wm H locs) (hl : lv_has ls 4 [(0, .ref b), (1, .ref ox), (2, .ref om), (3, .int (nI j))]) (kk : ∀ (wx' wm' : va_W) (H1 : Heap) (locs1 : List Loc), REL g ox om wx' wm' → DJ g (fun q => s.heap.size ≤ q) s.heap wx' wm' H1 locs1 → W p l e room_1 s m #[Value.ref b] below meth c H1 locs1 46 17921 Q (F0 m 619 ls [])) : W p l e room_1 s m #[Value.ref b] below meth c H locs 46 17921 Q (F0 m 132 ls []) := by
  have hB := big_hts C0
  obtain ⟨hx, hb, hr, hml, hown, hts, hX, hbl, hlocks, hgv⟩ := C0
  have F : CallFix p m c code 4 s #[Value.ref b] BIG RL := ⟨hx, hb, hml, hown, hB⟩
  have hA : ∀ q, s.heap.size ≤ q → (fun q : Nat => s.heap.size ≤ q) q := fun _ h => h
  have hbA : ¬ (fun q : Nat => s.heap.size ≤ q) b := Nat.not_le.mpr hbl
  have hS := J.2.2.2.2.2
  obtain ⟨hrx, hrm⟩ := REL_rx h
  obtain ⟨r, wx', wm', hrel, M1, M2⟩ := k_robot (l := l) h (xs (nI (j + 1)).toNatClampNeg)
  refine lv_aload_n hx hb dL_law_132 rfl (lv_at hl 1 rfl) ?_
  refine lv_aload_n hx hb dL_law_133 rfl (lv_at hl 0 rfl) ?_
  refine lv_iload_n hx hb dL_law_134 rfl (lv_at hl 3 rfl) ?_
  refine lv_iconst (v := 1) hx hb dL_law_135 (by decide) ?_
  refine lv_iadd hx hb dL_law_136 ?_
  refine nmW (show nI j + 1 = nI (j + 1) from q_add j 1) ?_
  refine va_sld hx hb hX hbl hbA hS (vp_in_nI (by omega) (by omega)) dL_law_137 ?_
  refine lawCall (As := [.int (xs (nI (j + 1)).toNatClampNeg)]) (o := wm) (rest := []) F E hA J M1 cw_L_21 ⟨rfl, rfl, (Nat.le_of_ble_eq_true rfl), (Nat.le_of_ble_eq_true rfl)⟩ ⟨(Nat.le_of_ble_eq_true rfl), (Nat.le_of_ble_eq_true rfl)⟩ hrx rfl hl.1 rfl (Nat.le_of_ble_eq_true rfl) dL_law_138 (fun H locs J => ?_)
  have hS := J.2.2.2.2.2
  refine lv_aload_n hx hb dL_law_141 rfl (lv_at hl 2 rfl) ?_
  refine lv_aload_n hx hb dL_law_142 rfl (lv_at hl 0 rfl) ?_
  refine lv_iload_n hx hb dL_law_143 rfl (lv_at hl 3 rfl) ?_
  refine lv_iconst (v := 1) hx hb dL_law_144 (by decide) ?_
  refine lv_iadd hx hb dL_law_145 ?_
  refine nmW (show nI j + 1 = nI (j + 1) from q_add j 1) ?_
  refine va_sld hx hb hX hbl hbA hS (vp_in_nI (by omega) (by omega)) dL_law_146 ?_
  refine lawCall (As := [.int (xs (nI (j + 1)).toNatClampNeg)]) (o := wx') (rest := [.int r]) F E hA J.swap M2 cw_L_25 ⟨rfl, rfl, (Nat.le_of_ble_eq_true rfl), (Nat.le_of_ble_eq_true rfl)⟩ ⟨(Nat.le_of_ble_eq_true rfl), (Nat.le_of_ble_eq_true rfl)⟩ hrm rfl hl.1 rfl (Nat.le_of_ble_eq_true rfl) dL_law_147 (fun H locs J => ?_)
  refine lv_icmp_eq (tgt := 619) hx hb dL_law_150 (by decide) (fun _ => ?_) (fun c9 => absurd rfl c9)
  exact kk wx' wm' H locs hrel J.swap
set_option maxHeartbeats 4000000 in
theorem lc_wipe {p : Program} {l : Launch} {e : Env} {s : State} {m : MethodId} {below : List Frame} {meth : Method} {c : Code} {g : GG} {b L j : Nat} {xs : Nat → Int32} {Q : State → Prop} {ox om : Nat} {wx wm : va_W} {H : Heap} {locs : List Loc} {ls : Array Slot} (C0 : lw_At p s m meth c b L xs) (hL : L ≤ 2049) (E : EV g (fun q => s.heap.size ≤ q) s) (hj : j + 3 < L) (h : REL g ox om wx wm) (J : DJ g (fun q => s.heap.size ≤ q) s.heap wx wm H locs) (hl : lv_has ls 4 [(0, .ref b), (1, .ref ox), (2, .ref om), (3, .int (nI j))]) (kk : ∀ (wx' wm' : va_W) (H1 : Heap) (locs1 : List Loc), REL g ox om wx' wm' → DJ g (fun q => s.heap.size ≤ q) s.heap wx' wm' H1 locs1 → W p l e room_1 s m #[Value.ref b] below meth c H1 locs1 46 17921 Q (F0 m 619 ls [])) : W p l e room_1 s m #[Value.ref b] below meth c H locs 46 17921 Q (F0 m 155 ls []) := by
  have hB := big_hts C0
  obtain ⟨hx, hb, hr, hml, hown, hts, hX, hbl, hlocks, hgv⟩ := C0
  have F : CallFix p m c code 4 s #[Value.ref b] BIG RL := ⟨hx, hb, hml, hown, hB⟩
  have hA : ∀ q, s.heap.size ≤ q → (fun q : Nat => s.heap.size ≤ q) q := fun _ h => h
  have hbA : ¬ (fun q : Nat => s.heap.size ≤ q) b := Nat.not_le.mpr hbl
  have hS := J.2.2.2.2.2
  obtain ⟨hrx, hrm⟩ := REL_rx h
  obtain ⟨r, wx', wm', hrel, M1, M2⟩ := k_wipe (l := l) h
  refine lv_aload_n hx hb dL_law_155 rfl (lv_at hl 1 rfl) ?_
  refine lawCall (As := []) (o := wm) (rest := []) F E hA J M1 cw_L_26 ⟨rfl, rfl, (Nat.le_of_ble_eq_true rfl), (Nat.le_of_ble_eq_true rfl)⟩ ⟨(Nat.le_of_ble_eq_true rfl), (Nat.le_of_ble_eq_true rfl)⟩ hrx rfl hl.1 rfl (Nat.le_of_ble_eq_true rfl) dL_law_156 (fun H locs J => ?_)
  have hS := J.2.2.2.2.2
  refine lv_aload_n hx hb dL_law_159 rfl (lv_at hl 2 rfl) ?_
  refine lawCall (As := []) (o := wx') (rest := [.int r]) F E hA J.swap M2 cw_L_30 ⟨rfl, rfl, (Nat.le_of_ble_eq_true rfl), (Nat.le_of_ble_eq_true rfl)⟩ ⟨(Nat.le_of_ble_eq_true rfl), (Nat.le_of_ble_eq_true rfl)⟩ hrm rfl hl.1 rfl (Nat.le_of_ble_eq_true rfl) dL_law_160 (fun H locs J => ?_)
  refine lv_icmp_eq (tgt := 619) hx hb dL_law_163 (by decide) (fun _ => ?_) (fun c9 => absurd rfl c9)
  exact kk wx' wm' H locs hrel J.swap
set_option maxHeartbeats 4000000 in
theorem lc_at {p : Program} {l : Launch} {e : Env} {s : State} {m : MethodId} {below : List Frame} {meth : Method} {c : Code} {g : GG} {b L j : Nat} {xs : Nat → Int32} {Q : State → Prop} {ox om : Nat} {wx wm : va_W} {H : Heap} {locs : List Loc} {ls : Array Slot} (C0 : lw_At p s m meth c b L xs) (hL : L ≤ 2049) (E : EV g (fun q => s.heap.size ≤ q) s) (hj : j + 3 < L) (h : REL g ox om wx wm) (J : DJ g (fun q => s.heap.size ≤ q) s.heap wx wm H locs) (hl : lv_has ls 4 [(0, .ref b), (1, .ref ox), (2, .ref om), (3, .int (nI j))]) (kk : ∀ (wx' wm' : va_W) (H1 : Heap) (locs1 : List Loc), REL g ox om wx' wm' → DJ g (fun q => s.heap.size ≤ q) s.heap wx' wm' H1 locs1 → W p l e room_1 s m #[Value.ref b] below meth c H1 locs1 46 17921 Q (F0 m 619 ls [])) : W p l e room_1 s m #[Value.ref b] below meth c H locs 46 17921 Q (F0 m 168 ls []) := by
  have hB := big_hts C0
  obtain ⟨hx, hb, hr, hml, hown, hts, hX, hbl, hlocks, hgv⟩ := C0
  have F : CallFix p m c code 4 s #[Value.ref b] BIG RL := ⟨hx, hb, hml, hown, hB⟩
  have hA : ∀ q, s.heap.size ≤ q → (fun q : Nat => s.heap.size ≤ q) q := fun _ h => h
  have hbA : ¬ (fun q : Nat => s.heap.size ≤ q) b := Nat.not_le.mpr hbl
  have hS := J.2.2.2.2.2
  obtain ⟨hrx, hrm⟩ := REL_rx h
  obtain ⟨r, wx', wm', hrel, M1, M2⟩ := k_at (l := l) h (xs (nI (j + 1)).toNatClampNeg)
  refine lv_aload_n hx hb dL_law_168 rfl (lv_at hl 1 rfl) ?_
  refine lv_aload_n hx hb dL_law_169 rfl (lv_at hl 0 rfl) ?_
  refine lv_iload_n hx hb dL_law_170 rfl (lv_at hl 3 rfl) ?_
  refine lv_iconst (v := 1) hx hb dL_law_171 (by decide) ?_
  refine lv_iadd hx hb dL_law_172 ?_
  refine nmW (show nI j + 1 = nI (j + 1) from q_add j 1) ?_
  refine va_sld hx hb hX hbl hbA hS (vp_in_nI (by omega) (by omega)) dL_law_173 ?_
  refine lawCall (As := [.int (xs (nI (j + 1)).toNatClampNeg)]) (o := wm) (rest := []) F E hA J M1 cw_L_31 ⟨rfl, rfl, (Nat.le_of_ble_eq_true rfl), (Nat.le_of_ble_eq_true rfl)⟩ ⟨(Nat.le_of_ble_eq_true rfl), (Nat.le_of_ble_eq_true rfl)⟩ hrx rfl hl.1 rfl (Nat.le_of_ble_eq_true rfl) dL_law_174 (fun H locs J => ?_)
  have hS := J.2.2.2.2.2
  refine lv_aload_n hx hb dL_law_177 rfl (lv_at hl 2 rfl) ?_
  refine lv_aload_n hx hb dL_law_178 rfl (lv_at hl 0 rfl) ?_
  refine lv_iload_n hx hb dL_law_179 rfl (lv_at hl 3 rfl) ?_
  refine lv_iconst (v := 1) hx hb dL_law_180 (by decide) ?_
  refine lv_iadd hx hb dL_law_181 ?_
  refine nmW (show nI j + 1 = nI (j + 1) from q_add j 1) ?_
  refine va_sld hx hb hX hbl hbA hS (vp_in_nI (by omega) (by omega)) dL_law_182 ?_
  refine lawCall (As := [.int (xs (nI (j + 1)).toNatClampNeg)]) (o := wx') (rest := [.int r]) F E hA J.swap M2 cw_L_34 ⟨rfl, rfl, (Nat.le_of_ble_eq_true rfl), (Nat.le_of_ble_eq_true rfl)⟩ ⟨(Nat.le_of_ble_eq_true rfl), (Nat.le_of_ble_eq_true rfl)⟩ hrm rfl hl.1 rfl (Nat.le_of_ble_eq_true rfl) dL_law_183 (fun H locs J => ?_)
  refine lv_icmp_eq (tgt := 619) hx hb dL_law_186 (by decide) (fun _ => ?_) (fun c9 => absurd rfl c9)
  exact kk wx' wm' H locs hrel J.swap
set_option maxHeartbeats 4000000 in
theorem lc_view {p : Program} {l : Launch} {e : Env} {s : State} {m : MethodId} {below : List Frame} {meth : Method} {c : Code} {g : GG} {b L j : Nat} {xs : Nat → Int32} {Q : State → Prop} {ox om : Nat} {wx wm : va_W} {H : Heap} {locs : List Loc} {ls : Array Slot} (C0 : lw_At p s m meth c b L xs) (hL : L ≤ 2049) (E : EV g (fun q => s.heap.size ≤ q) s) (hj : j + 3 < L) (h : REL g ox om wx wm) (J : DJ g (fun q => s.heap.size ≤ q) s.heap wx wm H locs) (hl : lv_has ls 4 [(0, .ref b), (1, .ref ox), (2, .ref om), (3, .int (nI j))]) (kk : ∀ (wx' wm' : va_W) (H1 : Heap) (locs1 : List Loc), REL g ox om wx' wm' → DJ g (fun q => s.heap.size ≤ q) s.heap wx' wm' H1 locs1 → W p l e room_1 s m #[Value.ref b] below meth c H1 locs1 46 17921 Q (F0 m 619 ls [])) : W p l e room_1 s m #[Value.ref b] below meth c H locs 46 17921 Q (F0 m 191 ls []) := by
  have hB := big_hts C0
  obtain ⟨hx, hb, hr, hml, hown, hts, hX, hbl, hlocks, hgv⟩ := C0
  have F : CallFix p m c code 4 s #[Value.ref b] BIG RL := ⟨hx, hb, hml, hown, hB⟩
  have hA : ∀ q, s.heap.size ≤ q → (fun q : Nat => s.heap.size ≤ q) q := fun _ h => h
  have hbA : ¬ (fun q : Nat => s.heap.size ≤ q) b := Nat.not_le.mpr hbl
  have hS := J.2.2.2.2.2
  obtain ⟨hrx, hrm⟩ := REL_rx h
  obtain ⟨r, wx', wm', hrel, M1, M2⟩ := k_view (l := l) h (xs (nI (j + 1)).toNatClampNeg) (xs (nI (j + 2)).toNatClampNeg)
  refine lv_aload_n hx hb dL_law_191 rfl (lv_at hl 1 rfl) ?_
  refine lv_aload_n hx hb dL_law_192 rfl (lv_at hl 0 rfl) ?_
  refine lv_iload_n hx hb dL_law_193 rfl (lv_at hl 3 rfl) ?_
  refine lv_iconst (v := 1) hx hb dL_law_194 (by decide) ?_
  refine lv_iadd hx hb dL_law_195 ?_
  refine nmW (show nI j + 1 = nI (j + 1) from q_add j 1) ?_
  refine va_sld hx hb hX hbl hbA hS (vp_in_nI (by omega) (by omega)) dL_law_196 ?_
  refine lv_aload_n hx hb dL_law_197 rfl (lv_at hl 0 rfl) ?_
  refine lv_iload_n hx hb dL_law_198 rfl (lv_at hl 3 rfl) ?_
  refine lv_iconst (v := 2) hx hb dL_law_199 (by decide) ?_
  refine lv_iadd hx hb dL_law_200 ?_
  refine nmW (show nI j + 2 = nI (j + 2) from q_add j 2) ?_
  refine va_sld hx hb hX hbl hbA hS (vp_in_nI (by omega) (by omega)) dL_law_201 ?_
  refine lawCall (As := [.int (xs (nI (j + 1)).toNatClampNeg), .int (xs (nI (j + 2)).toNatClampNeg)]) (o := wm) (rest := []) F E hA J M1 cw_L_35 ⟨rfl, rfl, (Nat.le_of_ble_eq_true rfl), (Nat.le_of_ble_eq_true rfl)⟩ ⟨(Nat.le_of_ble_eq_true rfl), (Nat.le_of_ble_eq_true rfl)⟩ hrx rfl hl.1 rfl (Nat.le_of_ble_eq_true rfl) dL_law_202 (fun H locs J => ?_)
  have hS := J.2.2.2.2.2
  refine lv_aload_n hx hb dL_law_205 rfl (lv_at hl 2 rfl) ?_
  refine lv_aload_n hx hb dL_law_206 rfl (lv_at hl 0 rfl) ?_
  refine lv_iload_n hx hb dL_law_207 rfl (lv_at hl 3 rfl) ?_
  refine lv_iconst (v := 1) hx hb dL_law_208 (by decide) ?_
  refine lv_iadd hx hb dL_law_209 ?_
  refine nmW (show nI j + 1 = nI (j + 1) from q_add j 1) ?_
  refine va_sld hx hb hX hbl hbA hS (vp_in_nI (by omega) (by omega)) dL_law_210 ?_
  refine lv_aload_n hx hb dL_law_211 rfl (lv_at hl 0 rfl) ?_
  refine lv_iload_n hx hb dL_law_212 rfl (lv_at hl 3 rfl) ?_
  refine lv_iconst (v := 2) hx hb dL_law_213 (by decide) ?_
  refine lv_iadd hx hb dL_law_214 ?_
  refine nmW (show nI j + 2 = nI (j + 2) from q_add j 2) ?_
  refine va_sld hx hb hX hbl hbA hS (vp_in_nI (by omega) (by omega)) dL_law_215 ?_
  refine lawCall (As := [.int (xs (nI (j + 1)).toNatClampNeg), .int (xs (nI (j + 2)).toNatClampNeg)]) (o := wx') (rest := [.int r]) F E hA J.swap M2 cw_L_39 ⟨rfl, rfl, (Nat.le_of_ble_eq_true rfl), (Nat.le_of_ble_eq_true rfl)⟩ ⟨(Nat.le_of_ble_eq_true rfl), (Nat.le_of_ble_eq_true rfl)⟩ hrm rfl hl.1 rfl (Nat.le_of_ble_eq_true rfl) dL_law_216 (fun H locs J => ?_)
  refine lv_icmp_eq (tgt := 619) hx hb dL_law_219 (by decide) (fun _ => ?_) (fun c9 => absurd rfl c9)
  exact kk wx' wm' H locs hrel J.swap
set_option maxHeartbeats 4000000 in
theorem lc_does {p : Program} {l : Launch} {e : Env} {s : State} {m : MethodId} {below : List Frame} {meth : Method} {c : Code} {g : GG} {b L j : Nat} {xs : Nat → Int32} {Q : State → Prop} {ox om : Nat} {wx wm : va_W} {H : Heap} {locs : List Loc} {ls : Array Slot} (C0 : lw_At p s m meth c b L xs) (hL : L ≤ 2049) (E : EV g (fun q => s.heap.size ≤ q) s) (hj : j + 3 < L) (h : REL g ox om wx wm) (J : DJ g (fun q => s.heap.size ≤ q) s.heap wx wm H locs) (hl : lv_has ls 4 [(0, .ref b), (1, .ref ox), (2, .ref om), (3, .int (nI j))]) (kk : ∀ (wx' wm' : va_W) (H1 : Heap) (locs1 : List Loc), REL g ox om wx' wm' → DJ g (fun q => s.heap.size ≤ q) s.heap wx' wm' H1 locs1 → W p l e room_1 s m #[Value.ref b] below meth c H1 locs1 46 17921 Q (F0 m 619 ls [])) : W p l e room_1 s m #[Value.ref b] below meth c H locs 46 17921 Q (F0 m 224 ls []) := by
  have hB := big_hts C0
  obtain ⟨hx, hb, hr, hml, hown, hts, hX, hbl, hlocks, hgv⟩ := C0
  have F : CallFix p m c code 4 s #[Value.ref b] BIG RL := ⟨hx, hb, hml, hown, hB⟩
  have hA : ∀ q, s.heap.size ≤ q → (fun q : Nat => s.heap.size ≤ q) q := fun _ h => h
  have hbA : ¬ (fun q : Nat => s.heap.size ≤ q) b := Nat.not_le.mpr hbl
  have hS := J.2.2.2.2.2
  obtain ⟨hrx, hrm⟩ := REL_rx h
  obtain ⟨r, wx', wm', hrel, M1, M2⟩ := k_does (l := l) h (xs (nI (j + 1)).toNatClampNeg)
  refine lv_aload_n hx hb dL_law_224 rfl (lv_at hl 1 rfl) ?_
  refine lv_aload_n hx hb dL_law_225 rfl (lv_at hl 0 rfl) ?_
  refine lv_iload_n hx hb dL_law_226 rfl (lv_at hl 3 rfl) ?_
  refine lv_iconst (v := 1) hx hb dL_law_227 (by decide) ?_
  refine lv_iadd hx hb dL_law_228 ?_
  refine nmW (show nI j + 1 = nI (j + 1) from q_add j 1) ?_
  refine va_sld hx hb hX hbl hbA hS (vp_in_nI (by omega) (by omega)) dL_law_229 ?_
  refine lawCall (As := [.int (xs (nI (j + 1)).toNatClampNeg)]) (o := wm) (rest := []) F E hA J M1 cw_L_40 ⟨rfl, rfl, (Nat.le_of_ble_eq_true rfl), (Nat.le_of_ble_eq_true rfl)⟩ ⟨(Nat.le_of_ble_eq_true rfl), (Nat.le_of_ble_eq_true rfl)⟩ hrx rfl hl.1 rfl (Nat.le_of_ble_eq_true rfl) dL_law_230 (fun H locs J => ?_)
  have hS := J.2.2.2.2.2
  refine lv_aload_n hx hb dL_law_233 rfl (lv_at hl 2 rfl) ?_
  refine lv_aload_n hx hb dL_law_234 rfl (lv_at hl 0 rfl) ?_
  refine lv_iload_n hx hb dL_law_235 rfl (lv_at hl 3 rfl) ?_
  refine lv_iconst (v := 1) hx hb dL_law_236 (by decide) ?_
  refine lv_iadd hx hb dL_law_237 ?_
  refine nmW (show nI j + 1 = nI (j + 1) from q_add j 1) ?_
  refine va_sld hx hb hX hbl hbA hS (vp_in_nI (by omega) (by omega)) dL_law_238 ?_
  refine lawCall (As := [.int (xs (nI (j + 1)).toNatClampNeg)]) (o := wx') (rest := [.int r]) F E hA J.swap M2 cw_L_43 ⟨rfl, rfl, (Nat.le_of_ble_eq_true rfl), (Nat.le_of_ble_eq_true rfl)⟩ ⟨(Nat.le_of_ble_eq_true rfl), (Nat.le_of_ble_eq_true rfl)⟩ hrm rfl hl.1 rfl (Nat.le_of_ble_eq_true rfl) dL_law_239 (fun H locs J => ?_)
  refine lv_icmp_eq (tgt := 619) hx hb dL_law_242 (by decide) (fun _ => ?_) (fun c9 => absurd rfl c9)
  exact kk wx' wm' H locs hrel J.swap
set_option maxHeartbeats 4000000 in
theorem lc_name {p : Program} {l : Launch} {e : Env} {s : State} {m : MethodId} {below : List Frame} {meth : Method} {c : Code} {g : GG} {b L j : Nat} {xs : Nat → Int32} {Q : State → Prop} {ox om : Nat} {wx wm : va_W} {H : Heap} {locs : List Loc} {ls : Array Slot} (C0 : lw_At p s m meth c b L xs) (hL : L ≤ 2049) (E : EV g (fun q => s.heap.size ≤ q) s) (hj : j + 3 < L) (h : REL g ox om wx wm) (J : DJ g (fun q => s.heap.size ≤ q) s.heap wx wm H locs) (hl : lv_has ls 4 [(0, .ref b), (1, .ref ox), (2, .ref om), (3, .int (nI j))]) (kk : ∀ (wx' wm' : va_W) (H1 : Heap) (locs1 : List Loc), REL g ox om wx' wm' → DJ g (fun q => s.heap.size ≤ q) s.heap wx' wm' H1 locs1 → W p l e room_1 s m #[Value.ref b] below meth c H1 locs1 46 17921 Q (F0 m 619 ls [])) : W p l e room_1 s m #[Value.ref b] below meth c H locs 46 17921 Q (F0 m 247 ls []) := by
  have hB := big_hts C0
  obtain ⟨hx, hb, hr, hml, hown, hts, hX, hbl, hlocks, hgv⟩ := C0
  have F : CallFix p m c code 4 s #[Value.ref b] BIG RL := ⟨hx, hb, hml, hown, hB⟩
  have hA : ∀ q, s.heap.size ≤ q → (fun q : Nat => s.heap.size ≤ q) q := fun _ h => h
  have hbA : ¬ (fun q : Nat => s.heap.size ≤ q) b := Nat.not_le.mpr hbl
  have hS := J.2.2.2.2.2
  obtain ⟨hrx, hrm⟩ := REL_rx h
  obtain ⟨r, wx', wm', hrel, M1, M2⟩ := k_name (l := l) h (xs (nI (j + 1)).toNatClampNeg)
  refine lv_aload_n hx hb dL_law_247 rfl (lv_at hl 1 rfl) ?_
  refine lv_aload_n hx hb dL_law_248 rfl (lv_at hl 0 rfl) ?_
  refine lv_iload_n hx hb dL_law_249 rfl (lv_at hl 3 rfl) ?_
  refine lv_iconst (v := 1) hx hb dL_law_250 (by decide) ?_
  refine lv_iadd hx hb dL_law_251 ?_
  refine nmW (show nI j + 1 = nI (j + 1) from q_add j 1) ?_
  refine va_sld hx hb hX hbl hbA hS (vp_in_nI (by omega) (by omega)) dL_law_252 ?_
  refine lawCall (As := [.int (xs (nI (j + 1)).toNatClampNeg)]) (o := wm) (rest := []) F E hA J M1 cw_L_44 ⟨rfl, rfl, (Nat.le_of_ble_eq_true rfl), (Nat.le_of_ble_eq_true rfl)⟩ ⟨(Nat.le_of_ble_eq_true rfl), (Nat.le_of_ble_eq_true rfl)⟩ hrx rfl hl.1 rfl (Nat.le_of_ble_eq_true rfl) dL_law_253 (fun H locs J => ?_)
  have hS := J.2.2.2.2.2
  refine lv_aload_n hx hb dL_law_256 rfl (lv_at hl 2 rfl) ?_
  refine lv_aload_n hx hb dL_law_257 rfl (lv_at hl 0 rfl) ?_
  refine lv_iload_n hx hb dL_law_258 rfl (lv_at hl 3 rfl) ?_
  refine lv_iconst (v := 1) hx hb dL_law_259 (by decide) ?_
  refine lv_iadd hx hb dL_law_260 ?_
  refine nmW (show nI j + 1 = nI (j + 1) from q_add j 1) ?_
  refine va_sld hx hb hX hbl hbA hS (vp_in_nI (by omega) (by omega)) dL_law_261 ?_
  refine lawCall (As := [.int (xs (nI (j + 1)).toNatClampNeg)]) (o := wx') (rest := [.int r]) F E hA J.swap M2 cw_L_47 ⟨rfl, rfl, (Nat.le_of_ble_eq_true rfl), (Nat.le_of_ble_eq_true rfl)⟩ ⟨(Nat.le_of_ble_eq_true rfl), (Nat.le_of_ble_eq_true rfl)⟩ hrm rfl hl.1 rfl (Nat.le_of_ble_eq_true rfl) dL_law_262 (fun H locs J => ?_)
  refine lv_icmp_eq (tgt := 619) hx hb dL_law_265 (by decide) (fun _ => ?_) (fun c9 => absurd rfl c9)
  exact kk wx' wm' H locs hrel J.swap
set_option maxHeartbeats 4000000 in
theorem lc_goal {p : Program} {l : Launch} {e : Env} {s : State} {m : MethodId} {below : List Frame} {meth : Method} {c : Code} {g : GG} {b L j : Nat} {xs : Nat → Int32} {Q : State → Prop} {ox om : Nat} {wx wm : va_W} {H : Heap} {locs : List Loc} {ls : Array Slot} (C0 : lw_At p s m meth c b L xs) (hL : L ≤ 2049) (E : EV g (fun q => s.heap.size ≤ q) s) (hj : j + 3 < L) (h : REL g ox om wx wm) (J : DJ g (fun q => s.heap.size ≤ q) s.heap wx wm H locs) (hl : lv_has ls 4 [(0, .ref b), (1, .ref ox), (2, .ref om), (3, .int (nI j))]) (kk : ∀ (wx' wm' : va_W) (H1 : Heap) (locs1 : List Loc), REL g ox om wx' wm' → DJ g (fun q => s.heap.size ≤ q) s.heap wx' wm' H1 locs1 → W p l e room_1 s m #[Value.ref b] below meth c H1 locs1 46 17921 Q (F0 m 619 ls [])) : W p l e room_1 s m #[Value.ref b] below meth c H locs 46 17921 Q (F0 m 270 ls []) := by
  have hB := big_hts C0
  obtain ⟨hx, hb, hr, hml, hown, hts, hX, hbl, hlocks, hgv⟩ := C0
  have F : CallFix p m c code 4 s #[Value.ref b] BIG RL := ⟨hx, hb, hml, hown, hB⟩
  have hA : ∀ q, s.heap.size ≤ q → (fun q : Nat => s.heap.size ≤ q) q := fun _ h => h
  have hbA : ¬ (fun q : Nat => s.heap.size ≤ q) b := Nat.not_le.mpr hbl
  have hS := J.2.2.2.2.2
  obtain ⟨hrx, hrm⟩ := REL_rx h
  obtain ⟨r, wx', wm', hrel, M1, M2⟩ := k_goal (l := l) h (xs (nI (j + 1)).toNatClampNeg)
  refine lv_aload_n hx hb dL_law_270 rfl (lv_at hl 1 rfl) ?_
  refine lv_aload_n hx hb dL_law_271 rfl (lv_at hl 0 rfl) ?_
  refine lv_iload_n hx hb dL_law_272 rfl (lv_at hl 3 rfl) ?_
  refine lv_iconst (v := 1) hx hb dL_law_273 (by decide) ?_
  refine lv_iadd hx hb dL_law_274 ?_
  refine nmW (show nI j + 1 = nI (j + 1) from q_add j 1) ?_
  refine va_sld hx hb hX hbl hbA hS (vp_in_nI (by omega) (by omega)) dL_law_275 ?_
  refine lawCall (As := [.int (xs (nI (j + 1)).toNatClampNeg)]) (o := wm) (rest := []) F E hA J M1 cw_L_48 ⟨rfl, rfl, (Nat.le_of_ble_eq_true rfl), (Nat.le_of_ble_eq_true rfl)⟩ ⟨(Nat.le_of_ble_eq_true rfl), (Nat.le_of_ble_eq_true rfl)⟩ hrx rfl hl.1 rfl (Nat.le_of_ble_eq_true rfl) dL_law_276 (fun H locs J => ?_)
  have hS := J.2.2.2.2.2
  refine lv_aload_n hx hb dL_law_279 rfl (lv_at hl 2 rfl) ?_
  refine lv_aload_n hx hb dL_law_280 rfl (lv_at hl 0 rfl) ?_
  refine lv_iload_n hx hb dL_law_281 rfl (lv_at hl 3 rfl) ?_
  refine lv_iconst (v := 1) hx hb dL_law_282 (by decide) ?_
  refine lv_iadd hx hb dL_law_283 ?_
  refine nmW (show nI j + 1 = nI (j + 1) from q_add j 1) ?_
  refine va_sld hx hb hX hbl hbA hS (vp_in_nI (by omega) (by omega)) dL_law_284 ?_
  refine lawCall (As := [.int (xs (nI (j + 1)).toNatClampNeg)]) (o := wx') (rest := [.int r]) F E hA J.swap M2 cw_L_51 ⟨rfl, rfl, (Nat.le_of_ble_eq_true rfl), (Nat.le_of_ble_eq_true rfl)⟩ ⟨(Nat.le_of_ble_eq_true rfl), (Nat.le_of_ble_eq_true rfl)⟩ hrm rfl hl.1 rfl (Nat.le_of_ble_eq_true rfl) dL_law_285 (fun H locs J => ?_)
  refine lv_icmp_eq (tgt := 619) hx hb dL_law_288 (by decide) (fun _ => ?_) (fun c9 => absurd rfl c9)
  exact kk wx' wm' H locs hrel J.swap
set_option maxHeartbeats 4000000 in
theorem lc_step {p : Program} {l : Launch} {e : Env} {s : State} {m : MethodId} {below : List Frame} {meth : Method} {c : Code} {g : GG} {b L j : Nat} {xs : Nat → Int32} {Q : State → Prop} {ox om : Nat} {wx wm : va_W} {H : Heap} {locs : List Loc} {ls : Array Slot} (C0 : lw_At p s m meth c b L xs) (hL : L ≤ 2049) (E : EV g (fun q => s.heap.size ≤ q) s) (hj : j + 3 < L) (h : REL g ox om wx wm) (J : DJ g (fun q => s.heap.size ≤ q) s.heap wx wm H locs) (hl : lv_has ls 4 [(0, .ref b), (1, .ref ox), (2, .ref om), (3, .int (nI j))]) (kk : ∀ (wx' wm' : va_W) (H1 : Heap) (locs1 : List Loc), REL g ox om wx' wm' → DJ g (fun q => s.heap.size ≤ q) s.heap wx' wm' H1 locs1 → W p l e room_1 s m #[Value.ref b] below meth c H1 locs1 46 17921 Q (F0 m 619 ls [])) : W p l e room_1 s m #[Value.ref b] below meth c H locs 46 17921 Q (F0 m 293 ls []) := by
  have hB := big_hts C0
  obtain ⟨hx, hb, hr, hml, hown, hts, hX, hbl, hlocks, hgv⟩ := C0
  have F : CallFix p m c code 4 s #[Value.ref b] BIG RL := ⟨hx, hb, hml, hown, hB⟩
  have hA : ∀ q, s.heap.size ≤ q → (fun q : Nat => s.heap.size ≤ q) q := fun _ h => h
  have hbA : ¬ (fun q : Nat => s.heap.size ≤ q) b := Nat.not_le.mpr hbl
  have hS := J.2.2.2.2.2
  obtain ⟨hrx, hrm⟩ := REL_rx h
  obtain ⟨r, wx', wm', hrel, M1, M2⟩ := k_step (l := l) h
  refine lv_aload_n hx hb dL_law_293 rfl (lv_at hl 1 rfl) ?_
  refine lawCall (As := []) (o := wm) (rest := []) F E hA J M1 cw_L_52 ⟨rfl, rfl, (Nat.le_of_ble_eq_true rfl), (Nat.le_of_ble_eq_true rfl)⟩ ⟨(Nat.le_of_ble_eq_true rfl), (Nat.le_of_ble_eq_true rfl)⟩ hrx rfl hl.1 rfl (Nat.le_of_ble_eq_true rfl) dL_law_294 (fun H locs J => ?_)
  have hS := J.2.2.2.2.2
  refine lv_aload_n hx hb dL_law_297 rfl (lv_at hl 2 rfl) ?_
  refine lawCall (As := []) (o := wx') (rest := [.int r]) F E hA J.swap M2 cw_L_55 ⟨rfl, rfl, (Nat.le_of_ble_eq_true rfl), (Nat.le_of_ble_eq_true rfl)⟩ ⟨(Nat.le_of_ble_eq_true rfl), (Nat.le_of_ble_eq_true rfl)⟩ hrm rfl hl.1 rfl (Nat.le_of_ble_eq_true rfl) dL_law_298 (fun H locs J => ?_)
  refine lv_icmp_eq (tgt := 619) hx hb dL_law_301 (by decide) (fun _ => ?_) (fun c9 => absurd rfl c9)
  exact kk wx' wm' H locs hrel J.swap
set_option maxHeartbeats 4000000 in
theorem lc_go {p : Program} {l : Launch} {e : Env} {s : State} {m : MethodId} {below : List Frame} {meth : Method} {c : Code} {g : GG} {b L j : Nat} {xs : Nat → Int32} {Q : State → Prop} {ox om : Nat} {wx wm : va_W} {H : Heap} {locs : List Loc} {ls : Array Slot} (C0 : lw_At p s m meth c b L xs) (hL : L ≤ 2049) (E : EV g (fun q => s.heap.size ≤ q) s) (hj : j + 3 < L) (h : REL g ox om wx wm) (J : DJ g (fun q => s.heap.size ≤ q) s.heap wx wm H locs) (hl : lv_has ls 4 [(0, .ref b), (1, .ref ox), (2, .ref om), (3, .int (nI j))]) (kk : ∀ (wx' wm' : va_W) (H1 : Heap) (locs1 : List Loc), REL g ox om wx' wm' → DJ g (fun q => s.heap.size ≤ q) s.heap wx' wm' H1 locs1 → W p l e room_1 s m #[Value.ref b] below meth c H1 locs1 46 17921 Q (F0 m 619 ls [])) : W p l e room_1 s m #[Value.ref b] below meth c H locs 46 17921 Q (F0 m 306 ls []) := by
  have hB := big_hts C0
  obtain ⟨hx, hb, hr, hml, hown, hts, hX, hbl, hlocks, hgv⟩ := C0
  have F : CallFix p m c code 4 s #[Value.ref b] BIG RL := ⟨hx, hb, hml, hown, hB⟩
  have hA : ∀ q, s.heap.size ≤ q → (fun q : Nat => s.heap.size ≤ q) q := fun _ h => h
  have hbA : ¬ (fun q : Nat => s.heap.size ≤ q) b := Nat.not_le.mpr hbl
  have hS := J.2.2.2.2.2
  obtain ⟨hrx, hrm⟩ := REL_rx h
  obtain ⟨r, wx', wm', hrel, M1, M2⟩ := k_go (l := l) h (xs (nI (j + 1)).toNatClampNeg) (xs (nI (j + 2)).toNatClampNeg)
  refine lv_aload_n hx hb dL_law_306 rfl (lv_at hl 1 rfl) ?_
  refine lv_aload_n hx hb dL_law_307 rfl (lv_at hl 0 rfl) ?_
  refine lv_iload_n hx hb dL_law_308 rfl (lv_at hl 3 rfl) ?_
  refine lv_iconst (v := 1) hx hb dL_law_309 (by decide) ?_
  refine lv_iadd hx hb dL_law_310 ?_
  refine nmW (show nI j + 1 = nI (j + 1) from q_add j 1) ?_
  refine va_sld hx hb hX hbl hbA hS (vp_in_nI (by omega) (by omega)) dL_law_311 ?_
  refine lv_aload_n hx hb dL_law_312 rfl (lv_at hl 0 rfl) ?_
  refine lv_iload_n hx hb dL_law_313 rfl (lv_at hl 3 rfl) ?_
  refine lv_iconst (v := 2) hx hb dL_law_314 (by decide) ?_
  refine lv_iadd hx hb dL_law_315 ?_
  refine nmW (show nI j + 2 = nI (j + 2) from q_add j 2) ?_
  refine va_sld hx hb hX hbl hbA hS (vp_in_nI (by omega) (by omega)) dL_law_316 ?_
  refine lawCall (As := [.int (xs (nI (j + 1)).toNatClampNeg), .int (xs (nI (j + 2)).toNatClampNeg)]) (o := wm) (rest := []) F E hA J M1 cw_L_56 ⟨rfl, rfl, (Nat.le_of_ble_eq_true rfl), (Nat.le_of_ble_eq_true rfl)⟩ ⟨(Nat.le_of_ble_eq_true rfl), (Nat.le_of_ble_eq_true rfl)⟩ hrx rfl hl.1 rfl (Nat.le_of_ble_eq_true rfl) dL_law_317 (fun H locs J => ?_)
  have hS := J.2.2.2.2.2
  refine lv_aload_n hx hb dL_law_320 rfl (lv_at hl 2 rfl) ?_
  refine lv_aload_n hx hb dL_law_321 rfl (lv_at hl 0 rfl) ?_
  refine lv_iload_n hx hb dL_law_322 rfl (lv_at hl 3 rfl) ?_
  refine lv_iconst (v := 1) hx hb dL_law_323 (by decide) ?_
  refine lv_iadd hx hb dL_law_324 ?_
  refine nmW (show nI j + 1 = nI (j + 1) from q_add j 1) ?_
  refine va_sld hx hb hX hbl hbA hS (vp_in_nI (by omega) (by omega)) dL_law_325 ?_
  refine lv_aload_n hx hb dL_law_326 rfl (lv_at hl 0 rfl) ?_
  refine lv_iload_n hx hb dL_law_327 rfl (lv_at hl 3 rfl) ?_
  refine lv_iconst (v := 2) hx hb dL_law_328 (by decide) ?_
  refine lv_iadd hx hb dL_law_329 ?_
  refine nmW (show nI j + 2 = nI (j + 2) from q_add j 2) ?_
  refine va_sld hx hb hX hbl hbA hS (vp_in_nI (by omega) (by omega)) dL_law_330 ?_
  refine lawCall (As := [.int (xs (nI (j + 1)).toNatClampNeg), .int (xs (nI (j + 2)).toNatClampNeg)]) (o := wx') (rest := [.int r]) F E hA J.swap M2 cw_L_59 ⟨rfl, rfl, (Nat.le_of_ble_eq_true rfl), (Nat.le_of_ble_eq_true rfl)⟩ ⟨(Nat.le_of_ble_eq_true rfl), (Nat.le_of_ble_eq_true rfl)⟩ hrm rfl hl.1 rfl (Nat.le_of_ble_eq_true rfl) dL_law_331 (fun H locs J => ?_)
  refine lv_icmp_eq (tgt := 619) hx hb dL_law_334 (by decide) (fun _ => ?_) (fun c9 => absurd rfl c9)
  exact kk wx' wm' H locs hrel J.swap
set_option maxHeartbeats 4000000 in
theorem lc_feed {p : Program} {l : Launch} {e : Env} {s : State} {m : MethodId} {below : List Frame} {meth : Method} {c : Code} {g : GG} {b L j : Nat} {xs : Nat → Int32} {Q : State → Prop} {ox om : Nat} {wx wm : va_W} {H : Heap} {locs : List Loc} {ls : Array Slot} (C0 : lw_At p s m meth c b L xs) (hL : L ≤ 2049) (E : EV g (fun q => s.heap.size ≤ q) s) (hj : j + 3 < L) (h : REL g ox om wx wm) (J : DJ g (fun q => s.heap.size ≤ q) s.heap wx wm H locs) (hl : lv_has ls 4 [(0, .ref b), (1, .ref ox), (2, .ref om), (3, .int (nI j))]) (kk : ∀ (wx' wm' : va_W) (H1 : Heap) (locs1 : List Loc), REL g ox om wx' wm' → DJ g (fun q => s.heap.size ≤ q) s.heap wx' wm' H1 locs1 → W p l e room_1 s m #[Value.ref b] below meth c H1 locs1 46 17921 Q (F0 m 619 ls [])) : W p l e room_1 s m #[Value.ref b] below meth c H locs 46 17921 Q (F0 m 339 ls []) := by
  have hB := big_hts C0
  obtain ⟨hx, hb, hr, hml, hown, hts, hX, hbl, hlocks, hgv⟩ := C0
  have F : CallFix p m c code 4 s #[Value.ref b] BIG RL := ⟨hx, hb, hml, hown, hB⟩
  have hA : ∀ q, s.heap.size ≤ q → (fun q : Nat => s.heap.size ≤ q) q := fun _ h => h
  have hbA : ¬ (fun q : Nat => s.heap.size ≤ q) b := Nat.not_le.mpr hbl
  have hS := J.2.2.2.2.2
  obtain ⟨hrx, hrm⟩ := REL_rx h
  obtain ⟨r, wx', wm', hrel, M1, M2⟩ := k_feed (l := l) h ((jlshl (Int32.toInt64 (xs (nI (j + 1)).toNatClampNeg)) 32) ||| ((Int32.toInt64 (xs (nI (j + 2)).toNatClampNeg)) &&& 4294967295)) (xs (nI (j + 3)).toNatClampNeg)
  refine lv_aload_n hx hb dL_law_339 rfl (lv_at hl 1 rfl) ?_
  refine lv_aload_n hx hb dL_law_340 rfl (lv_at hl 0 rfl) ?_
  refine lv_iload_n hx hb dL_law_341 rfl (lv_at hl 3 rfl) ?_
  refine lv_iconst (v := 1) hx hb dL_law_342 (by decide) ?_
  refine lv_iadd hx hb dL_law_343 ?_
  refine nmW (show nI j + 1 = nI (j + 1) from q_add j 1) ?_
  refine va_sld hx hb hX hbl hbA hS (vp_in_nI (by omega) (by omega)) dL_law_344 ?_
  refine lv_i2l (v := Int32.toInt64 (xs (nI (j + 1)).toNatClampNeg)) hx hb dL_law_345 rfl ?_
  refine lv_bipush (v := 32) hx hb dL_law_346 (by decide) ?_
  refine lv_lshl (v := jlshl (Int32.toInt64 (xs (nI (j + 1)).toNatClampNeg)) 32) hx hb dL_law_348 rfl ?_
  refine lv_aload_n hx hb dL_law_349 rfl (lv_at hl 0 rfl) ?_
  refine lv_iload_n hx hb dL_law_350 rfl (lv_at hl 3 rfl) ?_
  refine lv_iconst (v := 2) hx hb dL_law_351 (by decide) ?_
  refine lv_iadd hx hb dL_law_352 ?_
  refine nmW (show nI j + 2 = nI (j + 2) from q_add j 2) ?_
  refine va_sld hx hb hX hbl hbA hS (vp_in_nI (by omega) (by omega)) dL_law_353 ?_
  refine lv_i2l (v := Int32.toInt64 (xs (nI (j + 2)).toNatClampNeg)) hx hb dL_law_354 rfl ?_
  refine lv_ldc2 hx hb F.2.2.2.1 (F.2.2.2.2 _ kc_L_60) dL_law_355 ?_
  refine lv_land hx hb dL_law_358 ?_
  refine lv_lor hx hb dL_law_359 ?_
  refine lv_aload_n hx hb dL_law_360 rfl (lv_at hl 0 rfl) ?_
  refine lv_iload_n hx hb dL_law_361 rfl (lv_at hl 3 rfl) ?_
  refine lv_iconst (v := 3) hx hb dL_law_362 (by decide) ?_
  refine lv_iadd hx hb dL_law_363 ?_
  refine nmW (show nI j + 3 = nI (j + 3) from q_add j 3) ?_
  refine va_sld hx hb hX hbl hbA hS (vp_in_nI (by omega) (by omega)) dL_law_364 ?_
  refine lawCall (As := [.long ((jlshl (Int32.toInt64 (xs (nI (j + 1)).toNatClampNeg)) 32) ||| ((Int32.toInt64 (xs (nI (j + 2)).toNatClampNeg)) &&& 4294967295)), .int (xs (nI (j + 3)).toNatClampNeg)]) (o := wm) (rest := []) F E hA J M1 cw_L_62 ⟨rfl, rfl, (Nat.le_of_ble_eq_true rfl), (Nat.le_of_ble_eq_true rfl)⟩ ⟨(Nat.le_of_ble_eq_true rfl), (Nat.le_of_ble_eq_true rfl)⟩ hrx rfl hl.1 rfl (Nat.le_of_ble_eq_true rfl) dL_law_365 (fun H locs J => ?_)
  have hS := J.2.2.2.2.2
  refine lv_aload_n hx hb dL_law_368 rfl (lv_at hl 2 rfl) ?_
  refine lv_aload_n hx hb dL_law_369 rfl (lv_at hl 0 rfl) ?_
  refine lv_iload_n hx hb dL_law_370 rfl (lv_at hl 3 rfl) ?_
  refine lv_iconst (v := 1) hx hb dL_law_371 (by decide) ?_
  refine lv_iadd hx hb dL_law_372 ?_
  refine nmW (show nI j + 1 = nI (j + 1) from q_add j 1) ?_
  refine va_sld hx hb hX hbl hbA hS (vp_in_nI (by omega) (by omega)) dL_law_373 ?_
  refine lv_i2l (v := Int32.toInt64 (xs (nI (j + 1)).toNatClampNeg)) hx hb dL_law_374 rfl ?_
  refine lv_bipush (v := 32) hx hb dL_law_375 (by decide) ?_
  refine lv_lshl (v := jlshl (Int32.toInt64 (xs (nI (j + 1)).toNatClampNeg)) 32) hx hb dL_law_377 rfl ?_
  refine lv_aload_n hx hb dL_law_378 rfl (lv_at hl 0 rfl) ?_
  refine lv_iload_n hx hb dL_law_379 rfl (lv_at hl 3 rfl) ?_
  refine lv_iconst (v := 2) hx hb dL_law_380 (by decide) ?_
  refine lv_iadd hx hb dL_law_381 ?_
  refine nmW (show nI j + 2 = nI (j + 2) from q_add j 2) ?_
  refine va_sld hx hb hX hbl hbA hS (vp_in_nI (by omega) (by omega)) dL_law_382 ?_
  refine lv_i2l (v := Int32.toInt64 (xs (nI (j + 2)).toNatClampNeg)) hx hb dL_law_383 rfl ?_
  refine lv_ldc2 hx hb F.2.2.2.1 (F.2.2.2.2 _ kc_L_60) dL_law_384 ?_
  refine lv_land hx hb dL_law_387 ?_
  refine lv_lor hx hb dL_law_388 ?_
  refine lv_aload_n hx hb dL_law_389 rfl (lv_at hl 0 rfl) ?_
  refine lv_iload_n hx hb dL_law_390 rfl (lv_at hl 3 rfl) ?_
  refine lv_iconst (v := 3) hx hb dL_law_391 (by decide) ?_
  refine lv_iadd hx hb dL_law_392 ?_
  refine nmW (show nI j + 3 = nI (j + 3) from q_add j 3) ?_
  refine va_sld hx hb hX hbl hbA hS (vp_in_nI (by omega) (by omega)) dL_law_393 ?_
  refine lawCall (As := [.long ((jlshl (Int32.toInt64 (xs (nI (j + 1)).toNatClampNeg)) 32) ||| ((Int32.toInt64 (xs (nI (j + 2)).toNatClampNeg)) &&& 4294967295)), .int (xs (nI (j + 3)).toNatClampNeg)]) (o := wx') (rest := [.int r]) F E hA J.swap M2 cw_L_66 ⟨rfl, rfl, (Nat.le_of_ble_eq_true rfl), (Nat.le_of_ble_eq_true rfl)⟩ ⟨(Nat.le_of_ble_eq_true rfl), (Nat.le_of_ble_eq_true rfl)⟩ hrm rfl hl.1 rfl (Nat.le_of_ble_eq_true rfl) dL_law_394 (fun H locs J => ?_)
  refine lv_icmp_eq (tgt := 619) hx hb dL_law_397 (by decide) (fun _ => ?_) (fun c9 => absurd rfl c9)
  exact kk wx' wm' H locs hrel J.swap
set_option maxHeartbeats 4000000 in
theorem lc_rules {p : Program} {l : Launch} {e : Env} {s : State} {m : MethodId} {below : List Frame} {meth : Method} {c : Code} {g : GG} {b L j : Nat} {xs : Nat → Int32} {Q : State → Prop} {ox om : Nat} {wx wm : va_W} {H : Heap} {locs : List Loc} {ls : Array Slot} (C0 : lw_At p s m meth c b L xs) (hL : L ≤ 2049) (E : EV g (fun q => s.heap.size ≤ q) s) (hj : j + 3 < L) (h : REL g ox om wx wm) (J : DJ g (fun q => s.heap.size ≤ q) s.heap wx wm H locs) (hl : lv_has ls 4 [(0, .ref b), (1, .ref ox), (2, .ref om), (3, .int (nI j))]) (kk : ∀ (wx' wm' : va_W) (H1 : Heap) (locs1 : List Loc), REL g ox om wx' wm' → DJ g (fun q => s.heap.size ≤ q) s.heap wx' wm' H1 locs1 → W p l e room_1 s m #[Value.ref b] below meth c H1 locs1 46 17921 Q (F0 m 619 ls [])) : W p l e room_1 s m #[Value.ref b] below meth c H locs 46 17921 Q (F0 m 402 ls []) := by
  have hB := big_hts C0
  obtain ⟨hx, hb, hr, hml, hown, hts, hX, hbl, hlocks, hgv⟩ := C0
  have F : CallFix p m c code 4 s #[Value.ref b] BIG RL := ⟨hx, hb, hml, hown, hB⟩
  have hA : ∀ q, s.heap.size ≤ q → (fun q : Nat => s.heap.size ≤ q) q := fun _ h => h
  have hbA : ¬ (fun q : Nat => s.heap.size ≤ q) b := Nat.not_le.mpr hbl
  have hS := J.2.2.2.2.2
  obtain ⟨hrx, hrm⟩ := REL_rx h
  obtain ⟨r, wx', wm', hrel, M1, M2⟩ := k_rules (l := l) h
  refine lv_aload_n hx hb dL_law_402 rfl (lv_at hl 1 rfl) ?_
  refine lawCall (As := []) (o := wm) (rest := []) F E hA J M1 cw_L_67 ⟨rfl, rfl, (Nat.le_of_ble_eq_true rfl), (Nat.le_of_ble_eq_true rfl)⟩ ⟨(Nat.le_of_ble_eq_true rfl), (Nat.le_of_ble_eq_true rfl)⟩ hrx rfl hl.1 rfl (Nat.le_of_ble_eq_true rfl) dL_law_403 (fun H locs J => ?_)
  have hS := J.2.2.2.2.2
  refine lv_aload_n hx hb dL_law_406 rfl (lv_at hl 2 rfl) ?_
  refine lawCall (As := []) (o := wx') (rest := [.int r]) F E hA J.swap M2 cw_L_70 ⟨rfl, rfl, (Nat.le_of_ble_eq_true rfl), (Nat.le_of_ble_eq_true rfl)⟩ ⟨(Nat.le_of_ble_eq_true rfl), (Nat.le_of_ble_eq_true rfl)⟩ hrm rfl hl.1 rfl (Nat.le_of_ble_eq_true rfl) dL_law_407 (fun H locs J => ?_)
  refine lv_icmp_eq (tgt := 619) hx hb dL_law_410 (by decide) (fun _ => ?_) (fun c9 => absurd rfl c9)
  exact kk wx' wm' H locs hrel J.swap
set_option maxHeartbeats 4000000 in
theorem lc_fault {p : Program} {l : Launch} {e : Env} {s : State} {m : MethodId} {below : List Frame} {meth : Method} {c : Code} {g : GG} {b L j : Nat} {xs : Nat → Int32} {Q : State → Prop} {ox om : Nat} {wx wm : va_W} {H : Heap} {locs : List Loc} {ls : Array Slot} (C0 : lw_At p s m meth c b L xs) (hL : L ≤ 2049) (E : EV g (fun q => s.heap.size ≤ q) s) (hj : j + 3 < L) (h : REL g ox om wx wm) (J : DJ g (fun q => s.heap.size ≤ q) s.heap wx wm H locs) (hl : lv_has ls 4 [(0, .ref b), (1, .ref ox), (2, .ref om), (3, .int (nI j))]) (kk : ∀ (wx' wm' : va_W) (H1 : Heap) (locs1 : List Loc), REL g ox om wx' wm' → DJ g (fun q => s.heap.size ≤ q) s.heap wx' wm' H1 locs1 → W p l e room_1 s m #[Value.ref b] below meth c H1 locs1 46 17921 Q (F0 m 619 ls [])) : W p l e room_1 s m #[Value.ref b] below meth c H locs 46 17921 Q (F0 m 415 ls []) := by
  have hB := big_hts C0
  obtain ⟨hx, hb, hr, hml, hown, hts, hX, hbl, hlocks, hgv⟩ := C0
  have F : CallFix p m c code 4 s #[Value.ref b] BIG RL := ⟨hx, hb, hml, hown, hB⟩
  have hA : ∀ q, s.heap.size ≤ q → (fun q : Nat => s.heap.size ≤ q) q := fun _ h => h
  have hbA : ¬ (fun q : Nat => s.heap.size ≤ q) b := Nat.not_le.mpr hbl
  have hS := J.2.2.2.2.2
  obtain ⟨hrx, hrm⟩ := REL_rx h
  obtain ⟨r, wx', wm', hrel, M1, M2⟩ := k_fault (l := l) h
  refine lv_aload_n hx hb dL_law_415 rfl (lv_at hl 1 rfl) ?_
  refine lawCall (As := []) (o := wm) (rest := []) F E hA J M1 cw_L_71 ⟨rfl, rfl, (Nat.le_of_ble_eq_true rfl), (Nat.le_of_ble_eq_true rfl)⟩ ⟨(Nat.le_of_ble_eq_true rfl), (Nat.le_of_ble_eq_true rfl)⟩ hrx rfl hl.1 rfl (Nat.le_of_ble_eq_true rfl) dL_law_416 (fun H locs J => ?_)
  have hS := J.2.2.2.2.2
  refine lv_aload_n hx hb dL_law_419 rfl (lv_at hl 2 rfl) ?_
  refine lawCall (As := []) (o := wx') (rest := [.int r]) F E hA J.swap M2 cw_L_74 ⟨rfl, rfl, (Nat.le_of_ble_eq_true rfl), (Nat.le_of_ble_eq_true rfl)⟩ ⟨(Nat.le_of_ble_eq_true rfl), (Nat.le_of_ble_eq_true rfl)⟩ hrm rfl hl.1 rfl (Nat.le_of_ble_eq_true rfl) dL_law_420 (fun H locs J => ?_)
  refine lv_icmp_eq (tgt := 619) hx hb dL_law_423 (by decide) (fun _ => ?_) (fun c9 => absurd rfl c9)
  exact kk wx' wm' H locs hrel J.swap
set_option maxHeartbeats 4000000 in
theorem lc_proves {p : Program} {l : Launch} {e : Env} {s : State} {m : MethodId} {below : List Frame} {meth : Method} {c : Code} {g : GG} {b L j : Nat} {xs : Nat → Int32} {Q : State → Prop} {ox om : Nat} {wx wm : va_W} {H : Heap} {locs : List Loc} {ls : Array Slot} (C0 : lw_At p s m meth c b L xs) (hL : L ≤ 2049) (E : EV g (fun q => s.heap.size ≤ q) s) (hj : j + 3 < L) (h : REL g ox om wx wm) (J : DJ g (fun q => s.heap.size ≤ q) s.heap wx wm H locs) (hl : lv_has ls 4 [(0, .ref b), (1, .ref ox), (2, .ref om), (3, .int (nI j))]) (kk : ∀ (wx' wm' : va_W) (H1 : Heap) (locs1 : List Loc), REL g ox om wx' wm' → DJ g (fun q => s.heap.size ≤ q) s.heap wx' wm' H1 locs1 → W p l e room_1 s m #[Value.ref b] below meth c H1 locs1 46 17921 Q (F0 m 619 ls [])) : W p l e room_1 s m #[Value.ref b] below meth c H locs 46 17921 Q (F0 m 428 ls []) := by
  have hB := big_hts C0
  obtain ⟨hx, hb, hr, hml, hown, hts, hX, hbl, hlocks, hgv⟩ := C0
  have F : CallFix p m c code 4 s #[Value.ref b] BIG RL := ⟨hx, hb, hml, hown, hB⟩
  have hA : ∀ q, s.heap.size ≤ q → (fun q : Nat => s.heap.size ≤ q) q := fun _ h => h
  have hbA : ¬ (fun q : Nat => s.heap.size ≤ q) b := Nat.not_le.mpr hbl
  have hS := J.2.2.2.2.2
  obtain ⟨hrx, hrm⟩ := REL_rx h
  obtain ⟨r, wx', wm', hrel, M1, M2⟩ := k_proves (l := l) h (xs (nI (j + 1)).toNatClampNeg) (xs (nI (j + 2)).toNatClampNeg) (xs (nI (j + 3)).toNatClampNeg)
  refine lv_aload_n hx hb dL_law_428 rfl (lv_at hl 1 rfl) ?_
  refine lv_aload_n hx hb dL_law_429 rfl (lv_at hl 0 rfl) ?_
  refine lv_iload_n hx hb dL_law_430 rfl (lv_at hl 3 rfl) ?_
  refine lv_iconst (v := 1) hx hb dL_law_431 (by decide) ?_
  refine lv_iadd hx hb dL_law_432 ?_
  refine nmW (show nI j + 1 = nI (j + 1) from q_add j 1) ?_
  refine va_sld hx hb hX hbl hbA hS (vp_in_nI (by omega) (by omega)) dL_law_433 ?_
  refine lv_aload_n hx hb dL_law_434 rfl (lv_at hl 0 rfl) ?_
  refine lv_iload_n hx hb dL_law_435 rfl (lv_at hl 3 rfl) ?_
  refine lv_iconst (v := 2) hx hb dL_law_436 (by decide) ?_
  refine lv_iadd hx hb dL_law_437 ?_
  refine nmW (show nI j + 2 = nI (j + 2) from q_add j 2) ?_
  refine va_sld hx hb hX hbl hbA hS (vp_in_nI (by omega) (by omega)) dL_law_438 ?_
  refine lv_aload_n hx hb dL_law_439 rfl (lv_at hl 0 rfl) ?_
  refine lv_iload_n hx hb dL_law_440 rfl (lv_at hl 3 rfl) ?_
  refine lv_iconst (v := 3) hx hb dL_law_441 (by decide) ?_
  refine lv_iadd hx hb dL_law_442 ?_
  refine nmW (show nI j + 3 = nI (j + 3) from q_add j 3) ?_
  refine va_sld hx hb hX hbl hbA hS (vp_in_nI (by omega) (by omega)) dL_law_443 ?_
  refine lawCall (As := [.int (xs (nI (j + 1)).toNatClampNeg), .int (xs (nI (j + 2)).toNatClampNeg), .int (xs (nI (j + 3)).toNatClampNeg)]) (o := wm) (rest := []) F E hA J M1 cw_L_75 ⟨rfl, rfl, (Nat.le_of_ble_eq_true rfl), (Nat.le_of_ble_eq_true rfl)⟩ ⟨(Nat.le_of_ble_eq_true rfl), (Nat.le_of_ble_eq_true rfl)⟩ hrx rfl hl.1 rfl (Nat.le_of_ble_eq_true rfl) dL_law_444 (fun H locs J => ?_)
  have hS := J.2.2.2.2.2
  refine lv_aload_n hx hb dL_law_447 rfl (lv_at hl 2 rfl) ?_
  refine lv_aload_n hx hb dL_law_448 rfl (lv_at hl 0 rfl) ?_
  refine lv_iload_n hx hb dL_law_449 rfl (lv_at hl 3 rfl) ?_
  refine lv_iconst (v := 1) hx hb dL_law_450 (by decide) ?_
  refine lv_iadd hx hb dL_law_451 ?_
  refine nmW (show nI j + 1 = nI (j + 1) from q_add j 1) ?_
  refine va_sld hx hb hX hbl hbA hS (vp_in_nI (by omega) (by omega)) dL_law_452 ?_
  refine lv_aload_n hx hb dL_law_453 rfl (lv_at hl 0 rfl) ?_
  refine lv_iload_n hx hb dL_law_454 rfl (lv_at hl 3 rfl) ?_
  refine lv_iconst (v := 2) hx hb dL_law_455 (by decide) ?_
  refine lv_iadd hx hb dL_law_456 ?_
  refine nmW (show nI j + 2 = nI (j + 2) from q_add j 2) ?_
  refine va_sld hx hb hX hbl hbA hS (vp_in_nI (by omega) (by omega)) dL_law_457 ?_
  refine lv_aload_n hx hb dL_law_458 rfl (lv_at hl 0 rfl) ?_
  refine lv_iload_n hx hb dL_law_459 rfl (lv_at hl 3 rfl) ?_
  refine lv_iconst (v := 3) hx hb dL_law_460 (by decide) ?_
  refine lv_iadd hx hb dL_law_461 ?_
  refine nmW (show nI j + 3 = nI (j + 3) from q_add j 3) ?_
  refine va_sld hx hb hX hbl hbA hS (vp_in_nI (by omega) (by omega)) dL_law_462 ?_
  refine lawCall (As := [.int (xs (nI (j + 1)).toNatClampNeg), .int (xs (nI (j + 2)).toNatClampNeg), .int (xs (nI (j + 3)).toNatClampNeg)]) (o := wx') (rest := [.int r]) F E hA J.swap M2 cw_L_79 ⟨rfl, rfl, (Nat.le_of_ble_eq_true rfl), (Nat.le_of_ble_eq_true rfl)⟩ ⟨(Nat.le_of_ble_eq_true rfl), (Nat.le_of_ble_eq_true rfl)⟩ hrm rfl hl.1 rfl (Nat.le_of_ble_eq_true rfl) dL_law_463 (fun H locs J => ?_)
  refine lv_icmp_eq (tgt := 619) hx hb dL_law_466 (by decide) (fun _ => ?_) (fun c9 => absurd rfl c9)
  exact kk wx' wm' H locs hrel J.swap
set_option maxHeartbeats 4000000 in
theorem lc_starts {p : Program} {l : Launch} {e : Env} {s : State} {m : MethodId} {below : List Frame} {meth : Method} {c : Code} {g : GG} {b L j : Nat} {xs : Nat → Int32} {Q : State → Prop} {ox om : Nat} {wx wm : va_W} {H : Heap} {locs : List Loc} {ls : Array Slot} (C0 : lw_At p s m meth c b L xs) (hL : L ≤ 2049) (E : EV g (fun q => s.heap.size ≤ q) s) (hj : j + 3 < L) (h : REL g ox om wx wm) (J : DJ g (fun q => s.heap.size ≤ q) s.heap wx wm H locs) (hl : lv_has ls 4 [(0, .ref b), (1, .ref ox), (2, .ref om), (3, .int (nI j))]) (kk : ∀ (wx' wm' : va_W) (H1 : Heap) (locs1 : List Loc), REL g ox om wx' wm' → DJ g (fun q => s.heap.size ≤ q) s.heap wx' wm' H1 locs1 → W p l e room_1 s m #[Value.ref b] below meth c H1 locs1 46 17921 Q (F0 m 619 ls [])) : W p l e room_1 s m #[Value.ref b] below meth c H locs 46 17921 Q (F0 m 471 ls []) := by
  have hB := big_hts C0
  obtain ⟨hx, hb, hr, hml, hown, hts, hX, hbl, hlocks, hgv⟩ := C0
  have F : CallFix p m c code 4 s #[Value.ref b] BIG RL := ⟨hx, hb, hml, hown, hB⟩
  have hA : ∀ q, s.heap.size ≤ q → (fun q : Nat => s.heap.size ≤ q) q := fun _ h => h
  have hbA : ¬ (fun q : Nat => s.heap.size ≤ q) b := Nat.not_le.mpr hbl
  have hS := J.2.2.2.2.2
  obtain ⟨hrx, hrm⟩ := REL_rx h
  obtain ⟨r, wx', wm', hrel, M1, M2⟩ := k_starts (l := l) h (xs (nI (j + 1)).toNatClampNeg) (xs (nI (j + 2)).toNatClampNeg) (xs (nI (j + 3)).toNatClampNeg)
  refine lv_aload_n hx hb dL_law_471 rfl (lv_at hl 1 rfl) ?_
  refine lv_aload_n hx hb dL_law_472 rfl (lv_at hl 0 rfl) ?_
  refine lv_iload_n hx hb dL_law_473 rfl (lv_at hl 3 rfl) ?_
  refine lv_iconst (v := 1) hx hb dL_law_474 (by decide) ?_
  refine lv_iadd hx hb dL_law_475 ?_
  refine nmW (show nI j + 1 = nI (j + 1) from q_add j 1) ?_
  refine va_sld hx hb hX hbl hbA hS (vp_in_nI (by omega) (by omega)) dL_law_476 ?_
  refine lv_aload_n hx hb dL_law_477 rfl (lv_at hl 0 rfl) ?_
  refine lv_iload_n hx hb dL_law_478 rfl (lv_at hl 3 rfl) ?_
  refine lv_iconst (v := 2) hx hb dL_law_479 (by decide) ?_
  refine lv_iadd hx hb dL_law_480 ?_
  refine nmW (show nI j + 2 = nI (j + 2) from q_add j 2) ?_
  refine va_sld hx hb hX hbl hbA hS (vp_in_nI (by omega) (by omega)) dL_law_481 ?_
  refine lv_aload_n hx hb dL_law_482 rfl (lv_at hl 0 rfl) ?_
  refine lv_iload_n hx hb dL_law_483 rfl (lv_at hl 3 rfl) ?_
  refine lv_iconst (v := 3) hx hb dL_law_484 (by decide) ?_
  refine lv_iadd hx hb dL_law_485 ?_
  refine nmW (show nI j + 3 = nI (j + 3) from q_add j 3) ?_
  refine va_sld hx hb hX hbl hbA hS (vp_in_nI (by omega) (by omega)) dL_law_486 ?_
  refine lawCall (As := [.int (xs (nI (j + 1)).toNatClampNeg), .int (xs (nI (j + 2)).toNatClampNeg), .int (xs (nI (j + 3)).toNatClampNeg)]) (o := wm) (rest := []) F E hA J M1 cw_L_80 ⟨rfl, rfl, (Nat.le_of_ble_eq_true rfl), (Nat.le_of_ble_eq_true rfl)⟩ ⟨(Nat.le_of_ble_eq_true rfl), (Nat.le_of_ble_eq_true rfl)⟩ hrx rfl hl.1 rfl (Nat.le_of_ble_eq_true rfl) dL_law_487 (fun H locs J => ?_)
  have hS := J.2.2.2.2.2
  refine lv_aload_n hx hb dL_law_490 rfl (lv_at hl 2 rfl) ?_
  refine lv_aload_n hx hb dL_law_491 rfl (lv_at hl 0 rfl) ?_
  refine lv_iload_n hx hb dL_law_492 rfl (lv_at hl 3 rfl) ?_
  refine lv_iconst (v := 1) hx hb dL_law_493 (by decide) ?_
  refine lv_iadd hx hb dL_law_494 ?_
  refine nmW (show nI j + 1 = nI (j + 1) from q_add j 1) ?_
  refine va_sld hx hb hX hbl hbA hS (vp_in_nI (by omega) (by omega)) dL_law_495 ?_
  refine lv_aload_n hx hb dL_law_496 rfl (lv_at hl 0 rfl) ?_
  refine lv_iload_n hx hb dL_law_497 rfl (lv_at hl 3 rfl) ?_
  refine lv_iconst (v := 2) hx hb dL_law_498 (by decide) ?_
  refine lv_iadd hx hb dL_law_499 ?_
  refine nmW (show nI j + 2 = nI (j + 2) from q_add j 2) ?_
  refine va_sld hx hb hX hbl hbA hS (vp_in_nI (by omega) (by omega)) dL_law_500 ?_
  refine lv_aload_n hx hb dL_law_501 rfl (lv_at hl 0 rfl) ?_
  refine lv_iload_n hx hb dL_law_502 rfl (lv_at hl 3 rfl) ?_
  refine lv_iconst (v := 3) hx hb dL_law_503 (by decide) ?_
  refine lv_iadd hx hb dL_law_504 ?_
  refine nmW (show nI j + 3 = nI (j + 3) from q_add j 3) ?_
  refine va_sld hx hb hX hbl hbA hS (vp_in_nI (by omega) (by omega)) dL_law_505 ?_
  refine lawCall (As := [.int (xs (nI (j + 1)).toNatClampNeg), .int (xs (nI (j + 2)).toNatClampNeg), .int (xs (nI (j + 3)).toNatClampNeg)]) (o := wx') (rest := [.int r]) F E hA J.swap M2 cw_L_83 ⟨rfl, rfl, (Nat.le_of_ble_eq_true rfl), (Nat.le_of_ble_eq_true rfl)⟩ ⟨(Nat.le_of_ble_eq_true rfl), (Nat.le_of_ble_eq_true rfl)⟩ hrm rfl hl.1 rfl (Nat.le_of_ble_eq_true rfl) dL_law_506 (fun H locs J => ?_)
  refine lv_icmp_eq (tgt := 619) hx hb dL_law_509 (by decide) (fun _ => ?_) (fun c9 => absurd rfl c9)
  exact kk wx' wm' H locs hrel J.swap
set_option maxHeartbeats 4000000 in
theorem lc_kind {p : Program} {l : Launch} {e : Env} {s : State} {m : MethodId} {below : List Frame} {meth : Method} {c : Code} {g : GG} {b L j : Nat} {xs : Nat → Int32} {Q : State → Prop} {ox om : Nat} {wx wm : va_W} {H : Heap} {locs : List Loc} {ls : Array Slot} (C0 : lw_At p s m meth c b L xs) (hL : L ≤ 2049) (E : EV g (fun q => s.heap.size ≤ q) s) (hj : j + 3 < L) (h : REL g ox om wx wm) (J : DJ g (fun q => s.heap.size ≤ q) s.heap wx wm H locs) (hl : lv_has ls 4 [(0, .ref b), (1, .ref ox), (2, .ref om), (3, .int (nI j))]) (kk : ∀ (wx' wm' : va_W) (H1 : Heap) (locs1 : List Loc), REL g ox om wx' wm' → DJ g (fun q => s.heap.size ≤ q) s.heap wx' wm' H1 locs1 → W p l e room_1 s m #[Value.ref b] below meth c H1 locs1 46 17921 Q (F0 m 619 ls [])) : W p l e room_1 s m #[Value.ref b] below meth c H locs 46 17921 Q (F0 m 514 ls []) := by
  have hB := big_hts C0
  obtain ⟨hx, hb, hr, hml, hown, hts, hX, hbl, hlocks, hgv⟩ := C0
  have F : CallFix p m c code 4 s #[Value.ref b] BIG RL := ⟨hx, hb, hml, hown, hB⟩
  have hA : ∀ q, s.heap.size ≤ q → (fun q : Nat => s.heap.size ≤ q) q := fun _ h => h
  have hbA : ¬ (fun q : Nat => s.heap.size ≤ q) b := Nat.not_le.mpr hbl
  have hS := J.2.2.2.2.2
  obtain ⟨hrx, hrm⟩ := REL_rx h
  obtain ⟨r, wx', wm', hrel, M1, M2⟩ := k_kind (l := l) h
  refine lv_aload_n hx hb dL_law_514 rfl (lv_at hl 1 rfl) ?_
  refine lawCall (As := []) (o := wm) (rest := []) F E hA J M1 cw_L_84 ⟨rfl, rfl, (Nat.le_of_ble_eq_true rfl), (Nat.le_of_ble_eq_true rfl)⟩ ⟨(Nat.le_of_ble_eq_true rfl), (Nat.le_of_ble_eq_true rfl)⟩ hrx rfl hl.1 rfl (Nat.le_of_ble_eq_true rfl) dL_law_515 (fun H locs J => ?_)
  have hS := J.2.2.2.2.2
  refine lv_aload_n hx hb dL_law_518 rfl (lv_at hl 2 rfl) ?_
  refine lawCall (As := []) (o := wx') (rest := [.int r]) F E hA J.swap M2 cw_L_87 ⟨rfl, rfl, (Nat.le_of_ble_eq_true rfl), (Nat.le_of_ble_eq_true rfl)⟩ ⟨(Nat.le_of_ble_eq_true rfl), (Nat.le_of_ble_eq_true rfl)⟩ hrm rfl hl.1 rfl (Nat.le_of_ble_eq_true rfl) dL_law_519 (fun H locs J => ?_)
  refine lv_icmp_eq (tgt := 619) hx hb dL_law_522 (by decide) (fun _ => ?_) (fun c9 => absurd rfl c9)
  exact kk wx' wm' H locs hrel J.swap
set_option maxHeartbeats 4000000 in
theorem lc_as {p : Program} {l : Launch} {e : Env} {s : State} {m : MethodId} {below : List Frame} {meth : Method} {c : Code} {g : GG} {b L j : Nat} {xs : Nat → Int32} {Q : State → Prop} {ox om : Nat} {wx wm : va_W} {H : Heap} {locs : List Loc} {ls : Array Slot} (C0 : lw_At p s m meth c b L xs) (hL : L ≤ 2049) (E : EV g (fun q => s.heap.size ≤ q) s) (hj : j + 3 < L) (h : REL g ox om wx wm) (J : DJ g (fun q => s.heap.size ≤ q) s.heap wx wm H locs) (hl : lv_has ls 4 [(0, .ref b), (1, .ref ox), (2, .ref om), (3, .int (nI j))]) (kk : ∀ (wx' wm' : va_W) (H1 : Heap) (locs1 : List Loc), REL g ox om wx' wm' → DJ g (fun q => s.heap.size ≤ q) s.heap wx' wm' H1 locs1 → W p l e room_1 s m #[Value.ref b] below meth c H1 locs1 46 17921 Q (F0 m 619 ls [])) : W p l e room_1 s m #[Value.ref b] below meth c H locs 46 17921 Q (F0 m 527 ls []) := by
  have hB := big_hts C0
  obtain ⟨hx, hb, hr, hml, hown, hts, hX, hbl, hlocks, hgv⟩ := C0
  have F : CallFix p m c code 4 s #[Value.ref b] BIG RL := ⟨hx, hb, hml, hown, hB⟩
  have hA : ∀ q, s.heap.size ≤ q → (fun q : Nat => s.heap.size ≤ q) q := fun _ h => h
  have hbA : ¬ (fun q : Nat => s.heap.size ≤ q) b := Nat.not_le.mpr hbl
  have hS := J.2.2.2.2.2
  obtain ⟨hrx, hrm⟩ := REL_rx h
  obtain ⟨r, wx', wm', hrel, M1, M2⟩ := k_as (l := l) h (xs (nI (j + 1)).toNatClampNeg)
  refine lv_aload_n hx hb dL_law_527 rfl (lv_at hl 1 rfl) ?_
  refine lv_aload_n hx hb dL_law_528 rfl (lv_at hl 0 rfl) ?_
  refine lv_iload_n hx hb dL_law_529 rfl (lv_at hl 3 rfl) ?_
  refine lv_iconst (v := 1) hx hb dL_law_530 (by decide) ?_
  refine lv_iadd hx hb dL_law_531 ?_
  refine nmW (show nI j + 1 = nI (j + 1) from q_add j 1) ?_
  refine va_sld hx hb hX hbl hbA hS (vp_in_nI (by omega) (by omega)) dL_law_532 ?_
  refine lawCall (As := [.int (xs (nI (j + 1)).toNatClampNeg)]) (o := wm) (rest := []) F E hA J M1 cw_L_88 ⟨rfl, rfl, (Nat.le_of_ble_eq_true rfl), (Nat.le_of_ble_eq_true rfl)⟩ ⟨(Nat.le_of_ble_eq_true rfl), (Nat.le_of_ble_eq_true rfl)⟩ hrx rfl hl.1 rfl (Nat.le_of_ble_eq_true rfl) dL_law_533 (fun H locs J => ?_)
  have hS := J.2.2.2.2.2
  refine lv_aload_n hx hb dL_law_536 rfl (lv_at hl 2 rfl) ?_
  refine lv_aload_n hx hb dL_law_537 rfl (lv_at hl 0 rfl) ?_
  refine lv_iload_n hx hb dL_law_538 rfl (lv_at hl 3 rfl) ?_
  refine lv_iconst (v := 1) hx hb dL_law_539 (by decide) ?_
  refine lv_iadd hx hb dL_law_540 ?_
  refine nmW (show nI j + 1 = nI (j + 1) from q_add j 1) ?_
  refine va_sld hx hb hX hbl hbA hS (vp_in_nI (by omega) (by omega)) dL_law_541 ?_
  refine lawCall (As := [.int (xs (nI (j + 1)).toNatClampNeg)]) (o := wx') (rest := [.int r]) F E hA J.swap M2 cw_L_91 ⟨rfl, rfl, (Nat.le_of_ble_eq_true rfl), (Nat.le_of_ble_eq_true rfl)⟩ ⟨(Nat.le_of_ble_eq_true rfl), (Nat.le_of_ble_eq_true rfl)⟩ hrm rfl hl.1 rfl (Nat.le_of_ble_eq_true rfl) dL_law_542 (fun H locs J => ?_)
  refine lv_icmp_eq (tgt := 619) hx hb dL_law_545 (by decide) (fun _ => ?_) (fun c9 => absurd rfl c9)
  exact kk wx' wm' H locs hrel J.swap
set_option maxHeartbeats 4000000 in
theorem lc_ask {p : Program} {l : Launch} {e : Env} {s : State} {m : MethodId} {below : List Frame} {meth : Method} {c : Code} {g : GG} {b L j : Nat} {xs : Nat → Int32} {Q : State → Prop} {ox om : Nat} {wx wm : va_W} {H : Heap} {locs : List Loc} {ls : Array Slot} (C0 : lw_At p s m meth c b L xs) (hL : L ≤ 2049) (E : EV g (fun q => s.heap.size ≤ q) s) (hj : j + 3 < L) (h : REL g ox om wx wm) (J : DJ g (fun q => s.heap.size ≤ q) s.heap wx wm H locs) (hl : lv_has ls 4 [(0, .ref b), (1, .ref ox), (2, .ref om), (3, .int (nI j))]) (kk : ∀ (wx' wm' : va_W) (H1 : Heap) (locs1 : List Loc), REL g ox om wx' wm' → DJ g (fun q => s.heap.size ≤ q) s.heap wx' wm' H1 locs1 → W p l e room_1 s m #[Value.ref b] below meth c H1 locs1 46 17921 Q (F0 m 619 ls [])) : W p l e room_1 s m #[Value.ref b] below meth c H locs 46 17921 Q (F0 m 550 ls []) := by
  have hB := big_hts C0
  obtain ⟨hx, hb, hr, hml, hown, hts, hX, hbl, hlocks, hgv⟩ := C0
  have F : CallFix p m c code 4 s #[Value.ref b] BIG RL := ⟨hx, hb, hml, hown, hB⟩
  have hA : ∀ q, s.heap.size ≤ q → (fun q : Nat => s.heap.size ≤ q) q := fun _ h => h
  have hbA : ¬ (fun q : Nat => s.heap.size ≤ q) b := Nat.not_le.mpr hbl
  have hS := J.2.2.2.2.2
  obtain ⟨hrx, hrm⟩ := REL_rx h
  obtain ⟨r, wx', wm', hrel, M1, M2⟩ := k_ask (l := l) h (xs (nI (j + 1)).toNatClampNeg)
  refine lv_aload_n hx hb dL_law_550 rfl (lv_at hl 1 rfl) ?_
  refine lv_aload_n hx hb dL_law_551 rfl (lv_at hl 0 rfl) ?_
  refine lv_iload_n hx hb dL_law_552 rfl (lv_at hl 3 rfl) ?_
  refine lv_iconst (v := 1) hx hb dL_law_553 (by decide) ?_
  refine lv_iadd hx hb dL_law_554 ?_
  refine nmW (show nI j + 1 = nI (j + 1) from q_add j 1) ?_
  refine va_sld hx hb hX hbl hbA hS (vp_in_nI (by omega) (by omega)) dL_law_555 ?_
  refine lawCall (As := [.int (xs (nI (j + 1)).toNatClampNeg)]) (o := wm) (rest := []) F E hA J M1 cw_L_92 ⟨rfl, rfl, (Nat.le_of_ble_eq_true rfl), (Nat.le_of_ble_eq_true rfl)⟩ ⟨(Nat.le_of_ble_eq_true rfl), (Nat.le_of_ble_eq_true rfl)⟩ hrx rfl hl.1 rfl (Nat.le_of_ble_eq_true rfl) dL_law_556 (fun H locs J => ?_)
  have hS := J.2.2.2.2.2
  refine lv_aload_n hx hb dL_law_559 rfl (lv_at hl 2 rfl) ?_
  refine lv_aload_n hx hb dL_law_560 rfl (lv_at hl 0 rfl) ?_
  refine lv_iload_n hx hb dL_law_561 rfl (lv_at hl 3 rfl) ?_
  refine lv_iconst (v := 1) hx hb dL_law_562 (by decide) ?_
  refine lv_iadd hx hb dL_law_563 ?_
  refine nmW (show nI j + 1 = nI (j + 1) from q_add j 1) ?_
  refine va_sld hx hb hX hbl hbA hS (vp_in_nI (by omega) (by omega)) dL_law_564 ?_
  refine lawCall (As := [.int (xs (nI (j + 1)).toNatClampNeg)]) (o := wx') (rest := [.int r]) F E hA J.swap M2 cw_L_95 ⟨rfl, rfl, (Nat.le_of_ble_eq_true rfl), (Nat.le_of_ble_eq_true rfl)⟩ ⟨(Nat.le_of_ble_eq_true rfl), (Nat.le_of_ble_eq_true rfl)⟩ hrm rfl hl.1 rfl (Nat.le_of_ble_eq_true rfl) dL_law_565 (fun H locs J => ?_)
  refine lv_icmp_eq (tgt := 619) hx hb dL_law_568 (by decide) (fun _ => ?_) (fun c9 => absurd rfl c9)
  exact kk wx' wm' H locs hrel J.swap
set_option maxHeartbeats 4000000 in
theorem lc_trace {p : Program} {l : Launch} {e : Env} {s : State} {m : MethodId} {below : List Frame} {meth : Method} {c : Code} {g : GG} {b L j : Nat} {xs : Nat → Int32} {Q : State → Prop} {ox om : Nat} {wx wm : va_W} {H : Heap} {locs : List Loc} {ls : Array Slot} (C0 : lw_At p s m meth c b L xs) (hL : L ≤ 2049) (E : EV g (fun q => s.heap.size ≤ q) s) (hj : j + 3 < L) (h : REL g ox om wx wm) (J : DJ g (fun q => s.heap.size ≤ q) s.heap wx wm H locs) (hl : lv_has ls 4 [(0, .ref b), (1, .ref ox), (2, .ref om), (3, .int (nI j))]) (kk : ∀ (wx' wm' : va_W) (H1 : Heap) (locs1 : List Loc), REL g ox om wx' wm' → DJ g (fun q => s.heap.size ≤ q) s.heap wx' wm' H1 locs1 → W p l e room_1 s m #[Value.ref b] below meth c H1 locs1 46 17921 Q (F0 m 619 ls [])) : W p l e room_1 s m #[Value.ref b] below meth c H locs 46 17921 Q (F0 m 573 ls []) := by
  have hB := big_hts C0
  obtain ⟨hx, hb, hr, hml, hown, hts, hX, hbl, hlocks, hgv⟩ := C0
  have F : CallFix p m c code 4 s #[Value.ref b] BIG RL := ⟨hx, hb, hml, hown, hB⟩
  have hA : ∀ q, s.heap.size ≤ q → (fun q : Nat => s.heap.size ≤ q) q := fun _ h => h
  have hbA : ¬ (fun q : Nat => s.heap.size ≤ q) b := Nat.not_le.mpr hbl
  have hS := J.2.2.2.2.2
  obtain ⟨hrx, hrm⟩ := REL_rx h
  obtain ⟨r, wx', wm', hrel, M1, M2⟩ := k_trace (l := l) h (xs (nI (j + 1)).toNatClampNeg)
  refine lv_aload_n hx hb dL_law_573 rfl (lv_at hl 1 rfl) ?_
  refine lv_aload_n hx hb dL_law_574 rfl (lv_at hl 0 rfl) ?_
  refine lv_iload_n hx hb dL_law_575 rfl (lv_at hl 3 rfl) ?_
  refine lv_iconst (v := 1) hx hb dL_law_576 (by decide) ?_
  refine lv_iadd hx hb dL_law_577 ?_
  refine nmW (show nI j + 1 = nI (j + 1) from q_add j 1) ?_
  refine va_sld hx hb hX hbl hbA hS (vp_in_nI (by omega) (by omega)) dL_law_578 ?_
  refine lawCall (As := [.int (xs (nI (j + 1)).toNatClampNeg)]) (o := wm) (rest := []) F E hA J M1 cw_L_96 ⟨rfl, rfl, (Nat.le_of_ble_eq_true rfl), (Nat.le_of_ble_eq_true rfl)⟩ ⟨(Nat.le_of_ble_eq_true rfl), (Nat.le_of_ble_eq_true rfl)⟩ hrx rfl hl.1 rfl (Nat.le_of_ble_eq_true rfl) dL_law_579 (fun H locs J => ?_)
  have hS := J.2.2.2.2.2
  refine lv_aload_n hx hb dL_law_582 rfl (lv_at hl 2 rfl) ?_
  refine lv_aload_n hx hb dL_law_583 rfl (lv_at hl 0 rfl) ?_
  refine lv_iload_n hx hb dL_law_584 rfl (lv_at hl 3 rfl) ?_
  refine lv_iconst (v := 1) hx hb dL_law_585 (by decide) ?_
  refine lv_iadd hx hb dL_law_586 ?_
  refine nmW (show nI j + 1 = nI (j + 1) from q_add j 1) ?_
  refine va_sld hx hb hX hbl hbA hS (vp_in_nI (by omega) (by omega)) dL_law_587 ?_
  refine lawCall (As := [.int (xs (nI (j + 1)).toNatClampNeg)]) (o := wx') (rest := [.int r]) F E hA J.swap M2 cw_L_99 ⟨rfl, rfl, (Nat.le_of_ble_eq_true rfl), (Nat.le_of_ble_eq_true rfl)⟩ ⟨(Nat.le_of_ble_eq_true rfl), (Nat.le_of_ble_eq_true rfl)⟩ hrm rfl hl.1 rfl (Nat.le_of_ble_eq_true rfl) dL_law_588 (fun H locs J => ?_)
  refine lv_icmp_eq (tgt := 619) hx hb dL_law_591 (by decide) (fun _ => ?_) (fun c9 => absurd rfl c9)
  exact kk wx' wm' H locs hrel J.swap
set_option maxHeartbeats 4000000 in
theorem lc_count {p : Program} {l : Launch} {e : Env} {s : State} {m : MethodId} {below : List Frame} {meth : Method} {c : Code} {g : GG} {b L j : Nat} {xs : Nat → Int32} {Q : State → Prop} {ox om : Nat} {wx wm : va_W} {H : Heap} {locs : List Loc} {ls : Array Slot} (C0 : lw_At p s m meth c b L xs) (hL : L ≤ 2049) (E : EV g (fun q => s.heap.size ≤ q) s) (hj : j + 3 < L) (h : REL g ox om wx wm) (J : DJ g (fun q => s.heap.size ≤ q) s.heap wx wm H locs) (hl : lv_has ls 4 [(0, .ref b), (1, .ref ox), (2, .ref om), (3, .int (nI j))]) (kk : ∀ (wx' wm' : va_W) (H1 : Heap) (locs1 : List Loc), REL g ox om wx' wm' → DJ g (fun q => s.heap.size ≤ q) s.heap wx' wm' H1 locs1 → W p l e room_1 s m #[Value.ref b] below meth c H1 locs1 46 17921 Q (F0 m 619 ls [])) : W p l e room_1 s m #[Value.ref b] below meth c H locs 46 17921 Q (F0 m 596 ls []) := by
  have hB := big_hts C0
  obtain ⟨hx, hb, hr, hml, hown, hts, hX, hbl, hlocks, hgv⟩ := C0
  have F : CallFix p m c code 4 s #[Value.ref b] BIG RL := ⟨hx, hb, hml, hown, hB⟩
  have hA : ∀ q, s.heap.size ≤ q → (fun q : Nat => s.heap.size ≤ q) q := fun _ h => h
  have hbA : ¬ (fun q : Nat => s.heap.size ≤ q) b := Nat.not_le.mpr hbl
  have hS := J.2.2.2.2.2
  obtain ⟨hrx, hrm⟩ := REL_rx h
  obtain ⟨r, wx', wm', hrel, M1, M2⟩ := k_count (l := l) h (xs (nI (j + 1)).toNatClampNeg)
  refine lv_aload_n hx hb dL_law_596 rfl (lv_at hl 1 rfl) ?_
  refine lv_aload_n hx hb dL_law_597 rfl (lv_at hl 0 rfl) ?_
  refine lv_iload_n hx hb dL_law_598 rfl (lv_at hl 3 rfl) ?_
  refine lv_iconst (v := 1) hx hb dL_law_599 (by decide) ?_
  refine lv_iadd hx hb dL_law_600 ?_
  refine nmW (show nI j + 1 = nI (j + 1) from q_add j 1) ?_
  refine va_sld hx hb hX hbl hbA hS (vp_in_nI (by omega) (by omega)) dL_law_601 ?_
  refine lawCall (As := [.int (xs (nI (j + 1)).toNatClampNeg)]) (o := wm) (rest := []) F E hA J M1 cw_L_100 ⟨rfl, rfl, (Nat.le_of_ble_eq_true rfl), (Nat.le_of_ble_eq_true rfl)⟩ ⟨(Nat.le_of_ble_eq_true rfl), (Nat.le_of_ble_eq_true rfl)⟩ hrx rfl hl.1 rfl (Nat.le_of_ble_eq_true rfl) dL_law_602 (fun H locs J => ?_)
  have hS := J.2.2.2.2.2
  refine lv_aload_n hx hb dL_law_605 rfl (lv_at hl 2 rfl) ?_
  refine lv_aload_n hx hb dL_law_606 rfl (lv_at hl 0 rfl) ?_
  refine lv_iload_n hx hb dL_law_607 rfl (lv_at hl 3 rfl) ?_
  refine lv_iconst (v := 1) hx hb dL_law_608 (by decide) ?_
  refine lv_iadd hx hb dL_law_609 ?_
  refine nmW (show nI j + 1 = nI (j + 1) from q_add j 1) ?_
  refine va_sld hx hb hX hbl hbA hS (vp_in_nI (by omega) (by omega)) dL_law_610 ?_
  refine lawCall (As := [.int (xs (nI (j + 1)).toNatClampNeg)]) (o := wx') (rest := [.int r]) F E hA J.swap M2 cw_L_103 ⟨rfl, rfl, (Nat.le_of_ble_eq_true rfl), (Nat.le_of_ble_eq_true rfl)⟩ ⟨(Nat.le_of_ble_eq_true rfl), (Nat.le_of_ble_eq_true rfl)⟩ hrm rfl hl.1 rfl (Nat.le_of_ble_eq_true rfl) dL_law_611 (fun H locs J => ?_)
  refine lv_icmp_eq (tgt := 619) hx hb dL_law_614 (by decide) (fun _ => ?_) (fun c9 => absurd rfl c9)
  exact kk wx' wm' H locs hrel J.swap
