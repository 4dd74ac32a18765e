/-! the law: both worlds beside each other -/
def AP (a b : va_W) : Prop := ∀ (i j : Nat) (p q : Nat × va_E), a[i]? = some p → b[j]? = some q → p.1 ≠ q.1
def DJ (g : GG) (A : Nat → Prop) (H0 : Heap) (w o : va_W) (H : Heap) (locs : List Loc) : Prop := va_P g.1 vCl w H ∧ va_P g.1 vCl o H ∧ va_D A w ∧ va_D A o ∧ AP w o ∧ va_S A H0 H locs
theorem DJ.swap {g : GG} {A : Nat → Prop} {H0 : Heap} {w o : va_W} {H : Heap} {locs : List Loc} (h : DJ g A H0 w o H locs) : DJ g A H0 o w H locs := ⟨h.2.1, h.1, h.2.2.2.1, h.2.2.1, fun i j p q hp hq e => h.2.2.2.2.1 j i q p hq hp e.symm, h.2.2.2.2.2⟩
theorem EV.narrow {g : GG} {A B : Nat → Prop} {U : State} (h : EV g A U) (hAB : ∀ q, B q → A q) : EV g B U := by
  obtain ⟨h1, h2, h3, h4, h5, h6⟩ := h
  exact ⟨h1, h2, h3.narrow hAB, h4, h5.narrow hAB, h6.narrow hAB⟩
section LAWC
variable {p : Program} {l : Launch} {e : Env} {R : Room} {s : State} {m : MethodId} {args : Array Value} {below : List Frame} {meth : Method} {c : Code} {H : Heap} {locs : List Loc} {cells slots : Nat} {Q : State → Prop}
variable {g : GG} {AA : Nat → Prop} {w w' o : va_W} {cc bytes : ByteArray} {nL maxL n index pc : Nat} {own : String} {y : MethodName} {rm : Room} {ls : Array Slot} {st0 As rest : List Value} {a : Nat} {r : Int32}
theorem lawCall (F : CallFix p m c cc nL s args BIG own) (E : EV g AA s) (hA : ∀ q, s.heap.size ≤ q → AA q) (J : DJ g AA s.heap w o H locs) (M : ∀ A, Met l y (wS y bytes maxL (some .int)) rm (va_Pc (.ref a :: As) (VB g A w)) (va_Qi (fun r' (_ : Unit) => r' = r) (fun _ => VB g A w') A) 0 0 A) (cw : CWV own index y bytes maxL (some .int) n) (hR : RMo rm R maxL) (hf : cells ≤ R.cells ∧ slots ≤ R.slots) (hrc : RC w a y.cls) (hn : As.length = n) (hl : ls.size = nL) (hst : st0 = As.reverse ++ .ref a :: rest) (hW : (rest.map fun v => v.category).sum ≤ 8) (hdg : decode cc pc = .ok (.invokevirtual index, 3))
    (kk : ∀ (H1 : Heap) (locs1 : List Loc), DJ g AA s.heap w' o H1 locs1 → W p l e R s m args below meth c H1 locs1 cells slots Q (F0 m (pc + 3) ls (.int r :: rest))) : W p l e R s m args below meth c H locs cells slots Q (F0 m pc ls st0) := by
  have ht := F.2.2.2.2
  obtain ⟨w1, w2, w3, w4, w5, w6⟩ := cw
  obtain ⟨q0, ci, fs, rr, r1, r2, r3⟩ := hrc
  obtain ⟨hP, hPo, hD, hDo, hap, hS⟩ := J
  have hFc : ∀ q, va_A w H.size q → AA q := by
    rintro q (⟨k, e, h⟩ | h)
    · exact hD.2 k (q, e) h
    · exact hA q (Nat.le_trans hS.1 h)
  have hr := va_runV (C := y.cls) (bytes := bytes) (maxL := maxL) (ret := some .int) (n := n) (cells := cells) (slots := slots) (below := below) (meth := meth) (locs := locs) (H := H) (g := F0 m pc ls st0) (rest := rest) (R := R) (e := e) (index := index) F (M (va_A w H.size)) ⟨callB_of n ht (wS_good w5) rfl hR.1 hR.2.1 (ht _ w4) (ht _ w1) w6 hR.2.2, ht _ w2, ht _ w3⟩ ⟨VB.blind, by rw [← r2]; exact va_recv E.1 hP r1 r3, fun U hU hWm => ⟨rfl, by rw [hU]; exact hP, hD.self, (E.to hS hU hWm).narrow hFc⟩⟩ rfl hn hl hst (lv_room hW) hdg ⟨hf.1, hf.2⟩
  refine va_calli hr hS (fun q _ h => hFc q h) hFc (fun r' u t H1 locs1 ht1 hvm hw hB hz hk hS1 => ?_)
  subst hw
  obtain ⟨hP1, hD1, _⟩ := hB
  rw [ht1] at hP1
  have apart : ∀ (k : Nat) (q : Nat × va_E), o[k]? = some q → q.1 < H.size ∧ ¬ va_A w H.size q.1 := by
    intro k q hq
    have hlt := (hPo k q hq).lt
    refine ⟨hlt, ?_⟩
    rintro (⟨k2, e2, h⟩ | h)
    · exact hap k2 k (q.1, e2) q h hq rfl
    · omega
  refine kk H1 locs1 ⟨hP1, hPo.kept (fun k q hq => hk q.1 (apart k q hq).1 (apart k q hq).2), hD1.weaken (fun k q _ h => hFc q.1 h), hDo, fun i j x z hx hz2 e2 => ?_, hS1⟩
  exact (apart j z hz2).2 (by rw [← e2]; exact hD1.2 i x hx)
end LAWC
theorem REL_rx {g : GG} {ox om : Nat} {wx wm : va_W} (h : REL g ox om wx wm) : RC wx ox RX7 ∧ RC wm om RX8 := by
  refine REL_elim (P := fun ox om wx wm => RC wx ox RX7 ∧ RC wm om RX8) h ?_
  intros
  exact ⟨rcX0, rcM0⟩
/-! cell(s, k) -/
theorem cl_code : Cond.code yL_cell cL_cell 2 (some .int) ∈ BIG := bigI 733 (by decide +kernel) rfl
theorem cl_link : Cond.methodLink RL 9 yL_cell ∈ BIG := bigI 731 (by decide +kernel) rfl
theorem cl_stat : Cond.static yL_cell ∈ BIG := bigI 732 (by decide +kernel) rfl
theorem cl_ini : Cond.initialized yL_cell.cls ∈ BIG := bigI 61 (by decide +kernel) rfl
theorem cl_h : CWH yL_cell 2 := ⟨by decide +kernel, by decide +kernel, by decide +kernel⟩
def rm_cell : Room := { frames := 0, cells := 0, slots := 0, locals := 0 }
def XB (b L : Nat) (xs : Nat → Int32) (U : State) : Prop := va_X b L xs U U.heap ∧ b < U.heap.size
def cellV (L : Nat) (xs : Nat → Int32) (k : Int32) : Int32 := if nI L ≤ k then 0 else xs k.toNatClampNeg
set_option maxHeartbeats 4000000 in
theorem c_cell (l : Launch) (b L : Nat) (xs : Nat → Int32) (hL : L < 2 ^ 31) (k : Nat) (hk : k < 2 ^ 31) : Met l yL_cell (wS yL_cell cL_cell 2 (some .int)) rm_cell (va_Pc [.ref b, .int (nI k)] (XB b L xs)) (va_Qi (fun r (_ : Unit) => r = cellV L xs (nI k)) (fun _ _ => True) (fun _ => False)) 0 0 (fun _ => False) := by
  refine Met.ofW (cc := cL_cell) (maxL := 2) (ret := some .int) (by decide) rfl ?_
  intro p e s m args below meth c s₁ B hml hv
  obtain ⟨rfl, hX, hbl⟩ := hv
  have hx := B.exec
  have hb := B.bytes
  have hr := B.returns
  have hlocks := B.notSynchronized
  have hS : va_S (fun _ => False) s.heap s.heap [] := va_S.rf
  have hl := lv_entry ([.ref b, .int (nI k)]) (n := 2) (Nat.le_of_ble_eq_true rfl)
  rw [lg_entry_eq]
  generalize (lg_sl ([.ref b, .int (nI k)]) ++ List.replicate (2 - (lg_sl ([.ref b, .int (nI k)])).length) Slot.unset).toArray = ls at hl ⊢
  have hl : lv_has ls 2 [(0, .ref b), (1, .int (nI k))] := hl
  refine lv_iload_n hx hb dL_cell_0 rfl (lv_at hl 1 rfl) ?_
  refine lv_aload_n hx hb dL_cell_1 rfl (lv_at hl 0 rfl) ?_
  refine va_slen (A := fun _ => False) hx hb hX hbl id hS dL_cell_2 ?_
  refine lv_icmp_ge (tgt := 12) hx hb dL_cell_3 (by decide) (fun c1 => ?_) (fun c1 => ?_)
  · refine lv_iconst (v := 0) hx hb dL_cell_12 (by decide) ?_
    exact W.iret (v := 0) hx hb hr (fun t ht hW => ⟨⟨0, (), rfl, by unfold cellV; exact (if_pos (show nI L ≤ nI k from c1)).symm, trivial⟩, hS.F ht⟩) hS.2.2 dL_cell_13
  · have hlt : k < L := by
      rcases Nat.lt_or_ge k L with q | q
      · exact q
      · exact absurd (nI_le q hk) c1
    refine lv_aload_n hx hb dL_cell_6 rfl (lv_at hl 0 rfl) ?_
    refine lv_iload_n hx hb dL_cell_7 rfl (lv_at hl 1 rfl) ?_
    refine va_sld (A := fun _ => False) hx hb hX hbl id hS (vp_in_nI hlt hL) dL_cell_8 ?_
    refine lv_goto (tgt := 13) hx hb dL_cell_9 (by decide) ?_
    exact W.iret hx hb hr (fun t ht hW => ⟨⟨_, (), rfl, by unfold cellV; exact (if_neg (show ¬ nI L ≤ nI k from c1)).symm, trivial⟩, hS.F ht⟩) hS.2.2 dL_cell_13
/-! the start: what stands around -/
theorem nf_mem : ∀ a ∈ nsF, Cond.fieldLinkNest a.1 a.2.1 a.2.2.1 a.2.2.2.1 a.2.2.2.2.1 a.2.2.2.2.2 ∈ lw_tbl := List.forall_mem_cons.mpr ⟨List.mem_of_getElem? (i := 98) (by decide +kernel), List.forall_mem_cons.mpr ⟨List.mem_of_getElem? (i := 99) (by decide +kernel), List.forall_mem_cons.mpr ⟨List.mem_of_getElem? (i := 100) (by decide +kernel), List.forall_mem_cons.mpr ⟨List.mem_of_getElem? (i := 123) (by decide +kernel), List.forall_mem_cons.mpr ⟨List.mem_of_getElem? (i := 175) (by decide +kernel), List.forall_mem_cons.mpr ⟨List.mem_of_getElem? (i := 177) (by decide +kernel), List.forall_mem_cons.mpr ⟨List.mem_of_getElem? (i := 179) (by decide +kernel), List.forall_mem_cons.mpr ⟨List.mem_of_getElem? (i := 181) (by decide +kernel), List.forall_mem_cons.mpr ⟨List.mem_of_getElem? (i := 227) (by decide +kernel), fun _ h => absurd h List.not_mem_nil⟩⟩⟩⟩⟩⟩⟩⟩⟩
theorem nm_mem : ∀ a ∈ nsM, Cond.methodLinkNest a.1 a.2.1 a.2.2.1 a.2.2.2 ∈ lw_tbl := List.forall_mem_cons.mpr ⟨List.mem_of_getElem? (i := 169) (by decide +kernel), List.forall_mem_cons.mpr ⟨List.mem_of_getElem? (i := 220) (by decide +kernel), List.forall_mem_cons.mpr ⟨List.mem_of_getElem? (i := 323) (by decide +kernel), List.forall_mem_cons.mpr ⟨List.mem_of_getElem? (i := 339) (by decide +kernel), List.forall_mem_cons.mpr ⟨List.mem_of_getElem? (i := 428) (by decide +kernel), List.forall_mem_cons.mpr ⟨List.mem_of_getElem? (i := 571) (by decide +kernel), List.forall_mem_cons.mpr ⟨List.mem_of_getElem? (i := 722) (by decide +kernel), fun _ h => absurd h List.not_mem_nil⟩⟩⟩⟩⟩⟩⟩
theorem ls_mem0 : Cond.laysStatic RJ0 "COMPACT_STRINGS" "Z" ∈ lw_tbl := List.mem_of_getElem? (i := 460) (by decide +kernel)
theorem ls_mem1 : Cond.laysStatic RJ3 "SIOOBE_FORMATTER" "Ljava/util/function/BiFunction;" ∈ lw_tbl := List.mem_of_getElem? (i := 476) (by decide +kernel)
theorem li_mem0 : Cond.initialized RJ0 ∈ lw_tbl := List.mem_of_getElem? (i := 72) (by decide +kernel)
theorem li_mem1 : Cond.initialized RJ3 ∈ lw_tbl := List.mem_of_getElem? (i := 74) (by decide +kernel)
theorem sr_mem0 : Cond.stringRef RX5 54 "see" ∈ lw_tbl := List.mem_of_getElem? (i := 446) (by decide +kernel)
theorem sr_mem1 : Cond.stringRef RX5 60 "near" ∈ lw_tbl := List.mem_of_getElem? (i := 499) (by decide +kernel)
theorem sr_mem2 : Cond.stringRef RX5 62 "far" ∈ lw_tbl := List.mem_of_getElem? (i := 500) (by decide +kernel)
theorem sr_mem3 : Cond.stringRef RX5 64 "stay" ∈ lw_tbl := List.mem_of_getElem? (i := 501) (by decide +kernel)
theorem arrK {s : State} {args : Array Value} (ha : (Cond.arrayClass .int).before args s = true) (hb : (Cond.arrayClass .long).before args s = true) (hc : (Cond.arrayClass .boolean).before args s = true) : ∃ cI cL cZ : ClassId, (ArrOfT s cI .int ∧ va_RA s cI .int) ∧ (ArrOfT s cL .long ∧ va_RA s cL .long) ∧ ArrOfT s cZ .boolean ∧ va_RA s cZ .boolean := by
  obtain ⟨c1, k1, p1, a1, a2, a3⟩ := Cond.arrayClass_spec ha
  obtain ⟨c2, k2, p2, b1, b2, b3⟩ := Cond.arrayClass_spec hb
  obtain ⟨c3, k3, p3, d1, d2, d3⟩ := Cond.arrayClass_spec hc
  exact ⟨c1, c2, c3, ⟨fun n z => ⟨fun k h => (by cases h), k1, a2, p1, a3⟩, a1⟩, ⟨fun n z => ⟨fun k h => (by cases h), k2, b2, p2, b3⟩, b1⟩, fun n z => ⟨fun k h => (by cases h), k3, d2, p3, d3⟩, d1⟩
