/-- the char at k of text i -/
def sCh (i : Nat) (k : Int32) : Int32 := (sByts.getD i []).getD k.toNatClampNeg 0
def isB (v : Int32) : Bool := decide (v = 0 ∨ v = 1)
theorem isBt {v : Int32} (h : isB v = true) : zB v := by
  show v = 0 ∨ v = 1
  exact of_decide_eq_true h
def F_X7_outside (a0 : Int32) (a1 : Int32)  : Option (Int32) :=
  (if a0 < 0 then some 1 else (if a0 < a1 then some 0 else some 1))
def rm_X7_outside : Room := { frames := 0, cells := 0, slots := 0, locals := 0 }
def F_X7_noPlace (a0 : Int32) (x_places : Int32) : Option (Int32) :=
  Option.bind (F_X7_outside a0 x_places) fun p1 => some p1
def rm_X7_noPlace : Room := { frames := 1, cells := 0, slots := 0, locals := 21 }
def F_X3_manyAt (a0 : Int32) (a1 : Int32) (x_places : Int32) : Option (Int32) :=
  some ((jushr a0 (3 * ((x_places - 1) - a1))) &&& 7)
def rm_X3_manyAt : Room := { frames := 0, cells := 0, slots := 0, locals := 0 }
def F_X3_robotsIn_L1 (l1_L1 : Int32) (x_places_L1 : Int32) : Nat → Int32 → Int32 →  Option (Int32)
  | 0, _, _ => none
  | f+1, l2_L1, l3_L1 =>
    (if x_places_L1 ≤ l3_L1 then some l2_L1 else Option.bind (F_X3_manyAt l1_L1 l3_L1 x_places_L1) fun p3 => Option.bind (some (l2_L1 + p3)) fun v4 => Option.bind (some (l3_L1 + 1)) fun v5 => F_X3_robotsIn_L1 l1_L1 x_places_L1 f v4 v5)
def F_X3_robotsIn (a0 : Int32) (x_places : Int32) : Option (Int32) :=
  Option.bind (F_X3_robotsIn_L1 a0 x_places FU 0 0) fun o_L1 => some o_L1
def rm_X3_robotsIn : Room := { frames := 1, cells := 0, slots := 0, locals := 22 }
def F_X3_oneAt (a0 : Int32) (x_places : Int32) : Option (Int32) :=
  some (jshl 1 (3 * ((x_places - 1) - a0)))
def rm_X3_oneAt : Room := { frames := 0, cells := 0, slots := 0, locals := 0 }
def F_X7_robot (a0 : Int32) (x_crowd : Int32) (x_places : Int32) : Option (Int32 × Int32) :=
  Option.bind (F_X7_noPlace a0 x_places) fun p1 => (if p1 = 0 then Option.bind (F_X3_robotsIn x_crowd x_places) fun p3 => (if p3 < 4 then Option.bind (F_X3_oneAt a0 x_places) fun p5 => Option.bind (some (x_crowd + p5)) fun v6 => some ((p3 + 1), v6) else some ((-1000003), x_crowd)) else some ((-1000001), x_crowd))
def rm_X7_robot : Room := { frames := 2, cells := 0, slots := 0, locals := 45 }
def F_X7_wipe (x_crowd : Int32) (x_places : Int32) : Option (Int32 × Int32) :=
  Option.bind (F_X3_robotsIn x_crowd x_places) fun p1 => some (p1, 0)
def rm_X7_wipe : Room := { frames := 2, cells := 0, slots := 0, locals := 45 }
def F_X7_at (a0 : Int32) (x_crowd : Int32) (x_places : Int32) : Option (Int32) :=
  Option.bind (F_X7_noPlace a0 x_places) fun p1 => (if p1 = 0 then Option.bind (F_X3_manyAt x_crowd a0 x_places) fun p3 => some p3 else some (-1000001))
def rm_X7_at : Room := { frames := 2, cells := 0, slots := 0, locals := 42 }
def F_X3_beside (a0 : Int32) (a1 : Int32) (x_places : Int32) : Option (Int32) :=
  Option.bind (some (a0 + a1)) fun v1 => (if v1 < x_places then (if 0 ≤ v1 then some v1 else some (x_places - 1)) else some 0)
def rm_X3_beside : Room := { frames := 0, cells := 0, slots := 0, locals := 0 }
def F_X4_with (a0 : Int64) (a1 : Int32)  : Option (Int64) :=
  some ((jlshl a0 7) ||| (Int32.toInt64 (a1 &&& 127)))
def rm_X4_with : Room := { frames := 0, cells := 0, slots := 0, locals := 0 }
def F_X3_rowFrom_L1 (l1_L1 : Int32) (l3_L1 : Int32) (x_places_L1 : Int32) : Nat → Int64 → Int32 → Int32 → Int32 →  Option (Int64)
  | 0, _, _, _, _ => none
  | f+1, l4_L1, l6_L1, l7_L1, l8_L1 =>
    (if x_places_L1 ≤ l8_L1 then some l4_L1 else Option.bind (F_X3_beside l7_L1 l3_L1 x_places_L1) fun p3 => Option.bind (some (l6_L1 + 1)) fun v4 => Option.bind (F_X3_manyAt l1_L1 p3 x_places_L1) fun p5 => Option.bind ((if p5 ≤ 0 then some (l4_L1, v4) else Option.bind (F_X4_with l4_L1 v4) fun p8 => Option.bind (F_X4_with p8 p5) fun p9 => some (p9, 0))) fun (j6 : Int64 × Int32) => Option.bind (some (l8_L1 + 1)) fun v10 => F_X3_rowFrom_L1 l1_L1 l3_L1 x_places_L1 f j6.1 j6.2 p3 v10)
def F_X3_rowFrom (a0 : Int32) (a1 : Int32) (a2 : Int32) (x_places : Int32) : Option (Int64) :=
  Option.bind (F_X3_rowFrom_L1 a0 a2 x_places FU 0 0 a1 0) fun o_L1 => some o_L1
def rm_X3_rowFrom : Room := { frames := 1, cells := 0, slots := 0, locals := 23 }
def F_J9_min_f86c9 (a0 : Int64) (a1 : Int64)  : Option (Int64) :=
  (if 0 < (lg_cmp a0 a1) then some a1 else some a0)
def rm_J9_min_f86c9 : Room := { frames := 0, cells := 0, slots := 0, locals := 0 }
def F_X3_viewFrom (a0 : Int32) (a1 : Int32) (x_places : Int32) : Option (Int64) :=
  Option.bind (F_X3_rowFrom a0 a1 1 x_places) fun p1 => Option.bind (F_X3_rowFrom a0 a1 (-1) x_places) fun p2 => Option.bind (F_J9_min_f86c9 p1 p2) fun p3 => some p3
def rm_X3_viewFrom : Room := { frames := 2, cells := 0, slots := 0, locals := 52 }
def F_X4_item_L1  : Nat → Int32 → Int64 →  Option (Int32)
  | 0, _, _ => none
  | f+1, l3_L1, l4_L1 =>
    (if (lg_cmp l4_L1 0) = 0 then some l3_L1 else (if 8 ≤ l3_L1 then some l3_L1 else Option.bind (some (l3_L1 + 1)) fun v4 => Option.bind (some (jlushr l4_L1 7)) fun v5 => F_X4_item_L1 f v4 v5))
def F_X4_item (a0 : Int64) (a1 : Int32)  : Option (Int32) :=
  Option.bind (F_X4_item_L1 FU 0 a0) fun o_L1 => Option.bind (F_X7_outside a1 o_L1) fun p6 => (if p6 = 0 then some ((Int64.toInt32 (jlushr a0 (7 * ((o_L1 - 1) - a1)))) &&& 127) else some (-1000000))
def rm_X4_item : Room := { frames := 1, cells := 0, slots := 0, locals := 21 }
def F_X7_view (a0 : Int32) (a1 : Int32) (x_crowd : Int32) (x_places : Int32) : Option (Int32) :=
  Option.bind (F_X7_noPlace a0 x_places) fun p1 => (if p1 = 0 then Option.bind (F_X3_manyAt x_crowd a0 x_places) fun p3 => (if p3 = 0 then some (-1000000) else Option.bind (F_X3_viewFrom x_crowd a0 x_places) fun p5 => Option.bind (F_X4_item p5 a1) fun p6 => some p6) else some (-1000001))
def rm_X7_view : Room := { frames := 3, cells := 0, slots := 0, locals := 74 }
def F_X1_find_b_L1 (l1_L1 : Int64) (x_b_size_L1 : Int32) (x_b_rows_L1 : Nat → Int64) : Nat → Int32 →  Option (Sum (Int32) (Unit))
  | 0, _ => none
  | f+1, l3_L1 =>
    (if x_b_size_L1 ≤ l3_L1 then some (.inr ()) else (if 30 ≤ l3_L1 then some (.inr ()) else gd (inb l3_L1 30) ((if (lg_cmp (x_b_rows_L1 (Int32.toNatClampNeg l3_L1)) l1_L1) = 0 then some (.inl l3_L1) else Option.bind (some (l3_L1 + 1)) fun v5 => F_X1_find_b_L1 l1_L1 x_b_size_L1 x_b_rows_L1 f v5))))
def F_X1_find_b (a0 : Int64) (x_b_size : Int32) (x_b_rows : Nat → Int64) : Option (Int32) :=
  Option.bind (F_X1_find_b_L1 a0 x_b_size x_b_rows FU 0) fun o_L1s => Sum.elim (fun x => some x) (fun o_L1 => some (-1)) o_L1s
def rm_X1_find_b : Room := { frames := 0, cells := 0, slots := 0, locals := 0 }
def F_X1_moveAt_b (a1 : Int32) (a2 : Int32) (x_places : Int32) (x_b_size : Int32) (x_b_rows : Nat → Int64) (x_b_acts : Nat → Int32) : Option (Int32) :=
  Option.bind (F_X3_rowFrom a1 a2 1 x_places) fun p1 => Option.bind (F_X3_rowFrom a1 a2 (-1) x_places) fun p2 => Option.bind (F_J9_min_f86c9 p1 p2) fun p3 => Option.bind (F_X1_find_b p3 x_b_size x_b_rows) fun p4 => Option.bind (F_X7_outside p4 30) fun p5 => Option.bind ((if p5 = 0 then gd (inb p4 30) (some (x_b_acts (Int32.toNatClampNeg p4))) else some 0)) fun (j6 : Int32) => (if j6 = 0 then some 0 else (if (lg_cmp p1 p2) = 0 then some 2 else Option.bind ((if 0 ≤ (lg_cmp p1 p2) then some 0 else some 1)) fun (j10 : Int32) => Option.bind ((if j6 = 1 then some 1 else some 0)) fun (j12 : Int32) => (if j10 = j12 then some 1 else some (-1))))
def rm_X1_moveAt_b : Room := { frames := 2, cells := 0, slots := 0, locals := 52 }
def F_X7_does (a0 : Int32) (x_crowd : Int32) (x_places : Int32) (x_b_size : Int32) (x_b_rows : Nat → Int64) (x_b_acts : Nat → Int32) : Option (Int32) :=
  Option.bind (F_X7_noPlace a0 x_places) fun p1 => (if p1 = 0 then Option.bind (F_X3_manyAt x_crowd a0 x_places) fun p3 => (if p3 = 0 then some (-1000000) else Option.bind (F_X1_moveAt_b x_crowd a0 x_places x_b_size x_b_rows x_b_acts) fun p5 => some p5) else some (-1000001))
def rm_X7_does : Room := { frames := 3, cells := 0, slots := 0, locals := 81 }
def F_X3_mirrored_L2 (l1_L2 : Int32) (x_places_L2 : Int32) : Nat → Int32 → Int32 →  Option (Int32)
  | 0, _, _ => none
  | f+1, l2_L2, l3_L2 =>
    (if l3_L2 < 0 then some l2_L2 else Option.bind (F_X3_manyAt l1_L2 l3_L2 x_places_L2) fun p4 => Option.bind (some ((jshl l2_L2 3) ||| p4)) fun v5 => Option.bind (some (l3_L2 + (-1))) fun v6 => F_X3_mirrored_L2 l1_L2 x_places_L2 f v5 v6)
def F_X3_mirrored (a0 : Int32) (x_places : Int32) : Option (Int32) :=
  Option.bind (some (x_places - 1)) fun v1 => Option.bind (F_X3_mirrored_L2 a0 x_places FU 0 v1) fun o_L2 => some o_L2
def rm_X3_mirrored : Room := { frames := 1, cells := 0, slots := 0, locals := 22 }
def F_J9_max_7cf53 (a0 : Int32) (a1 : Int32)  : Option (Int32) :=
  (if a0 < a1 then some a1 else some a0)
def rm_J9_max_7cf53 : Room := { frames := 0, cells := 0, slots := 0, locals := 0 }
def F_X3_turned (a0 : Int32) (x_places : Int32) (x_mask : Int32) : Option (Int32) :=
  some (((jshl a0 3) &&& x_mask) ||| (jushr a0 (3 * (x_places - 1))))
def rm_X3_turned : Room := { frames := 0, cells := 0, slots := 0, locals := 0 }
def F_X3_nameOf_L2 (x_places_L2 : Int32) (x_mask_L2 : Int32) : Nat → Int32 → Int32 → Int32 → Int32 →  Option (Int32)
  | 0, _, _, _, _ => none
  | f+1, l2_L2, l3_L2, l4_L2, l5_L2 =>
    (if x_places_L2 ≤ l5_L2 then some l2_L2 else Option.bind (F_J9_max_7cf53 l3_L2 l4_L2) fun p4 => Option.bind (F_J9_max_7cf53 l2_L2 p4) fun p5 => Option.bind (F_X3_turned l3_L2 x_places_L2 x_mask_L2) fun p6 => Option.bind (F_X3_turned l4_L2 x_places_L2 x_mask_L2) fun p7 => Option.bind (some (l5_L2 + 1)) fun v8 => F_X3_nameOf_L2 x_places_L2 x_mask_L2 f p5 p6 p7 v8)
def F_X3_nameOf (a0 : Int32) (x_places : Int32) (x_mask : Int32) : Option (Int32) :=
  Option.bind (F_X3_mirrored a0 x_places) fun p1 => Option.bind (F_X3_nameOf_L2 x_places x_mask FU a0 a0 p1 0) fun o_L2 => some o_L2
def rm_X3_nameOf : Room := { frames := 2, cells := 0, slots := 0, locals := 45 }
def F_X7_name (a0 : Int32) (x_crowd : Int32) (x_places : Int32) (x_mask : Int32) : Option (Int32) :=
  Option.bind (F_X7_noPlace a0 x_places) fun p1 => (if p1 = 0 then Option.bind (F_X3_nameOf x_crowd x_places x_mask) fun p3 => Option.bind (F_X3_manyAt p3 a0 x_places) fun p4 => some p4 else some (-1000001))
def rm_X7_name : Room := { frames := 3, cells := 0, slots := 0, locals := 70 }
def F_X3_takenIn_L1 (l1_L1 : Int32) (x_places_L1 : Int32) : Nat → Int32 → Int32 →  Option (Int32)
  | 0, _, _ => none
  | f+1, l2_L1, l3_L1 =>
    (if x_places_L1 ≤ l3_L1 then some l2_L1 else Option.bind (F_X3_manyAt l1_L1 l3_L1 x_places_L1) fun p3 => Option.bind ((if p3 ≤ 0 then some l2_L1 else Option.bind (some (l2_L1 + 1)) fun v6 => some v6)) fun (j4 : Int32) => Option.bind (some (l3_L1 + 1)) fun v7 => F_X3_takenIn_L1 l1_L1 x_places_L1 f j4 v7)
def F_X3_takenIn (a0 : Int32) (x_places : Int32) : Option (Int32) :=
  Option.bind (F_X3_takenIn_L1 a0 x_places FU 0 0) fun o_L1 => some o_L1
def rm_X3_takenIn : Room := { frames := 1, cells := 0, slots := 0, locals := 22 }
def F_X3_isSideBySide_L1 (l1_L1 : Int32) (x_places_L1 : Int32) : Nat → Int32 → Int32 →  Option (Int32)
  | 0, _, _ => none
  | f+1, l2_L1, l3_L1 =>
    (if x_places_L1 ≤ l3_L1 then some l2_L1 else Option.bind (F_X3_manyAt l1_L1 l3_L1 x_places_L1) fun p3 => Option.bind ((if p3 ≤ 0 then some l2_L1 else Option.bind (F_X3_beside l3_L1 1 x_places_L1) fun p6 => Option.bind (F_X3_manyAt l1_L1 p6 x_places_L1) fun p7 => (if p7 = 0 then Option.bind (some (l2_L1 + 1)) fun v9 => some v9 else some l2_L1))) fun (j4 : Int32) => Option.bind (some (l3_L1 + 1)) fun v10 => F_X3_isSideBySide_L1 l1_L1 x_places_L1 f j4 v10)
def F_X3_isSideBySide (a0 : Int32) (x_places : Int32) : Option (Int32) :=
  Option.bind (F_X3_isSideBySide_L1 a0 x_places FU 0 0) fun o_L1 => (if 1 < o_L1 then some 0 else some 1)
def rm_X3_isSideBySide : Room := { frames := 1, cells := 0, slots := 0, locals := 23 }
def F_X3_gapAbove_L1 (l1_L1 : Int32) (x_places_L1 : Int32) : Nat → Int32 → Int32 →  Option (Sum (Int32) (Unit))
  | 0, _, _ => none
  | f+1, l3_L1, l4_L1 =>
    (if x_places_L1 ≤ l4_L1 then some (.inr ()) else Option.bind (F_X3_beside l3_L1 1 x_places_L1) fun p3 => Option.bind (F_X3_manyAt l1_L1 p3 x_places_L1) fun p4 => (if p4 ≤ 0 then Option.bind (some (l4_L1 + 1)) fun v6 => F_X3_gapAbove_L1 l1_L1 x_places_L1 f p3 v6 else some (.inl l4_L1)))
def F_X3_gapAbove (a0 : Int32) (a1 : Int32) (x_places : Int32) : Option (Int32) :=
  Option.bind (F_X3_gapAbove_L1 a0 x_places FU a1 1) fun o_L1s => Sum.elim (fun x => some x) (fun o_L1 => some x_places) o_L1s
def rm_X3_gapAbove : Room := { frames := 1, cells := 0, slots := 0, locals := 23 }
def F_X3_isSpread_L1 (l1_L1 : Int32) (l2_L1 : Int32) (x_places_L1 : Int32) : Nat → Int32 →  Option (Sum (Int32) (Unit))
  | 0, _ => none
  | f+1, l3_L1 =>
    (if x_places_L1 ≤ l3_L1 then some (.inr ()) else Option.bind (F_X3_manyAt l1_L1 l3_L1 x_places_L1) fun p3 => (if p3 ≤ 0 then Option.bind (some (l3_L1 + 1)) fun v5 => F_X3_isSpread_L1 l1_L1 l2_L1 x_places_L1 f v5 else Option.bind (F_X3_gapAbove l1_L1 l3_L1 x_places_L1) fun p6 => (if p6 = l2_L1 then Option.bind (some (l3_L1 + 1)) fun v8 => F_X3_isSpread_L1 l1_L1 l2_L1 x_places_L1 f v8 else (if p6 = (l2_L1 + 1) then Option.bind (some (l3_L1 + 1)) fun v10 => F_X3_isSpread_L1 l1_L1 l2_L1 x_places_L1 f v10 else some (.inl 0)))))
def F_X3_isSpread (a0 : Int32) (a1 : Int32) (x_places : Int32) : Option (Int32) :=
  Option.bind (F_X3_isSpread_L1 a0 a1 x_places FU 0) fun o_L1s => Sum.elim (fun x => some x) (fun o_L1 => some 1) o_L1s
def rm_X3_isSpread : Room := { frames := 2, cells := 0, slots := 0, locals := 47 }
def F_X3_isOfGoal (a0 : Int32) (a1 : Int32) (x_places : Int32) : Option (Int32) :=
  Option.bind (F_X3_robotsIn a0 x_places) fun p1 => Option.bind (F_X3_takenIn a0 x_places) fun p2 => (if p1 = 0 then some 0 else (if a1 = 0 then (if p2 = 1 then some 1 else some 0) else (if p2 = p1 then (if a1 = 1 then gd (nz p1) (Option.bind (F_X3_isSpread a0 (x_places / p1) x_places) fun p8 => some p8) else Option.bind (F_X3_isSideBySide a0 x_places) fun p7 => some p7) else some 0)))
def rm_X3_isOfGoal : Room := { frames := 3, cells := 0, slots := 0, locals := 71 }
def F_X7_goal (a0 : Int32) (x_crowd : Int32) (x_places : Int32) : Option (Int32) :=
  Option.bind (F_X7_outside a0 3) fun p1 => (if p1 = 0 then Option.bind (F_X3_isOfGoal x_crowd a0 x_places) fun p3 => (if p3 = 0 then some 0 else some 1) else some (-1000001))
def rm_X7_goal : Room := { frames := 4, cells := 0, slots := 0, locals := 95 }
def F_X3_shift (a0 : Int32) (a1 : Int32) (x_places : Int32) : Option (Int32) :=
  Option.bind (F_X3_beside a0 a1 x_places) fun p1 => Option.bind (F_X3_oneAt p1 x_places) fun p2 => Option.bind (F_X3_oneAt a0 x_places) fun p3 => some (p2 - p3)
def rm_X3_shift : Room := { frames := 1, cells := 0, slots := 0, locals := 23 }
def F_X7_step_L2 (x_crowd_L2 : Int32) (x_places_L2 : Int32) (x_b_size_L2 : Int32) (x_b_rows_L2 : Nat → Int64) (x_b_acts_L2 : Nat → Int32) : Nat → Int32 → Int32 → Int32 →  Option (Int32 × Int32)
  | 0, _, _, _ => none
  | f+1, l1_L2, l2_L2, l3_L2 =>
    (if x_places_L2 ≤ l3_L2 then some (l1_L2, l2_L2) else Option.bind (F_X3_manyAt x_crowd_L2 l3_L2 x_places_L2) fun p4 => Option.bind ((if p4 = 0 then some 0 else Option.bind (F_X1_moveAt_b x_crowd_L2 l3_L2 x_places_L2 x_b_size_L2 x_b_rows_L2 x_b_acts_L2) fun p7 => some p7)) fun (j5 : Int32) => Option.bind ((if j5 = 0 then some (l1_L2, l2_L2) else Option.bind ((if j5 = (-1) then some (-1) else some 1)) fun (j10 : Int32) => Option.bind (F_X3_shift l3_L2 j10 x_places_L2) fun p12 => Option.bind (some (l1_L2 + (p4 * p12))) fun v13 => Option.bind (some (l2_L2 + p4)) fun v14 => some (v13, v14))) fun (j8 : Int32 × Int32) => Option.bind (some (l3_L2 + 1)) fun v15 => F_X7_step_L2 x_crowd_L2 x_places_L2 x_b_size_L2 x_b_rows_L2 x_b_acts_L2 f j8.1 j8.2 v15)
def F_X7_step (x_crowd : Int32) (x_places : Int32) (x_b_size : Int32) (x_b_rows : Nat → Int64) (x_b_acts : Nat → Int32) : Option (Int32 × Int32) :=
  (if x_crowd = 0 then some ((-1000002), x_crowd) else Option.bind (F_X7_step_L2 x_crowd x_places x_b_size x_b_rows x_b_acts FU x_crowd 0 0) fun o_L2 => some (o_L2.2, o_L2.1))
def rm_X7_step : Room := { frames := 3, cells := 0, slots := 0, locals := 81 }
def F_X7_go (a0 : Int32) (a1 : Int32) (x_crowd : Int32) (x_places : Int32) (x_b_size : Int32) (x_b_rows : Nat → Int64) (x_b_acts : Nat → Int32) : Option (Int32 × Int32) :=
  Option.bind (F_X7_noPlace a0 x_places) fun p1 => (if p1 = 0 then Option.bind (F_X3_manyAt x_crowd a0 x_places) fun p3 => Option.bind ((if p3 = 0 then some 0 else Option.bind (F_X1_moveAt_b x_crowd a0 x_places x_b_size x_b_rows x_b_acts) fun p6 => some p6)) fun (j4 : Int32) => (if j4 = 0 then some ((-1000002), x_crowd) else Option.bind ((if j4 = 2 then Option.bind ((if a1 = 1 then some 1 else some (-1))) fun (j10 : Int32) => some j10 else some j4)) fun (j8 : Int32) => Option.bind (F_X3_shift a0 j8 x_places) fun p12 => Option.bind (some (x_crowd + p12)) fun v13 => some (1, v13)) else some ((-1000001), x_crowd))
def rm_X7_go : Room := { frames := 3, cells := 0, slots := 0, locals := 81 }
def F_X5_append_L3 (l1_L3 : Int64) : Nat → Int32 → Int32 → (Nat → Int32) →  Option (Int32 × (Nat → Int32))
  | 0, _, _, _ => none
  | f+1, l4_L3, x_t_length_L3, x_t_bytes_L3 =>
    (if l4_L3 < 0 then some (x_t_length_L3, x_t_bytes_L3) else Option.bind (some ((Int64.toInt32 (jlushr l1_L3 (8 * l4_L3))) &&& 255)) fun v5 => gd (inb x_t_length_L3 400) (Option.bind (some (x_t_length_L3 + 1)) fun v6 => Option.bind (some (l4_L3 + (-1))) fun v7 => F_X5_append_L3 l1_L3 f v7 v6 (upd x_t_bytes_L3 (Int32.toNatClampNeg x_t_length_L3) v5)))
def F_X5_append (a0 : Int64) (a1 : Int32) (x_t_length : Int32) (x_t_bytes : Nat → Int32) : Option (Int32 × Int32 × (Nat → Int32)) :=
  (if (x_t_length + a1) ≤ 400 then Option.bind (some (a1 - 1)) fun v2 => Option.bind (F_X5_append_L3 a0 FU v2 x_t_length x_t_bytes) fun o_L3 => some (1, o_L3.1, o_L3.2) else some (0, x_t_length, x_t_bytes))
def rm_X5_append : Room := { frames := 0, cells := 0, slots := 0, locals := 0 }
def F_X7_feed (a0 : Int64) (a1 : Int32) (x_t_length : Int32) (x_t_bytes : Nat → Int32) : Option (Int32 × Int32 × (Nat → Int32)) :=
  (if a1 < 1 then some ((-1000001), x_t_length, x_t_bytes) else (if a1 ≤ 8 then Option.bind (F_X5_append a0 a1 x_t_length x_t_bytes) fun p3 => (if p3.1 = 0 then some ((-1000003), p3.2.1, p3.2.2) else some (p3.2.1, p3.2.1, p3.2.2)) else some ((-1000001), x_t_length, x_t_bytes)))
def rm_X7_feed : Room := { frames := 1, cells := 0, slots := 0, locals := 24 }
def F_X7_fault (x_latestFault : Int32) : Option (Int32) :=
  some x_latestFault
def rm_X7_fault : Room := { frames := 0, cells := 0, slots := 0, locals := 0 }
def F_J9_min_7cf53 (a0 : Int32) (a1 : Int32)  : Option (Int32) :=
  (if a1 < a0 then some a1 else some a0)
def rm_J9_min_7cf53 : Room := { frames := 0, cells := 0, slots := 0, locals := 0 }
def F_X6_gather_d0_L2 (x_places_L2 : Int32) : Nat → Int32 → Int32 → (Nat → Int32) →  Option (Int32 × (Nat → Int32))
  | 0, _, _, _ => none
  | f+1, l4_L2, x_w_size_L2, x_w_names_L2 =>
    (if x_places_L2 ≤ l4_L2 then some (x_w_size_L2, x_w_names_L2) else Option.bind (F_X3_oneAt l4_L2 x_places_L2) fun p4 => Option.bind (none : Option (Int32 × (Nat → Int32))) fun p5 => Option.bind (some (l4_L2 + 1)) fun v6 => F_X6_gather_d0_L2 x_places_L2 f v6 p5.1 p5.2)
def F_X6_gather_d0 (a0 : Int32) (a1 : Int32) (a2 : Int32) (x_places : Int32) (x_mask : Int32) (x_w_size : Int32) (x_w_names : Nat → Int32) : Option (Int32 × (Nat → Int32)) :=
  (if 0 < a2 then Option.bind (F_X6_gather_d0_L2 x_places FU a1 x_w_size x_w_names) fun o_L2 => some (o_L2.1, o_L2.2) else (if 64 ≤ x_w_size then some (x_w_size, x_w_names) else Option.bind (F_X3_nameOf a0 x_places x_mask) fun p8 => (if p8 = a0 then gd (inb x_w_size 64) (Option.bind (some (x_w_size + 1)) fun v10 => some (v10, (upd x_w_names (Int32.toNatClampNeg x_w_size) a0))) else some (x_w_size, x_w_names))))
def rm_X6_gather_d0 : Room := { frames := 3, cells := 0, slots := 0, locals := 70 }
def F_X6_gather_d1_L2 (l1_L2 : Int32) (l3_L2 : Int32) (x_places_L2 : Int32) (x_mask_L2 : Int32) : Nat → Int32 → Int32 → (Nat → Int32) →  Option (Int32 × (Nat → Int32))
  | 0, _, _, _ => none
  | f+1, l4_L2, x_w_size_L2, x_w_names_L2 =>
    (if x_places_L2 ≤ l4_L2 then some (x_w_size_L2, x_w_names_L2) else Option.bind (F_X3_oneAt l4_L2 x_places_L2) fun p4 => Option.bind (F_X6_gather_d0 (l1_L2 + p4) l4_L2 (l3_L2 - 1) x_places_L2 x_mask_L2 x_w_size_L2 x_w_names_L2) fun p5 => Option.bind (some (l4_L2 + 1)) fun v6 => F_X6_gather_d1_L2 l1_L2 l3_L2 x_places_L2 x_mask_L2 f v6 p5.1 p5.2)
def F_X6_gather_d1 (a0 : Int32) (a1 : Int32) (a2 : Int32) (x_places : Int32) (x_mask : Int32) (x_w_size : Int32) (x_w_names : Nat → Int32) : Option (Int32 × (Nat → Int32)) :=
  (if 0 < a2 then Option.bind (F_X6_gather_d1_L2 a0 a2 x_places x_mask FU a1 x_w_size x_w_names) fun o_L2 => some (o_L2.1, o_L2.2) else (if 64 ≤ x_w_size then some (x_w_size, x_w_names) else Option.bind (F_X3_nameOf a0 x_places x_mask) fun p8 => (if p8 = a0 then gd (inb x_w_size 64) (Option.bind (some (x_w_size + 1)) fun v10 => some (v10, (upd x_w_names (Int32.toNatClampNeg x_w_size) a0))) else some (x_w_size, x_w_names))))
def rm_X6_gather_d1 : Room := { frames := 4, cells := 0, slots := 0, locals := 94 }
def F_X6_gather_d2_L2 (l1_L2 : Int32) (l3_L2 : Int32) (x_places_L2 : Int32) (x_mask_L2 : Int32) : Nat → Int32 → Int32 → (Nat → Int32) →  Option (Int32 × (Nat → Int32))
  | 0, _, _, _ => none
  | f+1, l4_L2, x_w_size_L2, x_w_names_L2 =>
    (if x_places_L2 ≤ l4_L2 then some (x_w_size_L2, x_w_names_L2) else Option.bind (F_X3_oneAt l4_L2 x_places_L2) fun p4 => Option.bind (F_X6_gather_d1 (l1_L2 + p4) l4_L2 (l3_L2 - 1) x_places_L2 x_mask_L2 x_w_size_L2 x_w_names_L2) fun p5 => Option.bind (some (l4_L2 + 1)) fun v6 => F_X6_gather_d2_L2 l1_L2 l3_L2 x_places_L2 x_mask_L2 f v6 p5.1 p5.2)
def F_X6_gather_d2 (a0 : Int32) (a1 : Int32) (a2 : Int32) (x_places : Int32) (x_mask : Int32) (x_w_size : Int32) (x_w_names : Nat → Int32) : Option (Int32 × (Nat → Int32)) :=
  (if 0 < a2 then Option.bind (F_X6_gather_d2_L2 a0 a2 x_places x_mask FU a1 x_w_size x_w_names) fun o_L2 => some (o_L2.1, o_L2.2) else (if 64 ≤ x_w_size then some (x_w_size, x_w_names) else Option.bind (F_X3_nameOf a0 x_places x_mask) fun p8 => (if p8 = a0 then gd (inb x_w_size 64) (Option.bind (some (x_w_size + 1)) fun v10 => some (v10, (upd x_w_names (Int32.toNatClampNeg x_w_size) a0))) else some (x_w_size, x_w_names))))
def rm_X6_gather_d2 : Room := { frames := 5, cells := 0, slots := 0, locals := 118 }
def F_X6_gather_d3_L2 (l1_L2 : Int32) (l3_L2 : Int32) (x_places_L2 : Int32) (x_mask_L2 : Int32) : Nat → Int32 → Int32 → (Nat → Int32) →  Option (Int32 × (Nat → Int32))
  | 0, _, _, _ => none
  | f+1, l4_L2, x_w_size_L2, x_w_names_L2 =>
    (if x_places_L2 ≤ l4_L2 then some (x_w_size_L2, x_w_names_L2) else Option.bind (F_X3_oneAt l4_L2 x_places_L2) fun p4 => Option.bind (F_X6_gather_d2 (l1_L2 + p4) l4_L2 (l3_L2 - 1) x_places_L2 x_mask_L2 x_w_size_L2 x_w_names_L2) fun p5 => Option.bind (some (l4_L2 + 1)) fun v6 => F_X6_gather_d3_L2 l1_L2 l3_L2 x_places_L2 x_mask_L2 f v6 p5.1 p5.2)
def F_X6_gather_d3 (a0 : Int32) (a1 : Int32) (a2 : Int32) (x_places : Int32) (x_mask : Int32) (x_w_size : Int32) (x_w_names : Nat → Int32) : Option (Int32 × (Nat → Int32)) :=
  (if 0 < a2 then Option.bind (F_X6_gather_d3_L2 a0 a2 x_places x_mask FU a1 x_w_size x_w_names) fun o_L2 => some (o_L2.1, o_L2.2) else (if 64 ≤ x_w_size then some (x_w_size, x_w_names) else Option.bind (F_X3_nameOf a0 x_places x_mask) fun p8 => (if p8 = a0 then gd (inb x_w_size 64) (Option.bind (some (x_w_size + 1)) fun v10 => some (v10, (upd x_w_names (Int32.toNatClampNeg x_w_size) a0))) else some (x_w_size, x_w_names))))
def rm_X6_gather_d3 : Room := { frames := 6, cells := 0, slots := 0, locals := 142 }
def F_X6_markGoals_L3 (l1_L3 : Int32) (x_places_L3 : Int32) (x_w_size_L3 : Int32) (x_w_names_L3 : Nat → Int32) : Nat → Int32 → (Nat → Int64) →  Option (Nat → Int64)
  | 0, _, _ => none
  | f+1, l2_L3, x_w_goals_L3 =>
    (if x_w_size_L3 ≤ l2_L3 then some x_w_goals_L3 else (if 64 ≤ l2_L3 then some x_w_goals_L3 else gd (inb l2_L3 64) (Option.bind (F_X3_isOfGoal (x_w_names_L3 (Int32.toNatClampNeg l2_L3)) l1_L3 x_places_L3) fun p6 => Option.bind ((if p6 = 0 then some x_w_goals_L3 else gd (inb l1_L3 3) (Option.bind (some ((x_w_goals_L3 (Int32.toNatClampNeg l1_L3)) ||| (jlshl 1 l2_L3))) fun v9 => gd (inb l1_L3 3) (some (vp_updL x_w_goals_L3 (Int32.toNatClampNeg l1_L3) v9))))) fun (j7 : Nat → Int64) => Option.bind (some (l2_L3 + 1)) fun v10 => F_X6_markGoals_L3 l1_L3 x_places_L3 x_w_size_L3 x_w_names_L3 f v10 j7)))
def F_X6_markGoals_L1 (x_places_L1 : Int32) (x_w_size_L1 : Int32) (x_w_names_L1 : Nat → Int32) : Nat → Int32 → (Nat → Int64) →  Option (Nat → Int64)
  | 0, _, _ => none
  | f+1, l1_L1, x_w_goals_L1 =>
    (if 3 ≤ l1_L1 then some x_w_goals_L1 else gd (inb l1_L1 3) (Option.bind (F_X6_markGoals_L3 l1_L1 x_places_L1 x_w_size_L1 x_w_names_L1 FU 0 (vp_updL x_w_goals_L1 (Int32.toNatClampNeg l1_L1) 0)) fun o_L3 => Option.bind (some (l1_L1 + 1)) fun v11 => F_X6_markGoals_L1 x_places_L1 x_w_size_L1 x_w_names_L1 f v11 o_L3))
def F_X6_markGoals (x_places : Int32) (x_w_size : Int32) (x_w_names : Nat → Int32) (x_w_goals : Nat → Int64) : Option (Nat → Int64) :=
  Option.bind (F_X6_markGoals_L1 x_places x_w_size x_w_names FU 0 x_w_goals) fun o_L1 => some o_L1
def rm_X6_markGoals : Room := { frames := 4, cells := 0, slots := 0, locals := 95 }
def F_X6_forgetRules_L1  : Nat → Int32 → (Nat → Int32) →  Option (Nat → Int32)
  | 0, _, _ => none
  | f+1, l1_L1, x_w_linked_L1 =>
    (if 3 ≤ l1_L1 then some x_w_linked_L1 else gd (inb l1_L1 3) (Option.bind (some (l1_L1 + 1)) fun v3 => F_X6_forgetRules_L1 f v3 (upd x_w_linked_L1 (Int32.toNatClampNeg l1_L1) (vp_nar .boolean 0))))
def F_X6_forgetRules (x_w_linked : Nat → Int32) : Option (Nat → Int32) :=
  Option.bind (F_X6_forgetRules_L1 FU 0 x_w_linked) fun o_L1 => some o_L1
def rm_X6_forgetRules : Room := { frames := 0, cells := 0, slots := 0, locals := 0 }
def F_X6_gatherFor (a0 : Int32) (x_places : Int32) (x_mask : Int32) (x_w_robots : Int32) (x_w_size : Int32) (x_w_names : Nat → Int32) (x_w_goals : Nat → Int64) (x_w_linked : Nat → Int32) : Option (Int32 × Int32 × (Nat → Int32) × (Nat → Int64) × (Nat → Int32)) :=
  (if x_w_robots = a0 then some (x_w_robots, x_w_size, x_w_names, x_w_goals, x_w_linked) else Option.bind (F_X3_oneAt 0 x_places) fun p2 => Option.bind (F_J9_min_7cf53 a0 4) fun p3 => Option.bind (F_X6_gather_d3 p2 0 (p3 - 1) x_places x_mask 0 x_w_names) fun p4 => Option.bind (F_X6_markGoals x_places p4.1 p4.2 x_w_goals) fun p5 => Option.bind (F_X6_forgetRules x_w_linked) fun p6 => some (a0, p4.1, p4.2, p5, p6))
def rm_X6_gatherFor : Room := { frames := 7, cells := 0, slots := 0, locals := 166 }
def F_X6_findMoves_L1 (l2_L1 : Int32) (x_places_L1 : Int32) (x_b_size_L1 : Int32) (x_b_rows_L1 : Nat → Int64) (x_b_acts_L1 : Nat → Int32) : Nat → Int32 → (Nat → Int32) → (Nat → Int32) →  Option ((Nat → Int32) × (Nat → Int32))
  | 0, _, _, _ => none
  | f+1, l3_L1, x_w_ups_L1, x_w_downs_L1 =>
    (if x_places_L1 ≤ l3_L1 then some (x_w_ups_L1, x_w_downs_L1) else (if 9 ≤ l3_L1 then some (x_w_ups_L1, x_w_downs_L1) else Option.bind (F_X3_manyAt l2_L1 l3_L1 x_places_L1) fun p4 => Option.bind ((if p4 = 0 then some 0 else Option.bind (F_X1_moveAt_b l2_L1 l3_L1 x_places_L1 x_b_size_L1 x_b_rows_L1 x_b_acts_L1) fun p7 => some p7)) fun (j5 : Int32) => Option.bind ((if j5 = 1 then Option.bind (F_X3_shift l3_L1 1 x_places_L1) fun p10 => some p10 else (if j5 = 2 then Option.bind (F_X3_shift l3_L1 1 x_places_L1) fun p12 => some p12 else some 0))) fun (j8 : Int32) => gd (inb l3_L1 9) (Option.bind ((if j5 = (-1) then Option.bind (F_X3_shift l3_L1 (-1) x_places_L1) fun p15 => some p15 else (if j5 = 2 then Option.bind (F_X3_shift l3_L1 (-1) x_places_L1) fun p17 => some p17 else some 0))) fun (j13 : Int32) => gd (inb l3_L1 9) (Option.bind (some (l3_L1 + 1)) fun v18 => F_X6_findMoves_L1 l2_L1 x_places_L1 x_b_size_L1 x_b_rows_L1 x_b_acts_L1 f v18 (upd x_w_ups_L1 (Int32.toNatClampNeg l3_L1) j8) (upd x_w_downs_L1 (Int32.toNatClampNeg l3_L1) j13)))))
def F_X6_findMoves (a1 : Int32) (x_places : Int32) (x_b_size : Int32) (x_w_ups : Nat → Int32) (x_w_downs : Nat → Int32) (x_b_rows : Nat → Int64) (x_b_acts : Nat → Int32) : Option ((Nat → Int32) × (Nat → Int32)) :=
  Option.bind (F_X6_findMoves_L1 a1 x_places x_b_size x_b_rows x_b_acts FU 0 x_w_ups x_w_downs) fun o_L1 => some (o_L1.1, o_L1.2)
def rm_X6_findMoves : Room := { frames := 3, cells := 0, slots := 0, locals := 81 }
def F_X6_addNext (a0 : Int32) (x_w_nexts : Int32) (x_w_next : Nat → Int32) : Option (Int32 × (Nat → Int32)) :=
  (if 81 ≤ x_w_nexts then some (x_w_nexts, x_w_next) else gd (inb x_w_nexts 81) (Option.bind (some (x_w_nexts + 1)) fun v2 => some (v2, (upd x_w_next (Int32.toNatClampNeg x_w_nexts) a0))))
def rm_X6_addNext : Room := { frames := 0, cells := 0, slots := 0, locals := 0 }
def F_X6_addMoved (a0 : Int32) (a1 : Int32) (a2 : Int32) (x_w_nexts : Int32) (x_w_next : Nat → Int32) : Option (Int32 × (Nat → Int32)) :=
  Option.bind ((if a1 = 0 then some (x_w_nexts, x_w_next) else Option.bind (F_X6_addNext (a0 + a1) x_w_nexts x_w_next) fun p3 => some (p3.1, p3.2))) fun (j1 : Int32 × (Nat → Int32)) => (if a2 = 0 then some (j1.1, j1.2) else Option.bind (F_X6_addNext (a0 + a2) j1.1 j1.2) fun p5 => some (p5.1, p5.2))
def rm_X6_addMoved : Room := { frames := 1, cells := 0, slots := 0, locals := 21 }
def F_X6_dropFirst_L1 (l1_L1 : Int32) (x_w_nexts_L1 : Int32) : Nat → Int32 → (Nat → Int32) →  Option (Nat → Int32)
  | 0, _, _ => none
  | f+1, l2_L1, x_w_next_L1 =>
    (if x_w_nexts_L1 ≤ l2_L1 then some x_w_next_L1 else (if 81 ≤ l2_L1 then some x_w_next_L1 else gd (inb l2_L1 81) (Option.bind (some (x_w_next_L1 (Int32.toNatClampNeg l2_L1))) fun v4 => gd (inb (l2_L1 - l1_L1) 81) (Option.bind (some (l2_L1 + 1)) fun v5 => F_X6_dropFirst_L1 l1_L1 x_w_nexts_L1 f v5 (upd x_w_next_L1 (Int32.toNatClampNeg (l2_L1 - l1_L1)) v4)))))
def F_X6_dropFirst (a0 : Int32) (x_w_nexts : Int32) (x_w_next : Nat → Int32) : Option (Int32 × (Nat → Int32)) :=
  Option.bind (F_X6_dropFirst_L1 a0 x_w_nexts FU a0 x_w_next) fun o_L1 => Option.bind (some (x_w_nexts - a0)) fun v6 => some (v6, o_L1)
def rm_X6_dropFirst : Room := { frames := 0, cells := 0, slots := 0, locals := 0 }
def F_X6_wakeAgain_L1 (l1_L1 : Int32) (l2_L1 : Int32) (l4_L1 : Int32) : Nat → Int32 → Int32 → (Nat → Int32) →  Option (Int32 × (Nat → Int32))
  | 0, _, _, _ => none
  | f+1, l5_L1, x_w_nexts_L1, x_w_next_L1 =>
    (if l4_L1 ≤ l5_L1 then some (x_w_nexts_L1, x_w_next_L1) else (if 81 ≤ l5_L1 then some (x_w_nexts_L1, x_w_next_L1) else gd (inb l5_L1 81) (Option.bind (F_X6_addMoved (x_w_next_L1 (Int32.toNatClampNeg l5_L1)) l1_L1 l2_L1 x_w_nexts_L1 x_w_next_L1) fun p4 => Option.bind (some (l5_L1 + 1)) fun v5 => F_X6_wakeAgain_L1 l1_L1 l2_L1 l4_L1 f v5 p4.1 p4.2)))
def F_X6_wakeAgain (a0 : Int32) (a1 : Int32) (a2 : Int32) (x_w_nexts : Int32) (x_w_next : Nat → Int32) : Option (Int32 × (Nat → Int32)) :=
  Option.bind (F_X6_wakeAgain_L1 a0 a1 x_w_nexts FU 0 x_w_nexts x_w_next) fun o_L1 => (if a2 = 0 then some (o_L1.1, o_L1.2) else Option.bind (F_X6_dropFirst x_w_nexts o_L1.1 o_L1.2) fun p7 => some (p7.1, p7.2))
def rm_X6_wakeAgain : Room := { frames := 2, cells := 0, slots := 0, locals := 44 }
def F_X6_wakeSome_L11 (l2_L11 : Int32) (l4_L11 : Int32) (l6_L11 : Int32) (x_w_ups_L11 : Nat → Int32) (x_w_downs_L11 : Nat → Int32) : Nat → Int32 → Int32 → Int32 → (Nat → Int32) →  Option (Int32 × Int32 × (Nat → Int32))
  | 0, _, _, _, _ => none
  | f+1, l3_L11, l7_L11, x_w_nexts_L11, x_w_next_L11 =>
    (if l6_L11 ≤ l7_L11 then some (l3_L11, x_w_nexts_L11, x_w_next_L11) else gd (inb l4_L11 9) (gd (inb l4_L11 9) (Option.bind (F_X6_wakeAgain (x_w_ups_L11 (Int32.toNatClampNeg l4_L11)) (x_w_downs_L11 (Int32.toNatClampNeg l4_L11)) l2_L11 x_w_nexts_L11 x_w_next_L11) fun p13 => Option.bind (some (l7_L11 + 1)) fun v14 => F_X6_wakeSome_L11 l2_L11 l4_L11 l6_L11 x_w_ups_L11 x_w_downs_L11 f 1 v14 p13.1 p13.2)))
def F_X6_wakeSome_L2 (l1_L2 : Int32) (l2_L2 : Int32) (x_places_L2 : Int32) (x_w_ups_L2 : Nat → Int32) (x_w_downs_L2 : Nat → Int32) : Nat → Int32 → Int32 → Int32 → (Nat → Int32) →  Option (Int32 × Int32 × (Nat → Int32))
  | 0, _, _, _, _ => none
  | f+1, l3_L2, l4_L2, x_w_nexts_L2, x_w_next_L2 =>
    (if x_places_L2 ≤ l4_L2 then some (l3_L2, x_w_nexts_L2, x_w_next_L2) else (if 9 ≤ l4_L2 then some (l3_L2, x_w_nexts_L2, x_w_next_L2) else gd (inb l4_L2 9) (Option.bind ((if (x_w_ups_L2 (Int32.toNatClampNeg l4_L2)) = 0 then gd (inb l4_L2 9) ((if (x_w_downs_L2 (Int32.toNatClampNeg l4_L2)) = 0 then some 0 else some 1)) else some 1)) fun (j5 : Int32) => Option.bind ((if j5 = 0 then some 0 else Option.bind (F_X3_manyAt l1_L2 l4_L2 x_places_L2) fun p10 => some p10)) fun (j8 : Int32) => Option.bind (F_X6_wakeSome_L11 l2_L2 l4_L2 j8 x_w_ups_L2 x_w_downs_L2 FU l3_L2 0 x_w_nexts_L2 x_w_next_L2) fun o_L11 => Option.bind (some (l4_L2 + 1)) fun v15 => F_X6_wakeSome_L2 l1_L2 l2_L2 x_places_L2 x_w_ups_L2 x_w_downs_L2 f o_L11.1 v15 o_L11.2.1 o_L11.2.2)))
def F_X6_wakeSome (a0 : Int32) (a1 : Int32) (x_places : Int32) (x_w_nexts : Int32) (x_w_ups : Nat → Int32) (x_w_downs : Nat → Int32) (x_w_next : Nat → Int32) : Option (Int32 × (Nat → Int32)) :=
  Option.bind (F_X6_addNext a0 x_w_nexts x_w_next) fun p1 => Option.bind (F_X6_wakeSome_L2 a0 a1 x_places x_w_ups x_w_downs FU 0 0 p1.1 p1.2) fun o_L2 => (if a1 = 0 then Option.bind (F_X6_dropFirst 1 o_L2.2.1 o_L2.2.2) fun p17 => some (p17.1, p17.2) else (if o_L2.1 = 0 then Option.bind (F_X6_dropFirst 1 o_L2.2.1 o_L2.2.2) fun p19 => some (p19.1, p19.2) else some (o_L2.2.1, o_L2.2.2)))
def rm_X6_wakeSome : Room := { frames := 3, cells := 0, slots := 0, locals := 69 }
def F_X6_wakeOne_L1 (l1_L1 : Int32) (x_places_L1 : Int32) (x_w_ups_L1 : Nat → Int32) (x_w_downs_L1 : Nat → Int32) : Nat → Int32 → Int32 → (Nat → Int32) →  Option (Int32 × (Nat → Int32))
  | 0, _, _, _ => none
  | f+1, l2_L1, x_w_nexts_L1, x_w_next_L1 =>
    (if x_places_L1 ≤ l2_L1 then some (x_w_nexts_L1, x_w_next_L1) else (if 9 ≤ l2_L1 then some (x_w_nexts_L1, x_w_next_L1) else gd (inb l2_L1 9) (gd (inb l2_L1 9) (Option.bind (F_X6_addMoved l1_L1 (x_w_ups_L1 (Int32.toNatClampNeg l2_L1)) (x_w_downs_L1 (Int32.toNatClampNeg l2_L1)) x_w_nexts_L1 x_w_next_L1) fun p4 => Option.bind (some (l2_L1 + 1)) fun v5 => F_X6_wakeOne_L1 l1_L1 x_places_L1 x_w_ups_L1 x_w_downs_L1 f v5 p4.1 p4.2))))
def F_X6_wakeOne (a0 : Int32) (x_places : Int32) (x_w_nexts : Int32) (x_w_ups : Nat → Int32) (x_w_downs : Nat → Int32) (x_w_next : Nat → Int32) : Option (Int32 × (Nat → Int32)) :=
  Option.bind (F_X6_wakeOne_L1 a0 x_places x_w_ups x_w_downs FU 0 x_w_nexts x_w_next) fun o_L1 => some (o_L1.1, o_L1.2)
def rm_X6_wakeOne : Room := { frames := 2, cells := 0, slots := 0, locals := 44 }
def F_X6_numberOf_L2 (l2_L2 : Int32) (x_w_size_L2 : Int32) (x_w_names_L2 : Nat → Int32) : Nat → Int32 →  Option (Sum (Int32) (Unit))
  | 0, _ => none
  | f+1, l3_L2 =>
    (if x_w_size_L2 ≤ l3_L2 then some (.inr ()) else (if 64 ≤ l3_L2 then some (.inr ()) else gd (inb l3_L2 64) ((if (x_w_names_L2 (Int32.toNatClampNeg l3_L2)) = l2_L2 then some (.inl l3_L2) else Option.bind (some (l3_L2 + 1)) fun v6 => F_X6_numberOf_L2 l2_L2 x_w_size_L2 x_w_names_L2 f v6))))
def F_X6_numberOf (a0 : Int32) (x_places : Int32) (x_mask : Int32) (x_w_size : Int32) (x_w_names : Nat → Int32) : Option (Int32) :=
  Option.bind (F_X3_nameOf a0 x_places x_mask) fun p1 => Option.bind (F_X6_numberOf_L2 p1 x_w_size x_w_names FU 0) fun o_L2s => Sum.elim (fun x => some x) (fun o_L2 => some 0) o_L2s
def rm_X6_numberOf : Room := { frames := 3, cells := 0, slots := 0, locals := 70 }
def F_X6_numbersOfNext_L1 (x_places_L1 : Int32) (x_mask_L1 : Int32) (x_w_size_L1 : Int32) (x_w_nexts_L1 : Int32) (x_w_names_L1 : Nat → Int32) (x_w_next_L1 : Nat → Int32) : Nat → Int64 → Int32 →  Option (Int64)
  | 0, _, _ => none
  | f+1, l1_L1, l3_L1 =>
    (if x_w_nexts_L1 ≤ l3_L1 then some l1_L1 else (if 81 ≤ l3_L1 then some l1_L1 else gd (inb l3_L1 81) (Option.bind (F_X6_numberOf (x_w_next_L1 (Int32.toNatClampNeg l3_L1)) x_places_L1 x_mask_L1 x_w_size_L1 x_w_names_L1) fun p4 => Option.bind (some (l1_L1 ||| (jlshl 1 p4))) fun v5 => Option.bind (some (l3_L1 + 1)) fun v6 => F_X6_numbersOfNext_L1 x_places_L1 x_mask_L1 x_w_size_L1 x_w_nexts_L1 x_w_names_L1 x_w_next_L1 f v5 v6)))
def F_X6_numbersOfNext (x_places : Int32) (x_mask : Int32) (x_w_size : Int32) (x_w_nexts : Int32) (x_w_names : Nat → Int32) (x_w_next : Nat → Int32) : Option (Int64) :=
  Option.bind (F_X6_numbersOfNext_L1 x_places x_mask x_w_size x_w_nexts x_w_names x_w_next FU 0 0) fun o_L1 => some o_L1
def rm_X6_numbersOfNext : Room := { frames := 4, cells := 0, slots := 0, locals := 93 }
def F_X6_setLinks (a0 : Int32) (a1 : Int32) (a2 : Int64) (x_w_links : Nat → Int64) : Option (Nat → Int64) :=
  Option.bind (some ((a0 * 64) + a1)) fun v1 => Option.bind (F_X7_outside v1 192) fun p2 => (if p2 = 0 then gd (inb v1 192) (some (vp_updL x_w_links (Int32.toNatClampNeg v1) a2)) else some x_w_links)
def rm_X6_setLinks : Room := { frames := 1, cells := 0, slots := 0, locals := 21 }
def F_X6_linkBy_L4 (l2_L4 : Int32) (x_places_L4 : Int32) (x_mask_L4 : Int32) (x_w_size_L4 : Int32) (x_b_size_L4 : Int32) (x_w_names_L4 : Nat → Int32) (x_b_rows_L4 : Nat → Int64) (x_b_acts_L4 : Nat → Int32) : Nat → Int32 → Int32 → (Nat → Int64) → (Nat → Int32) → (Nat → Int32) → (Nat → Int32) →  Option (Int32 × (Nat → Int64) × (Nat → Int32) × (Nat → Int32) × (Nat → Int32))
  | 0, _, _, _, _, _, _ => none
  | f+1, l3_L4, x_w_nexts_L4, x_w_links_L4, x_w_ups_L4, x_w_downs_L4, x_w_next_L4 =>
    (if x_w_size_L4 ≤ l3_L4 then some (x_w_nexts_L4, x_w_links_L4, x_w_ups_L4, x_w_downs_L4, x_w_next_L4) else (if 64 ≤ l3_L4 then some (x_w_nexts_L4, x_w_links_L4, x_w_ups_L4, x_w_downs_L4, x_w_next_L4) else gd (inb l3_L4 64) (Option.bind (F_X6_findMoves (x_w_names_L4 (Int32.toNatClampNeg l3_L4)) x_places_L4 x_b_size_L4 x_w_ups_L4 x_w_downs_L4 x_b_rows_L4 x_b_acts_L4) fun p7 => Option.bind ((if l2_L4 = 1 then gd (inb l3_L4 64) (Option.bind (F_X6_wakeOne (x_w_names_L4 (Int32.toNatClampNeg l3_L4)) x_places_L4 0 p7.1 p7.2 x_w_next_L4) fun p13 => some (p13.1, p13.2)) else gd (inb l3_L4 64) (Option.bind ((if l2_L4 = 0 then some 1 else some 0)) fun (j10 : Int32) => Option.bind (F_X6_wakeSome (x_w_names_L4 (Int32.toNatClampNeg l3_L4)) j10 x_places_L4 0 p7.1 p7.2 x_w_next_L4) fun p12 => some (p12.1, p12.2)))) fun (j8 : Int32 × (Nat → Int32)) => Option.bind (F_X6_numbersOfNext x_places_L4 x_mask_L4 x_w_size_L4 j8.1 x_w_names_L4 j8.2) fun p14 => Option.bind (F_X6_setLinks l2_L4 l3_L4 p14 x_w_links_L4) fun p15 => Option.bind (some (l3_L4 + 1)) fun v16 => F_X6_linkBy_L4 l2_L4 x_places_L4 x_mask_L4 x_w_size_L4 x_b_size_L4 x_w_names_L4 x_b_rows_L4 x_b_acts_L4 f v16 j8.1 p15 p7.1 p7.2 j8.2)))
def F_X6_linkBy (a1 : Int32) (x_places : Int32) (x_mask : Int32) (x_w_size : Int32) (x_w_nexts : Int32) (x_b_size : Int32) (x_w_names : Nat → Int32) (x_w_links : Nat → Int64) (x_w_linked : Nat → Int32) (x_w_ups : Nat → Int32) (x_w_downs : Nat → Int32) (x_w_next : Nat → Int32) (x_b_rows : Nat → Int64) (x_b_acts : Nat → Int32) : Option (Int32 × (Nat → Int64) × (Nat → Int32) × (Nat → Int32) × (Nat → Int32) × (Nat → Int32)) :=
  Option.bind (F_X7_outside a1 3) fun p1 => (if p1 = 0 then gd (inb a1 3) ((if (x_w_linked (Int32.toNatClampNeg a1)) = 0 then gd (inb a1 3) (Option.bind (F_X6_linkBy_L4 a1 x_places x_mask x_w_size x_b_size x_w_names x_b_rows x_b_acts FU 0 x_w_nexts x_w_links x_w_ups x_w_downs x_w_next) fun o_L4 => some (o_L4.1, o_L4.2.1, (upd x_w_linked (Int32.toNatClampNeg a1) (vp_nar .boolean 1)), o_L4.2.2.1, o_L4.2.2.2.1, o_L4.2.2.2.2)) else some (x_w_nexts, x_w_links, x_w_linked, x_w_ups, x_w_downs, x_w_next))) else some (x_w_nexts, x_w_links, x_w_linked, x_w_ups, x_w_downs, x_w_next))
def rm_X6_linkBy : Room := { frames := 5, cells := 0, slots := 0, locals := 116 }
def F_X6_ofGoal (a0 : Int32) (x_w_goals : Nat → Int64) : Option (Int64) :=
  Option.bind (F_X7_outside a0 3) fun p1 => (if p1 = 0 then gd (inb a0 3) (some (x_w_goals (Int32.toNatClampNeg a0))) else some 0)
def rm_X6_ofGoal : Room := { frames := 1, cells := 0, slots := 0, locals := 21 }
def F_X6_linksOf (a0 : Int32) (a1 : Int32) (x_w_links : Nat → Int64) : Option (Int64) :=
  Option.bind (some ((a0 * 64) + a1)) fun v1 => Option.bind (F_X7_outside v1 192) fun p2 => (if p2 = 0 then gd (inb v1 192) (some (x_w_links (Int32.toNatClampNeg v1))) else some 0)
def rm_X6_linksOf : Room := { frames := 1, cells := 0, slots := 0, locals := 21 }
def F_X6_safeByOne_L1 (l1_L1 : Int64) (l3_L1 : Int32) (x_w_size_L1 : Int32) (x_w_links_L1 : Nat → Int64) : Nat → Int64 → Int32 →  Option (Int64)
  | 0, _, _ => none
  | f+1, l4_L1, l6_L1 =>
    (if x_w_size_L1 ≤ l6_L1 then some l4_L1 else Option.bind (F_X6_linksOf l3_L1 l6_L1 x_w_links_L1) fun p3 => Option.bind ((if (lg_cmp p3 0) = 0 then some l4_L1 else (if (lg_cmp (p3 &&& (l1_L1 ^^^ (-1))) 0) = 0 then Option.bind (some (l4_L1 ||| (jlshl 1 l6_L1))) fun v7 => some v7 else some l4_L1))) fun (j4 : Int64) => Option.bind (some (l6_L1 + 1)) fun v8 => F_X6_safeByOne_L1 l1_L1 l3_L1 x_w_size_L1 x_w_links_L1 f j4 v8)
def F_X6_safeByOne (a0 : Int64) (a1 : Int32) (x_w_size : Int32) (x_w_links : Nat → Int64) : Option (Int64) :=
  Option.bind (F_X6_safeByOne_L1 a0 a1 x_w_size x_w_links FU a0 0) fun o_L1 => some o_L1
def rm_X6_safeByOne : Room := { frames := 2, cells := 0, slots := 0, locals := 44 }
def F_X6_mostSteps_L2 (l1_L2 : Int32) (l2_L2 : Int32) (x_w_size_L2 : Int32) (x_w_links_L2 : Nat → Int64) : Nat → Int64 → Int32 →  Option (Sum (Int32) (Unit))
  | 0, _, _ => none
  | f+1, l4_L2, l6_L2 =>
    (if x_w_size_L2 ≤ l6_L2 then some (.inr ()) else (if (lg_cmp (l4_L2 &&& (jlshl 1 l1_L2)) 0) = 0 then Option.bind (F_X6_safeByOne l4_L2 l2_L2 x_w_size_L2 x_w_links_L2) fun p5 => Option.bind (some (l6_L2 + 1)) fun v6 => F_X6_mostSteps_L2 l1_L2 l2_L2 x_w_size_L2 x_w_links_L2 f p5 v6 else some (.inl l6_L2)))
def F_X6_mostSteps (a0 : Int32) (a1 : Int32) (a2 : Int32) (x_w_size : Int32) (x_w_goals : Nat → Int64) (x_w_links : Nat → Int64) : Option (Int32) :=
  Option.bind (F_X6_ofGoal a2 x_w_goals) fun p1 => Option.bind (F_X6_mostSteps_L2 a0 a1 x_w_size x_w_links FU p1 0) fun o_L2s => Sum.elim (fun x => some x) (fun o_L2 => some (-1000000)) o_L2s
def rm_X6_mostSteps : Room := { frames := 3, cells := 0, slots := 0, locals := 72 }
def F_X6_reachedFrom_L4 (l2_L4 : Int32) (l3_L4 : Int32) (l7_L4 : Int64) (x_w_size_L4 : Int32) (x_w_goals_L4 : Nat → Int64) (x_w_links_L4 : Nat → Int64) : Nat → Int64 → Int32 →  Option (Int64)
  | 0, _, _ => none
  | f+1, l4_L4, l9_L4 =>
    (if x_w_size_L4 ≤ l9_L4 then some l4_L4 else Option.bind (F_X6_ofGoal l3_L4 x_w_goals_L4) fun p6 => Option.bind ((if (lg_cmp ((l7_L4 &&& (p6 ^^^ (-1))) &&& (jlshl 1 l9_L4)) 0) = 0 then some l4_L4 else Option.bind (F_X6_linksOf l2_L4 l9_L4 x_w_links_L4) fun p9 => Option.bind (some (l4_L4 ||| p9)) fun v10 => some v10)) fun (j7 : Int64) => Option.bind (some (l9_L4 + 1)) fun v11 => F_X6_reachedFrom_L4 l2_L4 l3_L4 l7_L4 x_w_size_L4 x_w_goals_L4 x_w_links_L4 f j7 v11)
def F_X6_reachedFrom_L2 (l2_L2 : Int32) (l3_L2 : Int32) (x_w_size_L2 : Int32) (x_w_goals_L2 : Nat → Int64) (x_w_links_L2 : Nat → Int64) : Nat → Int64 → Int32 →  Option (Int64)
  | 0, _, _ => none
  | f+1, l4_L2, l6_L2 =>
    (if x_w_size_L2 ≤ l6_L2 then some l4_L2 else Option.bind (F_X6_reachedFrom_L4 l2_L2 l3_L2 l4_L2 x_w_size_L2 x_w_goals_L2 x_w_links_L2 FU l4_L2 0) fun o_L4 => (if (lg_cmp o_L4 l4_L2) = 0 then some o_L4 else Option.bind (some (l6_L2 + 1)) fun v13 => F_X6_reachedFrom_L2 l2_L2 l3_L2 x_w_size_L2 x_w_goals_L2 x_w_links_L2 f o_L4 v13))
def F_X6_reachedFrom (a0 : Int32) (a1 : Int32) (a2 : Int32) (x_w_size : Int32) (x_w_goals : Nat → Int64) (x_w_links : Nat → Int64) : Option (Int64) :=
  Option.bind (some (jlshl 1 a0)) fun v1 => Option.bind (F_X6_reachedFrom_L2 a1 a2 x_w_size x_w_goals x_w_links FU v1 0) fun o_L2 => some o_L2
def rm_X6_reachedFrom : Room := { frames := 2, cells := 0, slots := 0, locals := 44 }
def F_J13_bitCount_95d88 (a0 : Int64)  : Option (Int32) :=
  Option.bind (some (a0 - ((jlushr a0 1) &&& 6148914691236517205))) fun v1 => Option.bind (some ((v1 &&& 3689348814741910323) + ((jlushr v1 2) &&& 3689348814741910323))) fun v2 => Option.bind (some ((v2 + (jlushr v2 4)) &&& 1085102592571150095)) fun v3 => Option.bind (some (v3 + (jlushr v3 8))) fun v4 => Option.bind (some (v4 + (jlushr v4 16))) fun v5 => Option.bind (some (v5 + (jlushr v5 32))) fun v6 => some ((Int64.toInt32 v6) &&& 127)
def rm_J13_bitCount_95d88 : Room := { frames := 0, cells := 0, slots := 0, locals := 0 }
def F_X6_countReached_L3 (l1_L3 : Int64) (l3_L3 : Int32) (l4_L3 : Int32) (x_w_size_L3 : Int32) (x_w_goals_L3 : Nat → Int64) (x_w_links_L3 : Nat → Int64) : Nat → Int32 → Int32 →  Option (Int32)
  | 0, _, _ => none
  | f+1, l6_L3, l7_L3 =>
    (if x_w_size_L3 ≤ l7_L3 then some l6_L3 else Option.bind (F_X6_ofGoal l4_L3 x_w_goals_L3) fun p5 => Option.bind ((if (lg_cmp ((l1_L3 &&& (p5 ^^^ (-1))) &&& (jlshl 1 l7_L3)) 0) = 0 then some l6_L3 else Option.bind (F_X6_linksOf l3_L3 l7_L3 x_w_links_L3) fun p8 => (if (lg_cmp p8 0) = 0 then Option.bind (some (l6_L3 + 1)) fun v10 => some v10 else some l6_L3))) fun (j6 : Int32) => Option.bind (some (l7_L3 + 1)) fun v11 => F_X6_countReached_L3 l1_L3 l3_L3 l4_L3 x_w_size_L3 x_w_goals_L3 x_w_links_L3 f j6 v11)
def F_X6_countReached (a0 : Int64) (a1 : Int32) (a2 : Int32) (a3 : Int32) (x_w_size : Int32) (x_w_goals : Nat → Int64) (x_w_links : Nat → Int64) : Option (Int32) :=
  (if a3 = 1 then Option.bind (F_J13_bitCount_95d88 a0) fun p14 => some p14 else (if a3 = 2 then Option.bind (F_X6_ofGoal a2 x_w_goals) fun p12 => Option.bind (F_J13_bitCount_95d88 (a0 &&& p12)) fun p13 => some p13 else Option.bind (F_X6_countReached_L3 a0 a1 a2 x_w_size x_w_goals x_w_links FU 0 0) fun o_L3 => some o_L3))
def rm_X6_countReached : Room := { frames := 2, cells := 0, slots := 0, locals := 44 }
def F_X7_proves (a0 : Int32) (a1 : Int32) (a2 : Int32) (x_crowd : Int32) (x_places : Int32) (x_mask : Int32) (x_w_robots : Int32) (x_w_size : Int32) (x_w_nexts : Int32) (x_b_size : Int32) (x_w_names : Nat → Int32) (x_w_goals : Nat → Int64) (x_w_links : Nat → Int64) (x_w_linked : Nat → Int32) (x_w_ups : Nat → Int32) (x_w_downs : Nat → Int32) (x_w_next : Nat → Int32) (x_b_rows : Nat → Int64) (x_b_acts : Nat → Int32) : Option (Int32 × Int32 × Int32 × Int32 × (Nat → Int32) × (Nat → Int64) × (Nat → Int64) × (Nat → Int32) × (Nat → Int32) × (Nat → Int32) × (Nat → Int32)) :=
  Option.bind (F_X7_outside a0 3) fun p1 => (if p1 = 0 then Option.bind (F_X7_outside a1 3) fun p3 => (if p3 = 0 then Option.bind (F_X7_outside a2 5) fun p5 => (if p5 = 0 then (if x_crowd = 0 then some ((-1000002), x_w_robots, x_w_size, x_w_nexts, x_w_names, x_w_goals, x_w_links, x_w_linked, x_w_ups, x_w_downs, x_w_next) else Option.bind (F_X3_robotsIn x_crowd x_places) fun p8 => Option.bind (F_X6_gatherFor p8 x_places x_mask x_w_robots x_w_size x_w_names x_w_goals x_w_linked) fun p9 => Option.bind (F_X6_linkBy a0 x_places x_mask p9.2.1 x_w_nexts x_b_size p9.2.2.1 x_w_links p9.2.2.2.2 x_w_ups x_w_downs x_w_next x_b_rows x_b_acts) fun p10 => Option.bind (F_X6_numberOf x_crowd x_places x_mask p9.2.1 p9.2.2.1) fun p11 => (if a2 = 0 then Option.bind (F_X6_mostSteps p11 a0 a1 p9.2.1 p9.2.2.2.1 p10.2.1) fun p13 => (if p13 = (-1000000) then some (0, p9.1, p9.2.1, p10.1, p9.2.2.1, p9.2.2.2.1, p10.2.1, p10.2.2.1, p10.2.2.2.1, p10.2.2.2.2.1, p10.2.2.2.2.2) else some (1, p9.1, p9.2.1, p10.1, p9.2.2.1, p9.2.2.2.1, p10.2.1, p10.2.2.1, p10.2.2.2.1, p10.2.2.2.2.1, p10.2.2.2.2.2)) else (if a2 = 4 then Option.bind (F_X6_mostSteps p11 a0 a1 p9.2.1 p9.2.2.2.1 p10.2.1) fun p16 => some (p16, p9.1, p9.2.1, p10.1, p9.2.2.1, p9.2.2.2.1, p10.2.1, p10.2.2.1, p10.2.2.2.1, p10.2.2.2.2.1, p10.2.2.2.2.2) else Option.bind (F_X6_reachedFrom p11 a0 a1 p9.2.1 p9.2.2.2.1 p10.2.1) fun p17 => Option.bind (F_X6_countReached p17 a0 a1 a2 p9.2.1 p9.2.2.2.1 p10.2.1) fun p18 => some (p18, p9.1, p9.2.1, p10.1, p9.2.2.1, p9.2.2.2.1, p10.2.1, p10.2.2.1, p10.2.2.2.1, p10.2.2.2.2.1, p10.2.2.2.2.2)))) else some ((-1000001), x_w_robots, x_w_size, x_w_nexts, x_w_names, x_w_goals, x_w_links, x_w_linked, x_w_ups, x_w_downs, x_w_next)) else some ((-1000001), x_w_robots, x_w_size, x_w_nexts, x_w_names, x_w_goals, x_w_links, x_w_linked, x_w_ups, x_w_downs, x_w_next)) else some ((-1000001), x_w_robots, x_w_size, x_w_nexts, x_w_names, x_w_goals, x_w_links, x_w_linked, x_w_ups, x_w_downs, x_w_next))
def rm_X7_proves : Room := { frames := 8, cells := 0, slots := 0, locals := 187 }
def F_X6_working_L2 (l1_L2 : Int32) (x_w_size_L2 : Int32) (x_w_links_L2 : Nat → Int64) : Nat → Int64 → Int32 →  Option (Int64)
  | 0, _, _ => none
  | f+1, l3_L2, l5_L2 =>
    (if x_w_size_L2 ≤ l5_L2 then some l3_L2 else Option.bind (F_X6_safeByOne l3_L2 l1_L2 x_w_size_L2 x_w_links_L2) fun p4 => (if (lg_cmp p4 l3_L2) = 0 then some p4 else Option.bind (some (l5_L2 + 1)) fun v6 => F_X6_working_L2 l1_L2 x_w_size_L2 x_w_links_L2 f p4 v6))
def F_X6_working (a0 : Int32) (a1 : Int32) (x_w_size : Int32) (x_w_goals : Nat → Int64) (x_w_links : Nat → Int64) : Option (Int64) :=
  Option.bind (F_X6_ofGoal a1 x_w_goals) fun p1 => Option.bind (F_X6_working_L2 a0 x_w_size x_w_links FU p1 0) fun o_L2 => some o_L2
def rm_X6_working : Room := { frames := 3, cells := 0, slots := 0, locals := 72 }
def F_X7_starts (a0 : Int32) (a1 : Int32) (a2 : Int32) (x_crowd : Int32) (x_places : Int32) (x_mask : Int32) (x_w_robots : Int32) (x_w_size : Int32) (x_w_nexts : Int32) (x_b_size : Int32) (x_w_names : Nat → Int32) (x_w_goals : Nat → Int64) (x_w_links : Nat → Int64) (x_w_linked : Nat → Int32) (x_w_ups : Nat → Int32) (x_w_downs : Nat → Int32) (x_w_next : Nat → Int32) (x_b_rows : Nat → Int64) (x_b_acts : Nat → Int32) : Option (Int32 × Int32 × Int32 × Int32 × (Nat → Int32) × (Nat → Int64) × (Nat → Int64) × (Nat → Int32) × (Nat → Int32) × (Nat → Int32) × (Nat → Int32)) :=
  Option.bind (F_X7_outside a0 3) fun p1 => (if p1 = 0 then Option.bind (F_X7_outside a1 3) fun p3 => (if p3 = 0 then Option.bind (F_X7_outside a2 2) fun p5 => (if p5 = 0 then (if x_crowd = 0 then some ((-1000002), x_w_robots, x_w_size, x_w_nexts, x_w_names, x_w_goals, x_w_links, x_w_linked, x_w_ups, x_w_downs, x_w_next) else Option.bind (F_X3_robotsIn x_crowd x_places) fun p8 => Option.bind (F_X6_gatherFor p8 x_places x_mask x_w_robots x_w_size x_w_names x_w_goals x_w_linked) fun p9 => (if a2 = 0 then some (p9.2.1, p9.1, p9.2.1, x_w_nexts, p9.2.2.1, p9.2.2.2.1, x_w_links, p9.2.2.2.2, x_w_ups, x_w_downs, x_w_next) else Option.bind (F_X6_linkBy a0 x_places x_mask p9.2.1 x_w_nexts x_b_size p9.2.2.1 x_w_links p9.2.2.2.2 x_w_ups x_w_downs x_w_next x_b_rows x_b_acts) fun p11 => Option.bind (F_X6_working a0 a1 p9.2.1 p9.2.2.2.1 p11.2.1) fun p12 => Option.bind (F_J13_bitCount_95d88 p12) fun p13 => some (p13, p9.1, p9.2.1, p11.1, p9.2.2.1, p9.2.2.2.1, p11.2.1, p11.2.2.1, p11.2.2.2.1, p11.2.2.2.2.1, p11.2.2.2.2.2))) else some ((-1000001), x_w_robots, x_w_size, x_w_nexts, x_w_names, x_w_goals, x_w_links, x_w_linked, x_w_ups, x_w_downs, x_w_next)) else some ((-1000001), x_w_robots, x_w_size, x_w_nexts, x_w_names, x_w_goals, x_w_links, x_w_linked, x_w_ups, x_w_downs, x_w_next)) else some ((-1000001), x_w_robots, x_w_size, x_w_nexts, x_w_names, x_w_goals, x_w_links, x_w_linked, x_w_ups, x_w_downs, x_w_next))
def rm_X7_starts : Room := { frames := 8, cells := 0, slots := 0, locals := 187 }
def F_X3_turnsBetween_L1 (l2_L1 : Int32) (x_places_L1 : Int32) (x_mask_L1 : Int32) : Nat → Int32 → Int32 → Int32 →  Option (Int32)
  | 0, _, _, _ => none
  | f+1, l3_L1, l4_L1, l5_L1 =>
    (if x_places_L1 ≤ l5_L1 then some l3_L1 else Option.bind ((if l4_L1 = l2_L1 then Option.bind (some (l3_L1 + 1)) fun v5 => some v5 else some l3_L1)) fun (j3 : Int32) => Option.bind (F_X3_turned l4_L1 x_places_L1 x_mask_L1) fun p6 => Option.bind (some (l5_L1 + 1)) fun v7 => F_X3_turnsBetween_L1 l2_L1 x_places_L1 x_mask_L1 f j3 p6 v7)
def F_X3_turnsBetween (a0 : Int32) (a1 : Int32) (x_places : Int32) (x_mask : Int32) : Option (Int32) :=
  Option.bind (F_X3_turnsBetween_L1 a1 x_places x_mask FU 0 a0 0) fun o_L1 => some o_L1
def rm_X3_turnsBetween : Room := { frames := 1, cells := 0, slots := 0, locals := 21 }
def F_X3_turnsOf (a0 : Int32) (x_places : Int32) (x_mask : Int32) : Option (Int32) :=
  Option.bind (F_X3_turnsBetween a0 a0 x_places x_mask) fun p1 => some p1
def rm_X3_turnsOf : Room := { frames := 2, cells := 0, slots := 0, locals := 46 }
def F_X3_mirrorsOf (a0 : Int32) (x_places : Int32) (x_mask : Int32) : Option (Int32) :=
  Option.bind (F_X3_mirrored a0 x_places) fun p1 => Option.bind (F_X3_turnsBetween p1 a0 x_places x_mask) fun p2 => some p2
def rm_X3_mirrorsOf : Room := { frames := 2, cells := 0, slots := 0, locals := 46 }
def F_X3_kindOf (a0 : Int32) (x_places : Int32) (x_mask : Int32) : Option (Int32) :=
  Option.bind (F_X3_turnsOf a0 x_places x_mask) fun p1 => (if p1 ≤ 1 then Option.bind (F_X3_mirrorsOf a0 x_places x_mask) fun p3 => (if p3 ≤ 0 then some 3 else some 1) else some 2)
def rm_X3_kindOf : Room := { frames := 3, cells := 0, slots := 0, locals := 67 }
def F_X7_kind (x_crowd : Int32) (x_places : Int32) (x_mask : Int32) : Option (Int32) :=
  (if x_crowd = 0 then some (-1000002) else Option.bind (F_X3_kindOf x_crowd x_places x_mask) fun p2 => some p2)
def rm_X7_kind : Room := { frames := 4, cells := 0, slots := 0, locals := 88 }
def F_X7_as (a0 : Int32) (x_crowd : Int32) (x_places : Int32) (x_mask : Int32) : Option (Int32) :=
  Option.bind (F_X7_outside a0 4) fun p1 => (if p1 = 0 then (if x_crowd = 0 then some (-1000002) else (if a0 = 0 then Option.bind (F_X3_robotsIn x_crowd x_places) fun p5 => some p5 else Option.bind (F_X3_kindOf x_crowd x_places x_mask) fun p6 => (if a0 = p6 then Option.bind (F_X3_robotsIn x_crowd x_places) fun p8 => some p8 else some (-1000004)))) else some (-1000001))
def rm_X7_as : Room := { frames := 4, cells := 0, slots := 0, locals := 88 }
def F_X0_begin (a0 : Int32) (x_a_length : Int32) (x_a_begun : Nat → Int32) : Option (Int32 × (Nat → Int32)) :=
  (if 16 ≤ x_a_length then some (x_a_length, x_a_begun) else gd (inb x_a_length 16) (Option.bind (some (x_a_length + 1)) fun v2 => some (v2, (upd x_a_begun (Int32.toNatClampNeg x_a_length) a0))))
def rm_X0_begin : Room := { frames := 0, cells := 0, slots := 0, locals := 0 }
def F_X0_lentMark (a0 : Int32) (x_places : Int32) (x_a_length : Int32) (x_a_begun : Nat → Int32) : Option (Int32 × Int32 × (Nat → Int32)) :=
  Option.bind (F_X0_begin 20 x_a_length x_a_begun) fun p1 => Option.bind (F_X3_takenIn a0 x_places) fun p2 => some (p2, p1.1, p1.2)
def rm_X0_lentMark : Room := { frames := 2, cells := 0, slots := 0, locals := 45 }
def F_X0_lentSize (a0 : Int32) (x_places : Int32) (x_a_length : Int32) (x_a_begun : Nat → Int32) : Option (Int32 × Int32 × (Nat → Int32)) :=
  Option.bind (F_X0_begin 10 x_a_length x_a_begun) fun p1 => Option.bind (F_X3_robotsIn a0 x_places) fun p2 => some (p2, p1.1, p1.2)
def rm_X0_lentSize : Room := { frames := 2, cells := 0, slots := 0, locals := 45 }
def F_X0_sizeOf (a0 : Int32) (x_places : Int32) (x_mask : Int32) (x_a_length : Int32) (x_a_begun : Nat → Int32) : Option (Int32 × Int32 × (Nat → Int32)) :=
  Option.bind (F_X3_kindOf a0 x_places x_mask) fun p1 => (if p1 = 1 then Option.bind (F_X0_begin 11 x_a_length x_a_begun) fun p3 => Option.bind (F_X0_lentSize a0 x_places p3.1 p3.2) fun p4 => some ((p4.1 + x_places), p4.2.1, p4.2.2) else (if p1 = 2 then Option.bind (F_X0_begin 12 x_a_length x_a_begun) fun p6 => Option.bind (F_X0_lentSize a0 x_places p6.1 p6.2) fun p7 => Option.bind (F_X3_turnsOf a0 x_places x_mask) fun p8 => some ((p7.1 + p8), p7.2.1, p7.2.2) else (if p1 = 3 then Option.bind (F_X0_begin 13 x_a_length x_a_begun) fun p10 => Option.bind (F_X0_lentSize a0 x_places p10.1 p10.2) fun p11 => some ((2 * p11.1), p11.2.1, p11.2.2) else Option.bind (F_X0_lentSize a0 x_places x_a_length x_a_begun) fun p12 => some (p12.1, p12.2.1, p12.2.2))))
def rm_X0_sizeOf : Room := { frames := 4, cells := 0, slots := 0, locals := 88 }
def F_X0_markOf (a0 : Int32) (x_places : Int32) (x_mask : Int32) (x_a_length : Int32) (x_a_begun : Nat → Int32) : Option (Int32 × Int32 × (Nat → Int32)) :=
  Option.bind (F_X3_kindOf a0 x_places x_mask) fun p1 => (if p1 = 2 then Option.bind (F_X0_begin 21 x_a_length x_a_begun) fun p3 => Option.bind (F_X0_lentMark a0 x_places p3.1 p3.2) fun p4 => Option.bind (F_X0_sizeOf a0 x_places x_mask p4.2.1 p4.2.2) fun p5 => some ((p4.1 + p5.1), p5.2.1, p5.2.2) else (if p1 = 3 then Option.bind (F_X0_begin 22 x_a_length x_a_begun) fun p7 => Option.bind (F_X0_lentMark a0 x_places p7.1 p7.2) fun p8 => some ((p8.1 + 100), p8.2.1, p8.2.2) else Option.bind (F_X0_lentMark a0 x_places x_a_length x_a_begun) fun p9 => some (p9.1, p9.2.1, p9.2.2)))
def rm_X0_markOf : Room := { frames := 5, cells := 0, slots := 0, locals := 109 }
def F_X0_answer (a0 : Int32) (a1 : Int32) (x_places : Int32) (x_mask : Int32) (x_a_begun : Nat → Int32) : Option (Int32 × Int32 × (Nat → Int32)) :=
  (if a0 = 0 then Option.bind (F_X0_sizeOf a1 x_places x_mask 0 x_a_begun) fun p3 => some (p3.1, p3.2.1, p3.2.2) else Option.bind (F_X0_markOf a1 x_places x_mask 0 x_a_begun) fun p2 => some (p2.1, p2.2.1, p2.2.2))
def rm_X0_answer : Room := { frames := 6, cells := 0, slots := 0, locals := 130 }
def F_X7_ask (a0 : Int32) (x_crowd : Int32) (x_places : Int32) (x_mask : Int32) (x_a_length : Int32) (x_a_begun : Nat → Int32) : Option (Int32 × Int32 × (Nat → Int32)) :=
  Option.bind (F_X7_outside a0 2) fun p1 => (if p1 = 0 then (if x_crowd = 0 then some ((-1000002), x_a_length, x_a_begun) else Option.bind (F_X0_answer a0 x_crowd x_places x_mask x_a_begun) fun p4 => some (p4.1, p4.2.1, p4.2.2)) else some ((-1000001), x_a_length, x_a_begun))
def rm_X7_ask : Room := { frames := 7, cells := 0, slots := 0, locals := 152 }
def F_X0_traced (a0 : Int32) (x_a_length : Int32) (x_a_begun : Nat → Int32) : Option (Int32) :=
  Option.bind (F_X7_outside a0 x_a_length) fun p1 => (if p1 = 0 then (if a0 < 16 then gd (inb a0 16) (some (x_a_begun (Int32.toNatClampNeg a0))) else some (-1000000)) else some (-1000000))
def rm_X0_traced : Room := { frames := 1, cells := 0, slots := 0, locals := 21 }
def F_X7_trace (a0 : Int32) (x_a_length : Int32) (x_a_begun : Nat → Int32) : Option (Int32) :=
  Option.bind (F_X0_traced a0 x_a_length x_a_begun) fun p1 => some p1
def rm_X7_trace : Room := { frames := 2, cells := 0, slots := 0, locals := 42 }
def F_X7_count (a0 : Int32) (x_crowd : Int32) (x_places : Int32) (x_mask : Int32) (x_t_length : Int32) (x_b_size : Int32) : Option (Int32) :=
  Option.bind (F_X7_outside a0 7) fun p1 => (if p1 = 0 then (if a0 = 0 then some x_places else (if a0 = 1 then Option.bind (F_X3_robotsIn x_crowd x_places) fun p5 => some p5 else (if a0 = 2 then Option.bind (F_X3_takenIn x_crowd x_places) fun p7 => some p7 else (if a0 = 3 then some x_b_size else (if a0 = 4 then Option.bind (F_X3_turnsOf x_crowd x_places x_mask) fun p10 => some p10 else (if a0 = 5 then Option.bind (F_X3_mirrorsOf x_crowd x_places x_mask) fun p12 => some p12 else some x_t_length)))))) else some (-1000001))
def rm_X7_count : Room := { frames := 3, cells := 0, slots := 0, locals := 67 }
def F_X8_in (a0 : Int64) (a1 : Int64) (a2 : Int64)  : Option (Int32) :=
  (if (lg_cmp a0 a1) < 0 then some 0 else (if 0 < (lg_cmp a0 a2) then some 0 else some 1))
def rm_X8_in : Room := { frames := 0, cells := 0, slots := 0, locals := 0 }
def F_X8_isPlace (a0 : Int32) (m_n : Int32) : Option (Int32) :=
  Option.bind (F_X8_in (Int32.toInt64 a0) 0 (Int32.toInt64 (m_n - 1))) fun p1 => some p1
def rm_X8_isPlace : Room := { frames := 1, cells := 0, slots := 0, locals := 25 }
def F_X8_robot (a0 : Int32) (m_n : Int32) (m_robots : Int32) (m_here : Nat → Int32) : Option (Int32 × Int32 × Int32 × (Nat → Int32)) :=
  Option.bind (F_X8_isPlace a0 m_n) fun p1 => (if p1 = 0 then some ((-1000001), 0, m_robots, m_here) else (if m_robots = 4 then some ((-1000003), 0, m_robots, m_here) else gd (inb a0 9) (Option.bind (some ((m_here (Int32.toNatClampNeg a0)) + 1)) fun v4 => gd (inb a0 9) (Option.bind (some (m_robots + 1)) fun v5 => some (v5, 0, v5, (upd m_here (Int32.toNatClampNeg a0) v4))))))
def rm_X8_robot : Room := { frames := 2, cells := 0, slots := 0, locals := 46 }
def F_X8_wipe_L1  : Nat → Int32 → (Nat → Int32) →  Option (Nat → Int32)
  | 0, _, _ => none
  | f+1, l2_L1, m_here_L1 =>
    (if 9 ≤ l2_L1 then some m_here_L1 else gd (inb l2_L1 9) (Option.bind (some (l2_L1 + 1)) fun v3 => F_X8_wipe_L1 f v3 (upd m_here_L1 (Int32.toNatClampNeg l2_L1) 0)))
def F_X8_wipe (m_robots : Int32) (m_here : Nat → Int32) : Option (Int32 × Int32 × Int32 × (Nat → Int32)) :=
  Option.bind (F_X8_wipe_L1 FU 0 m_here) fun o_L1 => some (m_robots, 0, 0, o_L1)
def rm_X8_wipe : Room := { frames := 0, cells := 0, slots := 0, locals := 0 }
def F_X8_at (a0 : Int32) (m_n : Int32) (m_here : Nat → Int32) : Option (Int32 × Int32) :=
  Option.bind (F_X8_isPlace a0 m_n) fun p1 => (if p1 = 0 then some ((-1000001), 0) else gd (inb a0 9) (some ((m_here (Int32.toNatClampNeg a0)), 0)))
def rm_X8_at : Room := { frames := 2, cells := 0, slots := 0, locals := 46 }
def F_X8_take_L1 (m_here_L1 : Nat → Int32) : Nat → Int32 → (Nat → Int32) →  Option (Nat → Int32)
  | 0, _, _ => none
  | f+1, l1_L1, m_hand_L1 =>
    (if 9 ≤ l1_L1 then some m_hand_L1 else gd (inb l1_L1 9) (Option.bind (some (m_here_L1 (Int32.toNatClampNeg l1_L1))) fun v3 => gd (inb l1_L1 9) (Option.bind (some (l1_L1 + 1)) fun v4 => F_X8_take_L1 m_here_L1 f v4 (upd m_hand_L1 (Int32.toNatClampNeg l1_L1) v3))))
def F_X8_take (m_here : Nat → Int32) (m_hand : Nat → Int32) : Option (Nat → Int32) :=
  Option.bind (F_X8_take_L1 m_here FU 0 m_hand) fun o_L1 => some o_L1
def rm_X8_take : Room := { frames := 0, cells := 0, slots := 0, locals := 0 }
def F_X8_rowFrom_u_L1 (l1_L1 : Int32) (l2_L1 : Int32) (m_n_L1 : Int32) (m_hand_L1 : Nat → Int32) : Nat → Int32 → Int32 → Int32 → (Nat → Int32) →  Option (Int32 × (Nat → Int32))
  | 0, _, _, _, _ => none
  | f+1, l4_L1, l5_L1, l6_L1, m_up_L1 =>
    (if m_n_L1 < l6_L1 then some (l4_L1, m_up_L1) else Option.bind (some (l5_L1 + 1)) fun v3 => gd (nz m_n_L1) (Option.bind (some (jrem ((l1_L1 + (l2_L1 * l6_L1)) + (m_n_L1 * l6_L1)) m_n_L1)) fun v4 => gd (inb v4 9) (Option.bind ((if (m_hand_L1 (Int32.toNatClampNeg v4)) ≤ 0 then some (l4_L1, v3, m_up_L1) else gd (inb (2 * l4_L1) 8) (gd (inb v4 9) (Option.bind (some (m_hand_L1 (Int32.toNatClampNeg v4))) fun v7 => gd (inb ((2 * l4_L1) + 1) 8) (Option.bind (some (l4_L1 + 1)) fun v8 => some (v8, 0, (upd (upd m_up_L1 (Int32.toNatClampNeg (2 * l4_L1)) v3) (Int32.toNatClampNeg ((2 * l4_L1) + 1)) v7))))))) fun (j5 : Int32 × Int32 × (Nat → Int32)) => Option.bind (some (l6_L1 + 1)) fun v9 => F_X8_rowFrom_u_L1 l1_L1 l2_L1 m_n_L1 m_hand_L1 f j5.1 j5.2.1 v9 j5.2.2)))
def F_X8_rowFrom_u (a0 : Int32) (a1 : Int32) (m_n : Int32) (m_hand : Nat → Int32) (m_up : Nat → Int32) : Option (Int32 × (Nat → Int32)) :=
  Option.bind (F_X8_rowFrom_u_L1 a0 a1 m_n m_hand FU 0 0 1 m_up) fun o_L1 => some (o_L1.1, o_L1.2)
def rm_X8_rowFrom_u : Room := { frames := 0, cells := 0, slots := 0, locals := 0 }
def F_X8_rowFrom_d_L1 (l1_L1 : Int32) (l2_L1 : Int32) (m_n_L1 : Int32) (m_hand_L1 : Nat → Int32) : Nat → Int32 → Int32 → Int32 → (Nat → Int32) →  Option (Int32 × (Nat → Int32))
  | 0, _, _, _, _ => none
  | f+1, l4_L1, l5_L1, l6_L1, m_down_L1 =>
    (if m_n_L1 < l6_L1 then some (l4_L1, m_down_L1) else Option.bind (some (l5_L1 + 1)) fun v3 => gd (nz m_n_L1) (Option.bind (some (jrem ((l1_L1 + (l2_L1 * l6_L1)) + (m_n_L1 * l6_L1)) m_n_L1)) fun v4 => gd (inb v4 9) (Option.bind ((if (m_hand_L1 (Int32.toNatClampNeg v4)) ≤ 0 then some (l4_L1, v3, m_down_L1) else gd (inb (2 * l4_L1) 8) (gd (inb v4 9) (Option.bind (some (m_hand_L1 (Int32.toNatClampNeg v4))) fun v7 => gd (inb ((2 * l4_L1) + 1) 8) (Option.bind (some (l4_L1 + 1)) fun v8 => some (v8, 0, (upd (upd m_down_L1 (Int32.toNatClampNeg (2 * l4_L1)) v3) (Int32.toNatClampNeg ((2 * l4_L1) + 1)) v7))))))) fun (j5 : Int32 × Int32 × (Nat → Int32)) => Option.bind (some (l6_L1 + 1)) fun v9 => F_X8_rowFrom_d_L1 l1_L1 l2_L1 m_n_L1 m_hand_L1 f j5.1 j5.2.1 v9 j5.2.2)))
def F_X8_rowFrom_d (a0 : Int32) (a1 : Int32) (m_n : Int32) (m_hand : Nat → Int32) (m_down : Nat → Int32) : Option (Int32 × (Nat → Int32)) :=
  Option.bind (F_X8_rowFrom_d_L1 a0 a1 m_n m_hand FU 0 0 1 m_down) fun o_L1 => some (o_L1.1, o_L1.2)
def rm_X8_rowFrom_d : Room := { frames := 0, cells := 0, slots := 0, locals := 0 }
def F_X8_look_L4 (m_viewed_L4 : Int32) (m_up_L4 : Nat → Int32) (m_down_L4 : Nat → Int32) : Nat → Int32 → Int32 →  Option (Int32)
  | 0, _, _ => none
  | f+1, l3_L4, l4_L4 =>
    (if m_viewed_L4 ≤ l4_L4 then some l3_L4 else (if l3_L4 = 0 then gd (inb l4_L4 8) (gd (inb l4_L4 8) (Option.bind ((if (m_down_L4 (Int32.toNatClampNeg l4_L4)) ≤ (m_up_L4 (Int32.toNatClampNeg l4_L4)) then gd (inb l4_L4 8) (gd (inb l4_L4 8) ((if (m_up_L4 (Int32.toNatClampNeg l4_L4)) ≤ (m_down_L4 (Int32.toNatClampNeg l4_L4)) then some 0 else some (-1)))) else some 1)) fun (j7 : Int32) => Option.bind (some (l4_L4 + 1)) fun v10 => F_X8_look_L4 m_viewed_L4 m_up_L4 m_down_L4 f j7 v10)) else some l3_L4))
def F_X8_look_L11 (l3_L11 : Int32) (m_viewed_L11 : Int32) (m_up_L11 : Nat → Int32) (m_down_L11 : Nat → Int32) : Nat → Int32 → (Nat → Int32) →  Option (Nat → Int32)
  | 0, _, _ => none
  | f+1, l4_L11, m_view_L11 =>
    (if m_viewed_L11 ≤ l4_L11 then some m_view_L11 else Option.bind ((if 0 ≤ l3_L11 then gd (inb l4_L11 8) (some (m_up_L11 (Int32.toNatClampNeg l4_L11))) else gd (inb l4_L11 8) (some (m_down_L11 (Int32.toNatClampNeg l4_L11))))) fun (j13 : Int32) => gd (inb l4_L11 8) (Option.bind (some (l4_L11 + 1)) fun v15 => F_X8_look_L11 l3_L11 m_viewed_L11 m_up_L11 m_down_L11 f v15 (upd m_view_L11 (Int32.toNatClampNeg l4_L11) j13)))
def F_X8_look (a0 : Int32) (m_n : Int32) (m_hand : Nat → Int32) (m_view : Nat → Int32) (m_up : Nat → Int32) (m_down : Nat → Int32) : Option (Int32 × Int32 × (Nat → Int32) × (Nat → Int32) × (Nat → Int32)) :=
  Option.bind (F_X8_rowFrom_u a0 1 m_n m_hand m_up) fun p1 => Option.bind (some (2 * p1.1)) fun v2 => Option.bind (F_X8_rowFrom_d a0 (-1) m_n m_hand m_down) fun p3 => Option.bind (F_X8_look_L4 v2 p1.2 p3.2 FU 0 0) fun o_L4 => Option.bind (F_X8_look_L11 o_L4 v2 p1.2 p3.2 FU 0 m_view) fun o_L11 => some (o_L4, v2, o_L11, p1.2, p3.2)
def rm_X8_look : Room := { frames := 1, cells := 0, slots := 0, locals := 27 }
def F_X8_view (a0 : Int32) (a1 : Int32) (m_n : Int32) (m_viewed : Int32) (m_here : Nat → Int32) (m_hand : Nat → Int32) (m_view : Nat → Int32) (m_up : Nat → Int32) (m_down : Nat → Int32) : Option (Int32 × Int32 × Int32 × (Nat → Int32) × (Nat → Int32) × (Nat → Int32) × (Nat → Int32)) :=
  Option.bind (F_X8_isPlace a0 m_n) fun p1 => (if p1 = 0 then some ((-1000001), 0, m_viewed, m_hand, m_view, m_up, m_down) else gd (inb a0 9) ((if (m_here (Int32.toNatClampNeg a0)) = 0 then some ((-1000000), 0, m_viewed, m_hand, m_view, m_up, m_down) else Option.bind (F_X8_take m_here m_hand) fun p4 => Option.bind (F_X8_look a0 m_n p4 m_view m_up m_down) fun p5 => Option.bind (F_X8_in (Int32.toInt64 a1) 0 (Int32.toInt64 (p5.2.1 - 1))) fun p6 => (if p6 = 0 then some ((-1000000), 0, p5.2.1, p4, p5.2.2.1, p5.2.2.2.1, p5.2.2.2.2) else gd (inb a1 8) (some ((p5.2.2.1 (Int32.toNatClampNeg a1)), 0, p5.2.1, p4, p5.2.2.1, p5.2.2.2.1, p5.2.2.2.2))))))
def rm_X8_view : Room := { frames := 2, cells := 0, slots := 0, locals := 51 }
def F_X8_doing_L6 (l4_L6 : Int32) (m_viewed_L6 : Int32) (m_view_L6 : Nat → Int32) (m_ruleRow_L6 : Nat → Int32) : Nat → Int32 → Int32 →  Option (Int32)
  | 0, _, _ => none
  | f+1, l5_L6, l6_L6 =>
    (if m_viewed_L6 ≤ l6_L6 then some l5_L6 else Option.bind ((if l5_L6 = 0 then some 0 else gd (inb ((8 * l4_L6) + l6_L6) 240) (gd (inb l6_L6 8) ((if (m_ruleRow_L6 (Int32.toNatClampNeg ((8 * l4_L6) + l6_L6))) = (m_view_L6 (Int32.toNatClampNeg l6_L6)) then some 1 else some 0))))) fun (j8 : Int32) => Option.bind (some (l6_L6 + 1)) fun v11 => F_X8_doing_L6 l4_L6 m_viewed_L6 m_view_L6 m_ruleRow_L6 f j8 v11)
def F_X8_doing_L2 (m_viewed_L2 : Int32) (m_rules_L2 : Int32) (m_view_L2 : Nat → Int32) (m_ruleSize_L2 : Nat → Int32) (m_ruleRow_L2 : Nat → Int32) : Nat → Int32 → Int32 →  Option (Int32)
  | 0, _, _ => none
  | f+1, l3_L2, l4_L2 =>
    (if m_rules_L2 ≤ l4_L2 then some l3_L2 else gd (inb l4_L2 30) (Option.bind ((if (m_ruleSize_L2 (Int32.toNatClampNeg l4_L2)) = m_viewed_L2 then some 1 else some 0)) fun (j4 : Int32) => Option.bind (F_X8_doing_L6 l4_L2 m_viewed_L2 m_view_L2 m_ruleRow_L2 FU j4 0) fun o_L6 => Option.bind ((if o_L6 = 0 then some l3_L2 else some l4_L2)) fun (j12 : Int32) => Option.bind (some (l4_L2 + 1)) fun v14 => F_X8_doing_L2 m_viewed_L2 m_rules_L2 m_view_L2 m_ruleSize_L2 m_ruleRow_L2 f j12 v14))
def F_X8_doing (a0 : Int32) (m_n : Int32) (m_rules : Int32) (m_hand : Nat → Int32) (m_view : Nat → Int32) (m_up : Nat → Int32) (m_down : Nat → Int32) (m_ruleSize : Nat → Int32) (m_ruleRow : Nat → Int32) (m_ruleDoes : Nat → Int32) : Option (Int32 × Int32 × (Nat → Int32) × (Nat → Int32) × (Nat → Int32)) :=
  Option.bind (F_X8_look a0 m_n m_hand m_view m_up m_down) fun p1 => Option.bind (F_X8_doing_L2 p1.2.1 m_rules p1.2.2.1 m_ruleSize m_ruleRow FU (-1000000) 0) fun o_L2 => (if o_L2 = (-1000000) then some (0, p1.2.1, p1.2.2.1, p1.2.2.2.1, p1.2.2.2.2) else gd (inb o_L2 30) ((if (m_ruleDoes (Int32.toNatClampNeg o_L2)) = 0 then some (0, p1.2.1, p1.2.2.1, p1.2.2.2.1, p1.2.2.2.2) else (if p1.1 = 0 then some (2, p1.2.1, p1.2.2.1, p1.2.2.2.1, p1.2.2.2.2) else gd (inb o_L2 30) ((if (m_ruleDoes (Int32.toNatClampNeg o_L2)) = 1 then some (p1.1, p1.2.1, p1.2.2.1, p1.2.2.2.1, p1.2.2.2.2) else some ((-p1.1), p1.2.1, p1.2.2.1, p1.2.2.2.1, p1.2.2.2.2)))))))
def rm_X8_doing : Room := { frames := 2, cells := 0, slots := 0, locals := 51 }
def F_X8_does (a0 : Int32) (m_n : Int32) (m_viewed : Int32) (m_rules : Int32) (m_here : Nat → Int32) (m_hand : Nat → Int32) (m_view : Nat → Int32) (m_up : Nat → Int32) (m_down : Nat → Int32) (m_ruleSize : Nat → Int32) (m_ruleRow : Nat → Int32) (m_ruleDoes : Nat → Int32) : Option (Int32 × Int32 × Int32 × (Nat → Int32) × (Nat → Int32) × (Nat → Int32) × (Nat → Int32)) :=
  Option.bind (F_X8_isPlace a0 m_n) fun p1 => (if p1 = 0 then some ((-1000001), 0, m_viewed, m_hand, m_view, m_up, m_down) else Option.bind (F_X8_take m_here m_hand) fun p3 => gd (inb a0 9) ((if (m_here (Int32.toNatClampNeg a0)) = 0 then some ((-1000000), 0, m_viewed, p3, m_view, m_up, m_down) else Option.bind (F_X8_doing a0 m_n m_rules p3 m_view m_up m_down m_ruleSize m_ruleRow m_ruleDoes) fun p5 => some (p5.1, 0, p5.2.1, p3, p5.2.2.1, p5.2.2.2.1, p5.2.2.2.2))))
def rm_X8_does : Room := { frames := 3, cells := 0, slots := 0, locals := 77 }
def F_X8_seen (a0 : Int32) (a1 : Int32) (a2 : Int32) (m_n : Int32) (m_hand : Nat → Int32) : Option (Int32) :=
  (if a0 = 0 then gd (nz m_n) (gd (inb (jrem (a2 + a1) m_n) 9) (some (m_hand (Int32.toNatClampNeg (jrem (a2 + a1) m_n))))) else gd (nz m_n) (gd (inb (jrem ((a1 - a2) + m_n) m_n) 9) (some (m_hand (Int32.toNatClampNeg (jrem ((a1 - a2) + m_n) m_n))))))
def rm_X8_seen : Room := { frames := 0, cells := 0, slots := 0, locals := 0 }
def F_X8_findName_L1 (m_n_L1 : Int32) (m_hand_L1 : Nat → Int32) : Nat → Int32 → (Nat → Int32) →  Option (Nat → Int32)
  | 0, _, _ => none
  | f+1, l1_L1, m_name_L1 =>
    (if 9 ≤ l1_L1 then some m_name_L1 else Option.bind ((if m_n_L1 ≤ l1_L1 then some 0 else gd (inb l1_L1 9) (some (m_hand_L1 (Int32.toNatClampNeg l1_L1))))) fun (j3 : Int32) => gd (inb l1_L1 9) (Option.bind (some (l1_L1 + 1)) fun v5 => F_X8_findName_L1 m_n_L1 m_hand_L1 f v5 (upd m_name_L1 (Int32.toNatClampNeg l1_L1) j3)))
def F_X8_findName_L10 (l1_L10 : Int32) (l2_L10 : Int32) (m_n_L10 : Int32) (m_hand_L10 : Nat → Int32) (m_name_L10 : Nat → Int32) : Nat → Int32 → Int32 →  Option (Int32)
  | 0, _, _ => none
  | f+1, l3_L10, l4_L10 =>
    (if m_n_L10 ≤ l4_L10 then some l3_L10 else (if l3_L10 = 0 then Option.bind (F_X8_seen l1_L10 l2_L10 l4_L10 m_n_L10 m_hand_L10) fun p13 => gd (inb l4_L10 9) (Option.bind (some (p13 - (m_name_L10 (Int32.toNatClampNeg l4_L10)))) fun v14 => Option.bind (some (l4_L10 + 1)) fun v15 => F_X8_findName_L10 l1_L10 l2_L10 m_n_L10 m_hand_L10 m_name_L10 f v14 v15) else some l3_L10))
def F_X8_findName_L16 (l1_L16 : Int32) (l2_L16 : Int32) (l3_L16 : Int32) (m_n_L16 : Int32) (m_hand_L16 : Nat → Int32) : Nat → Int32 → (Nat → Int32) →  Option (Nat → Int32)
  | 0, _, _ => none
  | f+1, l4_L16, m_name_L16 =>
    (if m_n_L16 ≤ l4_L16 then some m_name_L16 else (if l3_L16 ≤ 0 then some m_name_L16 else Option.bind (F_X8_seen l1_L16 l2_L16 l4_L16 m_n_L16 m_hand_L16) fun p19 => gd (inb l4_L16 9) (Option.bind (some (l4_L16 + 1)) fun v20 => F_X8_findName_L16 l1_L16 l2_L16 l3_L16 m_n_L16 m_hand_L16 f v20 (upd m_name_L16 (Int32.toNatClampNeg l4_L16) p19))))
def F_X8_findName_L8 (l1_L8 : Int32) (m_n_L8 : Int32) (m_hand_L8 : Nat → Int32) : Nat → Int32 → (Nat → Int32) →  Option (Nat → Int32)
  | 0, _, _ => none
  | f+1, l2_L8, m_name_L8 =>
    (if m_n_L8 ≤ l2_L8 then some m_name_L8 else Option.bind (F_X8_findName_L10 l1_L8 l2_L8 m_n_L8 m_hand_L8 m_name_L8 FU 0 0) fun o_L10 => Option.bind (F_X8_findName_L16 l1_L8 l2_L8 o_L10 m_n_L8 m_hand_L8 FU 0 m_name_L8) fun o_L16 => Option.bind (some (l2_L8 + 1)) fun v21 => F_X8_findName_L8 l1_L8 m_n_L8 m_hand_L8 f v21 o_L16)
def F_X8_findName_L6 (m_n_L6 : Int32) (m_hand_L6 : Nat → Int32) : Nat → Int32 → (Nat → Int32) →  Option (Nat → Int32)
  | 0, _, _ => none
  | f+1, l1_L6, m_name_L6 =>
    (if 2 ≤ l1_L6 then some m_name_L6 else Option.bind (F_X8_findName_L8 l1_L6 m_n_L6 m_hand_L6 FU 0 m_name_L6) fun o_L8 => Option.bind (some (l1_L6 + 1)) fun v22 => F_X8_findName_L6 m_n_L6 m_hand_L6 f v22 o_L8)
def F_X8_findName (m_n : Int32) (m_hand : Nat → Int32) (m_name : Nat → Int32) : Option (Nat → Int32) :=
  Option.bind (F_X8_findName_L1 m_n m_hand FU 0 m_name) fun o_L1 => Option.bind (F_X8_findName_L6 m_n m_hand FU 0 o_L1) fun o_L6 => some o_L6
def rm_X8_findName : Room := { frames := 1, cells := 0, slots := 0, locals := 23 }
def F_X8_same_L3 (l1_L3 : Int32) (l3_L3 : Int32) (m_n_L3 : Int32) (m_hand_L3 : Nat → Int32) : Nat → Int32 → Int32 →  Option (Int32)
  | 0, _, _ => none
  | f+1, l4_L3, l5_L3 =>
    (if m_n_L3 ≤ l5_L3 then some l4_L3 else Option.bind ((if l4_L3 = 0 then some 0 else Option.bind (F_X8_seen l1_L3 l3_L3 l5_L3 m_n_L3 m_hand_L3) fun p7 => gd (inb l5_L3 9) ((if p7 = (m_hand_L3 (Int32.toNatClampNeg l5_L3)) then some 1 else some 0)))) fun (j5 : Int32) => Option.bind (some (l5_L3 + 1)) fun v9 => F_X8_same_L3 l1_L3 l3_L3 m_n_L3 m_hand_L3 f j5 v9)
def F_X8_same_L1 (l1_L1 : Int32) (m_n_L1 : Int32) (m_hand_L1 : Nat → Int32) : Nat → Int32 → Int32 →  Option (Int32)
  | 0, _, _ => none
  | f+1, l2_L1, l3_L1 =>
    (if m_n_L1 ≤ l3_L1 then some l2_L1 else Option.bind (F_X8_same_L3 l1_L1 l3_L1 m_n_L1 m_hand_L1 FU 1 0) fun o_L3 => Option.bind ((if o_L3 = 0 then some 0 else some 1)) fun (j10 : Int32) => Option.bind (some (l2_L1 + j10)) fun v12 => Option.bind (some (l3_L1 + 1)) fun v13 => F_X8_same_L1 l1_L1 m_n_L1 m_hand_L1 f v12 v13)
def F_X8_same (a0 : Int32) (m_n : Int32) (m_hand : Nat → Int32) : Option (Int32) :=
  Option.bind (F_X8_same_L1 a0 m_n m_hand FU 0 0) fun o_L1 => some o_L1
def rm_X8_same : Room := { frames := 1, cells := 0, slots := 0, locals := 23 }
def F_X8_name (a0 : Int32) (m_n : Int32) (m_here : Nat → Int32) (m_hand : Nat → Int32) (m_name : Nat → Int32) : Option (Int32 × Int32 × (Nat → Int32) × (Nat → Int32)) :=
  Option.bind (F_X8_isPlace a0 m_n) fun p1 => (if p1 = 0 then some ((-1000001), 0, m_hand, m_name) else Option.bind (F_X8_take m_here m_hand) fun p3 => Option.bind (F_X8_findName m_n p3 m_name) fun p4 => gd (inb a0 9) (some ((p4 (Int32.toNatClampNeg a0)), 0, p3, p4)))
def rm_X8_name : Room := { frames := 2, cells := 0, slots := 0, locals := 47 }
def F_X8_isGoal_L10 (l8_L10 : Int32) (m_n_L10 : Int32) (m_hand_L10 : Nat → Int32) : Nat → Int32 →  Option (Int32)
  | 0, _ => none
  | f+1, l9_L10 =>
    gd (nz m_n_L10) (gd (inb (jrem (l8_L10 + l9_L10) m_n_L10) 9) ((if (m_hand_L10 (Int32.toNatClampNeg (jrem (l8_L10 + l9_L10) m_n_L10))) = 0 then Option.bind (some (l9_L10 + 1)) fun v12 => F_X8_isGoal_L10 l8_L10 m_n_L10 m_hand_L10 f v12 else some l9_L10)))
def F_X8_isGoal_L2 (m_n_L2 : Int32) (m_hand_L2 : Nat → Int32) : Nat → Int32 → Int32 → Int32 → Int32 → Int32 → Int32 →  Option (Int32 × Int32 × Int32 × Int32 × Int32)
  | 0, _, _, _, _, _, _ => none
  | f+1, l3_L2, l4_L2, l5_L2, l6_L2, l7_L2, l8_L2 =>
    (if m_n_L2 ≤ l8_L2 then some (l3_L2, l4_L2, l5_L2, l6_L2, l7_L2) else gd (inb l8_L2 9) (Option.bind ((if (m_hand_L2 (Int32.toNatClampNeg l8_L2)) ≤ 0 then some (l3_L2, l4_L2, l5_L2, l6_L2, l7_L2) else Option.bind (some (l3_L2 + 1)) fun v6 => Option.bind ((if l6_L2 = 0 then some 0 else gd (inb l8_L2 9) ((if (m_hand_L2 (Int32.toNatClampNeg l8_L2)) = 1 then some 1 else some 0)))) fun (j7 : Int32) => Option.bind (F_X8_isGoal_L10 l8_L2 m_n_L2 m_hand_L2 FU 1) fun o_L10 => Option.bind ((if l4_L2 ≤ o_L10 then some l4_L2 else some o_L10)) fun (j13 : Int32) => Option.bind ((if o_L10 ≤ l5_L2 then some l5_L2 else some o_L10)) fun (j15 : Int32) => Option.bind ((if o_L10 ≤ 1 then some 0 else some 1)) fun (j17 : Int32) => Option.bind (some (l7_L2 + j17)) fun v19 => some (v6, j13, j15, j7, v19))) fun (j4 : Int32 × Int32 × Int32 × Int32 × Int32) => Option.bind (some (l8_L2 + 1)) fun v20 => F_X8_isGoal_L2 m_n_L2 m_hand_L2 f j4.1 j4.2.1 j4.2.2.1 j4.2.2.2.1 j4.2.2.2.2 v20))
def F_X8_isGoal (a0 : Int32) (a1 : Int32) (m_n : Int32) (m_hand : Nat → Int32) : Option (Int32) :=
  Option.bind (some (m_n + 1)) fun v1 => Option.bind (F_X8_isGoal_L2 m_n m_hand FU 0 v1 0 1 0 0) fun o_L2 => (if a0 = 0 then (if o_L2.1 = 1 then some 1 else some 0) else (if o_L2.2.2.2.1 = 0 then some 0 else (if a0 = 1 then gd (nz a1) ((if o_L2.2.1 < (m_n / a1) then some 0 else gd (nz a1) ((if ((m_n / a1) + 1) < o_L2.2.2.1 then some 0 else some 1)))) else (if 2 ≤ o_L2.2.2.2.2 then some 0 else some 1))))
def rm_X8_isGoal : Room := { frames := 0, cells := 0, slots := 0, locals := 0 }
def F_X8_goal (a0 : Int32) (m_n : Int32) (m_robots : Int32) (m_here : Nat → Int32) (m_hand : Nat → Int32) : Option (Int32 × Int32 × (Nat → Int32)) :=
  Option.bind (F_X8_in (Int32.toInt64 a0) 0 2) fun p1 => (if p1 = 0 then some ((-1000001), 0, m_hand) else Option.bind (F_X8_take m_here m_hand) fun p3 => (if m_robots ≤ 0 then some (0, 0, p3) else Option.bind (F_X8_isGoal a0 m_robots m_n p3) fun p5 => (if p5 = 0 then some (0, 0, p3) else some (1, 0, p3))))
def rm_X8_goal : Room := { frames := 1, cells := 0, slots := 0, locals := 29 }
def F_X8_step_L3 (m_n_L3 : Int32) (m_rules_L3 : Int32) (m_hand_L3 : Nat → Int32) (m_ruleSize_L3 : Nat → Int32) (m_ruleRow_L3 : Nat → Int32) (m_ruleDoes_L3 : Nat → Int32) : Nat → Int32 → Int32 → (Nat → Int32) → (Nat → Int32) → (Nat → Int32) → (Nat → Int32) →  Option (Int32 × (Nat → Int32) × (Nat → Int32) × (Nat → Int32) × (Nat → Int32))
  | 0, _, _, _, _, _, _ => none
  | f+1, l1_L3, m_viewed_L3, m_view_L3, m_up_L3, m_down_L3, m_goes_L3 =>
    (if m_n_L3 ≤ l1_L3 then some (m_viewed_L3, m_view_L3, m_up_L3, m_down_L3, m_goes_L3) else gd (inb l1_L3 9) (Option.bind ((if (m_hand_L3 (Int32.toNatClampNeg l1_L3)) = 0 then some (0, m_viewed_L3, m_view_L3, m_up_L3, m_down_L3) else Option.bind (F_X8_doing l1_L3 m_n_L3 m_rules_L3 m_hand_L3 m_view_L3 m_up_L3 m_down_L3 m_ruleSize_L3 m_ruleRow_L3 m_ruleDoes_L3) fun p7 => some (p7.1, p7.2.1, p7.2.2.1, p7.2.2.2.1, p7.2.2.2.2))) fun (j5 : Int32 × Int32 × (Nat → Int32) × (Nat → Int32) × (Nat → Int32)) => gd (inb l1_L3 9) (Option.bind (some (l1_L3 + 1)) fun v8 => F_X8_step_L3 m_n_L3 m_rules_L3 m_hand_L3 m_ruleSize_L3 m_ruleRow_L3 m_ruleDoes_L3 f v8 j5.2.1 j5.2.2.1 j5.2.2.2.1 j5.2.2.2.2 (upd m_goes_L3 (Int32.toNatClampNeg l1_L3) j5.1))))
def F_X8_step_L9 (m_n_L9 : Int32) (m_hand_L9 : Nat → Int32) (m_goes_L9 : Nat → Int32) : Nat → Int32 → Int32 → (Nat → Int32) →  Option (Int32 × (Nat → Int32))
  | 0, _, _, _ => none
  | f+1, l1_L9, l2_L9, m_here_L9 =>
    (if m_n_L9 ≤ l2_L9 then some (l1_L9, m_here_L9) else gd (inb l2_L9 9) (Option.bind ((if (m_goes_L9 (Int32.toNatClampNeg l2_L9)) = 0 then some (l1_L9, m_here_L9) else gd (inb l2_L9 9) (Option.bind (some (l1_L9 + (m_hand_L9 (Int32.toNatClampNeg l2_L9)))) fun v13 => gd (inb l2_L9 9) (gd (inb l2_L9 9) (Option.bind (some ((m_here_L9 (Int32.toNatClampNeg l2_L9)) - (m_hand_L9 (Int32.toNatClampNeg l2_L9)))) fun v14 => gd (inb l2_L9 9) (gd (inb l2_L9 9) (Option.bind ((if 0 ≤ (m_goes_L9 (Int32.toNatClampNeg l2_L9)) then some 1 else some (m_n_L9 - 1))) fun (j15 : Int32) => gd (nz m_n_L9) (Option.bind (some (jrem (l2_L9 + j15) m_n_L9)) fun v17 => gd (inb v17 9) (gd (inb l2_L9 9) (Option.bind (some (((upd m_here_L9 (Int32.toNatClampNeg l2_L9) v14) (Int32.toNatClampNeg v17)) + (m_hand_L9 (Int32.toNatClampNeg l2_L9)))) fun v18 => gd (inb v17 9) (some (v13, (upd (upd m_here_L9 (Int32.toNatClampNeg l2_L9) v14) (Int32.toNatClampNeg v17) v18))))))))))))) fun (j11 : Int32 × (Nat → Int32)) => Option.bind (some (l2_L9 + 1)) fun v19 => F_X8_step_L9 m_n_L9 m_hand_L9 m_goes_L9 f j11.1 v19 j11.2))
def F_X8_step (m_n : Int32) (m_robots : Int32) (m_viewed : Int32) (m_rules : Int32) (m_here : Nat → Int32) (m_hand : Nat → Int32) (m_view : Nat → Int32) (m_up : Nat → Int32) (m_down : Nat → Int32) (m_ruleSize : Nat → Int32) (m_ruleRow : Nat → Int32) (m_ruleDoes : Nat → Int32) (m_goes : Nat → Int32) : Option (Int32 × Int32 × Int32 × (Nat → Int32) × (Nat → Int32) × (Nat → Int32) × (Nat → Int32) × (Nat → Int32) × (Nat → Int32)) :=
  (if m_robots = 0 then some ((-1000002), 0, m_viewed, m_here, m_hand, m_view, m_up, m_down, m_goes) else Option.bind (F_X8_take m_here m_hand) fun p2 => Option.bind (F_X8_step_L3 m_n m_rules p2 m_ruleSize m_ruleRow m_ruleDoes FU 0 m_viewed m_view m_up m_down m_goes) fun o_L3 => Option.bind (F_X8_step_L9 m_n p2 o_L3.2.2.2.2 FU 0 0 m_here) fun o_L9 => some (o_L9.1, 0, o_L3.1, o_L9.2, p2, o_L3.2.1, o_L3.2.2.1, o_L3.2.2.2.1, o_L3.2.2.2.2))
def rm_X8_step : Room := { frames := 3, cells := 0, slots := 0, locals := 77 }
def F_X8_go (a0 : Int32) (a1 : Int32) (m_n : Int32) (m_viewed : Int32) (m_rules : Int32) (m_here : Nat → Int32) (m_hand : Nat → Int32) (m_view : Nat → Int32) (m_up : Nat → Int32) (m_down : Nat → Int32) (m_ruleSize : Nat → Int32) (m_ruleRow : Nat → Int32) (m_ruleDoes : Nat → Int32) : Option (Int32 × Int32 × Int32 × (Nat → Int32) × (Nat → Int32) × (Nat → Int32) × (Nat → Int32) × (Nat → Int32)) :=
  Option.bind (F_X8_isPlace a0 m_n) fun p1 => (if p1 = 0 then some ((-1000001), 0, m_viewed, m_here, m_hand, m_view, m_up, m_down) else Option.bind (F_X8_take m_here m_hand) fun p3 => gd (inb a0 9) (Option.bind ((if (m_here (Int32.toNatClampNeg a0)) = 0 then some (0, m_viewed, m_view, m_up, m_down) else Option.bind (F_X8_doing a0 m_n m_rules p3 m_view m_up m_down m_ruleSize m_ruleRow m_ruleDoes) fun p6 => some (p6.1, p6.2.1, p6.2.2.1, p6.2.2.2.1, p6.2.2.2.2))) fun (j4 : Int32 × Int32 × (Nat → Int32) × (Nat → Int32) × (Nat → Int32)) => (if j4.1 = 0 then some ((-1000002), 0, j4.2.1, m_here, p3, j4.2.2.1, j4.2.2.2.1, j4.2.2.2.2) else Option.bind ((if j4.1 = 2 then (if a1 = 1 then some 1 else some (-1)) else some j4.1)) fun (j8 : Int32) => gd (inb a0 9) (Option.bind (some ((m_here (Int32.toNatClampNeg a0)) - 1)) fun v11 => gd (inb a0 9) (gd (nz m_n) (gd (inb (jrem ((a0 + j8) + m_n) m_n) 9) (Option.bind (some (((upd m_here (Int32.toNatClampNeg a0) v11) (Int32.toNatClampNeg (jrem ((a0 + j8) + m_n) m_n))) + 1)) fun v12 => gd (inb (jrem ((a0 + j8) + m_n) m_n) 9) (some (1, 0, j4.2.1, (upd (upd m_here (Int32.toNatClampNeg a0) v11) (Int32.toNatClampNeg (jrem ((a0 + j8) + m_n) m_n)) v12), p3, j4.2.2.1, j4.2.2.2.1, j4.2.2.2.2)))))))))
def rm_X8_go : Room := { frames := 3, cells := 0, slots := 0, locals := 77 }
def F_X8_feed_L5 (l1_L5 : Int64) : Nat → Int32 → Int32 → (Nat → Int32) →  Option (Int32 × (Nat → Int32))
  | 0, _, _, _ => none
  | f+1, l4_L5, m_taped_L5, m_tape_L5 =>
    (if l4_L5 < 0 then some (m_taped_L5, m_tape_L5) else Option.bind (some (Int64.toInt32 ((jlshr l1_L5 (8 * l4_L5)) &&& 255))) fun v7 => gd (inb m_taped_L5 400) (Option.bind (some (m_taped_L5 + 1)) fun v8 => Option.bind (some (l4_L5 + (-1))) fun v9 => F_X8_feed_L5 l1_L5 f v9 v8 (upd m_tape_L5 (Int32.toNatClampNeg m_taped_L5) v7)))
def F_X8_feed (a0 : Int64) (a1 : Int32) (m_taped : Int32) (m_tape : Nat → Int32) : Option (Int32 × Int32 × Int32 × (Nat → Int32)) :=
  Option.bind (F_X8_in (Int32.toInt64 a1) 1 8) fun p1 => (if p1 = 0 then some ((-1000001), 0, m_taped, m_tape) else (if (m_taped + a1) ≤ 400 then Option.bind (some (a1 - 1)) fun v4 => Option.bind (F_X8_feed_L5 a0 FU v4 m_taped m_tape) fun o_L5 => some (o_L5.1, 0, o_L5.1, o_L5.2) else some ((-1000003), 0, m_taped, m_tape)))
def rm_X8_feed : Room := { frames := 1, cells := 0, slots := 0, locals := 25 }
def F_X8_byteAt (a0 : Int32) (m_size : Int32) (m_tape : Nat → Int32) : Option (Int32) :=
  (if m_size ≤ a0 then some (-1000000) else gd (inb a0 400) (some (m_tape (Int32.toNatClampNeg a0))))
def rm_X8_byteAt : Room := { frames := 0, cells := 0, slots := 0, locals := 0 }
def F_X8_isLetter (a0 : Int32)  : Option (Int32) :=
  (if a0 < 97 then some 0 else (if 122 < a0 then some 0 else some 1))
def rm_X8_isLetter : Room := { frames := 0, cells := 0, slots := 0, locals := 0 }
def F_X8_isFigure (a0 : Int32)  : Option (Int32) :=
  (if a0 < 48 then some 0 else (if 57 < a0 then some 0 else some 1))
def rm_X8_isFigure : Room := { frames := 0, cells := 0, slots := 0, locals := 0 }
def F_X8_next_L1 (m_size_L1 : Int32) (m_tape_L1 : Nat → Int32) : Nat → Int32 →  Option (Int32)
  | 0, _ => none
  | f+1, m_at_L1 =>
    Option.bind (F_X8_byteAt m_at_L1 m_size_L1 m_tape_L1) fun p2 => (if p2 = 32 then Option.bind (some (m_at_L1 + 1)) fun v4 => F_X8_next_L1 m_size_L1 m_tape_L1 f v4 else Option.bind (F_X8_byteAt m_at_L1 m_size_L1 m_tape_L1) fun p5 => (if p5 = 10 then Option.bind (some (m_at_L1 + 1)) fun v7 => F_X8_next_L1 m_size_L1 m_tape_L1 f v7 else some m_at_L1))
def F_X8_next_L19 (m_size_L19 : Int32) (m_tape_L19 : Nat → Int32) : Nat → Int32 →  Option (Int32)
  | 0, _ => none
  | f+1, m_at_L19 =>
    Option.bind (F_X8_byteAt m_at_L19 m_size_L19 m_tape_L19) fun p20 => Option.bind (F_X8_isFigure p20) fun p21 => (if p21 = 0 then some m_at_L19 else Option.bind (some (m_at_L19 + 1)) fun v23 => F_X8_next_L19 m_size_L19 m_tape_L19 f v23)
def F_X8_next_L26 (m_size_L26 : Int32) (m_tape_L26 : Nat → Int32) : Nat → Int32 →  Option (Int32)
  | 0, _ => none
  | f+1, m_at_L26 =>
    Option.bind (F_X8_byteAt m_at_L26 m_size_L26 m_tape_L26) fun p27 => Option.bind (F_X8_isLetter p27) fun p28 => (if p28 = 0 then some m_at_L26 else Option.bind (some (m_at_L26 + 1)) fun v30 => F_X8_next_L26 m_size_L26 m_tape_L26 f v30)
def F_X8_next (m_size : Int32) (m_at : Int32) (m_tape : Nat → Int32) : Option (Int32 × Int32 × Int32 × Int32) :=
  Option.bind (F_X8_next_L1 m_size m_tape FU m_at) fun o_L1 => Option.bind (F_X8_byteAt o_L1 m_size m_tape) fun p8 => Option.bind ((if p8 = (-1000000) then some (o_L1, 1) else Option.bind (F_X8_isLetter p8) fun p11 => (if p11 = 0 then Option.bind (F_X8_isFigure p8) fun p13 => (if p13 = 0 then Option.bind (some (o_L1 + 1)) fun v15 => Option.bind ((if p8 = 59 then some 4 else (if p8 = 44 then some 4 else some 0))) fun (j16 : Int32) => some (v15, j16) else Option.bind (F_X8_next_L19 m_size m_tape FU o_L1) fun o_L19 => Option.bind ((if (o_L19 - o_L1) ≤ 2 then some 3 else some 0)) fun (j24 : Int32) => some (o_L19, j24)) else Option.bind (F_X8_next_L26 m_size m_tape FU o_L1) fun o_L26 => Option.bind ((if (o_L26 - o_L1) ≤ 6 then some 2 else some 0)) fun (j31 : Int32) => some (o_L26, j31)))) fun (j9 : Int32 × Int32) => some (j9.1, j9.2, o_L1, j9.1)
def rm_X8_next : Room := { frames := 1, cells := 0, slots := 0, locals := 21 }
def F_X8_bad (a0 : Int32) (m_place : Int32) (m_fault : Int32) (m_faultAt : Int32) : Option (Int32 × Int32) :=
  (if m_fault = 0 then some (a0, m_place) else some (m_fault, m_faultAt))
def rm_X8_bad : Room := { frames := 0, cells := 0, slots := 0, locals := 0 }
def F_X8_need (a0 : Int32) (m_size : Int32) (m_at : Int32) (m_sort : Int32) (m_place : Int32) (m_end : Int32) (m_fault : Int32) (m_faultAt : Int32) (m_tape : Nat → Int32) : Option (Int32 × Int32 × Int32 × Int32 × Int32 × Int32) :=
  Option.bind ((if a0 = 0 then Option.bind (F_X8_bad 1 m_place m_fault m_faultAt) fun p3 => some (p3.1, p3.2) else some (m_fault, m_faultAt))) fun (j1 : Int32 × Int32) => (if j1.1 = 0 then Option.bind (F_X8_next m_size m_at m_tape) fun p5 => some (p5.1, p5.2.1, p5.2.2.1, p5.2.2.2, j1.1, j1.2) else some (m_at, m_sort, m_place, m_end, j1.1, j1.2))
def rm_X8_need : Room := { frames := 2, cells := 0, slots := 0, locals := 42 }
def F_X8_is (a0 : Int32) (m_sort : Int32) (m_place : Int32) (m_tape : Nat → Int32) : Option (Int32) :=
  (if m_sort = 4 then gd (inb m_place 400) ((if (m_tape (Int32.toNatClampNeg m_place)) = a0 then some 1 else some 0)) else some 0)
def rm_X8_is : Room := { frames := 0, cells := 0, slots := 0, locals := 0 }
def F_X8_word_L1 (m_sort_L1 : Int32) (m_end_L1 : Int32) (m_tape_L1 : Nat → Int32) : Nat → Int64 → Int32 →  Option (Int64)
  | 0, _, _ => none
  | f+1, l1_L1, l3_L1 =>
    (if m_end_L1 ≤ l3_L1 then some l1_L1 else (if m_sort_L1 = 2 then gd (inb l3_L1 400) (Option.bind (some ((jlshl l1_L1 8) ||| (Int32.toInt64 (m_tape_L1 (Int32.toNatClampNeg l3_L1))))) fun v4 => Option.bind (some (l3_L1 + 1)) fun v5 => F_X8_word_L1 m_sort_L1 m_end_L1 m_tape_L1 f v4 v5) else some l1_L1))
def F_X8_word (m_sort : Int32) (m_place : Int32) (m_end : Int32) (m_tape : Nat → Int32) : Option (Int64) :=
  Option.bind (F_X8_word_L1 m_sort m_end m_tape FU 0 m_place) fun o_L1 => some o_L1
def rm_X8_word : Room := { frames := 0, cells := 0, slots := 0, locals := 0 }
def F_X8_aNumber_L1 (m_sort_L1 : Int32) (m_end_L1 : Int32) (m_tape_L1 : Nat → Int32) : Nat → Int32 → Int32 →  Option (Int32)
  | 0, _, _ => none
  | f+1, l1_L1, l2_L1 =>
    (if m_end_L1 ≤ l2_L1 then some l1_L1 else (if m_sort_L1 = 3 then gd (inb l2_L1 400) (Option.bind (some (((10 * l1_L1) + (m_tape_L1 (Int32.toNatClampNeg l2_L1))) - 48)) fun v4 => Option.bind (some (l2_L1 + 1)) fun v5 => F_X8_aNumber_L1 m_sort_L1 m_end_L1 m_tape_L1 f v4 v5) else some l1_L1))
def F_X8_aNumber (m_size : Int32) (m_at : Int32) (m_sort : Int32) (m_place : Int32) (m_end : Int32) (m_fault : Int32) (m_faultAt : Int32) (m_tape : Nat → Int32) : Option (Int32 × Int32 × Int32 × Int32 × Int32 × Int32 × Int32) :=
  Option.bind (F_X8_aNumber_L1 m_sort m_end m_tape FU 0 m_place) fun o_L1 => Option.bind ((if m_sort = 3 then (if o_L1 = 0 then Option.bind (F_X8_bad 2 m_place m_fault m_faultAt) fun p9 => some (p9.1, p9.2) else some (m_fault, m_faultAt)) else some (m_fault, m_faultAt))) fun (j6 : Int32 × Int32) => (if m_sort = 3 then Option.bind (F_X8_need 1 m_size m_at m_sort m_place m_end j6.1 j6.2 m_tape) fun p12 => some (o_L1, p12.1, p12.2.1, p12.2.2.1, p12.2.2.2.1, p12.2.2.2.2.1, p12.2.2.2.2.2) else Option.bind (F_X8_need 0 m_size m_at m_sort m_place m_end j6.1 j6.2 m_tape) fun p11 => some (o_L1, p11.1, p11.2.1, p11.2.2.1, p11.2.2.2.1, p11.2.2.2.2.1, p11.2.2.2.2.2))
def rm_X8_aNumber : Room := { frames := 3, cells := 0, slots := 0, locals := 63 }
def F_X8_readPair (a0 : Int32) (m_size : Int32) (m_at : Int32) (m_sort : Int32) (m_place : Int32) (m_end : Int32) (m_fault : Int32) (m_faultAt : Int32) (m_tape : Nat → Int32) (m_own : Nat → Int32) : Option (Int32 × Int32 × Int32 × Int32 × Int32 × Int32 × (Nat → Int32)) :=
  Option.bind (F_X8_aNumber m_size m_at m_sort m_place m_end m_fault m_faultAt m_tape) fun p1 => Option.bind (F_X8_aNumber m_size p1.2.1 p1.2.2.1 p1.2.2.2.1 p1.2.2.2.2.1 p1.2.2.2.2.2.1 p1.2.2.2.2.2.2 m_tape) fun p2 => gd (inb (2 * a0) 8) (gd (inb ((2 * a0) + 1) 8) (some (p2.2.1, p2.2.2.1, p2.2.2.2.1, p2.2.2.2.2.1, p2.2.2.2.2.2.1, p2.2.2.2.2.2.2, (upd (upd m_own (Int32.toNatClampNeg (2 * a0)) p1.1) (Int32.toNatClampNeg ((2 * a0) + 1)) p2.1))))
def rm_X8_readPair : Room := { frames := 4, cells := 0, slots := 0, locals := 85 }
def F_X8_isRead_L5 (l1_L5 : Int32) (l3_L5 : Int32) (m_readRow_L5 : Nat → Int32) (m_own_L5 : Nat → Int32) : Nat → Int32 → Int32 →  Option (Int32)
  | 0, _, _ => none
  | f+1, l4_L5, l5_L5 =>
    (if (2 * l1_L5) ≤ l5_L5 then some l4_L5 else Option.bind ((if l4_L5 = 0 then some 0 else gd (inb ((8 * l3_L5) + l5_L5) 240) (gd (inb l5_L5 8) ((if (m_readRow_L5 (Int32.toNatClampNeg ((8 * l3_L5) + l5_L5))) = (m_own_L5 (Int32.toNatClampNeg l5_L5)) then some 1 else some 0))))) fun (j7 : Int32) => Option.bind (some (l5_L5 + 1)) fun v10 => F_X8_isRead_L5 l1_L5 l3_L5 m_readRow_L5 m_own_L5 f j7 v10)
def F_X8_isRead_L1 (l1_L1 : Int32) (m_read_L1 : Int32) (m_readSize_L1 : Nat → Int32) (m_readRow_L1 : Nat → Int32) (m_own_L1 : Nat → Int32) : Nat → Int32 → Int32 →  Option (Int32)
  | 0, _, _ => none
  | f+1, l2_L1, l3_L1 =>
    (if m_read_L1 ≤ l3_L1 then some l2_L1 else gd (inb l3_L1 30) (Option.bind ((if (m_readSize_L1 (Int32.toNatClampNeg l3_L1)) = (2 * l1_L1) then some 1 else some 0)) fun (j3 : Int32) => Option.bind (F_X8_isRead_L5 l1_L1 l3_L1 m_readRow_L1 m_own_L1 FU j3 0) fun o_L5 => Option.bind ((if l2_L1 = 0 then (if o_L5 = 0 then some 0 else some 1) else some 1)) fun (j11 : Int32) => Option.bind (some (l3_L1 + 1)) fun v14 => F_X8_isRead_L1 l1_L1 m_read_L1 m_readSize_L1 m_readRow_L1 m_own_L1 f j11 v14))
def F_X8_isRead (a0 : Int32) (m_read : Int32) (m_readSize : Nat → Int32) (m_readRow : Nat → Int32) (m_own : Nat → Int32) : Option (Int32) :=
  Option.bind (F_X8_isRead_L1 a0 m_read m_readSize m_readRow m_own FU 0 0) fun o_L1 => gd (isB o_L1) (some o_L1)
def rm_X8_isRead : Room := { frames := 0, cells := 0, slots := 0, locals := 0 }
def F_X8_readRule_L13 (m_size_L13 : Int32) (m_tape_L13 : Nat → Int32) : Nat → Int32 → Int32 → Int32 → Int32 → Int32 → Int32 → Int32 → (Nat → Int32) →  Option (Int32 × Int32 × Int32 × Int32 × Int32 × Int32 × Int32 × (Nat → Int32))
  | 0, _, _, _, _, _, _, _, _ => none
  | f+1, l1_L13, m_at_L13, m_sort_L13, m_place_L13, m_end_L13, m_fault_L13, m_faultAt_L13, m_own_L13 =>
    (if m_fault_L13 = 0 then Option.bind (F_X8_is 44 m_sort_L13 m_place_L13 m_tape_L13) fun p15 => (if p15 = 0 then some (l1_L13, m_at_L13, m_sort_L13, m_place_L13, m_end_L13, m_fault_L13, m_faultAt_L13, m_own_L13) else (if l1_L13 = 4 then Option.bind (F_X8_bad 3 m_place_L13 m_fault_L13 m_faultAt_L13) fun p21 => F_X8_readRule_L13 m_size_L13 m_tape_L13 f l1_L13 m_at_L13 m_sort_L13 m_place_L13 m_end_L13 p21.1 p21.2 m_own_L13 else Option.bind (F_X8_next m_size_L13 m_at_L13 m_tape_L13) fun p18 => Option.bind (F_X8_readPair l1_L13 m_size_L13 p18.1 p18.2.1 p18.2.2.1 p18.2.2.2 m_fault_L13 m_faultAt_L13 m_tape_L13 m_own_L13) fun p19 => Option.bind (some (l1_L13 + 1)) fun v20 => F_X8_readRule_L13 m_size_L13 m_tape_L13 f v20 p19.1 p19.2.1 p19.2.2.1 p19.2.2.2.1 p19.2.2.2.2.1 p19.2.2.2.2.2.1 p19.2.2.2.2.2.2)) else some (l1_L13, m_at_L13, m_sort_L13, m_place_L13, m_end_L13, m_fault_L13, m_faultAt_L13, m_own_L13))
def F_X8_readRule_L41 (m_read_L41 : Int32) (m_own_L41 : Nat → Int32) : Nat → Int32 → (Nat → Int32) →  Option (Nat → Int32)
  | 0, _, _ => none
  | f+1, l5_L41, m_readRow_L41 =>
    (if 8 ≤ l5_L41 then some m_readRow_L41 else gd (inb l5_L41 8) (Option.bind (some (m_own_L41 (Int32.toNatClampNeg l5_L41))) fun v43 => gd (inb ((8 * m_read_L41) + l5_L41) 240) (Option.bind (some (l5_L41 + 1)) fun v44 => F_X8_readRule_L41 m_read_L41 m_own_L41 f v44 (upd m_readRow_L41 (Int32.toNatClampNeg ((8 * m_read_L41) + l5_L41)) v43))))
def F_X8_readRule (m_size : Int32) (m_at : Int32) (m_sort : Int32) (m_place : Int32) (m_end : Int32) (m_fault : Int32) (m_faultAt : Int32) (m_read : Int32) (m_tape : Nat → Int32) (m_readSize : Nat → Int32) (m_readRow : Nat → Int32) (m_readDoes : Nat → Int32) (m_own : Nat → Int32) : Option (Int32 × Int32 × Int32 × Int32 × Int32 × Int32 × Int32 × (Nat → Int32) × (Nat → Int32) × (Nat → Int32) × (Nat → Int32)) :=
  Option.bind (F_X8_word m_sort m_place m_end m_tape) fun p1 => Option.bind ((if (lg_cmp p1 7562597) = 0 then (if m_read = 30 then Option.bind (F_X8_bad 3 m_place m_fault m_faultAt) fun p5 => some (p5.1, p5.2) else some (m_fault, m_faultAt)) else some (m_fault, m_faultAt))) fun (j2 : Int32 × Int32) => Option.bind (F_X8_word m_sort m_place m_end m_tape) fun p6 => Option.bind ((if (lg_cmp p6 7562597) = 0 then some 1 else some 0)) fun (j7 : Int32) => Option.bind (F_X8_need j7 m_size m_at m_sort m_place m_end j2.1 j2.2 m_tape) fun p9 => Option.bind ((if p9.2.2.2.2.1 = 0 then Option.bind (F_X8_readPair 0 m_size p9.1 p9.2.1 p9.2.2.1 p9.2.2.2.1 p9.2.2.2.2.1 p9.2.2.2.2.2 m_tape m_own) fun p12 => some (1, p12.1, p12.2.1, p12.2.2.1, p12.2.2.2.1, p12.2.2.2.2.1, p12.2.2.2.2.2.1, p12.2.2.2.2.2.2) else some (0, p9.1, p9.2.1, p9.2.2.1, p9.2.2.2.1, p9.2.2.2.2.1, p9.2.2.2.2.2, m_own))) fun (j10 : Int32 × Int32 × Int32 × Int32 × Int32 × Int32 × Int32 × (Nat → Int32)) => Option.bind (F_X8_readRule_L13 m_size m_tape FU j10.1 j10.2.1 j10.2.2.1 j10.2.2.2.1 j10.2.2.2.2.1 j10.2.2.2.2.2.1 j10.2.2.2.2.2.2.1 j10.2.2.2.2.2.2.2) fun o_L13 => (if o_L13.2.2.2.2.2.1 ≤ 0 then Option.bind (F_X8_word o_L13.2.2.1 o_L13.2.2.2.1 o_L13.2.2.2.2.1 m_tape) fun p23 => Option.bind ((if (lg_cmp p23 1852137842) = 0 then some 1 else (if (lg_cmp p23 6709618) = 0 then some 1 else (if (lg_cmp p23 1937006969) = 0 then some 1 else some 0)))) fun (j24 : Int32) => Option.bind ((if j24 = 0 then some (o_L13.2.2.2.2.2.1, o_L13.2.2.2.2.2.2.1) else Option.bind (F_X8_isRead o_L13.1 m_read m_readSize m_readRow o_L13.2.2.2.2.2.2.2) fun p30 => (if p30 = 0 then some (o_L13.2.2.2.2.2.1, o_L13.2.2.2.2.2.2.1) else Option.bind (F_X8_bad 3 o_L13.2.2.2.1 o_L13.2.2.2.2.2.1 o_L13.2.2.2.2.2.2.1) fun p32 => some (p32.1, p32.2)))) fun (j28 : Int32 × Int32) => Option.bind (F_X8_need j24 m_size o_L13.2.1 o_L13.2.2.1 o_L13.2.2.2.1 o_L13.2.2.2.2.1 j28.1 j28.2 m_tape) fun p33 => Option.bind (F_X8_is 59 p33.2.1 p33.2.2.1 m_tape) fun p34 => Option.bind (F_X8_need p34 m_size p33.1 p33.2.1 p33.2.2.1 p33.2.2.2.1 p33.2.2.2.2.1 p33.2.2.2.2.2 m_tape) fun p35 => (if p35.2.2.2.2.1 = 0 then Option.bind (some (2 * o_L13.1)) fun v37 => gd (inb m_read 30) (Option.bind ((if (lg_cmp p23 1852137842) = 0 then some 1 else (if (lg_cmp p23 6709618) = 0 then some 2 else some 0))) fun (j38 : Int32) => gd (inb m_read 30) (Option.bind (F_X8_readRule_L41 m_read o_L13.2.2.2.2.2.2.2 FU 0 m_readRow) fun o_L41 => Option.bind (some (m_read + 1)) fun v45 => some (p35.1, p35.2.1, p35.2.2.1, p35.2.2.2.1, p35.2.2.2.2.1, p35.2.2.2.2.2, v45, (upd m_readSize (Int32.toNatClampNeg m_read) v37), o_L41, (upd m_readDoes (Int32.toNatClampNeg m_read) j38), o_L13.2.2.2.2.2.2.2))) else some (p35.1, p35.2.1, p35.2.2.1, p35.2.2.2.1, p35.2.2.2.2.1, p35.2.2.2.2.2, m_read, m_readSize, m_readRow, m_readDoes, o_L13.2.2.2.2.2.2.2)) else some (o_L13.2.1, o_L13.2.2.1, o_L13.2.2.2.1, o_L13.2.2.2.2.1, o_L13.2.2.2.2.2.1, o_L13.2.2.2.2.2.2.1, m_read, m_readSize, m_readRow, m_readDoes, o_L13.2.2.2.2.2.2.2))
def rm_X8_readRule : Room := { frames := 5, cells := 0, slots := 0, locals := 108 }
def F_X8_rules_L2 (m_size_L2 : Int32) (m_tape_L2 : Nat → Int32) : Nat → Int32 → Int32 → Int32 → Int32 → Int32 → Int32 → Int32 → (Nat → Int32) → (Nat → Int32) → (Nat → Int32) → (Nat → Int32) →  Option (Int32 × Int32 × Int32 × Int32 × Int32 × Int32 × Int32 × (Nat → Int32) × (Nat → Int32) × (Nat → Int32) × (Nat → Int32))
  | 0, _, _, _, _, _, _, _, _, _, _, _ => none
  | f+1, m_at_L2, m_sort_L2, m_place_L2, m_end_L2, m_fault_L2, m_faultAt_L2, m_read_L2, m_readSize_L2, m_readRow_L2, m_readDoes_L2, m_own_L2 =>
    (if m_fault_L2 = 0 then (if m_sort_L2 = 1 then some (m_at_L2, m_sort_L2, m_place_L2, m_end_L2, m_fault_L2, m_faultAt_L2, m_read_L2, m_readSize_L2, m_readRow_L2, m_readDoes_L2, m_own_L2) else Option.bind (F_X8_readRule m_size_L2 m_at_L2 m_sort_L2 m_place_L2 m_end_L2 m_fault_L2 m_faultAt_L2 m_read_L2 m_tape_L2 m_readSize_L2 m_readRow_L2 m_readDoes_L2 m_own_L2) fun p5 => F_X8_rules_L2 m_size_L2 m_tape_L2 f p5.1 p5.2.1 p5.2.2.1 p5.2.2.2.1 p5.2.2.2.2.1 p5.2.2.2.2.2.1 p5.2.2.2.2.2.2.1 p5.2.2.2.2.2.2.2.1 p5.2.2.2.2.2.2.2.2.1 p5.2.2.2.2.2.2.2.2.2.1 p5.2.2.2.2.2.2.2.2.2.2) else some (m_at_L2, m_sort_L2, m_place_L2, m_end_L2, m_fault_L2, m_faultAt_L2, m_read_L2, m_readSize_L2, m_readRow_L2, m_readDoes_L2, m_own_L2))
def F_X8_rules_L11 (l1_L11 : Int32) (m_readRow_L11 : Nat → Int32) : Nat → Int32 → (Nat → Int32) →  Option (Nat → Int32)
  | 0, _, _ => none
  | f+1, l2_L11, m_ruleRow_L11 =>
    (if 8 ≤ l2_L11 then some m_ruleRow_L11 else gd (inb ((8 * l1_L11) + l2_L11) 240) (Option.bind (some (m_readRow_L11 (Int32.toNatClampNeg ((8 * l1_L11) + l2_L11)))) fun v13 => gd (inb ((8 * l1_L11) + l2_L11) 240) (Option.bind (some (l2_L11 + 1)) fun v14 => F_X8_rules_L11 l1_L11 m_readRow_L11 f v14 (upd m_ruleRow_L11 (Int32.toNatClampNeg ((8 * l1_L11) + l2_L11)) v13))))
def F_X8_rules_L7 (m_read_L7 : Int32) (m_readSize_L7 : Nat → Int32) (m_readRow_L7 : Nat → Int32) (m_readDoes_L7 : Nat → Int32) : Nat → Int32 → (Nat → Int32) → (Nat → Int32) → (Nat → Int32) →  Option ((Nat → Int32) × (Nat → Int32) × (Nat → Int32))
  | 0, _, _, _, _ => none
  | f+1, l1_L7, m_ruleSize_L7, m_ruleRow_L7, m_ruleDoes_L7 =>
    (if m_read_L7 ≤ l1_L7 then some (m_ruleSize_L7, m_ruleRow_L7, m_ruleDoes_L7) else gd (inb l1_L7 30) (Option.bind (some (m_readSize_L7 (Int32.toNatClampNeg l1_L7))) fun v9 => gd (inb l1_L7 30) (gd (inb l1_L7 30) (Option.bind (some (m_readDoes_L7 (Int32.toNatClampNeg l1_L7))) fun v10 => gd (inb l1_L7 30) (Option.bind (F_X8_rules_L11 l1_L7 m_readRow_L7 FU 0 m_ruleRow_L7) fun o_L11 => Option.bind (some (l1_L7 + 1)) fun v15 => F_X8_rules_L7 m_read_L7 m_readSize_L7 m_readRow_L7 m_readDoes_L7 f v15 (upd m_ruleSize_L7 (Int32.toNatClampNeg l1_L7) v9) o_L11 (upd m_ruleDoes_L7 (Int32.toNatClampNeg l1_L7) v10))))))
def F_X8_rules (m_rules : Int32) (m_taped : Int32) (m_latest : Int32) (m_faultAt : Int32) (m_ruleSize : Nat → Int32) (m_ruleRow : Nat → Int32) (m_ruleDoes : Nat → Int32) (m_tape : Nat → Int32) (m_readSize : Nat → Int32) (m_readRow : Nat → Int32) (m_readDoes : Nat → Int32) (m_own : Nat → Int32) : Option (Int32 × Int32 × Int32 × Int32 × Int32 × Int32 × Int32 × Int32 × Int32 × Int32 × Int32 × Int32 × Int32 × (Nat → Int32) × (Nat → Int32) × (Nat → Int32) × (Nat → Int32) × (Nat → Int32) × (Nat → Int32) × (Nat → Int32)) :=
  Option.bind (F_X8_next m_taped 0 m_tape) fun p1 => Option.bind (F_X8_rules_L2 m_taped m_tape FU p1.1 p1.2.1 p1.2.2.1 p1.2.2.2 0 m_faultAt 0 m_readSize m_readRow m_readDoes m_own) fun o_L2 => (if o_L2.2.2.2.2.1 ≤ 0 then Option.bind (F_X8_rules_L7 o_L2.2.2.2.2.2.2.1 o_L2.2.2.2.2.2.2.2.1 o_L2.2.2.2.2.2.2.2.2.1 o_L2.2.2.2.2.2.2.2.2.2.1 FU 0 m_ruleSize m_ruleRow m_ruleDoes) fun o_L7 => some (o_L2.2.2.2.2.2.2.1, 0, o_L2.2.2.2.2.2.2.1, 0, m_latest, m_taped, o_L2.1, o_L2.2.1, o_L2.2.2.1, o_L2.2.2.2.1, o_L2.2.2.2.2.1, o_L2.2.2.2.2.2.1, o_L2.2.2.2.2.2.2.1, o_L7.1, o_L7.2.1, o_L7.2.2, o_L2.2.2.2.2.2.2.2.1, o_L2.2.2.2.2.2.2.2.2.1, o_L2.2.2.2.2.2.2.2.2.2.1, o_L2.2.2.2.2.2.2.2.2.2.2) else some (((-1000100) - o_L2.2.2.2.2.2.1), 0, m_rules, 0, o_L2.2.2.2.2.1, m_taped, o_L2.1, o_L2.2.1, o_L2.2.2.1, o_L2.2.2.2.1, o_L2.2.2.2.2.1, o_L2.2.2.2.2.2.1, o_L2.2.2.2.2.2.2.1, m_ruleSize, m_ruleRow, m_ruleDoes, o_L2.2.2.2.2.2.2.2.1, o_L2.2.2.2.2.2.2.2.2.1, o_L2.2.2.2.2.2.2.2.2.2.1, o_L2.2.2.2.2.2.2.2.2.2.2))
def rm_X8_rules : Room := { frames := 6, cells := 0, slots := 0, locals := 133 }
def F_X8_fault (m_latest : Int32) : Option (Int32 × Int32) :=
  some (m_latest, 0)
def rm_X8_fault : Room := { frames := 0, cells := 0, slots := 0, locals := 0 }
def F_X8_numberOfName_L3 (l2_L3 : Int32) (m_n_L3 : Int32) (m_name_L3 : Nat → Int32) (m_crowd_L3 : Nat → Int32) : Nat → Int32 → Int32 →  Option (Int32)
  | 0, _, _ => none
  | f+1, l3_L3, l4_L3 =>
    (if m_n_L3 ≤ l4_L3 then some l3_L3 else Option.bind ((if l3_L3 = 0 then some 0 else gd (inb ((9 * l2_L3) + l4_L3) 1080) (gd (inb l4_L3 9) ((if (m_crowd_L3 (Int32.toNatClampNeg ((9 * l2_L3) + l4_L3))) = (m_name_L3 (Int32.toNatClampNeg l4_L3)) then some 1 else some 0))))) fun (j5 : Int32) => Option.bind (some (l4_L3 + 1)) fun v8 => F_X8_numberOfName_L3 l2_L3 m_n_L3 m_name_L3 m_crowd_L3 f j5 v8)
def F_X8_numberOfName_L1 (m_n_L1 : Int32) (m_crowds_L1 : Int32) (m_name_L1 : Nat → Int32) (m_crowd_L1 : Nat → Int32) : Nat → Int32 → Int32 →  Option (Int32)
  | 0, _, _ => none
  | f+1, l1_L1, l2_L1 =>
    (if m_crowds_L1 ≤ l2_L1 then some l1_L1 else Option.bind (F_X8_numberOfName_L3 l2_L1 m_n_L1 m_name_L1 m_crowd_L1 FU 1 0) fun o_L3 => Option.bind ((if o_L3 = 0 then some l1_L1 else some l2_L1)) fun (j9 : Int32) => Option.bind (some (l2_L1 + 1)) fun v11 => F_X8_numberOfName_L1 m_n_L1 m_crowds_L1 m_name_L1 m_crowd_L1 f j9 v11)
def F_X8_numberOfName (m_n : Int32) (m_crowds : Int32) (m_name : Nat → Int32) (m_crowd : Nat → Int32) : Option (Int32) :=
  Option.bind (F_X8_numberOfName_L1 m_n m_crowds m_name m_crowd FU (-1000000) 0) fun o_L1 => some o_L1
def rm_X8_numberOfName : Room := { frames := 0, cells := 0, slots := 0, locals := 0 }
def F_X8_listCrowds_L1 (m_n_L1 : Int32) (m_robots_L1 : Int32) : Nat → Int32 → Int32 →  Option (Int32)
  | 0, _, _ => none
  | f+1, l1_L1, l2_L1 =>
    (if m_robots_L1 ≤ l2_L1 then some l1_L1 else Option.bind (some (l1_L1 * m_n_L1)) fun v3 => Option.bind (some (l2_L1 + 1)) fun v4 => F_X8_listCrowds_L1 m_n_L1 m_robots_L1 f v3 v4)
def F_X8_listCrowds_L7  : Nat → Int32 → (Nat → Int32) →  Option (Nat → Int32)
  | 0, _, _ => none
  | f+1, l3_L7, m_hand_L7 =>
    (if 9 ≤ l3_L7 then some m_hand_L7 else gd (inb l3_L7 9) (Option.bind (some (l3_L7 + 1)) fun v9 => F_X8_listCrowds_L7 f v9 (upd m_hand_L7 (Int32.toNatClampNeg l3_L7) 0)))
def F_X8_listCrowds_L10 (m_n_L10 : Int32) (m_robots_L10 : Int32) : Nat → Int32 → Int32 → (Nat → Int32) →  Option (Nat → Int32)
  | 0, _, _, _ => none
  | f+1, l3_L10, l4_L10, m_hand_L10 =>
    (if m_robots_L10 ≤ l4_L10 then some m_hand_L10 else gd (nz m_n_L10) (gd (inb (jrem l3_L10 m_n_L10) 9) (Option.bind (some ((m_hand_L10 (Int32.toNatClampNeg (jrem l3_L10 m_n_L10))) + 1)) fun v12 => gd (inb (jrem l3_L10 m_n_L10) 9) (gd (nz m_n_L10) (Option.bind (some (l3_L10 / m_n_L10)) fun v13 => Option.bind (some (l4_L10 + 1)) fun v14 => F_X8_listCrowds_L10 m_n_L10 m_robots_L10 f v13 v14 (upd m_hand_L10 (Int32.toNatClampNeg (jrem l3_L10 m_n_L10)) v12))))))
def F_X8_listCrowds_L16 (m_n_L16 : Int32) (m_hand_L16 : Nat → Int32) (m_name_L16 : Nat → Int32) : Nat → Int32 → Int32 →  Option (Int32)
  | 0, _, _ => none
  | f+1, l4_L16, l5_L16 =>
    (if m_n_L16 ≤ l5_L16 then some l4_L16 else Option.bind ((if l4_L16 = 0 then some 0 else gd (inb l5_L16 9) (gd (inb l5_L16 9) ((if (m_name_L16 (Int32.toNatClampNeg l5_L16)) = (m_hand_L16 (Int32.toNatClampNeg l5_L16)) then some 1 else some 0))))) fun (j18 : Int32) => Option.bind (some (l5_L16 + 1)) fun v21 => F_X8_listCrowds_L16 m_n_L16 m_hand_L16 m_name_L16 f j18 v21)
def F_X8_listCrowds_L26 (m_crowds_L26 : Int32) (m_name_L26 : Nat → Int32) : Nat → Int32 → (Nat → Int32) →  Option (Nat → Int32)
  | 0, _, _ => none
  | f+1, l5_L26, m_crowd_L26 =>
    (if 9 ≤ l5_L26 then some m_crowd_L26 else gd (inb l5_L26 9) (Option.bind (some (m_name_L26 (Int32.toNatClampNeg l5_L26))) fun v28 => gd (inb ((9 * m_crowds_L26) + l5_L26) 1080) (Option.bind (some (l5_L26 + 1)) fun v29 => F_X8_listCrowds_L26 m_crowds_L26 m_name_L26 f v29 (upd m_crowd_L26 (Int32.toNatClampNeg ((9 * m_crowds_L26) + l5_L26)) v28))))
def F_X8_listCrowds_L5 (l1_L5 : Int32) (m_n_L5 : Int32) (m_robots_L5 : Int32) : Nat → Int32 → Int32 → (Nat → Int32) → (Nat → Int32) → (Nat → Int32) →  Option (Int32 × (Nat → Int32) × (Nat → Int32) × (Nat → Int32))
  | 0, _, _, _, _, _ => none
  | f+1, l2_L5, m_crowds_L5, m_hand_L5, m_name_L5, m_crowd_L5 =>
    (if l1_L5 ≤ l2_L5 then some (m_crowds_L5, m_hand_L5, m_name_L5, m_crowd_L5) else Option.bind (F_X8_listCrowds_L7 FU 0 m_hand_L5) fun o_L7 => Option.bind (F_X8_listCrowds_L10 m_n_L5 m_robots_L5 FU l2_L5 0 o_L7) fun o_L10 => Option.bind (F_X8_findName m_n_L5 o_L10 m_name_L5) fun p15 => Option.bind (F_X8_listCrowds_L16 m_n_L5 o_L10 p15 FU 1 0) fun o_L16 => Option.bind ((if o_L16 = 0 then some (m_crowds_L5, m_crowd_L5) else Option.bind (F_X8_numberOfName m_n_L5 m_crowds_L5 p15 m_crowd_L5) fun p24 => (if p24 = (-1000000) then Option.bind (F_X8_listCrowds_L26 m_crowds_L5 p15 FU 0 m_crowd_L5) fun o_L26 => Option.bind (some (m_crowds_L5 + 1)) fun v30 => some (v30, o_L26) else some (m_crowds_L5, m_crowd_L5)))) fun (j22 : Int32 × (Nat → Int32)) => Option.bind (some (l2_L5 + 1)) fun v31 => F_X8_listCrowds_L5 l1_L5 m_n_L5 m_robots_L5 f v31 j22.1 o_L10 p15 j22.2)
def F_X8_listCrowds (m_n : Int32) (m_robots : Int32) (m_hand : Nat → Int32) (m_name : Nat → Int32) (m_crowd : Nat → Int32) : Option (Int32 × (Nat → Int32) × (Nat → Int32) × (Nat → Int32)) :=
  Option.bind (F_X8_listCrowds_L1 m_n m_robots FU 1 0) fun o_L1 => Option.bind (F_X8_listCrowds_L5 o_L1 m_n m_robots FU 0 0 m_hand m_name m_crowd) fun o_L5 => some (o_L5.1, o_L5.2.1, o_L5.2.2.1, o_L5.2.2.2)
def rm_X8_listCrowds : Room := { frames := 2, cells := 0, slots := 0, locals := 47 }
def F_X8_findSteps_L1 (l1_L1 : Int32) (m_crowd_L1 : Nat → Int32) : Nat → Int32 → (Nat → Int32) → (Nat → Int32) →  Option ((Nat → Int32) × (Nat → Int32))
  | 0, _, _, _ => none
  | f+1, l4_L1, m_hand_L1, m_from_L1 =>
    (if 9 ≤ l4_L1 then some (m_hand_L1, m_from_L1) else gd (inb ((9 * l1_L1) + l4_L1) 1080) (Option.bind (some (m_crowd_L1 (Int32.toNatClampNeg ((9 * l1_L1) + l4_L1)))) fun v3 => gd (inb l4_L1 9) (gd (inb l4_L1 9) (Option.bind (some ((upd m_from_L1 (Int32.toNatClampNeg l4_L1) v3) (Int32.toNatClampNeg l4_L1))) fun v4 => gd (inb l4_L1 9) (Option.bind (some (l4_L1 + 1)) fun v5 => F_X8_findSteps_L1 l1_L1 m_crowd_L1 f v5 (upd m_hand_L1 (Int32.toNatClampNeg l4_L1) v4) (upd m_from_L1 (Int32.toNatClampNeg l4_L1) v3))))))
def F_X8_findSteps_L11 (l4_L11 : Int32) (l5_L11 : Int32) (m_from_L11 : Nat → Int32) : Nat → Int32 → Int32 → (Nat → Int32) → (Nat → Int32) →  Option (Int32 × (Nat → Int32) × (Nat → Int32))
  | 0, _, _, _, _ => none
  | f+1, l3_L11, l6_L11, m_stands_L11, m_doesHere_L11 =>
    gd (inb l4_L11 9) ((if (m_from_L11 (Int32.toNatClampNeg l4_L11)) ≤ l6_L11 then some (l3_L11, m_stands_L11, m_doesHere_L11) else (if l5_L11 = 0 then some (l3_L11, m_stands_L11, m_doesHere_L11) else gd (inb l3_L11 4) (gd (inb l3_L11 4) (Option.bind (some (l3_L11 + 1)) fun v14 => Option.bind (some (l6_L11 + 1)) fun v15 => F_X8_findSteps_L11 l4_L11 l5_L11 m_from_L11 f v14 v15 (upd m_stands_L11 (Int32.toNatClampNeg l3_L11) l4_L11) (upd m_doesHere_L11 (Int32.toNatClampNeg l3_L11) l5_L11))))))
def F_X8_findSteps_L6 (m_n_L6 : Int32) (m_rules_L6 : Int32) (m_hand_L6 : Nat → Int32) (m_ruleSize_L6 : Nat → Int32) (m_ruleRow_L6 : Nat → Int32) (m_ruleDoes_L6 : Nat → Int32) (m_from_L6 : Nat → Int32) : Nat → Int32 → Int32 → Int32 → (Nat → Int32) → (Nat → Int32) → (Nat → Int32) → (Nat → Int32) → (Nat → Int32) →  Option (Int32 × Int32 × (Nat → Int32) × (Nat → Int32) × (Nat → Int32) × (Nat → Int32) × (Nat → Int32))
  | 0, _, _, _, _, _, _, _, _ => none
  | f+1, l3_L6, l4_L6, m_viewed_L6, m_view_L6, m_up_L6, m_down_L6, m_stands_L6, m_doesHere_L6 =>
    (if m_n_L6 ≤ l4_L6 then some (l3_L6, m_viewed_L6, m_view_L6, m_up_L6, m_down_L6, m_stands_L6, m_doesHere_L6) else gd (inb l4_L6 9) (Option.bind ((if (m_from_L6 (Int32.toNatClampNeg l4_L6)) = 0 then some (0, m_viewed_L6, m_view_L6, m_up_L6, m_down_L6) else Option.bind (F_X8_doing l4_L6 m_n_L6 m_rules_L6 m_hand_L6 m_view_L6 m_up_L6 m_down_L6 m_ruleSize_L6 m_ruleRow_L6 m_ruleDoes_L6) fun p10 => some (p10.1, p10.2.1, p10.2.2.1, p10.2.2.2.1, p10.2.2.2.2))) fun (j8 : Int32 × Int32 × (Nat → Int32) × (Nat → Int32) × (Nat → Int32)) => Option.bind (F_X8_findSteps_L11 l4_L6 j8.1 m_from_L6 FU l3_L6 0 m_stands_L6 m_doesHere_L6) fun o_L11 => Option.bind (some (l4_L6 + 1)) fun v16 => F_X8_findSteps_L6 m_n_L6 m_rules_L6 m_hand_L6 m_ruleSize_L6 m_ruleRow_L6 m_ruleDoes_L6 m_from_L6 f o_L11.1 v16 j8.2.1 j8.2.2.1 j8.2.2.2.1 j8.2.2.2.2 o_L11.2.1 o_L11.2.2))
def F_X8_findSteps_L30 (m_from_L30 : Nat → Int32) : Nat → Int32 → (Nat → Int32) →  Option (Nat → Int32)
  | 0, _, _ => none
  | f+1, l7_L30, m_hand_L30 =>
    (if 9 ≤ l7_L30 then some m_hand_L30 else gd (inb l7_L30 9) (Option.bind (some (m_from_L30 (Int32.toNatClampNeg l7_L30))) fun v32 => gd (inb l7_L30 9) (Option.bind (some (l7_L30 + 1)) fun v33 => F_X8_findSteps_L30 m_from_L30 f v33 (upd m_hand_L30 (Int32.toNatClampNeg l7_L30) v32))))
def F_X8_findSteps_L34 (l3_L34 : Int32) (l4_L34 : Int32) (l6_L34 : Int32) (m_n_L34 : Int32) (m_stands_L34 : Nat → Int32) (m_doesHere_L34 : Nat → Int32) : Nat → Int32 → (Nat → Int32) →  Option (Nat → Int32)
  | 0, _, _ => none
  | f+1, l7_L34, m_hand_L34 =>
    (if l3_L34 ≤ l7_L34 then some m_hand_L34 else Option.bind ((if ((jshr l4_L34 l7_L34) &&& 1) = 1 then gd (inb l7_L34 4) (Option.bind ((if (m_doesHere_L34 (Int32.toNatClampNeg l7_L34)) = 2 then (if ((jshr l6_L34 l7_L34) &&& 1) = 1 then some 1 else some (-1)) else gd (inb l7_L34 4) (some (m_doesHere_L34 (Int32.toNatClampNeg l7_L34))))) fun (j38 : Int32) => gd (inb l7_L34 4) (gd (inb (m_stands_L34 (Int32.toNatClampNeg l7_L34)) 9) (Option.bind (some ((m_hand_L34 (Int32.toNatClampNeg (m_stands_L34 (Int32.toNatClampNeg l7_L34)))) - 1)) fun v41 => gd (inb (m_stands_L34 (Int32.toNatClampNeg l7_L34)) 9) (gd (inb l7_L34 4) (gd (nz m_n_L34) (gd (inb (jrem (((m_stands_L34 (Int32.toNatClampNeg l7_L34)) + j38) + m_n_L34) m_n_L34) 9) (Option.bind (some (((upd m_hand_L34 (Int32.toNatClampNeg (m_stands_L34 (Int32.toNatClampNeg l7_L34))) v41) (Int32.toNatClampNeg (jrem (((m_stands_L34 (Int32.toNatClampNeg l7_L34)) + j38) + m_n_L34) m_n_L34))) + 1)) fun v42 => gd (inb (jrem (((m_stands_L34 (Int32.toNatClampNeg l7_L34)) + j38) + m_n_L34) m_n_L34) 9) (some (upd (upd m_hand_L34 (Int32.toNatClampNeg (m_stands_L34 (Int32.toNatClampNeg l7_L34))) v41) (Int32.toNatClampNeg (jrem (((m_stands_L34 (Int32.toNatClampNeg l7_L34)) + j38) + m_n_L34) m_n_L34)) v42))))))))) else some m_hand_L34)) fun (j36 : Nat → Int32) => Option.bind (some (l7_L34 + 1)) fun v43 => F_X8_findSteps_L34 l3_L34 l4_L34 l6_L34 m_n_L34 m_stands_L34 m_doesHere_L34 f v43 j36)
def F_X8_findSteps_L27 (l1_L27 : Int32) (l3_L27 : Int32) (l4_L27 : Int32) (l5_L27 : Int32) (m_n_L27 : Int32) (m_crowds_L27 : Int32) (m_crowd_L27 : Nat → Int32) (m_stands_L27 : Nat → Int32) (m_doesHere_L27 : Nat → Int32) (m_from_L27 : Nat → Int32) : Nat → Int32 → (Nat → Int32) → (Nat → Int32) → (Nat → Int32) →  Option ((Nat → Int32) × (Nat → Int32) × (Nat → Int32))
  | 0, _, _, _, _ => none
  | f+1, l6_L27, m_hand_L27, m_name_L27, m_isStep_L27 =>
    (if (jshl 1 l3_L27) ≤ l6_L27 then some (m_hand_L27, m_name_L27, m_isStep_L27) else (if l5_L27 = 0 then some (m_hand_L27, m_name_L27, m_isStep_L27) else Option.bind (F_X8_findSteps_L30 m_from_L27 FU 0 m_hand_L27) fun o_L30 => Option.bind (F_X8_findSteps_L34 l3_L27 l4_L27 l6_L27 m_n_L27 m_stands_L27 m_doesHere_L27 FU 0 o_L30) fun o_L34 => Option.bind (F_X8_findName m_n_L27 o_L34 m_name_L27) fun p44 => Option.bind (F_X8_numberOfName m_n_L27 m_crowds_L27 p44 m_crowd_L27) fun p45 => gd (inb ((120 * l1_L27) + p45) 14400) (Option.bind (some (l6_L27 + 1)) fun v46 => F_X8_findSteps_L27 l1_L27 l3_L27 l4_L27 l5_L27 m_n_L27 m_crowds_L27 m_crowd_L27 m_stands_L27 m_doesHere_L27 m_from_L27 f v46 o_L34 p44 (upd m_isStep_L27 (Int32.toNatClampNeg ((120 * l1_L27) + p45)) (vp_nar .boolean 1)))))
def F_X8_findSteps_L17 (l1_L17 : Int32) (l2_L17 : Int32) (l3_L17 : Int32) (m_n_L17 : Int32) (m_crowds_L17 : Int32) (m_crowd_L17 : Nat → Int32) (m_stands_L17 : Nat → Int32) (m_doesHere_L17 : Nat → Int32) (m_from_L17 : Nat → Int32) : Nat → Int32 → (Nat → Int32) → (Nat → Int32) → (Nat → Int32) →  Option ((Nat → Int32) × (Nat → Int32) × (Nat → Int32))
  | 0, _, _, _, _ => none
  | f+1, l4_L17, m_hand_L17, m_name_L17, m_isStep_L17 =>
    (if (jshl 1 l3_L17) ≤ l4_L17 then some (m_hand_L17, m_name_L17, m_isStep_L17) else Option.bind ((if l2_L17 = 2 then some 1 else (if l2_L17 = 0 then (if l4_L17 = ((jshl 1 l3_L17) - 1) then some 1 else (if l2_L17 = 1 then (if (l4_L17 &&& (l4_L17 - 1)) = 0 then some 1 else some 0) else some 0)) else (if l2_L17 = 1 then (if (l4_L17 &&& (l4_L17 - 1)) = 0 then some 1 else some 0) else some 0)))) fun (j19 : Int32) => Option.bind (F_X8_findSteps_L27 l1_L17 l3_L17 l4_L17 j19 m_n_L17 m_crowds_L17 m_crowd_L17 m_stands_L17 m_doesHere_L17 m_from_L17 FU 0 m_hand_L17 m_name_L17 m_isStep_L17) fun o_L27 => Option.bind (some (l4_L17 + 1)) fun v47 => F_X8_findSteps_L17 l1_L17 l2_L17 l3_L17 m_n_L17 m_crowds_L17 m_crowd_L17 m_stands_L17 m_doesHere_L17 m_from_L17 f v47 o_L27.1 o_L27.2.1 o_L27.2.2)
def F_X8_findSteps (a0 : Int32) (a1 : Int32) (m_n : Int32) (m_viewed : Int32) (m_rules : Int32) (m_crowds : Int32) (m_hand : Nat → Int32) (m_view : Nat → Int32) (m_up : Nat → Int32) (m_down : Nat → Int32) (m_ruleSize : Nat → Int32) (m_ruleRow : Nat → Int32) (m_ruleDoes : Nat → Int32) (m_name : Nat → Int32) (m_crowd : Nat → Int32) (m_isStep : Nat → Int32) (m_stands : Nat → Int32) (m_doesHere : Nat → Int32) (m_from : Nat → Int32) : Option (Int32 × (Nat → Int32) × (Nat → Int32) × (Nat → Int32) × (Nat → Int32) × (Nat → Int32) × (Nat → Int32) × (Nat → Int32) × (Nat → Int32) × (Nat → Int32)) :=
  Option.bind (F_X8_findSteps_L1 a0 m_crowd FU 0 m_hand m_from) fun o_L1 => Option.bind (F_X8_findSteps_L6 m_n m_rules o_L1.1 m_ruleSize m_ruleRow m_ruleDoes o_L1.2 FU 0 0 m_viewed m_view m_up m_down m_stands m_doesHere) fun o_L6 => Option.bind (F_X8_findSteps_L17 a0 a1 o_L6.1 m_n m_crowds m_crowd o_L6.2.2.2.2.2.1 o_L6.2.2.2.2.2.2 o_L1.2 FU 1 o_L1.1 m_name m_isStep) fun o_L17 => some (o_L6.2.1, o_L17.1, o_L6.2.2.1, o_L6.2.2.2.1, o_L6.2.2.2.2.1, o_L17.2.1, o_L17.2.2, o_L6.2.2.2.2.2.1, o_L6.2.2.2.2.2.2, o_L1.2)
def rm_X8_findSteps : Room := { frames := 3, cells := 0, slots := 0, locals := 77 }
def F_X8_prove_L2  : Nat → Int32 → (Nat → Int32) →  Option (Nat → Int32)
  | 0, _, _ => none
  | f+1, l3_L2, m_isStep_L2 =>
    (if 14400 ≤ l3_L2 then some m_isStep_L2 else gd (inb l3_L2 14400) (Option.bind (some (l3_L2 + 1)) fun v4 => F_X8_prove_L2 f v4 (upd m_isStep_L2 (Int32.toNatClampNeg l3_L2) (vp_nar .boolean 0))))
def F_X8_prove_L7 (l3_L7 : Int32) (m_crowd_L7 : Nat → Int32) : Nat → Int32 → (Nat → Int32) →  Option (Nat → Int32)
  | 0, _, _ => none
  | f+1, l4_L7, m_hand_L7 =>
    (if 9 ≤ l4_L7 then some m_hand_L7 else gd (inb ((9 * l3_L7) + l4_L7) 1080) (Option.bind (some (m_crowd_L7 (Int32.toNatClampNeg ((9 * l3_L7) + l4_L7)))) fun v9 => gd (inb l4_L7 9) (Option.bind (some (l4_L7 + 1)) fun v10 => F_X8_prove_L7 l3_L7 m_crowd_L7 f v10 (upd m_hand_L7 (Int32.toNatClampNeg l4_L7) v9))))
def F_X8_prove_L5 (l1_L5 : Int32) (l2_L5 : Int32) (m_n_L5 : Int32) (m_robots_L5 : Int32) (m_rules_L5 : Int32) (m_crowds_L5 : Int32) (m_ruleSize_L5 : Nat → Int32) (m_ruleRow_L5 : Nat → Int32) (m_ruleDoes_L5 : Nat → Int32) (m_crowd_L5 : Nat → Int32) : Nat → Int32 → Int32 → (Nat → Int32) → (Nat → Int32) → (Nat → Int32) → (Nat → Int32) → (Nat → Int32) → (Nat → Int32) → (Nat → Int32) → (Nat → Int32) → (Nat → Int32) → (Nat → Int32) → (Nat → Int32) →  Option (Int32 × (Nat → Int32) × (Nat → Int32) × (Nat → Int32) × (Nat → Int32) × (Nat → Int32) × (Nat → Int32) × (Nat → Int32) × (Nat → Int32) × (Nat → Int32) × (Nat → Int32) × (Nat → Int32))
  | 0, _, _, _, _, _, _, _, _, _, _, _, _, _ => none
  | f+1, l3_L5, m_viewed_L5, m_hand_L5, m_view_L5, m_up_L5, m_down_L5, m_name_L5, m_isStep_L5, m_isOfGoal_L5, m_most_L5, m_stands_L5, m_doesHere_L5, m_from_L5 =>
    (if m_crowds_L5 ≤ l3_L5 then some (m_viewed_L5, m_hand_L5, m_view_L5, m_up_L5, m_down_L5, m_name_L5, m_isStep_L5, m_isOfGoal_L5, m_most_L5, m_stands_L5, m_doesHere_L5, m_from_L5) else Option.bind (F_X8_prove_L7 l3_L5 m_crowd_L5 FU 0 m_hand_L5) fun o_L7 => Option.bind (F_X8_isGoal l2_L5 m_robots_L5 m_n_L5 o_L7) fun p11 => gd (inb l3_L5 120) (gd (inb l3_L5 120) (Option.bind ((if ((upd m_isOfGoal_L5 (Int32.toNatClampNeg l3_L5) (vp_nar .boolean p11)) (Int32.toNatClampNeg l3_L5)) = 0 then some (-1000000) else some 0)) fun (j12 : Int32) => gd (inb l3_L5 120) (gd (inb l3_L5 120) (Option.bind ((if ((upd m_isOfGoal_L5 (Int32.toNatClampNeg l3_L5) (vp_nar .boolean p11)) (Int32.toNatClampNeg l3_L5)) = 0 then Option.bind (F_X8_findSteps l3_L5 l1_L5 m_n_L5 m_viewed_L5 m_rules_L5 m_crowds_L5 o_L7 m_view_L5 m_up_L5 m_down_L5 m_ruleSize_L5 m_ruleRow_L5 m_ruleDoes_L5 m_name_L5 m_crowd_L5 m_isStep_L5 m_stands_L5 m_doesHere_L5 m_from_L5) fun p16 => some (p16.1, p16.2.1, p16.2.2.1, p16.2.2.2.1, p16.2.2.2.2.1, p16.2.2.2.2.2.1, p16.2.2.2.2.2.2.1, p16.2.2.2.2.2.2.2.1, p16.2.2.2.2.2.2.2.2.1, p16.2.2.2.2.2.2.2.2.2) else some (m_viewed_L5, o_L7, m_view_L5, m_up_L5, m_down_L5, m_name_L5, m_isStep_L5, m_stands_L5, m_doesHere_L5, m_from_L5))) fun (j14 : Int32 × (Nat → Int32) × (Nat → Int32) × (Nat → Int32) × (Nat → Int32) × (Nat → Int32) × (Nat → Int32) × (Nat → Int32) × (Nat → Int32) × (Nat → Int32)) => Option.bind (some (l3_L5 + 1)) fun v17 => F_X8_prove_L5 l1_L5 l2_L5 m_n_L5 m_robots_L5 m_rules_L5 m_crowds_L5 m_ruleSize_L5 m_ruleRow_L5 m_ruleDoes_L5 m_crowd_L5 f v17 j14.1 j14.2.1 j14.2.2.1 j14.2.2.2.1 j14.2.2.2.2.1 j14.2.2.2.2.2.1 j14.2.2.2.2.2.2.1 (upd m_isOfGoal_L5 (Int32.toNatClampNeg l3_L5) (vp_nar .boolean p11)) (upd m_most_L5 (Int32.toNatClampNeg l3_L5) j12) j14.2.2.2.2.2.2.2.1 j14.2.2.2.2.2.2.2.2.1 j14.2.2.2.2.2.2.2.2.2)))))
def F_X8_prove_L24 (l4_L24 : Int32) (m_crowds_L24 : Int32) (m_isStep_L24 : Nat → Int32) (m_most_L24 : Nat → Int32) : Nat → Int32 → Int32 → Int32 →  Option (Int32 × Int32)
  | 0, _, _, _ => none
  | f+1, l5_L24, l6_L24, l7_L24 =>
    (if m_crowds_L24 ≤ l7_L24 then some (l5_L24, l6_L24) else (if l6_L24 = 0 then some (l5_L24, l6_L24) else gd (inb ((120 * l4_L24) + l7_L24) 14400) (Option.bind ((if (m_isStep_L24 (Int32.toNatClampNeg ((120 * l4_L24) + l7_L24))) = 0 then some (l5_L24, l6_L24) else gd (inb l7_L24 120) (Option.bind ((if (m_most_L24 (Int32.toNatClampNeg l7_L24)) = (-1000000) then some 0 else some 1)) fun (j29 : Int32) => gd (inb l7_L24 120) (Option.bind ((if (m_most_L24 (Int32.toNatClampNeg l7_L24)) ≤ l5_L24 then some l5_L24 else gd (inb l7_L24 120) (some (m_most_L24 (Int32.toNatClampNeg l7_L24))))) fun (j31 : Int32) => some (j31, j29))))) fun (j27 : Int32 × Int32) => Option.bind (some (l7_L24 + 1)) fun v33 => F_X8_prove_L24 l4_L24 m_crowds_L24 m_isStep_L24 m_most_L24 f j27.1 j27.2 v33)))
def F_X8_prove_L20 (m_crowds_L20 : Int32) (m_isStep_L20 : Nat → Int32) : Nat → Int32 → Int32 → (Nat → Int32) →  Option (Int32 × (Nat → Int32))
  | 0, _, _, _ => none
  | f+1, l3_L20, l4_L20, m_most_L20 =>
    (if m_crowds_L20 ≤ l4_L20 then some (l3_L20, m_most_L20) else gd (inb l4_L20 120) (Option.bind ((if (m_most_L20 (Int32.toNatClampNeg l4_L20)) = (-1000000) then some 1 else some 0)) fun (j22 : Int32) => Option.bind (F_X8_prove_L24 l4_L20 m_crowds_L20 m_isStep_L20 m_most_L20 FU (-1000000) j22 0) fun o_L24 => Option.bind ((if o_L24.2 = 0 then some (l3_L20, m_most_L20) else (if o_L24.1 = (-1000000) then some (l3_L20, m_most_L20) else Option.bind (some (o_L24.1 + 1)) fun v37 => gd (inb l4_L20 120) (some (1, (upd m_most_L20 (Int32.toNatClampNeg l4_L20) v37)))))) fun (j34 : Int32 × (Nat → Int32)) => Option.bind (some (l4_L20 + 1)) fun v38 => F_X8_prove_L20 m_crowds_L20 m_isStep_L20 f j34.1 v38 j34.2))
def F_X8_prove_L18 (m_crowds_L18 : Int32) (m_isStep_L18 : Nat → Int32) : Nat → Int32 → (Nat → Int32) →  Option (Nat → Int32)
  | 0, _, _ => none
  | f+1, l3_L18, m_most_L18 =>
    (if l3_L18 = 0 then some m_most_L18 else Option.bind (F_X8_prove_L20 m_crowds_L18 m_isStep_L18 FU 0 0 m_most_L18) fun o_L20 => F_X8_prove_L18 m_crowds_L18 m_isStep_L18 f o_L20.1 o_L20.2)
def F_X8_prove (a0 : Int32) (a1 : Int32) (m_n : Int32) (m_robots : Int32) (m_viewed : Int32) (m_rules : Int32) (m_hand : Nat → Int32) (m_view : Nat → Int32) (m_up : Nat → Int32) (m_down : Nat → Int32) (m_ruleSize : Nat → Int32) (m_ruleRow : Nat → Int32) (m_ruleDoes : Nat → Int32) (m_name : Nat → Int32) (m_crowd : Nat → Int32) (m_isStep : Nat → Int32) (m_isOfGoal : Nat → Int32) (m_most : Nat → Int32) (m_stands : Nat → Int32) (m_doesHere : Nat → Int32) (m_from : Nat → Int32) : Option (Int32 × Int32 × (Nat → Int32) × (Nat → Int32) × (Nat → Int32) × (Nat → Int32) × (Nat → Int32) × (Nat → Int32) × (Nat → Int32) × (Nat → Int32) × (Nat → Int32) × (Nat → Int32) × (Nat → Int32) × (Nat → Int32)) :=
  Option.bind (F_X8_listCrowds m_n m_robots m_hand m_name m_crowd) fun p1 => Option.bind (F_X8_prove_L2 FU 0 m_isStep) fun o_L2 => Option.bind (F_X8_prove_L5 a0 a1 m_n m_robots m_rules p1.1 m_ruleSize m_ruleRow m_ruleDoes p1.2.2.2 FU 0 m_viewed p1.2.1 m_view m_up m_down p1.2.2.1 o_L2 m_isOfGoal m_most m_stands m_doesHere m_from) fun o_L5 => Option.bind (F_X8_prove_L18 p1.1 o_L5.2.2.2.2.2.2.1 FU 1 o_L5.2.2.2.2.2.2.2.2.1) fun o_L18 => some (o_L5.1, p1.1, o_L5.2.1, o_L5.2.2.1, o_L5.2.2.2.1, o_L5.2.2.2.2.1, o_L5.2.2.2.2.2.1, p1.2.2.2, o_L5.2.2.2.2.2.2.1, o_L5.2.2.2.2.2.2.2.1, o_L18, o_L5.2.2.2.2.2.2.2.2.2.1, o_L5.2.2.2.2.2.2.2.2.2.2.1, o_L5.2.2.2.2.2.2.2.2.2.2.2)
def rm_X8_prove : Room := { frames := 4, cells := 0, slots := 0, locals := 105 }
def F_X8_proves_L14 (l4_L14 : Int32) (m_crowds_L14 : Int32) : Nat → Int32 → (Nat → Int32) →  Option (Nat → Int32)
  | 0, _, _ => none
  | f+1, l5_L14, m_isMet_L14 =>
    (if m_crowds_L14 ≤ l5_L14 then some m_isMet_L14 else Option.bind ((if l5_L14 = l4_L14 then some 1 else some 0)) fun (j16 : Int32) => gd (inb l5_L14 120) (Option.bind (some (l5_L14 + 1)) fun v18 => F_X8_proves_L14 l4_L14 m_crowds_L14 f v18 (upd m_isMet_L14 (Int32.toNatClampNeg l5_L14) (vp_nar .boolean j16))))
def F_X8_proves_L23 (l6_L23 : Int32) (m_crowds_L23 : Int32) (m_isStep_L23 : Nat → Int32) : Nat → Int32 → Int32 → (Nat → Int32) →  Option (Int32 × (Nat → Int32))
  | 0, _, _, _ => none
  | f+1, l5_L23, l7_L23, m_isMet_L23 =>
    (if m_crowds_L23 ≤ l7_L23 then some (l5_L23, m_isMet_L23) else gd (inb l6_L23 120) ((if (m_isMet_L23 (Int32.toNatClampNeg l6_L23)) = 0 then some (l5_L23, m_isMet_L23) else gd (inb ((120 * l6_L23) + l7_L23) 14400) (Option.bind ((if (m_isStep_L23 (Int32.toNatClampNeg ((120 * l6_L23) + l7_L23))) = 0 then some (l5_L23, m_isMet_L23) else gd (inb l7_L23 120) ((if (m_isMet_L23 (Int32.toNatClampNeg l7_L23)) = 0 then gd (inb l7_L23 120) (some (1, (upd m_isMet_L23 (Int32.toNatClampNeg l7_L23) (vp_nar .boolean 1)))) else some (l5_L23, m_isMet_L23))))) fun (j26 : Int32 × (Nat → Int32)) => Option.bind (some (l7_L23 + 1)) fun v29 => F_X8_proves_L23 l6_L23 m_crowds_L23 m_isStep_L23 f j26.1 v29 j26.2))))
def F_X8_proves_L21 (m_crowds_L21 : Int32) (m_isStep_L21 : Nat → Int32) : Nat → Int32 → Int32 → (Nat → Int32) →  Option (Int32 × (Nat → Int32))
  | 0, _, _, _ => none
  | f+1, l5_L21, l6_L21, m_isMet_L21 =>
    (if m_crowds_L21 ≤ l6_L21 then some (l5_L21, m_isMet_L21) else Option.bind (F_X8_proves_L23 l6_L21 m_crowds_L21 m_isStep_L21 FU l5_L21 0 m_isMet_L21) fun o_L23 => Option.bind (some (l6_L21 + 1)) fun v30 => F_X8_proves_L21 m_crowds_L21 m_isStep_L21 f o_L23.1 v30 o_L23.2)
def F_X8_proves_L19 (m_crowds_L19 : Int32) (m_isStep_L19 : Nat → Int32) : Nat → Int32 → (Nat → Int32) →  Option (Nat → Int32)
  | 0, _, _ => none
  | f+1, l5_L19, m_isMet_L19 =>
    (if l5_L19 = 0 then some m_isMet_L19 else Option.bind (F_X8_proves_L21 m_crowds_L19 m_isStep_L19 FU 0 0 m_isMet_L19) fun o_L21 => F_X8_proves_L19 m_crowds_L19 m_isStep_L19 f o_L21.1 o_L21.2)
def F_X8_proves_L33 (l7_L33 : Int32) (m_crowds_L33 : Int32) (m_isStep_L33 : Nat → Int32) : Nat → Int32 → Int32 →  Option (Int32)
  | 0, _, _ => none
  | f+1, l8_L33, l9_L33 =>
    (if m_crowds_L33 ≤ l9_L33 then some l8_L33 else Option.bind ((if l8_L33 = 0 then gd (inb ((120 * l7_L33) + l9_L33) 14400) ((if (m_isStep_L33 (Int32.toNatClampNeg ((120 * l7_L33) + l9_L33))) = 0 then some 0 else some 1)) else some 1)) fun (j35 : Int32) => Option.bind (some (l9_L33 + 1)) fun v38 => F_X8_proves_L33 l7_L33 m_crowds_L33 m_isStep_L33 f j35 v38)
def F_X8_proves_L31 (l3_L31 : Int32) (m_crowds_L31 : Int32) (m_isStep_L31 : Nat → Int32) (m_isOfGoal_L31 : Nat → Int32) (m_isMet_L31 : Nat → Int32) : Nat → Int32 → Int32 →  Option (Int32)
  | 0, _, _ => none
  | f+1, l6_L31, l7_L31 =>
    (if m_crowds_L31 ≤ l7_L31 then some l6_L31 else Option.bind (F_X8_proves_L33 l7_L31 m_crowds_L31 m_isStep_L31 FU 0 0) fun o_L33 => gd (inb l7_L31 120) (Option.bind ((if (m_isMet_L31 (Int32.toNatClampNeg l7_L31)) = 0 then some 0 else (if l3_L31 = 1 then some 1 else (if l3_L31 = 2 then gd (inb l7_L31 120) ((if (m_isOfGoal_L31 (Int32.toNatClampNeg l7_L31)) = 0 then (if l3_L31 = 3 then gd (inb l7_L31 120) ((if (m_isOfGoal_L31 (Int32.toNatClampNeg l7_L31)) = 0 then (if o_L33 = 0 then some 1 else some 0) else some 0)) else some 0) else some 1)) else (if l3_L31 = 3 then gd (inb l7_L31 120) ((if (m_isOfGoal_L31 (Int32.toNatClampNeg l7_L31)) = 0 then (if o_L33 = 0 then some 1 else some 0) else some 0)) else some 0))))) fun (j39 : Int32) => Option.bind (some (l6_L31 + j39)) fun v50 => Option.bind (some (l7_L31 + 1)) fun v51 => F_X8_proves_L31 l3_L31 m_crowds_L31 m_isStep_L31 m_isOfGoal_L31 m_isMet_L31 f v50 v51))
def F_X8_proves (a0 : Int32) (a1 : Int32) (a2 : Int32) (m_n : Int32) (m_robots : Int32) (m_viewed : Int32) (m_rules : Int32) (m_crowds : Int32) (m_here : Nat → Int32) (m_hand : Nat → Int32) (m_view : Nat → Int32) (m_up : Nat → Int32) (m_down : Nat → Int32) (m_ruleSize : Nat → Int32) (m_ruleRow : Nat → Int32) (m_ruleDoes : Nat → Int32) (m_name : Nat → Int32) (m_crowd : Nat → Int32) (m_isStep : Nat → Int32) (m_isOfGoal : Nat → Int32) (m_isMet : Nat → Int32) (m_most : Nat → Int32) (m_stands : Nat → Int32) (m_doesHere : Nat → Int32) (m_from : Nat → Int32) : Option (Int32 × Int32 × Int32 × Int32 × (Nat → Int32) × (Nat → Int32) × (Nat → Int32) × (Nat → Int32) × (Nat → Int32) × (Nat → Int32) × (Nat → Int32) × (Nat → Int32) × (Nat → Int32) × (Nat → Int32) × (Nat → Int32) × (Nat → Int32) × (Nat → Int32)) :=
  Option.bind (F_X8_in (Int32.toInt64 a0) 0 2) fun p1 => (if p1 = 0 then some ((-1000001), 0, m_viewed, m_crowds, m_hand, m_view, m_up, m_down, m_name, m_crowd, m_isStep, m_isOfGoal, m_isMet, m_most, m_stands, m_doesHere, m_from) else Option.bind (F_X8_in (Int32.toInt64 a1) 0 2) fun p3 => (if p3 = 0 then some ((-1000001), 0, m_viewed, m_crowds, m_hand, m_view, m_up, m_down, m_name, m_crowd, m_isStep, m_isOfGoal, m_isMet, m_most, m_stands, m_doesHere, m_from) else Option.bind (F_X8_in (Int32.toInt64 a2) 0 4) fun p5 => (if p5 = 0 then some ((-1000001), 0, m_viewed, m_crowds, m_hand, m_view, m_up, m_down, m_name, m_crowd, m_isStep, m_isOfGoal, m_isMet, m_most, m_stands, m_doesHere, m_from) else (if m_robots = 0 then some ((-1000002), 0, m_viewed, m_crowds, m_hand, m_view, m_up, m_down, m_name, m_crowd, m_isStep, m_isOfGoal, m_isMet, m_most, m_stands, m_doesHere, m_from) else Option.bind (F_X8_prove a0 a1 m_n m_robots m_viewed m_rules m_hand m_view m_up m_down m_ruleSize m_ruleRow m_ruleDoes m_name m_crowd m_isStep m_isOfGoal m_most m_stands m_doesHere m_from) fun p8 => Option.bind (F_X8_take m_here p8.2.2.1) fun p9 => Option.bind (F_X8_findName m_n p9 p8.2.2.2.2.2.2.1) fun p10 => Option.bind (F_X8_numberOfName m_n p8.2.1 p10 p8.2.2.2.2.2.2.2.1) fun p11 => (if a2 = 0 then gd (inb p11 120) ((if (p8.2.2.2.2.2.2.2.2.2.2.1 (Int32.toNatClampNeg p11)) = (-1000000) then some (0, 0, p8.1, p8.2.1, p9, p8.2.2.2.1, p8.2.2.2.2.1, p8.2.2.2.2.2.1, p10, p8.2.2.2.2.2.2.2.1, p8.2.2.2.2.2.2.2.2.1, p8.2.2.2.2.2.2.2.2.2.1, m_isMet, p8.2.2.2.2.2.2.2.2.2.2.1, p8.2.2.2.2.2.2.2.2.2.2.2.1, p8.2.2.2.2.2.2.2.2.2.2.2.2.1, p8.2.2.2.2.2.2.2.2.2.2.2.2.2) else some (1, 0, p8.1, p8.2.1, p9, p8.2.2.2.1, p8.2.2.2.2.1, p8.2.2.2.2.2.1, p10, p8.2.2.2.2.2.2.2.1, p8.2.2.2.2.2.2.2.2.1, p8.2.2.2.2.2.2.2.2.2.1, m_isMet, p8.2.2.2.2.2.2.2.2.2.2.1, p8.2.2.2.2.2.2.2.2.2.2.2.1, p8.2.2.2.2.2.2.2.2.2.2.2.2.1, p8.2.2.2.2.2.2.2.2.2.2.2.2.2))) else (if a2 = 4 then gd (inb p11 120) (some ((p8.2.2.2.2.2.2.2.2.2.2.1 (Int32.toNatClampNeg p11)), 0, p8.1, p8.2.1, p9, p8.2.2.2.1, p8.2.2.2.2.1, p8.2.2.2.2.2.1, p10, p8.2.2.2.2.2.2.2.1, p8.2.2.2.2.2.2.2.2.1, p8.2.2.2.2.2.2.2.2.2.1, m_isMet, p8.2.2.2.2.2.2.2.2.2.2.1, p8.2.2.2.2.2.2.2.2.2.2.2.1, p8.2.2.2.2.2.2.2.2.2.2.2.2.1, p8.2.2.2.2.2.2.2.2.2.2.2.2.2)) else Option.bind (F_X8_proves_L14 p11 p8.2.1 FU 0 m_isMet) fun o_L14 => Option.bind (F_X8_proves_L19 p8.2.1 p8.2.2.2.2.2.2.2.2.1 FU 1 o_L14) fun o_L19 => Option.bind (F_X8_proves_L31 a2 p8.2.1 p8.2.2.2.2.2.2.2.2.1 p8.2.2.2.2.2.2.2.2.2.1 o_L19 FU 0 0) fun o_L31 => some (o_L31, 0, p8.1, p8.2.1, p9, p8.2.2.2.1, p8.2.2.2.2.1, p8.2.2.2.2.2.1, p10, p8.2.2.2.2.2.2.2.1, p8.2.2.2.2.2.2.2.2.1, p8.2.2.2.2.2.2.2.2.2.1, o_L19, p8.2.2.2.2.2.2.2.2.2.2.1, p8.2.2.2.2.2.2.2.2.2.2.2.1, p8.2.2.2.2.2.2.2.2.2.2.2.2.1, p8.2.2.2.2.2.2.2.2.2.2.2.2.2)))))))
def rm_X8_proves : Room := { frames := 5, cells := 0, slots := 0, locals := 132 }
def F_X8_starts_L9 (m_crowds_L9 : Int32) (m_most_L9 : Nat → Int32) : Nat → Int32 → Int32 →  Option (Int32)
  | 0, _, _ => none
  | f+1, l4_L9, l5_L9 =>
    (if m_crowds_L9 ≤ l5_L9 then some l4_L9 else gd (inb l5_L9 120) (Option.bind ((if (m_most_L9 (Int32.toNatClampNeg l5_L9)) = (-1000000) then some 0 else some 1)) fun (j11 : Int32) => Option.bind (some (l4_L9 + j11)) fun v13 => Option.bind (some (l5_L9 + 1)) fun v14 => F_X8_starts_L9 m_crowds_L9 m_most_L9 f v13 v14))
def F_X8_starts (a0 : Int32) (a1 : Int32) (a2 : Int32) (m_n : Int32) (m_robots : Int32) (m_viewed : Int32) (m_rules : Int32) (m_crowds : Int32) (m_hand : Nat → Int32) (m_view : Nat → Int32) (m_up : Nat → Int32) (m_down : Nat → Int32) (m_ruleSize : Nat → Int32) (m_ruleRow : Nat → Int32) (m_ruleDoes : Nat → Int32) (m_name : Nat → Int32) (m_crowd : Nat → Int32) (m_isStep : Nat → Int32) (m_isOfGoal : Nat → Int32) (m_most : Nat → Int32) (m_stands : Nat → Int32) (m_doesHere : Nat → Int32) (m_from : Nat → Int32) : Option (Int32 × Int32 × Int32 × Int32 × (Nat → Int32) × (Nat → Int32) × (Nat → Int32) × (Nat → Int32) × (Nat → Int32) × (Nat → Int32) × (Nat → Int32) × (Nat → Int32) × (Nat → Int32) × (Nat → Int32) × (Nat → Int32) × (Nat → Int32)) :=
  Option.bind (F_X8_in (Int32.toInt64 a0) 0 2) fun p1 => (if p1 = 0 then some ((-1000001), 0, m_viewed, m_crowds, m_hand, m_view, m_up, m_down, m_name, m_crowd, m_isStep, m_isOfGoal, m_most, m_stands, m_doesHere, m_from) else Option.bind (F_X8_in (Int32.toInt64 a1) 0 2) fun p3 => (if p3 = 0 then some ((-1000001), 0, m_viewed, m_crowds, m_hand, m_view, m_up, m_down, m_name, m_crowd, m_isStep, m_isOfGoal, m_most, m_stands, m_doesHere, m_from) else Option.bind (F_X8_in (Int32.toInt64 a2) 0 1) fun p5 => (if p5 = 0 then some ((-1000001), 0, m_viewed, m_crowds, m_hand, m_view, m_up, m_down, m_name, m_crowd, m_isStep, m_isOfGoal, m_most, m_stands, m_doesHere, m_from) else (if m_robots = 0 then some ((-1000002), 0, m_viewed, m_crowds, m_hand, m_view, m_up, m_down, m_name, m_crowd, m_isStep, m_isOfGoal, m_most, m_stands, m_doesHere, m_from) else Option.bind (F_X8_prove a0 a1 m_n m_robots m_viewed m_rules m_hand m_view m_up m_down m_ruleSize m_ruleRow m_ruleDoes m_name m_crowd m_isStep m_isOfGoal m_most m_stands m_doesHere m_from) fun p8 => Option.bind (F_X8_starts_L9 p8.2.1 p8.2.2.2.2.2.2.2.2.2.2.1 FU 0 0) fun o_L9 => (if a2 = 0 then some (p8.2.1, 0, p8.1, p8.2.1, p8.2.2.1, p8.2.2.2.1, p8.2.2.2.2.1, p8.2.2.2.2.2.1, p8.2.2.2.2.2.2.1, p8.2.2.2.2.2.2.2.1, p8.2.2.2.2.2.2.2.2.1, p8.2.2.2.2.2.2.2.2.2.1, p8.2.2.2.2.2.2.2.2.2.2.1, p8.2.2.2.2.2.2.2.2.2.2.2.1, p8.2.2.2.2.2.2.2.2.2.2.2.2.1, p8.2.2.2.2.2.2.2.2.2.2.2.2.2) else some (o_L9, 0, p8.1, p8.2.1, p8.2.2.1, p8.2.2.2.1, p8.2.2.2.2.1, p8.2.2.2.2.2.1, p8.2.2.2.2.2.2.1, p8.2.2.2.2.2.2.2.1, p8.2.2.2.2.2.2.2.2.1, p8.2.2.2.2.2.2.2.2.2.1, p8.2.2.2.2.2.2.2.2.2.2.1, p8.2.2.2.2.2.2.2.2.2.2.2.1, p8.2.2.2.2.2.2.2.2.2.2.2.2.1, p8.2.2.2.2.2.2.2.2.2.2.2.2.2))))))
def rm_X8_starts : Room := { frames := 5, cells := 0, slots := 0, locals := 132 }
def F_X8_kindNow (m_n : Int32) (m_here : Nat → Int32) (m_hand : Nat → Int32) : Option (Int32 × (Nat → Int32)) :=
  Option.bind (F_X8_take m_here m_hand) fun p1 => Option.bind (F_X8_same 0 m_n p1) fun p2 => (if p2 ≤ 1 then Option.bind (F_X8_same 1 m_n p1) fun p4 => (if p4 ≤ 0 then some (3, p1) else some (1, p1)) else some (2, p1))
def rm_X8_kindNow : Room := { frames := 2, cells := 0, slots := 0, locals := 48 }
def F_X8_kind (m_n : Int32) (m_robots : Int32) (m_here : Nat → Int32) (m_hand : Nat → Int32) : Option (Int32 × Int32 × (Nat → Int32)) :=
  (if m_robots = 0 then some ((-1000002), 0, m_hand) else Option.bind (F_X8_kindNow m_n m_here m_hand) fun p2 => some (p2.1, 0, p2.2))
def rm_X8_kind : Room := { frames := 3, cells := 0, slots := 0, locals := 68 }
def F_X8_as (a0 : Int32) (m_n : Int32) (m_robots : Int32) (m_here : Nat → Int32) (m_hand : Nat → Int32) : Option (Int32 × Int32 × (Nat → Int32)) :=
  Option.bind (F_X8_in (Int32.toInt64 a0) 0 3) fun p1 => (if p1 = 0 then some ((-1000001), 0, m_hand) else (if m_robots = 0 then some ((-1000002), 0, m_hand) else (if a0 = 0 then some (m_robots, 0, m_hand) else Option.bind (F_X8_kindNow m_n m_here m_hand) fun p5 => (if p5.1 = a0 then some (m_robots, 0, p5.2) else some ((-1000004), 0, p5.2)))))
def rm_X8_as : Room := { frames := 3, cells := 0, slots := 0, locals := 68 }
def F_X8_began (a0 : Int32) (m_traced : Int32) (m_trace : Nat → Int32) : Option (Int32 × (Nat → Int32)) :=
  (if 16 ≤ m_traced then some (m_traced, m_trace) else gd (inb m_traced 16) (Option.bind (some (m_traced + 1)) fun v2 => some (v2, (upd m_trace (Int32.toNatClampNeg m_traced) a0))))
def rm_X8_began : Room := { frames := 0, cells := 0, slots := 0, locals := 0 }
def F_X8_sized (a0 : Int32) (m_n : Int32) (m_robots : Int32) (m_traced : Int32) (m_hand : Nat → Int32) (m_trace : Nat → Int32) : Option (Int32 × Int32 × (Nat → Int32)) :=
  Option.bind ((if a0 = 1 then Option.bind (F_X8_began 11 m_traced m_trace) fun p6 => some (p6.1, p6.2) else (if a0 = 2 then Option.bind (F_X8_began 12 m_traced m_trace) fun p5 => some (p5.1, p5.2) else Option.bind (F_X8_began 13 m_traced m_trace) fun p4 => some (p4.1, p4.2)))) fun (j1 : Int32 × (Nat → Int32)) => Option.bind (F_X8_began 10 j1.1 j1.2) fun p7 => (if a0 = 1 then some ((m_robots + m_n), p7.1, p7.2) else (if a0 = 2 then Option.bind (F_X8_same 0 m_n m_hand) fun p10 => some ((m_robots + p10), p7.1, p7.2) else some ((2 * m_robots), p7.1, p7.2)))
def rm_X8_sized : Room := { frames := 2, cells := 0, slots := 0, locals := 48 }
def F_X8_places_L1 (m_n_L1 : Int32) (m_here_L1 : Nat → Int32) : Nat → Int32 → Int32 →  Option (Int32)
  | 0, _, _ => none
  | f+1, l1_L1, l2_L1 =>
    (if m_n_L1 ≤ l2_L1 then some l1_L1 else gd (inb l2_L1 9) (Option.bind ((if (m_here_L1 (Int32.toNatClampNeg l2_L1)) ≤ 0 then some 0 else some 1)) fun (j3 : Int32) => Option.bind (some (l1_L1 + j3)) fun v5 => Option.bind (some (l2_L1 + 1)) fun v6 => F_X8_places_L1 m_n_L1 m_here_L1 f v5 v6))
def F_X8_places (m_n : Int32) (m_here : Nat → Int32) : Option (Int32) :=
  Option.bind (F_X8_places_L1 m_n m_here FU 0 0) fun o_L1 => some o_L1
def rm_X8_places : Room := { frames := 0, cells := 0, slots := 0, locals := 0 }
def F_X8_ask (a0 : Int32) (m_n : Int32) (m_robots : Int32) (m_traced : Int32) (m_here : Nat → Int32) (m_hand : Nat → Int32) (m_trace : Nat → Int32) : Option (Int32 × Int32 × Int32 × (Nat → Int32) × (Nat → Int32)) :=
  Option.bind (F_X8_in (Int32.toInt64 a0) 0 1) fun p1 => (if p1 = 0 then some ((-1000001), 0, m_traced, m_hand, m_trace) else (if m_robots = 0 then some ((-1000002), 0, m_traced, m_hand, m_trace) else Option.bind (F_X8_kindNow m_n m_here m_hand) fun p4 => (if a0 = 0 then Option.bind (F_X8_sized p4.1 m_n m_robots 0 p4.2 m_trace) fun p16 => some (p16.1, 0, p16.2.1, p4.2, p16.2.2) else Option.bind ((if p4.1 = 2 then Option.bind (F_X8_began 21 0 m_trace) fun p10 => some (p10.1, p10.2) else (if p4.1 = 3 then Option.bind (F_X8_began 22 0 m_trace) fun p9 => some (p9.1, p9.2) else some (0, m_trace)))) fun (j6 : Int32 × (Nat → Int32)) => Option.bind (F_X8_began 20 j6.1 j6.2) fun p11 => Option.bind (F_X8_places m_n m_here) fun p12 => (if p4.1 = 2 then Option.bind (F_X8_sized p4.1 m_n m_robots p11.1 p4.2 p11.2) fun p15 => some ((p12 + p15.1), 0, p15.2.1, p4.2, p15.2.2) else (if p4.1 = 3 then some ((p12 + 100), 0, p11.1, p4.2, p11.2) else some (p12, 0, p11.1, p4.2, p11.2))))))
def rm_X8_ask : Room := { frames := 3, cells := 0, slots := 0, locals := 69 }
def F_X8_trace (a0 : Int32) (m_traced : Int32) (m_trace : Nat → Int32) : Option (Int32 × Int32) :=
  Option.bind (F_X8_in (Int32.toInt64 a0) 0 (Int32.toInt64 (m_traced - 1))) fun p1 => (if p1 = 0 then some ((-1000000), 0) else gd (inb a0 16) (some ((m_trace (Int32.toNatClampNeg a0)), 0)))
def rm_X8_trace : Room := { frames := 1, cells := 0, slots := 0, locals := 25 }
def F_X8_count (a0 : Int32) (m_n : Int32) (m_robots : Int32) (m_rules : Int32) (m_taped : Int32) (m_here : Nat → Int32) (m_hand : Nat → Int32) : Option (Int32 × Int32 × (Nat → Int32)) :=
  Option.bind (F_X8_take m_here m_hand) fun p1 => (if a0 = 0 then some (m_n, 0, p1) else (if a0 = 1 then some (m_robots, 0, p1) else (if a0 = 2 then Option.bind (F_X8_places m_n m_here) fun p5 => some (p5, 0, p1) else (if a0 = 3 then some (m_rules, 0, p1) else (if a0 = 4 then Option.bind (F_X8_same 0 m_n p1) fun p8 => some (p8, 0, p1) else (if a0 = 5 then Option.bind (F_X8_same 1 m_n p1) fun p10 => some (p10, 0, p1) else (if a0 = 6 then some (m_taped, 0, p1) else some ((-1000001), 0, p1))))))))
def rm_X8_count : Room := { frames := 2, cells := 0, slots := 0, locals := 48 }
def F_X1_clear_s  : Option (Int32) :=
  some 0
def rm_X1_clear_s : Room := { frames := 0, cells := 0, slots := 0, locals := 0 }
def F_X5_rewind  : Option (Int32 × Int32 × Int32 × Int32) :=
  some (0, 0, 0, 0)
def rm_X5_rewind : Room := { frames := 0, cells := 0, slots := 0, locals := 0 }
def F_X5_byteAt (a0 : Int32) (x_t_length : Int32) (x_t_bytes : Nat → Int32) : Option (Int32) :=
  Option.bind (F_X7_outside a0 x_t_length) fun p1 => (if p1 = 0 then (if a0 < 400 then gd (inb a0 400) (some (x_t_bytes (Int32.toNatClampNeg a0))) else some (-1)) else some (-1))
def rm_X5_byteAt : Room := { frames := 1, cells := 0, slots := 0, locals := 21 }
def F_X5_isBlank (a0 : Int32)  : Option (Int32) :=
  (if a0 = 32 then some 1 else (if a0 = 10 then some 1 else some 0))
def rm_X5_isBlank : Room := { frames := 0, cells := 0, slots := 0, locals := 0 }
def F_X5_isFigure (a0 : Int32)  : Option (Int32) :=
  (if a0 < 48 then some 0 else (if 57 < a0 then some 0 else some 1))
def rm_X5_isFigure : Room := { frames := 0, cells := 0, slots := 0, locals := 0 }
def F_X5_isLetter (a0 : Int32)  : Option (Int32) :=
  (if a0 < 97 then some 0 else (if 122 < a0 then some 0 else some 1))
def rm_X5_isLetter : Room := { frames := 0, cells := 0, slots := 0, locals := 0 }
def F_X5_spells_0_L2 (x_t_length_L2 : Int32) (x_t_from_L2 : Int32) (x_t_bytes_L2 : Nat → Int32) : Nat → Int32 →  Option (Sum (Int32) (Unit))
  | 0, _ => none
  | f+1, l2_L2 =>
    (if 3 ≤ l2_L2 then some (.inr ()) else Option.bind (F_X5_byteAt (x_t_from_L2 + l2_L2) x_t_length_L2 x_t_bytes_L2) fun p4 => gd (inb l2_L2 3) ((if p4 = (sCh 0 l2_L2) then Option.bind (some (l2_L2 + 1)) fun v6 => F_X5_spells_0_L2 x_t_length_L2 x_t_from_L2 x_t_bytes_L2 f v6 else some (.inl 0))))
def F_X5_spells_0 (x_t_length : Int32) (x_t_from : Int32) (x_t_behind : Int32) (x_t_bytes : Nat → Int32) : Option (Int32) :=
  (if (x_t_behind - x_t_from) = 3 then Option.bind (F_X5_spells_0_L2 x_t_length x_t_from x_t_bytes FU 0) fun o_L2s => Sum.elim (fun x => some x) (fun o_L2 => some 1) o_L2s else some 0)
def rm_X5_spells_0 : Room := { frames := 4, cells := 0, slots := 0, locals := 85 }
def F_X5_spells_1_L2 (x_t_length_L2 : Int32) (x_t_from_L2 : Int32) (x_t_bytes_L2 : Nat → Int32) : Nat → Int32 →  Option (Sum (Int32) (Unit))
  | 0, _ => none
  | f+1, l2_L2 =>
    (if 4 ≤ l2_L2 then some (.inr ()) else Option.bind (F_X5_byteAt (x_t_from_L2 + l2_L2) x_t_length_L2 x_t_bytes_L2) fun p4 => gd (inb l2_L2 4) ((if p4 = (sCh 1 l2_L2) then Option.bind (some (l2_L2 + 1)) fun v6 => F_X5_spells_1_L2 x_t_length_L2 x_t_from_L2 x_t_bytes_L2 f v6 else some (.inl 0))))
def F_X5_spells_1 (x_t_length : Int32) (x_t_from : Int32) (x_t_behind : Int32) (x_t_bytes : Nat → Int32) : Option (Int32) :=
  (if (x_t_behind - x_t_from) = 4 then Option.bind (F_X5_spells_1_L2 x_t_length x_t_from x_t_bytes FU 0) fun o_L2s => Sum.elim (fun x => some x) (fun o_L2 => some 1) o_L2s else some 0)
def rm_X5_spells_1 : Room := { frames := 4, cells := 0, slots := 0, locals := 85 }
def F_X5_spells_2_L2 (x_t_length_L2 : Int32) (x_t_from_L2 : Int32) (x_t_bytes_L2 : Nat → Int32) : Nat → Int32 →  Option (Sum (Int32) (Unit))
  | 0, _ => none
  | f+1, l2_L2 =>
    (if 3 ≤ l2_L2 then some (.inr ()) else Option.bind (F_X5_byteAt (x_t_from_L2 + l2_L2) x_t_length_L2 x_t_bytes_L2) fun p4 => gd (inb l2_L2 3) ((if p4 = (sCh 2 l2_L2) then Option.bind (some (l2_L2 + 1)) fun v6 => F_X5_spells_2_L2 x_t_length_L2 x_t_from_L2 x_t_bytes_L2 f v6 else some (.inl 0))))
def F_X5_spells_2 (x_t_length : Int32) (x_t_from : Int32) (x_t_behind : Int32) (x_t_bytes : Nat → Int32) : Option (Int32) :=
  (if (x_t_behind - x_t_from) = 3 then Option.bind (F_X5_spells_2_L2 x_t_length x_t_from x_t_bytes FU 0) fun o_L2s => Sum.elim (fun x => some x) (fun o_L2 => some 1) o_L2s else some 0)
def rm_X5_spells_2 : Room := { frames := 4, cells := 0, slots := 0, locals := 85 }
def F_X5_spells_3_L2 (x_t_length_L2 : Int32) (x_t_from_L2 : Int32) (x_t_bytes_L2 : Nat → Int32) : Nat → Int32 →  Option (Sum (Int32) (Unit))
  | 0, _ => none
  | f+1, l2_L2 =>
    (if 4 ≤ l2_L2 then some (.inr ()) else Option.bind (F_X5_byteAt (x_t_from_L2 + l2_L2) x_t_length_L2 x_t_bytes_L2) fun p4 => gd (inb l2_L2 4) ((if p4 = (sCh 3 l2_L2) then Option.bind (some (l2_L2 + 1)) fun v6 => F_X5_spells_3_L2 x_t_length_L2 x_t_from_L2 x_t_bytes_L2 f v6 else some (.inl 0))))
def F_X5_spells_3 (x_t_length : Int32) (x_t_from : Int32) (x_t_behind : Int32) (x_t_bytes : Nat → Int32) : Option (Int32) :=
  (if (x_t_behind - x_t_from) = 4 then Option.bind (F_X5_spells_3_L2 x_t_length x_t_from x_t_bytes FU 0) fun o_L2s => Sum.elim (fun x => some x) (fun o_L2 => some 1) o_L2s else some 0)
def rm_X5_spells_3 : Room := { frames := 4, cells := 0, slots := 0, locals := 85 }
def F_X5_readName_L1 (x_t_length_L1 : Int32) (x_t_bytes_L1 : Nat → Int32) : Nat → Int32 →  Option (Int32)
  | 0, _ => none
  | f+1, x_t_behind_L1 =>
    (if x_t_length_L1 ≤ x_t_behind_L1 then some x_t_behind_L1 else Option.bind (F_X5_byteAt x_t_behind_L1 x_t_length_L1 x_t_bytes_L1) fun p3 => Option.bind (F_X5_isLetter p3) fun p4 => (if p4 = 0 then some x_t_behind_L1 else Option.bind (some (x_t_behind_L1 + 1)) fun v6 => F_X5_readName_L1 x_t_length_L1 x_t_bytes_L1 f v6))
def F_X5_readName (x_t_length : Int32) (x_t_from : Int32) (x_t_value : Int32) (x_t_behind : Int32) (x_t_bytes : Nat → Int32) : Option (Int32 × Int32 × Int32) :=
  Option.bind (F_X5_readName_L1 x_t_length x_t_bytes FU x_t_behind) fun o_L1 => Option.bind (F_X5_spells_0 x_t_length x_t_from o_L1 x_t_bytes) fun p7 => (if p7 = 0 then Option.bind (F_X5_spells_1 x_t_length x_t_from o_L1 x_t_bytes) fun p9 => (if p9 = 0 then Option.bind (F_X5_spells_2 x_t_length x_t_from o_L1 x_t_bytes) fun p11 => (if p11 = 0 then Option.bind (F_X5_spells_3 x_t_length x_t_from o_L1 x_t_bytes) fun p13 => (if p13 = 0 then some (0, x_t_value, o_L1) else some (6, 0, o_L1)) else some (6, 2, o_L1)) else some (6, 1, o_L1)) else some (5, x_t_value, o_L1))
def rm_X5_readName : Room := { frames := 5, cells := 0, slots := 0, locals := 107 }
def F_X5_readNumber_L1 (x_t_length_L1 : Int32) (x_t_bytes_L1 : Nat → Int32) : Nat → Int32 →  Option (Int32)
  | 0, _ => none
  | f+1, x_t_behind_L1 =>
    (if x_t_length_L1 ≤ x_t_behind_L1 then some x_t_behind_L1 else Option.bind (F_X5_byteAt x_t_behind_L1 x_t_length_L1 x_t_bytes_L1) fun p3 => Option.bind (F_X5_isFigure p3) fun p4 => (if p4 = 0 then some x_t_behind_L1 else Option.bind (some (x_t_behind_L1 + 1)) fun v6 => F_X5_readNumber_L1 x_t_length_L1 x_t_bytes_L1 f v6))
def F_X5_readNumber_L9 (x_t_length_L9 : Int32) (x_t_token_L9 : Int32) (x_t_behind_L9 : Int32) (x_t_bytes_L9 : Nat → Int32) : Nat → Int32 → Int32 →  Option (Int32)
  | 0, _, _ => none
  | f+1, l1_L9, x_t_value_L9 =>
    (if x_t_behind_L9 ≤ l1_L9 then some x_t_value_L9 else (if x_t_token_L9 = 2 then Option.bind (F_X5_byteAt l1_L9 x_t_length_L9 x_t_bytes_L9) fun p12 => Option.bind (some (((10 * x_t_value_L9) + p12) - 48)) fun v13 => Option.bind (some (l1_L9 + 1)) fun v14 => F_X5_readNumber_L9 x_t_length_L9 x_t_token_L9 x_t_behind_L9 x_t_bytes_L9 f v14 v13 else some x_t_value_L9))
def F_X5_readNumber (x_t_length : Int32) (x_t_from : Int32) (x_t_value : Int32) (x_t_behind : Int32) (x_t_bytes : Nat → Int32) : Option (Int32 × Int32 × Int32) :=
  Option.bind (F_X5_readNumber_L1 x_t_length x_t_bytes FU x_t_behind) fun o_L1 => Option.bind ((if (o_L1 - x_t_from) ≤ 2 then some 2 else some 0)) fun (j7 : Int32) => Option.bind (F_X5_readNumber_L9 x_t_length j7 o_L1 x_t_bytes FU x_t_from x_t_value) fun o_L9 => some (j7, o_L9, o_L1)
def rm_X5_readNumber : Room := { frames := 2, cells := 0, slots := 0, locals := 42 }
def F_X5_readToken_L1 (x_t_length_L1 : Int32) (x_t_bytes_L1 : Nat → Int32) : Nat → Int32 →  Option (Int32)
  | 0, _ => none
  | f+1, x_t_from_L1 =>
    (if x_t_length_L1 ≤ x_t_from_L1 then some x_t_from_L1 else Option.bind (F_X5_byteAt x_t_from_L1 x_t_length_L1 x_t_bytes_L1) fun p3 => Option.bind (F_X5_isBlank p3) fun p4 => (if p4 = 0 then some x_t_from_L1 else Option.bind (some (x_t_from_L1 + 1)) fun v6 => F_X5_readToken_L1 x_t_length_L1 x_t_bytes_L1 f v6))
def F_X5_readToken (x_t_length : Int32) (x_t_behind : Int32) (x_t_bytes : Nat → Int32) : Option (Int32 × Int32 × Int32 × Int32) :=
  Option.bind (F_X5_readToken_L1 x_t_length x_t_bytes FU x_t_behind) fun o_L1 => Option.bind (some (o_L1 + 1)) fun v7 => Option.bind (F_X5_byteAt o_L1 x_t_length x_t_bytes) fun p8 => (if o_L1 < x_t_length then Option.bind (F_X5_isFigure p8) fun p10 => (if p10 = 0 then Option.bind (F_X5_isLetter p8) fun p12 => (if p12 = 0 then (if p8 = 44 then some (3, o_L1, 0, v7) else (if p8 = 59 then some (4, o_L1, 0, v7) else some (0, o_L1, 0, v7))) else Option.bind (F_X5_readName x_t_length o_L1 0 v7 x_t_bytes) fun p16 => some (p16.1, o_L1, p16.2.1, p16.2.2)) else Option.bind (F_X5_readNumber x_t_length o_L1 0 v7 x_t_bytes) fun p17 => some (p17.1, o_L1, p17.2.1, p17.2.2)) else some (1, o_L1, 0, x_t_length))
def rm_X5_readToken : Room := { frames := 6, cells := 0, slots := 0, locals := 127 }
def F_X2_isPlaced (x_t_token : Int32) (x_r_wants : Int32) : Option (Int32) :=
  (if x_r_wants = 0 then (if x_t_token = 5 then some 1 else (if x_t_token = 1 then some 1 else some 0)) else (if x_r_wants = 1 then (if x_t_token = 2 then some 1 else some 0) else (if x_r_wants = 2 then (if x_t_token = 2 then some 1 else some 0) else (if x_r_wants = 3 then (if x_t_token = 3 then some 1 else (if x_t_token = 6 then some 1 else some 0)) else (if x_r_wants = 4 then (if x_t_token = 4 then some 1 else some 0) else (if x_t_token = 2 then some 1 else some 0))))))
def rm_X2_isPlaced : Room := { frames := 0, cells := 0, slots := 0, locals := 0 }
def F_X1_find_s_L1 (l1_L1 : Int64) (x_s_size_L1 : Int32) (x_s_rows_L1 : Nat → Int64) : Nat → Int32 →  Option (Sum (Int32) (Unit))
  | 0, _ => none
  | f+1, l3_L1 =>
    (if x_s_size_L1 ≤ l3_L1 then some (.inr ()) else (if 30 ≤ l3_L1 then some (.inr ()) else gd (inb l3_L1 30) ((if (lg_cmp (x_s_rows_L1 (Int32.toNatClampNeg l3_L1)) l1_L1) = 0 then some (.inl l3_L1) else Option.bind (some (l3_L1 + 1)) fun v5 => F_X1_find_s_L1 l1_L1 x_s_size_L1 x_s_rows_L1 f v5))))
def F_X1_find_s (a0 : Int64) (x_s_size : Int32) (x_s_rows : Nat → Int64) : Option (Int32) :=
  Option.bind (F_X1_find_s_L1 a0 x_s_size x_s_rows FU 0) fun o_L1s => Sum.elim (fun x => some x) (fun o_L1 => some (-1)) o_L1s
def rm_X1_find_s : Room := { frames := 0, cells := 0, slots := 0, locals := 0 }
def F_X1_has_s (a0 : Int64) (x_s_size : Int32) (x_s_rows : Nat → Int64) : Option (Int32) :=
  Option.bind (F_X1_find_s a0 x_s_size x_s_rows) fun p1 => (if p1 < 0 then some 0 else some 1)
def rm_X1_has_s : Room := { frames := 1, cells := 0, slots := 0, locals := 23 }
def F_X2_isTooMuch (x_t_token : Int32) (x_r_pairs : Int32) (x_r_sees : Int32) (x_r_row : Int64) (x_s_size : Int32) (x_s_rows : Nat → Int64) : Option (Int32) :=
  (if x_t_token = 3 then (if x_r_pairs < 4 then some 0 else some 1) else (if x_t_token = 4 then some 0 else (if x_t_token = 5 then (if x_r_sees < 30 then some 0 else some 1) else (if x_t_token = 6 then Option.bind (F_X1_has_s x_r_row x_s_size x_s_rows) fun p7 => some p7 else some 0))))
def rm_X2_isTooMuch : Room := { frames := 2, cells := 0, slots := 0, locals := 45 }
def F_X2_faultAgainst (x_t_token : Int32) (x_t_value : Int32) (x_r_wants : Int32) (x_r_pairs : Int32) (x_r_sees : Int32) (x_r_row : Int64) (x_s_size : Int32) (x_s_rows : Nat → Int64) : Option (Int32) :=
  Option.bind (F_X2_isPlaced x_t_token x_r_wants) fun p1 => (if p1 = 0 then some 1 else (if x_t_token = 2 then (if x_t_value = 0 then some 2 else Option.bind (F_X2_isTooMuch x_t_token x_r_pairs x_r_sees x_r_row x_s_size x_s_rows) fun p7 => (if p7 = 0 then some 0 else some 3)) else Option.bind (F_X2_isTooMuch x_t_token x_r_pairs x_r_sees x_r_row x_s_size x_s_rows) fun p4 => (if p4 = 0 then some 0 else some 3)))
def rm_X2_faultAgainst : Room := { frames := 3, cells := 0, slots := 0, locals := 66 }
def F_X2_takeNumber (x_t_value : Int32) (x_r_wants : Int32) (x_r_pairs : Int32) (x_r_row : Int64) : Option (Int32 × Int32 × Int64) :=
  Option.bind (F_X4_with x_r_row x_t_value) fun p1 => Option.bind ((if x_r_wants = 2 then Option.bind (some (x_r_pairs + 1)) fun v4 => some v4 else some x_r_pairs)) fun (j2 : Int32) => (if x_r_wants = 1 then some (2, j2, p1) else some (3, j2, p1))
def rm_X2_takeNumber : Room := { frames := 1, cells := 0, slots := 0, locals := 22 }
def F_X1_put_s (a0 : Int64) (a1 : Int32) (x_s_size : Int32) (x_s_rows : Nat → Int64) (x_s_acts : Nat → Int32) : Option (Int32 × (Nat → Int64) × (Nat → Int32)) :=
  (if 30 ≤ x_s_size then some (x_s_size, x_s_rows, x_s_acts) else gd (inb x_s_size 30) (gd (inb x_s_size 30) (Option.bind (some (x_s_size + 1)) fun v2 => some (v2, (vp_updL x_s_rows (Int32.toNatClampNeg x_s_size) a0), (upd x_s_acts (Int32.toNatClampNeg x_s_size) a1)))))
def rm_X1_put_s : Room := { frames := 0, cells := 0, slots := 0, locals := 0 }
def F_X2_take (x_t_token : Int32) (x_t_value : Int32) (x_r_wants : Int32) (x_r_pairs : Int32) (x_r_sees : Int32) (x_r_row : Int64) (x_s_size : Int32) (x_s_rows : Nat → Int64) (x_s_acts : Nat → Int32) : Option (Int32 × Int32 × Int32 × Int64 × Int32 × (Nat → Int64) × (Nat → Int32)) :=
  (if x_t_token = 2 then Option.bind (F_X2_takeNumber x_t_value x_r_wants x_r_pairs x_r_row) fun p2 => some (p2.1, p2.2.1, x_r_sees, p2.2.2, x_s_size, x_s_rows, x_s_acts) else (if x_t_token = 3 then some (1, x_r_pairs, x_r_sees, x_r_row, x_s_size, x_s_rows, x_s_acts) else (if x_t_token = 4 then some (0, x_r_pairs, x_r_sees, x_r_row, x_s_size, x_s_rows, x_s_acts) else (if x_t_token = 5 then Option.bind (some (x_r_sees + 1)) fun v6 => some (1, 0, v6, 0, x_s_size, x_s_rows, x_s_acts) else (if x_t_token = 6 then Option.bind (F_X1_put_s x_r_row x_t_value x_s_size x_s_rows x_s_acts) fun p8 => some (4, x_r_pairs, x_r_sees, x_r_row, p8.1, p8.2.1, p8.2.2) else some (0, x_r_pairs, x_r_sees, x_r_row, x_s_size, x_s_rows, x_s_acts))))))
def rm_X2_take : Room := { frames := 2, cells := 0, slots := 0, locals := 42 }
def F_X2_read_L3 (x_t_length_L3 : Int32) (x_t_bytes_L3 : Nat → Int32) : Nat → Int32 → Int32 → Int32 → Int32 → Int32 → Int32 → Int32 → Int32 → Int64 → Int32 → (Nat → Int64) → (Nat → Int32) →  Option (Sum (Int32 × Int32 × Int32 × Int32 × Int32 × Int32 × Int32 × Int32 × Int64 × Int32 × (Nat → Int64) × (Nat → Int32)) (Int32 × Int32 × Int32 × Int32 × Int32 × Int32 × Int32 × Int64 × Int32 × (Nat → Int64) × (Nat → Int32)))
  | 0, _, _, _, _, _, _, _, _, _, _, _, _ => none
  | f+1, l2_L3, x_t_token_L3, x_t_from_L3, x_t_value_L3, x_t_behind_L3, x_r_wants_L3, x_r_pairs_L3, x_r_sees_L3, x_r_row_L3, x_s_size_L3, x_s_rows_L3, x_s_acts_L3 =>
    (if 400 < l2_L3 then some (.inr (x_t_token_L3, x_t_from_L3, x_t_value_L3, x_t_behind_L3, x_r_wants_L3, x_r_pairs_L3, x_r_sees_L3, x_r_row_L3, x_s_size_L3, x_s_rows_L3, x_s_acts_L3)) else Option.bind (F_X5_readToken x_t_length_L3 x_t_behind_L3 x_t_bytes_L3) fun p5 => Option.bind (F_X2_faultAgainst p5.1 p5.2.2.1 x_r_wants_L3 x_r_pairs_L3 x_r_sees_L3 x_r_row_L3 x_s_size_L3 x_s_rows_L3) fun p6 => (if p6 = 0 then (if p5.1 = 1 then some (.inl (p6, p5.1, p5.2.1, p5.2.2.1, p5.2.2.2, x_r_wants_L3, x_r_pairs_L3, x_r_sees_L3, x_r_row_L3, x_s_size_L3, x_s_rows_L3, x_s_acts_L3)) else Option.bind (F_X2_take p5.1 p5.2.2.1 x_r_wants_L3 x_r_pairs_L3 x_r_sees_L3 x_r_row_L3 x_s_size_L3 x_s_rows_L3 x_s_acts_L3) fun p9 => Option.bind (some (l2_L3 + 1)) fun v10 => F_X2_read_L3 x_t_length_L3 x_t_bytes_L3 f v10 p5.1 p5.2.1 p5.2.2.1 p5.2.2.2 p9.1 p9.2.1 p9.2.2.1 p9.2.2.2.1 p9.2.2.2.2.1 p9.2.2.2.2.2.1 p9.2.2.2.2.2.2) else some (.inl (p6, p5.1, p5.2.1, p5.2.2.1, p5.2.2.2, x_r_wants_L3, x_r_pairs_L3, x_r_sees_L3, x_r_row_L3, x_s_size_L3, x_s_rows_L3, x_s_acts_L3))))
def F_X2_read (x_t_length : Int32) (x_r_pairs : Int32) (x_r_row : Int64) (x_t_bytes : Nat → Int32) (x_s_rows : Nat → Int64) (x_s_acts : Nat → Int32) : Option (Int32 × Int32 × Int32 × Int32 × Int32 × Int32 × Int32 × Int32 × Int64 × Int32 × (Nat → Int64) × (Nat → Int32)) :=
  Option.bind (F_X1_clear_s ) fun p1 => Option.bind (F_X5_rewind ) fun p2 => Option.bind (F_X2_read_L3 x_t_length x_t_bytes FU 0 p2.1 p2.2.1 p2.2.2.1 p2.2.2.2 0 x_r_pairs 0 x_r_row p1 x_s_rows x_s_acts) fun o_L3s => Sum.elim (fun x => some x) (fun o_L3 => some (0, o_L3.1, o_L3.2.1, o_L3.2.2.1, o_L3.2.2.2.1, o_L3.2.2.2.2.1, o_L3.2.2.2.2.2.1, o_L3.2.2.2.2.2.2.1, o_L3.2.2.2.2.2.2.2.1, o_L3.2.2.2.2.2.2.2.2.1, o_L3.2.2.2.2.2.2.2.2.2.1, o_L3.2.2.2.2.2.2.2.2.2.2)) o_L3s
def rm_X2_read : Room := { frames := 7, cells := 0, slots := 0, locals := 148 }
def F_X5_clear  : Option (Int32 × Int32 × Int32 × Int32 × Int32) :=
  Option.bind (F_X5_rewind ) fun p1 => some (0, p1.1, p1.2.1, p1.2.2.1, p1.2.2.2)
def rm_X5_clear : Room := { frames := 1, cells := 0, slots := 0, locals := 20 }
def F_X7_rules (x_latestFault : Int32) (x_t_length : Int32) (x_r_pairs : Int32) (x_r_row : Int64) (x_b_size : Int32) (x_w_linked : Nat → Int32) (x_t_bytes : Nat → Int32) (x_b_rows : Nat → Int64) (x_b_acts : Nat → Int32) (x_s_rows : Nat → Int64) (x_s_acts : Nat → Int32) : Option (Int32 × Bool × Int32 × Int32 × Int32 × Int32 × Int32 × Int32 × Int32 × Int32 × Int32 × Int64 × Int32 × Int32 × (Nat → Int32) × (Nat → Int64) × (Nat → Int32) × (Nat → Int64) × (Nat → Int32)) :=
  Option.bind (F_X2_read x_t_length x_r_pairs x_r_row x_t_bytes x_s_rows x_s_acts) fun p1 => Option.bind (F_X5_clear ) fun p2 => (if p1.1 = 0 then Option.bind (F_X6_forgetRules x_w_linked) fun p4 => some (p1.2.2.2.2.2.2.2.2.2.1, true, x_latestFault, p2.1, p2.2.1, p2.2.2.1, p2.2.2.2.1, p2.2.2.2.2, p1.2.2.2.2.2.1, p1.2.2.2.2.2.2.1, p1.2.2.2.2.2.2.2.1, p1.2.2.2.2.2.2.2.2.1, p1.2.2.2.2.2.2.2.2.2.1, x_b_size, p4, p1.2.2.2.2.2.2.2.2.2.2.1, p1.2.2.2.2.2.2.2.2.2.2.2, x_b_rows, x_b_acts) else some (((-1000100) - p1.2.2.1), false, p1.1, p2.1, p2.2.1, p2.2.2.1, p2.2.2.2.1, p2.2.2.2.2, p1.2.2.2.2.2.1, p1.2.2.2.2.2.2.1, p1.2.2.2.2.2.2.2.1, p1.2.2.2.2.2.2.2.2.1, x_b_size, p1.2.2.2.2.2.2.2.2.2.1, x_w_linked, x_b_rows, x_b_acts, p1.2.2.2.2.2.2.2.2.2.2.1, p1.2.2.2.2.2.2.2.2.2.2.2))
def rm_X7_rules : Room := { frames := 8, cells := 0, slots := 0, locals := 171 }
