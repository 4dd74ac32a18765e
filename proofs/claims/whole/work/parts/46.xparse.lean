/-! the class's reader -/
def nxt (k v w : Nat) (l : List Nat) (B : BOOK) : Nat × List Nat × BOOK :=
  if k = 2 then (w + 1, l ++ [v], B) else if k = 3 then (1, l, B) else if k = 4 then (0, l, B) else if k = 5 then (1, [], B) else (4, l, B ++ [(l, v)])
theorem prs_step {T : Nat → Nat} {t f w : Nat} {l : List Nat} {B : BOOK} {a k v p e : Nat} (hp : p = tokP T t a) (he : e = tokE T t p) (hk : k = (tokK T t p).1) (hv : v = (tokK T t p).2) (hw : w ≤ 4) : prs T t (f + 1) w l B a = if flt k v w l.length B.length (hasB B l) = 0 then (if k = 1 then (0, p, B) else prs T t f (nxt k v w l B).1 (nxt k v w l B).2.1 (nxt k v w l B).2.2 e) else (flt k v w l.length B.length (hasB B l), p, B) := by
  rw [prs.eq_2, ← hp, ← he, ← hk, ← hv]
  unfold flt nxt
  rcases (show w = 0 ∨ w = 1 ∨ w = 2 ∨ w = 3 ∨ w = 4 by omega) with rfl | rfl | rfl | rfl | rfl
  · by_cases q5 : k = 5
    · subst q5
      by_cases q : 30 ≤ B.length
      · simp [q]
      · simp [q]
    · by_cases q1 : k = 1
      · subst q1; simp
      · simp [q5, q1]
  · by_cases q2 : k = 2
    · subst q2
      by_cases q : v = 0
      · simp [q]
      · simp [q]
    · simp [q2]
  · by_cases q2 : k = 2
    · subst q2
      by_cases q : v = 0
      · simp [q]
      · simp [q]
    · simp [q2]
  · by_cases q3 : k = 3
    · subst q3
      by_cases q : 8 ≤ l.length
      · simp [q]
      · simp [q]
    · by_cases q6 : k = 6
      · subst q6
        by_cases q : hasB B l = true
        · simp [q]
        · simp [q]
      · simp [q3, q6]
  · by_cases q4 : k = 4
    · subst q4; simp
    · simp [q4]
def SR (w : Nat) (l : List Nat) (B : BOOK) (pairs sees : Int32) (row : Int64) : Prop := ((w = 0 ∨ w = 4) → sees = nI B.length) ∧ (1 ≤ w → w ≤ 3 → sees = nI (B.length + 1) ∧ pairs = nI (l.length / 2) ∧ row = lN (pk7 l))
theorem x_put {B : BOOK} {l : List Nat} {v : Nat} {rows : Nat → Int64} {acts : Nat → Int32} {size : Int32} (hX : BKX size rows acts B) (h30 : B.length < 30) : F_X1_put_s (lN (pk7 l)) (nI v) size rows acts = some (nI (B.length + 1), vp_updL rows B.length (lN (pk7 l)), upd acts B.length (nI v)) := by
  unfold F_X1_put_s
  rw [hX.1, show (30 : Int32) = nI 30 from rfl, ifLe (by omega) (by omega), if_neg (by omega), gdT (inbI (by omega) (by omega)), gdT (inbI (by omega) (by omega)), nI_clamp (by omega), nI_1]
  rfl
theorem x_take {B : BOOK} {rows : Nat → Int64} {acts : Nat → Int32} {size : Int32} {k v w : Nat} {l : List Nat} {pairs sees : Int32} {row : Int64} (hP : PI w l B) (hX : BKX size rows acts B) (hk : k ≤ 6) (hv : v ≤ 99) (hv2 : k = 6 → v ≤ 2) (hS : SR w l B pairs sees row) (h0 : flt k v w l.length B.length (hasB B l) = 0) (h1 : ¬ k = 1) : ∃ pairs' sees' row' size' rows' acts', F_X2_take (nI k) (nI v) (nI w) pairs sees row size rows acts = some (nI (nxt k v w l B).1, pairs', sees', row', size', rows', acts') ∧ PI (nxt k v w l B).1 (nxt k v w l B).2.1 (nxt k v w l B).2.2 ∧ BKX size' rows' acts' (nxt k v w l B).2.2 ∧ SR (nxt k v w l B).1 (nxt k v w l B).2.1 (nxt k v w l B).2.2 pairs' sees' row' := by
  obtain ⟨hB, h4, hi, p1, p2, p3, p4⟩ := hP
  have h30 := hB.1
  unfold flt at h0
  rcases (show w = 0 ∨ w = 1 ∨ w = 2 ∨ w = 3 ∨ w = 4 by omega) with rfl | rfl | rfl | rfl | rfl
  · by_cases q5 : k = 5
    · subst q5
      by_cases q : 30 ≤ B.length
      · simp [q] at h0
      · refine ⟨0, sees + 1, 0, size, rows, acts, rfl, ?_, hX, ?_⟩
        · refine ⟨hB, by simp [nxt], fun j hj => absurd hj (by simp [nxt]), by simp [nxt], by simp [nxt], by simp [nxt], fun _ _ => by simp [nxt]; omega⟩
        · refine ⟨by simp [nxt], fun _ _ => ⟨?_, by simp [nxt]; rfl, by simp [nxt]; rfl⟩⟩
          rw [hS.1 (Or.inl rfl), nI_1]
          rfl
    · simp [q5, h1] at h0
  · by_cases q2 : k = 2
    · subst q2
      obtain ⟨e1, e2, e3⟩ := hS.2 (by omega) (by omega)
      have p1 := p1 rfl
      have p4 := p4 (by omega) (by omega)
      by_cases q : v = 0
      · simp [q] at h0
      · refine ⟨pairs, sees, lN (pk7 (l ++ [v])), size, rows, acts, ?_, ?_, hX, ?_⟩
        · show (Option.bind (Option.bind (F_X4_with row (nI v)) fun z => some ((2 : Int32), pairs, z)) fun p2 => some (p2.1, p2.2.1, sees, p2.2.2, size, rows, acts)) = _
          rw [e3, x_with (Nat.lt_of_lt_of_le (pk7_lt hi) (Nat.pow_le_pow_right (by decide) (by omega))) (by omega), pk7_app]
          rfl
        · refine ⟨hB, by simp [nxt], items_app hi (by omega) (by omega), by simp [nxt], fun _ => ?_, by simp [nxt], fun _ _ => p4⟩
          simp [nxt]; omega
        · refine ⟨by simp [nxt], fun _ _ => ⟨e1, ?_, rfl⟩⟩
          rw [e2]
          simp [nxt]
          congr 1
          omega
    · simp [q2] at h0
  · by_cases q2 : k = 2
    · subst q2
      obtain ⟨e1, e2, e3⟩ := hS.2 (by omega) (by omega)
      have p2 := p2 rfl
      have p4 := p4 (by omega) (by omega)
      by_cases q : v = 0
      · simp [q] at h0
      · refine ⟨pairs + 1, sees, lN (pk7 (l ++ [v])), size, rows, acts, ?_, ?_, hX, ?_⟩
        · show (Option.bind (Option.bind (F_X4_with row (nI v)) fun z => some ((3 : Int32), pairs + 1, z)) fun p2 => some (p2.1, p2.2.1, sees, p2.2.2, size, rows, acts)) = _
          rw [e3, x_with (Nat.lt_of_lt_of_le (pk7_lt hi) (Nat.pow_le_pow_right (by decide) (by omega))) (by omega), pk7_app]
          rfl
        · refine ⟨hB, by simp [nxt], items_app hi (by omega) (by omega), by simp [nxt], by simp [nxt], fun _ => ?_, fun _ _ => p4⟩
          simp [nxt]; omega
        · refine ⟨by simp [nxt], fun _ _ => ⟨e1, ?_, rfl⟩⟩
          rw [e2, nI_1]
          simp [nxt]
          congr 1
          omega
    · simp [q2] at h0
  · obtain ⟨e1, e2, e3⟩ := hS.2 (by omega) (by omega)
    have p3 := p3 rfl
    have p4 := p4 (by omega) (by omega)
    by_cases q3 : k = 3
    · subst q3
      by_cases q : 8 ≤ l.length
      · simp [q] at h0
      · refine ⟨pairs, sees, row, size, rows, acts, rfl, ?_, hX, ?_⟩
        · refine ⟨hB, by simp [nxt], hi, fun _ => ?_, by simp [nxt], by simp [nxt], fun _ _ => p4⟩
          simp [nxt]; omega
        · exact ⟨by simp [nxt], fun _ _ => ⟨e1, e2, e3⟩⟩
    · by_cases q6 : k = 6
      · subst q6
        by_cases q : hasB B l = true
        · simp [q] at h0
        · refine ⟨pairs, sees, row, nI (B.length + 1), vp_updL rows B.length (lN (pk7 l)), upd acts B.length (nI v), ?_, ?_, BKX_put hX, ?_⟩
          · show (Option.bind (F_X1_put_s row (nI v) size rows acts) fun p8 => some ((4 : Int32), pairs, sees, row, p8.1, p8.2.1, p8.2.2)) = _
            rw [e3, x_put hX p4]
            rfl
          · refine ⟨BKok_put hB p4 hi p3.2 (hv2 rfl) q, by simp [nxt], hi, by simp [nxt], by simp [nxt], by simp [nxt], by simp [nxt]⟩
          · refine ⟨fun _ => ?_, by simp [nxt]⟩
            rw [e1]
            simp [nxt]
      · simp [q3, q6] at h0
  · by_cases q4 : k = 4
    · subst q4
      refine ⟨pairs, sees, row, size, rows, acts, rfl, ?_, hX, ?_⟩
      · exact ⟨hB, by simp [nxt], hi, by simp [nxt], by simp [nxt], by simp [nxt], by simp [nxt]⟩
      · exact ⟨fun _ => hS.1 (Or.inr rfl), by simp [nxt]⟩
    · simp [q4] at h0
theorem K_one {T : Nat → Nat} {t p : Nat} (h : t ≤ p) : (tokK T t p).1 = 1 := by unfold tokK; rw [if_pos h]
theorem flt_le (k v w len bl : Nat) (has : Bool) : flt k v w len bl has ≤ 3 := by
  unfold flt
  repeat' split
  all_goals omega
theorem x_loop {t : Nat} {bx bm : Nat → Int32} {T : Nat → Nat} (ht : t ≤ 400) (hT : TP t bx bm T) : ∀ (d f i a w : Nat) (l : List Nat) (B : BOOK) (tok frm val pairs sees : Int32) (row : Int64) (size : Int32) (rows : Nat → Int64) (acts : Nat → Int32), a ≤ t → t - a < d → i ≤ a → d < f → PI w l B → BKX size rows acts B → SR w l B pairs sees row → ∃ tok' val' beh' w' pairs' sees' row' size' rows' acts', F_X2_read_L3 (nI t) bx f (nI i) tok frm val (nI a) (nI w) pairs sees row size rows acts = some (.inl (nI (prs T t d w l B a).1, tok', nI (prs T t d w l B a).2.1, val', beh', w', pairs', sees', row', size', rows', acts')) ∧ (prs T t d w l B a).1 ≤ 3 ∧ (prs T t d w l B a).2.1 ≤ t ∧ ((prs T t d w l B a).1 = 0 → BKX size' rows' acts' (prs T t d w l B a).2.2 ∧ BKok (prs T t d w l B a).2.2)
  | 0, _, _, _, _, _, _, _, _, _, _, _, _, _, _, _, _, h, _, _, _, _, _ => by omega
  | d + 1, 0, _, _, _, _, _, _, _, _, _, _, _, _, _, _, _, _, _, h, _, _, _ => by omega
  | d + 1, f + 1, i, a, w, l, B, tok, frm, val, pairs, sees, row, size, rows, acts, ha, hd, hi, hf, hP, hX, hS => by
    obtain ⟨hp1, hp2⟩ := tokP_le (T := T) ha
    obtain ⟨v99, k6, kv⟩ := K_val (T := T) hp2
    have he := tokE_le (T := T) hp2
    have hK1 := fun h => K_one (T := T) (t := t) (p := tokP T t a) h
    rw [F_X2_read_L3.eq_2, tokX ht hT ha]
    rw [prs_step (p := tokP T t a) (e := tokE T t (tokP T t a)) (k := (tokK T t (tokP T t a)).1) (v := (tokK T t (tokP T t a)).2) rfl rfl rfl rfl hP.2.1]
    rw [show (400 : Int32) = nI 400 from rfl, ifLt (by omega) (by omega), if_neg (by omega)]
    generalize hp : tokP T t a = p at *
    generalize heq : tokE T t p = e at *
    generalize hkq : (tokK T t p).1 = k at *
    generalize hvq : (tokK T t p).2 = v at *
    (try simp only [Option.bind_some])
    rw [x_fault hP hX k6 v99 (fun z => hS.1 (Or.inl z)) (fun z1 z2 => (hS.2 z1 z2).2)]
    (try simp only [Option.bind_some])
    have hfl := flt_le k v w l.length B.length (hasB B l)
    rw [ifE0 (by omega)]
    by_cases q : flt k v w l.length B.length (hasB B l) = 0
    · rw [if_pos q, if_pos q, ifE1 (by omega)]
      by_cases q1 : k = 1
      · rw [if_pos q1, if_pos q1, q]
        exact ⟨_, _, _, _, _, _, _, _, _, _, rfl, by omega, hp2, fun _ => ⟨hX, hP.1⟩⟩
      · rw [if_neg q1, if_neg q1]
        obtain ⟨pairs', sees', row', size', rows', acts', ht', hP', hX', hS'⟩ := x_take hP hX k6 v99 kv hS q q1
        rw [ht']
        (try simp only [Option.bind_some])
        have hpt : p < t := by
          by_cases z : t ≤ p
          · exact absurd (hK1 z) q1
          · omega
        have := he.2 hpt
        rw [nI_1]
        exact x_loop ht hT d f (i + 1) e _ _ _ _ _ _ _ _ _ _ _ _ he.1 (by omega) (by omega) (by omega) hP' hX' hS'
    · rw [if_neg q, if_neg q]
      exact ⟨_, _, _, _, _, _, _, _, _, _, rfl, hfl, hp2, fun z => absurd z q⟩
