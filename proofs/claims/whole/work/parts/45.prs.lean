/-! the parser, as both run it -/
def hasB (B : BOOK) (l : List Nat) : Bool := B.any (fun e => decide (e.1 = l))
theorem hasB_iff {B : BOOK} {l : List Nat} : hasB B l = true ↔ ∃ r, r < B.length ∧ rRow B r = l := by
  unfold hasB
  rw [List.any_eq_true]
  constructor
  · rintro ⟨e, he, hq⟩
    obtain ⟨r, hr, hr2⟩ := List.getElem_of_mem he
    refine ⟨r, hr, ?_⟩
    have := of_decide_eq_true hq
    unfold rRow
    rw [List.getD_eq_getElem?_getD, List.getElem?_eq_getElem hr, Option.getD_some, hr2]
    exact this
  · rintro ⟨r, hr, hq⟩
    refine ⟨B[r], List.getElem_mem hr, ?_⟩
    unfold rRow at hq
    rw [List.getD_eq_getElem?_getD, List.getElem?_eq_getElem hr, Option.getD_some] at hq
    exact decide_eq_true hq
def prs (T : Nat → Nat) (t : Nat) : Nat → Nat → List Nat → BOOK → Nat → Nat × Nat × BOOK
  | 0, _, _, B, _ => (1, 0, B)
  | f + 1, w, l, B, a =>
    if w = 0 then (if (tokK T t (tokP T t a)).1 = 5 then (if 30 ≤ B.length then (3, tokP T t a, B) else prs T t f 1 [] B (tokE T t (tokP T t a))) else if (tokK T t (tokP T t a)).1 = 1 then (0, tokP T t a, B) else (1, tokP T t a, B))
    else if w ≤ 2 then (if (tokK T t (tokP T t a)).1 = 2 then (if (tokK T t (tokP T t a)).2 = 0 then (2, tokP T t a, B) else prs T t f (w + 1) (l ++ [(tokK T t (tokP T t a)).2]) B (tokE T t (tokP T t a))) else (1, tokP T t a, B))
    else if w = 3 then (if (tokK T t (tokP T t a)).1 = 3 then (if 8 ≤ l.length then (3, tokP T t a, B) else prs T t f 1 l B (tokE T t (tokP T t a))) else if (tokK T t (tokP T t a)).1 = 6 then (if hasB B l = true then (3, tokP T t a, B) else prs T t f 4 l (B ++ [(l, (tokK T t (tokP T t a)).2)]) (tokE T t (tokP T t a))) else (1, tokP T t a, B))
    else (if (tokK T t (tokP T t a)).1 = 4 then prs T t f 0 l B (tokE T t (tokP T t a)) else (1, tokP T t a, B))
/-- what holds of a row and a book while a text is read -/
def PI (w : Nat) (l : List Nat) (B : BOOK) : Prop := BKok B ∧ w ≤ 4 ∧ items l ∧ (w = 1 → l.length % 2 = 0 ∧ l.length ≤ 6) ∧ (w = 2 → l.length % 2 = 1 ∧ l.length ≤ 7) ∧ (w = 3 → l.length % 2 = 0 ∧ l.length ≤ 8) ∧ (1 ≤ w → w ≤ 3 → B.length < 30)
theorem find_sb (z : Int64) (size : Int32) (rows : Nat → Int64) : ∀ (f : Nat) (i : Int32), F_X1_find_s_L1 z size rows f i = F_X1_find_b_L1 z size rows f i
  | 0, _ => rfl
  | f + 1, i => by
    rw [F_X1_find_s_L1.eq_2, F_X1_find_b_L1.eq_2]
    simp only [find_sb z size rows f]
theorem x_has {B : BOOK} {rows : Nat → Int64} {acts : Nat → Int32} {size : Int32} {v : List Nat} (hB : BKok B) (hX : BKX size rows acts B) (hv : items v) (h8 : v.length ≤ 8) : F_X1_has_s (lN (pk7 v)) size rows = some (if hasB B v = true then 1 else 0) := by
  have h30 := hB.1
  have e : F_X1_find_s (lN (pk7 v)) size rows = F_X1_find_b (lN (pk7 v)) size rows := by
    unfold F_X1_find_s F_X1_find_b
    rw [find_sb]
  unfold F_X1_has_s
  rw [e]
  rcases x_find hB hX hv h8 with ⟨r, h1, h2, h3, h4⟩ | ⟨h1, h4⟩
  · rw [h4]
    (try simp only [Option.bind_some])
    rw [if_neg (nI_pos (by omega)), if_pos (hasB_iff.mpr ⟨r, h1, h2⟩)]
  · rw [h4]
    (try simp only [Option.bind_some])
    rw [if_pos (by decide), if_neg (fun z => by
      obtain ⟨r, hr, hq⟩ := hasB_iff.mp z
      exact h1 r hr hq)]
theorem k7 {k : Nat} (h : k ≤ 6) : k = 0 ∨ k = 1 ∨ k = 2 ∨ k = 3 ∨ k = 4 ∨ k = 5 ∨ k = 6 := by omega
/-- the fault of a token -/
def flt (k v w : Nat) (len bl : Nat) (has : Bool) : Nat :=
  if w = 0 then (if k = 5 then (if 30 ≤ bl then 3 else 0) else if k = 1 then 0 else 1)
  else if w ≤ 2 then (if k = 2 then (if v = 0 then 2 else 0) else 1)
  else if w = 3 then (if k = 3 then (if 8 ≤ len then 3 else 0) else if k = 6 then (if has = true then 3 else 0) else 1)
  else (if k = 4 then 0 else 1)
theorem x_fault {B : BOOK} {rows : Nat → Int64} {acts : Nat → Int32} {size : Int32} {k v w : Nat} {l : List Nat} {pairs sees : Int32} {row : Int64} (hP : PI w l B) (hX : BKX size rows acts B) (hk : k ≤ 6) (hv : v ≤ 99) (hs : w = 0 → sees = nI B.length) (hw : 1 ≤ w → w ≤ 3 → pairs = nI (l.length / 2) ∧ row = lN (pk7 l)) : F_X2_faultAgainst (nI k) (nI v) (nI w) pairs sees row size rows = some (nI (flt k v w l.length B.length (hasB B l))) := by
  obtain ⟨hB, h4, hi, p1, p2, p3, p4⟩ := hP
  have h30 := hB.1
  have cv : (nI v = 0) ↔ v = 0 := nI_eq (b := 0) (by omega) (by decide)
  rcases (show w = 0 ∨ w = 1 ∨ w = 2 ∨ w = 3 ∨ w = 4 by omega) with rfl | rfl | rfl | rfl | rfl
  · rw [hs rfl]
    have cs : (nI B.length < 30) ↔ B.length < 30 := nI_ltI (b := 30) (by omega) (by decide)
    rcases k7 hk with rfl | rfl | rfl | rfl | rfl | rfl | rfl
    · rfl
    · rfl
    · rfl
    · rfl
    · rfl
    · show (Option.bind (if nI B.length < 30 then some (0 : Int32) else some 1) fun p4 => if p4 = 0 then some 0 else some 3) = some (nI (if 30 ≤ B.length then 3 else 0))
      by_cases q : B.length < 30
      · rw [if_pos (cs.mpr q), if_neg (by omega)]; rfl
      · rw [if_neg (fun z => q (cs.mp z)), if_pos (by omega)]; rfl
    · rfl
  · rcases k7 hk with rfl | rfl | rfl | rfl | rfl | rfl | rfl
    · rfl
    · rfl
    · show (if nI v = 0 then some (2 : Int32) else some 0) = some (nI (if v = 0 then 2 else 0))
      by_cases q : v = 0
      · rw [if_pos (cv.mpr q), if_pos q]; rfl
      · rw [if_neg (fun z => q (cv.mp z)), if_neg q]; rfl
    · rfl
    · rfl
    · rfl
    · rfl
  · rcases k7 hk with rfl | rfl | rfl | rfl | rfl | rfl | rfl
    · rfl
    · rfl
    · show (if nI v = 0 then some (2 : Int32) else some 0) = some (nI (if v = 0 then 2 else 0))
      by_cases q : v = 0
      · rw [if_pos (cv.mpr q), if_pos q]; rfl
      · rw [if_neg (fun z => q (cv.mp z)), if_neg q]; rfl
    · rfl
    · rfl
    · rfl
    · rfl
  · obtain ⟨e1, e2⟩ := hw (by omega) (by omega)
    have p3 := p3 rfl
    rcases k7 hk with rfl | rfl | rfl | rfl | rfl | rfl | rfl
    · rfl
    · rfl
    · rfl
    · rw [e1]
      have cs : (nI (l.length / 2) < 4) ↔ l.length / 2 < 4 := nI_ltI (b := 4) (by omega) (by decide)
      show (Option.bind (if nI (l.length / 2) < 4 then some (0 : Int32) else some 1) fun p4 => if p4 = 0 then some 0 else some 3) = some (nI (if 8 ≤ l.length then 3 else 0))
      by_cases q : l.length / 2 < 4
      · rw [if_pos (cs.mpr q), if_neg (by omega)]; rfl
      · rw [if_neg (fun z => q (cs.mp z)), if_pos (by omega)]; rfl
    · rfl
    · rfl
    · rw [e2]
      show (Option.bind (Option.bind (F_X1_has_s (lN (pk7 l)) size rows) fun p7 => some p7) fun p4 => if p4 = 0 then some 0 else some 3) = some (nI (if hasB B l = true then 3 else 0))
      rw [x_has hB hX hi (by omega)]
      by_cases q : hasB B l = true
      · rw [if_pos q, if_pos q]; rfl
      · rw [if_neg q, if_neg q]; rfl
  · rcases k7 hk with rfl | rfl | rfl | rfl | rfl | rfl | rfl
    · rfl
    · rfl
    · rfl
    · rfl
    · rfl
    · rfl
    · rfl
theorem BKok_put {B : BOOK} {l : List Nat} {v : Nat} (hB : BKok B) (hlen : B.length < 30) (hi : items l) (h8 : l.length ≤ 8) (hv : v ≤ 2) (hn : ¬ hasB B l = true) : BKok (B ++ [(l, v)]) := by
  have er : ∀ r, r < B.length → rRow (B ++ [(l, v)]) r = rRow B r ∧ rAct (B ++ [(l, v)]) r = rAct B r := fun r hr => by
    unfold rRow rAct
    rw [List.getD_eq_getElem?_getD, List.getElem?_append_left hr, ← List.getD_eq_getElem?_getD]
    exact ⟨rfl, rfl⟩
  have el : rRow (B ++ [(l, v)]) B.length = l ∧ rAct (B ++ [(l, v)]) B.length = v := by
    unfold rRow rAct
    simp
  refine ⟨by simp; omega, fun r hr => ?_, fun r r' hr hr' e => ?_⟩
  · simp at hr
    by_cases q : r < B.length
    · rw [(er r q).1, (er r q).2]; exact hB.2.1 r q
    · rw [show r = B.length by omega, el.1, el.2]; exact ⟨hi, h8, hv⟩
  · simp at hr hr'
    by_cases q : r < B.length
    · by_cases q' : r' < B.length
      · rw [(er r q).1, (er r' q').1] at e
        exact hB.2.2 r r' q q' e
      · rw [show r' = B.length by omega, (er r q).1, el.1] at e
        exact absurd (hasB_iff.mpr ⟨r, q, e⟩) hn
    · by_cases q' : r' < B.length
      · rw [show r = B.length by omega, (er r' q').1, el.1] at e
        exact absurd (hasB_iff.mpr ⟨r', q', e.symm⟩) hn
      · omega
theorem BKX_put {B : BOOK} {l : List Nat} {v : Nat} {rows : Nat → Int64} {acts : Nat → Int32} {size : Int32} (hX : BKX size rows acts B) : BKX (nI (B.length + 1)) (vp_updL rows B.length (lN (pk7 l))) (upd acts B.length (nI v)) (B ++ [(l, v)]) := by
  refine ⟨by simp, fun r hr => ?_⟩
  simp at hr
  unfold rRow rAct
  by_cases q : r < B.length
  · rw [List.getD_eq_getElem?_getD, List.getElem?_append_left q, ← List.getD_eq_getElem?_getD, pk_uLn (by omega), pk_un (by omega)]
    exact hX.2 r q
  · rw [show r = B.length by omega, pk_uLs, pk_us]
    simp
