/-! rule books -/
abbrev BOOK : Type := List (List Nat × Nat)
def rRow (B : BOOK) (r : Nat) : List Nat := (B.getD r ([], 0)).1
def rAct (B : BOOK) (r : Nat) : Nat := (B.getD r ([], 0)).2
def BKok (B : BOOK) : Prop := B.length ≤ 30 ∧ (∀ r, r < B.length → items (rRow B r) ∧ (rRow B r).length ≤ 8 ∧ rAct B r ≤ 2) ∧ ∀ r r', r < B.length → r' < B.length → rRow B r = rRow B r' → r = r'
def BKX (size : Int32) (rows : Nat → Int64) (acts : Nat → Int32) (B : BOOK) : Prop := size = nI B.length ∧ ∀ r, r < B.length → rows r = lN (pk7 (rRow B r)) ∧ acts r = nI (rAct B r)
def BKM (rules : Int32) (rs rr rd : Nat → Int32) (B : BOOK) : Prop := rules = nI B.length ∧ ∀ r, r < B.length → rs r = nI (rRow B r).length ∧ (∀ j, j < (rRow B r).length → rr (8 * r + j) = nI (at0 (rRow B r) j)) ∧ rd r = nI (rAct B r)
theorem pkB_ge {l : List Nat} (h : items l) (h0 : 0 < l.length) : 2 ^ (7 * (l.length - 1)) ≤ pk7 l := by
  unfold pk7
  have key : ∀ m, m < l.length → 2 ^ (7 * m) ≤ pkB (at0 l) (m + 1) := by
    intro m
    induction m with
    | zero =>
      intro hm
      show 1 ≤ pkB (at0 l) 0 * 128 + at0 l 0
      have := (h 0 hm).1
      omega
    | succ m ih =>
      intro hm
      have a := ih (by omega)
      have e : 2 ^ (7 * (m + 1)) = 2 ^ (7 * m) * 128 := by rw [Nat.mul_add, Nat.pow_add]
      rw [e]
      show _ ≤ pkB (at0 l) (m + 1) * 128 + at0 l (m + 1)
      omega
  have := key (l.length - 1) (by omega)
  rw [show l.length - 1 + 1 = l.length by omega] at this
  exact this
theorem pk7_inj {l k : List Nat} (hl : items l) (hk : items k) (e : pk7 l = pk7 k) : l = k := by
  have hlen : l.length = k.length := by
    have a1 := pk7_lt hl
    have a2 := pk7_lt hk
    have key : ∀ {x y : List Nat}, items x → items y → pk7 x = pk7 y → ¬ x.length < y.length := by
      intro x y hx hy e2 hlt
      have b1 := pk7_lt hx
      have b2 := pkB_ge hy (by omega)
      have b3 : 2 ^ (7 * x.length) ≤ 2 ^ (7 * (y.length - 1)) := Nat.pow_le_pow_right (by decide) (by omega)
      omega
    have c1 := key hl hk e
    have c2 := key hk hl e.symm
    omega
  have hat : ∀ j, j < l.length → at0 l j = at0 k j := by
    unfold pk7 at e
    rw [← hlen] at e
    exact pkB_inj (fun x hx => (hl x hx).2) (fun x hx => (hk x (by omega)).2) e
  apply List.ext_getElem hlen
  intro j h1 h2
  have := hat j h1
  unfold at0 at this
  simpa [h1, h2] using this
/-- what the book tells for a row: 0 if nothing -/
def actOf : BOOK → List Nat → Nat
  | [], _ => 0
  | e :: t, v => if e.1 = v then e.2 else actOf t v
theorem actOf_none {v : List Nat} : ∀ {B : BOOK}, (∀ r, r < B.length → rRow B r ≠ v) → actOf B v = 0
  | [], _ => rfl
  | e :: t, h => by
    show (if e.1 = v then e.2 else actOf t v) = 0
    rw [if_neg (show ¬ e.1 = v from h 0 (by simp)), actOf_none (B := t)]
    intro r hr
    have := h (r + 1) (by simp; omega)
    simpa [rRow] using this
theorem actOf_some {v : List Nat} : ∀ {B : BOOK} {r : Nat}, r < B.length → rRow B r = v → (∀ j, j < r → rRow B j ≠ v) → actOf B v = rAct B r
  | [], r, hr, _, _ => absurd hr (by simp)
  | e :: t, 0, hr, he, _ => by
    show (if e.1 = v then e.2 else actOf t v) = _
    rw [if_pos (by simpa [rRow] using he)]
    simp [rAct]
  | e :: t, r + 1, hr, he, hj => by
    show (if e.1 = v then e.2 else actOf t v) = _
    rw [if_neg (by simpa [rRow] using hj 0 (by omega)), actOf_some (B := t) (r := r) (by simpa using hr) (by simpa [rRow] using he) (fun j h => by simpa [rRow] using hj (j + 1) (by omega))]
    simp [rAct]
theorem x_find_L {B : BOOK} {rows : Nat → Int64} {acts : Nat → Int32} {size : Int32} {v : List Nat} (hB : BKok B) (hX : BKX size rows acts B) (hv : items v) (h8 : v.length ≤ 8) : ∀ (d i f : Nat), i + d = B.length → d < f → (∀ j, j < i → rRow B j ≠ v) → (∃ r, r < B.length ∧ rRow B r = v ∧ (∀ j, j < r → rRow B j ≠ v) ∧ F_X1_find_b_L1 (lN (pk7 v)) size rows f (nI i) = some (.inl (nI r))) ∨ ((∀ r, r < B.length → rRow B r ≠ v) ∧ F_X1_find_b_L1 (lN (pk7 v)) size rows f (nI i) = some (.inr ()))
  | 0, i, f + 1, hi, _, hj => by
    have := hB.1
    refine Or.inr ⟨fun r hr => hj r (by omega), ?_⟩
    rw [F_X1_find_b_L1.eq_2, hX.1, if_pos (nI_le (by omega) (by omega))]
  | d + 1, i, f + 1, hi, hf, hj => by
    have h30 := hB.1
    obtain ⟨i1, i2, i3⟩ := hB.2.1 i (by omega)
    have b1 := pk7_lt56 i1 i2
    have b2 := pk7_lt56 hv h8
    have hs := hX.1
    rw [F_X1_find_b_L1.eq_2]
    by_cases hc : rRow B i = v
    · refine Or.inl ⟨i, by omega, hc, hj, ?_⟩
      rw [hs, if_neg (nI_ge (by omega) (by omega)), show (30 : Int32) = nI 30 from rfl, if_neg (nI_ge (by omega) (by omega)), gdT (inbI (by omega) (by omega)), nI_clamp (by omega), (hX.2 i (by omega)).1, if_pos ((lge _ _).mpr (by rw [hc]))]
    · have e : F_X1_find_b_L1 (lN (pk7 v)) size rows (f + 1) (nI i) = F_X1_find_b_L1 (lN (pk7 v)) size rows f (nI (i + 1)) := by
        rw [F_X1_find_b_L1.eq_2, hs, if_neg (nI_ge (by omega) (by omega)), show (30 : Int32) = nI 30 from rfl, if_neg (nI_ge (by omega) (by omega)), gdT (inbI (by omega) (by omega)), nI_clamp (by omega), (hX.2 i (by omega)).1, if_neg (fun q => hc (pk7_inj i1 hv ((lN_eqI (by omega) (by omega)).mp ((lge _ _).mp q))))]
        (try simp only [Option.bind_some])
        rw [nI_1]
      rw [F_X1_find_b_L1.eq_2] at e
      rw [e]
      exact x_find_L hB hX hv h8 d (i + 1) f (by omega) (by omega) (fun j h => by
        by_cases q : j = i
        · rw [q]; exact hc
        · exact hj j (by omega))
theorem x_find {B : BOOK} {rows : Nat → Int64} {acts : Nat → Int32} {size : Int32} {v : List Nat} (hB : BKok B) (hX : BKX size rows acts B) (hv : items v) (h8 : v.length ≤ 8) : (∃ r, r < B.length ∧ rRow B r = v ∧ (∀ j, j < r → rRow B j ≠ v) ∧ F_X1_find_b (lN (pk7 v)) size rows = some (nI r)) ∨ ((∀ r, r < B.length → rRow B r ≠ v) ∧ F_X1_find_b (lN (pk7 v)) size rows = some (-1)) := by
  unfold F_X1_find_b
  rcases x_find_L hB hX hv h8 B.length 0 FU (by omega) (by have := hB.1; unfold FU; omega) (fun j h => absurd h (by omega)) with ⟨r, h1, h2, h3, h4⟩ | ⟨h1, h2⟩
  · refine Or.inl ⟨r, h1, h2, h3, ?_⟩
    rw [show nI 0 = (0 : Int32) from rfl] at h4
    rw [h4]
    rfl
  · refine Or.inr ⟨h1, ?_⟩
    rw [show nI 0 = (0 : Int32) from rfl] at h2
    rw [h2]
    rfl
/-- what robots at a place do: -1, 1, 2, 0 -/
def mv (n : Nat) (B : BOOK) (c p : Nat) : Int32 :=
  if actOf B (VW n (dg n c) p) = 0 then 0
  else if pk7 (rwL n (dg n c) p 1) = pk7 (rwL n (dg n c) p (n - 1)) then 2
  else if pk7 (rwL n (dg n c) p 1) < pk7 (rwL n (dg n c) p (n - 1)) then (if actOf B (VW n (dg n c) p) = 1 then 1 else -1)
  else (if actOf B (VW n (dg n c) p) = 1 then -1 else 1)
theorem actOf_le {B : BOOK} (hB : BKok B) (v : List Nat) : actOf B v ≤ 2 := by
  by_cases h : ∃ r, r < B.length ∧ rRow B r = v
  · obtain ⟨r, ⟨h1, h2⟩, h3⟩ := pk_least (fun r => r < B.length ∧ rRow B r = v) h
    rw [actOf_some h1 h2 (fun j hj q => h3 j hj ⟨by omega, q⟩)]
    exact (hB.2.1 r h1).2.2
  · rw [actOf_none (fun r hr q => h ⟨r, hr, q⟩)]
    decide
theorem x_moveAt {n c p k : Nat} {B : BOOK} {rows : Nat → Int64} {acts : Nat → Int32} {size : Int32} (hn : RG n) (hc : CR n c k) (hp : p < n) (hB : BKok B) (hX : BKX size rows acts B) : F_X1_moveAt_b (nI c) (nI p) (nI n) size rows acts = some (mv n B c p) := by
  have a1 := pk7_lt56 (rwL_items hn c p 1) (rwL_len8 hc hp (Or.inl rfl))
  have a2 := pk7_lt56 (rwL_items hn c p (n - 1)) (rwL_len8 hc hp (Or.inr rfl))
  have h30 := hB.1
  have hle := actOf_le hB (VW n (dg n c) p)
  unfold F_X1_moveAt_b
  rw [x_rowFrom hn hc hp (Or.inl ⟨rfl, rfl⟩)]
  (try simp only [Option.bind_some])
  rw [x_rowFrom hn hc hp (Or.inr ⟨rfl, rfl⟩)]
  (try simp only [Option.bind_some])
  rw [x_min (by omega) (by omega), ← VW_pk]
  (try simp only [Option.bind_some])
  have fin : ∀ a : Nat, a = actOf B (VW n (dg n c) p) → (if nI a = 0 then some 0 else (if (lg_cmp (lN (pk7 (rwL n (dg n c) p 1))) (lN (pk7 (rwL n (dg n c) p (n - 1))))) = 0 then some 2 else Option.bind ((if 0 ≤ (lg_cmp (lN (pk7 (rwL n (dg n c) p 1))) (lN (pk7 (rwL n (dg n c) p (n - 1))))) then some 0 else some 1)) fun (j10 : Int32) => Option.bind ((if nI a = 1 then some 1 else some 0)) fun (j12 : Int32) => (if j10 = j12 then some 1 else some (-1)))) = some (mv n B c p) := by
    intro a ha
    unfold mv
    rw [← ha, ifE0 (by omega)]
    by_cases h0 : a = 0
    · rw [if_pos h0, if_pos h0]
    · rw [if_neg h0, if_neg h0]
      by_cases he : pk7 (rwL n (dg n c) p 1) = pk7 (rwL n (dg n c) p (n - 1))
      · rw [if_pos (show lg_cmp (lN (pk7 (rwL n (dg n c) p 1))) (lN (pk7 (rwL n (dg n c) p (n - 1)))) = 0 from (lge _ _).mpr (by rw [he])), if_pos he]
      · rw [if_neg (fun q => he ((lN_eqI (by omega) (by omega)).mp ((lge _ _).mp q))), if_neg he]
        have hge : (0 ≤ lg_cmp (lN (pk7 (rwL n (dg n c) p 1))) (lN (pk7 (rwL n (dg n c) p (n - 1))))) ↔ ¬ pk7 (rwL n (dg n c) p 1) < pk7 (rwL n (dg n c) p (n - 1)) := by
          rw [← lN_ltI (by omega) (by omega), ← lgl]
          exact Int32.not_lt.symm
        rw [ifE1 (by omega)]
        by_cases hl : pk7 (rwL n (dg n c) p 1) < pk7 (rwL n (dg n c) p (n - 1))
        · rw [if_neg (fun q => hge.mp q hl), if_pos hl]
          by_cases h1 : a = 1
          · rw [if_pos h1, if_pos h1]; rfl
          · rw [if_neg h1, if_neg h1]; rfl
        · rw [if_pos (hge.mpr hl), if_neg hl]
          by_cases h1 : a = 1
          · rw [if_pos h1, if_pos h1]; rfl
          · rw [if_neg h1, if_neg h1]; rfl
  rcases x_find hB hX (VW_items hn c p) (VW_len8 hc hp) with ⟨r, h1, h2, h3, h4⟩ | ⟨h1, h4⟩
  · rw [h4]
    (try simp only [Option.bind_some])
    rw [show (30 : Int32) = nI 30 from rfl, out_in (show r < 30 by omega) (by omega)]
    (try simp only [Option.bind_some])
    rw [if_pos (by trivial), gdT (inbI (by omega) (by omega)), nI_clamp (by omega), (hX.2 r h1).2]
    (try simp only [Option.bind_some])
    exact fin _ (actOf_some h1 h2 h3).symm
  · rw [h4]
    (try simp only [Option.bind_some])
    rw [show (30 : Int32) = nI 30 from rfl, out_out (Or.inl (by decide))]
    (try simp only [Option.bind_some])
    rw [if_neg (by decide)]
    (try simp only [Option.bind_some])
    exact fin 0 (actOf_none h1).symm
/-! the model's -/
theorem m_doing_L6 {B : BOOK} {rs rr rd view : Nat → Int32} {rules : Int32} {v : List Nat} (hB : BKok B) (hM : BKM rules rs rr rd B) (hv : RW view v) (iv : items v) (h8 : v.length ≤ 8) {r : Nat} (hr : r < B.length) : ∀ (d i f : Nat) (z : Int32), i + d = v.length → d < f → (z = 0 ∨ (z = 1 ∧ (rRow B r).length = v.length)) → ((z = 1 ∧ ∀ j, i ≤ j → j < v.length → at0 (rRow B r) j = at0 v j) → F_X8_doing_L6 (nI r) (nI v.length) view rr f z (nI i) = some 1) ∧ (¬ (z = 1 ∧ ∀ j, i ≤ j → j < v.length → at0 (rRow B r) j = at0 v j) → F_X8_doing_L6 (nI r) (nI v.length) view rr f z (nI i) = some 0)
  | 0, i, f + 1, z, hi, _, hz => by
    rw [F_X8_doing_L6.eq_2, if_pos (nI_le (by omega) (by omega))]
    rcases hz with rfl | ⟨rfl, -⟩
    · exact ⟨fun q => absurd q.1 (by decide), fun _ => rfl⟩
    · exact ⟨fun _ => rfl, fun q => absurd ⟨rfl, fun j h1 h2 => by omega⟩ q⟩
  | d + 1, i, f + 1, z, hi, hf, hz => by
    have h30 := hB.1
    rw [F_X8_doing_L6.eq_2, if_neg (nI_ge (by omega) (by omega))]
    rcases hz with rfl | ⟨rfl, hl⟩
    · rw [if_pos rfl]
      (try simp only [Option.bind_some])
      rw [nI_1]
      have ih := m_doing_L6 hB hM hv iv h8 hr d (i + 1) f 0 (by omega) (by omega) (Or.inl rfl)
      exact ⟨fun q => absurd q.1 (by decide), fun _ => ih.2 (fun q => absurd q.1 (by decide))⟩
    · have a1 := (hB.2.1 r hr).1 i (by omega)
      have a2 := iv i (by omega)
      rw [if_neg (by decide), show (8 : Int32) = nI 8 from rfl, q_mul, q_add, gdT (inbI (by omega) (by omega)), gdT (inbI (by omega) (by omega)), nI_clamp (by omega), nI_clamp (by omega), (hM.2 r hr).2.1 i (by omega), hv i (by omega), ifEq (by omega) (by omega)]
      by_cases hc : at0 (rRow B r) i = at0 v i
      · rw [if_pos hc]
        (try simp only [Option.bind_some])
        rw [nI_1]
        have ih := m_doing_L6 hB hM hv iv h8 hr d (i + 1) f 1 (by omega) (by omega) (Or.inr ⟨rfl, hl⟩)
        refine ⟨fun q => ih.1 ⟨rfl, fun j h1 h2 => q.2 j (by omega) h2⟩, fun q => ih.2 (fun w => q ⟨by trivial, fun j h1 h2 => ?_⟩)⟩
        by_cases e : j = i
        · rw [e]; exact hc
        · exact w.2 j (by omega) h2
      · rw [if_neg hc]
        (try simp only [Option.bind_some])
        rw [nI_1]
        have ih := m_doing_L6 hB hM hv iv h8 hr d (i + 1) f 0 (by omega) (by omega) (Or.inl rfl)
        exact ⟨fun q => absurd (q.2 i (Nat.le_refl i) (by omega)) hc, fun _ => ih.2 (fun q => absurd q.1 (by decide))⟩
theorem m_doing_L2 {B : BOOK} {rs rr rd view : Nat → Int32} {rules : Int32} {v : List Nat} (hB : BKok B) (hM : BKM rules rs rr rd B) (hv : RW view v) (iv : items v) (h8 : v.length ≤ 8) : ∀ (d i f : Nat) (z : Int32), i + d = B.length → d < f → ((∃ r, r < i ∧ rRow B r = v ∧ z = nI r) ∨ ((∀ r, r < i → rRow B r ≠ v) ∧ z = -1000000)) → (∃ r, r < B.length ∧ rRow B r = v ∧ F_X8_doing_L2 (nI v.length) rules view rs rr f z (nI i) = some (nI r)) ∨ ((∀ r, r < B.length → rRow B r ≠ v) ∧ F_X8_doing_L2 (nI v.length) rules view rs rr f z (nI i) = some (-1000000))
  | 0, i, f + 1, z, hi, _, hz => by
    have h30 := hB.1
    have e : i = B.length := by omega
    subst e
    rw [F_X8_doing_L2.eq_2, hM.1, if_pos (nI_le (by omega) (by omega))]
    rcases hz with ⟨r, h1, h2, rfl⟩ | ⟨h1, rfl⟩
    · exact Or.inl ⟨r, h1, h2, rfl⟩
    · exact Or.inr ⟨h1, rfl⟩
  | d + 1, i, f + 1, z, hi, hf, hz => by
    have h30 := hB.1
    have hl := (hB.2.1 i (by omega)).2.1
    have hr : i < B.length := by omega
    have e : ∃ z', F_X8_doing_L2 (nI v.length) rules view rs rr (f + 1) z (nI i) = F_X8_doing_L2 (nI v.length) rules view rs rr f z' (nI (i + 1)) ∧ ((∃ r, r < i + 1 ∧ rRow B r = v ∧ z' = nI r) ∨ ((∀ r, r < i + 1 → rRow B r ≠ v) ∧ z' = -1000000)) := by
      rw [F_X8_doing_L2.eq_2, hM.1, if_neg (nI_ge (by omega) (by omega)), gdT (inbI (by omega) (by omega)), nI_clamp (by omega), (hM.2 i hr).1, ifEq (by omega) (by omega)]
      have old : rRow B i ≠ v → ((∃ r, r < i + 1 ∧ rRow B r = v ∧ z = nI r) ∨ ((∀ r, r < i + 1 → rRow B r ≠ v) ∧ z = -1000000)) := by
        intro hne
        rcases hz with ⟨r, h1, h2, h3⟩ | ⟨h1, h2⟩
        · exact Or.inl ⟨r, by omega, h2, h3⟩
        · exact Or.inr ⟨fun r hr => by
            by_cases q : r = i
            · rw [q]; exact hne
            · exact h1 r (by omega), h2⟩
      by_cases hc : (rRow B i).length = v.length
      · rw [if_pos hc]
        (try simp only [Option.bind_some])
        have h6 := m_doing_L6 hB hM hv iv h8 hr v.length 0 FU 1 (by omega) (by unfold FU; omega) (Or.inr ⟨rfl, hc⟩)
        rw [show nI 0 = (0 : Int32) from rfl] at h6
        by_cases hq : rRow B i = v
        · rw [h6.1 ⟨rfl, fun j _ _ => by rw [hq]⟩]
          (try simp only [Option.bind_some])
          rw [if_neg (by decide)]
          (try simp only [Option.bind_some])
          rw [nI_1]
          exact ⟨nI i, rfl, Or.inl ⟨i, by omega, hq, rfl⟩⟩
        · have hne : ¬ ((1 : Int32) = 1 ∧ ∀ j, 0 ≤ j → j < v.length → at0 (rRow B i) j = at0 v j) := by
            intro q
            apply hq
            apply List.ext_getElem hc
            intro j h1 h2
            have := q.2 j (Nat.zero_le j) h2
            unfold at0 at this
            simpa [h1, h2] using this
          rw [h6.2 hne]
          (try simp only [Option.bind_some])
          rw [if_pos (by trivial)]
          (try simp only [Option.bind_some])
          rw [nI_1]
          exact ⟨z, rfl, old hq⟩
      · rw [if_neg hc]
        (try simp only [Option.bind_some])
        have h6 := m_doing_L6 hB hM hv iv h8 hr v.length 0 FU 0 (by omega) (by unfold FU; omega) (Or.inl rfl)
        rw [show nI 0 = (0 : Int32) from rfl] at h6
        rw [h6.2 (fun q => absurd q.1 (by decide))]
        (try simp only [Option.bind_some])
        rw [if_pos (by trivial)]
        (try simp only [Option.bind_some])
        rw [nI_1]
        exact ⟨z, rfl, old (fun q => hc (by rw [q]))⟩
    obtain ⟨z', e1, e2⟩ := e
    rw [e1]
    exact m_doing_L2 hB hM hv iv h8 d (i + 1) f z' (by omega) (by omega) e2
theorem m_doing {n c p k : Nat} {B : BOOK} {rs rr rd hand view up down : Nat → Int32} {rules : Int32} (hn : RG n) (hc : CR n c k) (hH : HD hand n c) (hp : p < n) (hB : BKok B) (hM : BKM rules rs rr rd B) : ∃ vd view' up' down', F_X8_doing (nI p) (nI n) rules hand view up down rs rr rd = some (mv n B c p, vd, view', up', down') := by
  obtain ⟨view', up', down', hl, rv⟩ := m_look (view := view) (up := up) (down := down) hn hc hH hp
  have h30 := hB.1
  have hle := actOf_le hB (VW n (dg n c) p)
  refine ⟨nI (VW n (dg n c) p).length, view', up', down', ?_⟩
  unfold F_X8_doing
  rw [hl]
  (try simp only [Option.bind_some])
  rcases m_doing_L2 hB hM rv (VW_items hn c p) (VW_len8 hc hp) B.length 0 FU (-1000000) (by omega) (by unfold FU; omega) (Or.inr ⟨fun r hr => absurd hr (by omega), rfl⟩) with ⟨r, h1, h2, h3⟩ | ⟨h1, h3⟩
  · rw [show nI 0 = (0 : Int32) from rfl] at h3
    rw [h3]
    (try simp only [Option.bind_some])
    have hact : actOf B (VW n (dg n c) p) = rAct B r := actOf_some h1 h2 (fun j hj q => by
      have := hB.2.2 j r (by omega) h1 (q.trans h2.symm)
      omega)
    have hne : ¬ nI r = -1000000 := by
      intro q
      have e := congrArg Int32.toInt q
      rw [nI_toInt (by omega), show (-1000000 : Int32).toInt = -1000000 by decide] at e
      omega
    rw [if_neg hne, gdT (inbI (by omega) (by omega)), nI_clamp (by omega), (hM.2 r h1).2.2, ← hact, ifE0 (by omega)]
    unfold mv
    by_cases h0 : actOf B (VW n (dg n c) p) = 0
    · rw [if_pos h0, if_pos h0]
    · rw [if_neg h0, if_neg h0, gdT (inbI (by omega) (by omega)), ifE1 (by omega)]
      by_cases he : pk7 (rwL n (dg n c) p 1) = pk7 (rwL n (dg n c) p (n - 1))
      · have hw : wayOf (pk7 (rwL n (dg n c) p 1)) (pk7 (rwL n (dg n c) p (n - 1))) = 0 := by
          unfold wayOf
          rw [if_neg (by omega), if_neg (by omega)]
        rw [hw, if_pos rfl, if_pos he]
      · rw [if_neg he]
        by_cases hlt : pk7 (rwL n (dg n c) p 1) < pk7 (rwL n (dg n c) p (n - 1))
        · have hw : wayOf (pk7 (rwL n (dg n c) p 1)) (pk7 (rwL n (dg n c) p (n - 1))) = 1 := by
            unfold wayOf
            rw [if_pos hlt]
          rw [hw, if_pos hlt, if_neg (by decide)]
          by_cases h1 : actOf B (VW n (dg n c) p) = 1
          · rw [if_pos h1, if_pos h1]
          · rw [if_neg h1, if_neg h1]
        · have hw : wayOf (pk7 (rwL n (dg n c) p 1)) (pk7 (rwL n (dg n c) p (n - 1))) = -1 := by
            unfold wayOf
            rw [if_neg hlt, if_pos (by omega)]
          rw [hw, if_neg hlt, if_neg (by decide)]
          by_cases h1 : actOf B (VW n (dg n c) p) = 1
          · rw [if_pos h1, if_pos h1]
          · rw [if_neg h1, if_neg h1]; rfl
  · rw [show nI 0 = (0 : Int32) from rfl] at h3
    rw [h3]
    (try simp only [Option.bind_some])
    rw [if_pos (by trivial)]
    unfold mv
    rw [if_pos (actOf_none h1)]
