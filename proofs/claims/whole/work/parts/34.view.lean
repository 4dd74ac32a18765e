/-! indices that are any int; comparisons of longs -/
theorem lgl (x y : Int64) : lg_cmp x y < 0 ↔ x < y := by
  unfold lg_cmp
  by_cases h : x > y
  · rw [if_pos h]
    simp only [gt_iff_lt, Int64.lt_iff_toInt_lt] at h ⊢
    constructor
    · intro q; exact absurd q (by decide)
    · intro q; omega
  · rw [if_neg h]
    by_cases e : x = y
    · rw [if_pos e]
      subst e
      constructor
      · intro q; exact absurd q (by decide)
      · intro q; exact absurd q h
    · rw [if_neg e]
      simp only [gt_iff_lt, Int64.lt_iff_toInt_lt, ← Int64.toInt_inj] at h e ⊢
      constructor
      · intro _; omega
      · intro _; decide
theorem lgg (x y : Int64) : 0 < lg_cmp x y ↔ y < x := by
  unfold lg_cmp
  by_cases h : x > y
  · rw [if_pos h]
    exact ⟨fun _ => h, fun _ => by decide⟩
  · rw [if_neg h]
    by_cases e : x = y
    · rw [if_pos e]
      exact ⟨fun q => absurd q (by decide), fun q => absurd q h⟩
    · rw [if_neg e]
      exact ⟨fun q => absurd q (by decide), fun q => absurd q h⟩
theorem lge (x y : Int64) : lg_cmp x y = 0 ↔ x = y := by
  unfold lg_cmp
  by_cases h : x > y
  · rw [if_pos h]
    exact ⟨fun q => absurd q (by decide), fun q => by
      subst q
      exact absurd h (by simp [Int64.lt_iff_toInt_lt])⟩
  · rw [if_neg h]
    by_cases e : x = y
    · rw [if_pos e]
      exact ⟨fun _ => e, fun _ => rfl⟩
    · rw [if_neg e]
      exact ⟨fun q => absurd q (by decide), fun q => absurd q e⟩
theorem lN_ltI {a b : Nat} (ha : a < 2 ^ 63) (hb : b < 2 ^ 63) : lN a < lN b ↔ a < b := pk_lLT ha hb
theorem lN_eqI {a b : Nat} (ha : a < 2 ^ 63) (hb : b < 2 ^ 63) : lN a = lN b ↔ a = b := pk_lEQ ha hb
theorem out_in {j b : Nat} (h : j < b) (hb : b < 2 ^ 31) : F_X7_outside (nI j) (nI b) = some 0 := by
  unfold F_X7_outside
  rw [if_neg (nI_pos (by omega)), if_pos (nI_lt h hb)]
theorem out_out {a : Int32} {b : Nat} (h : a < 0 ∨ nI b ≤ a) : F_X7_outside a (nI b) = some 1 := by
  unfold F_X7_outside
  by_cases h0 : a < 0
  · rw [if_pos h0]
  · rw [if_neg h0]
    rcases h with h | h
    · exact absurd h h0
    · rw [if_neg (Int32.not_lt.mpr h)]
theorem t64 (a : Int32) : a.toInt64.toInt = a.toInt := Int32.toInt_toInt64 a
theorem in_in {j b : Nat} (h : j < b) (hb : b < 2 ^ 30) : F_X8_in (Int32.toInt64 (nI j)) 0 (Int32.toInt64 (nI b - 1)) = some 1 := by
  unfold F_X8_in
  have e1 := nI_toInt (n := j) (by omega)
  have e2 := pk_sub_toInt (a := b) (b := 1) (by omega) (by omega)
  rw [show nI 1 = (1 : Int32) from rfl] at e2
  rw [if_neg, if_neg]
  · rw [lgg, Int64.lt_iff_toInt_lt, t64, t64, e1, e2]
    omega
  · rw [lgl, Int64.lt_iff_toInt_lt, t64, e1]
    simp
theorem in_out {a : Int32} {b : Nat} (hb : b < 2 ^ 30) (h : a < 0 ∨ nI b ≤ a) : F_X8_in (Int32.toInt64 a) 0 (Int32.toInt64 (nI b - 1)) = some 0 := by
  unfold F_X8_in
  have e2 := pk_sub_toInt (a := b) (b := 1) (by omega) (by omega)
  rw [show nI 1 = (1 : Int32) from rfl] at e2
  by_cases h0 : a < 0
  · rw [if_pos]
    rw [lgl, Int64.lt_iff_toInt_lt, t64]
    simpa [Int32.lt_iff_toInt_lt] using h0
  · by_cases hl : lg_cmp (Int32.toInt64 a) 0 < 0
    · rw [if_pos hl]
    · rw [if_neg hl, if_pos]
      rw [lgg, Int64.lt_iff_toInt_lt, t64, t64, e2]
      rcases h with h | h
      · exact absurd h h0
      · rw [Int32.le_iff_toInt_le, nI_toInt (by omega)] at h
        omega
theorem ix3 (x : Int32) {b : Nat} (hb : b < 2 ^ 31) : (x < 0 ∨ nI b ≤ x) ∨ ∃ j, j < b ∧ x = nI j := by
  rcases pk_ix x hb with h | h | h
  · exact Or.inl (Or.inl h)
  · exact Or.inl (Or.inr h)
  · exact Or.inr h
theorem isPlace_in {j n : Nat} (hn : RG n) (h : j < n) : F_X8_isPlace (nI j) (nI n) = some 1 := by
  have := hn.2
  unfold F_X8_isPlace
  rw [in_in h (by omega)]
  rfl
theorem isPlace_out {a : Int32} {n : Nat} (hn : RG n) (h : a < 0 ∨ nI n ≤ a) : F_X8_isPlace a (nI n) = some 0 := by
  have := hn.2
  unfold F_X8_isPlace
  rw [in_out (by omega) h]
  rfl
theorem noPlace_in {j n : Nat} (hn : RG n) (h : j < n) : F_X7_noPlace (nI j) (nI n) = some 0 := by
  have := hn.2
  unfold F_X7_noPlace
  rw [out_in h (by omega)]
  rfl
theorem noPlace_out {a : Int32} {n : Nat} (h : a < 0 ∨ nI n ≤ a) : F_X7_noPlace a (nI n) = some 1 := by
  unfold F_X7_noPlace
  rw [out_out h]
  rfl
/-! the class's view -/
theorem x_min {a b : Nat} (ha : a < 2 ^ 63) (hb : b < 2 ^ 63) : F_J9_min_f86c9 (lN a) (lN b) = some (lN (min a b)) := by
  unfold F_J9_min_f86c9
  by_cases h : b < a
  · rw [if_pos ((lgg _ _).mpr ((lN_ltI hb ha).mpr h)), Nat.min_eq_right (by omega)]
  · rw [if_neg (fun q => h ((lN_ltI hb ha).mp ((lgg _ _).mp q))), Nat.min_eq_left (by omega)]
/-- a view: the lesser of the two rows -/
def VW (n : Nat) (h : Nat → Nat) (p : Nat) : List Nat := if pk7 (rwL n h p 1) ≤ pk7 (rwL n h p (n - 1)) then rwL n h p 1 else rwL n h p (n - 1)
theorem VW_pk (n : Nat) (h : Nat → Nat) (p : Nat) : pk7 (VW n h p) = min (pk7 (rwL n h p 1)) (pk7 (rwL n h p (n - 1))) := by
  unfold VW
  by_cases hc : pk7 (rwL n h p 1) ≤ pk7 (rwL n h p (n - 1))
  · rw [if_pos hc, Nat.min_eq_left hc]
  · rw [if_neg hc, Nat.min_eq_right (by omega)]
theorem rwL_items {n : Nat} (hn : RG n) (c p w : Nat) : items (rwL n (dg n c) p w) := rwS_items (by have := hn.1; omega) (fun x _ => dg_lt n c x) n (Nat.le_refl n) hn.2
theorem rwL_len8 {n c p w k : Nat} (hc : CR n c k) (hp : p < n) (hw : WY n w) : (rwL n (dg n c) p w).length ≤ 8 := rwS_len8 hp hw hc.2.1 hc.2.2 (Nat.le_refl n)
theorem VW_items {n : Nat} (hn : RG n) (c p : Nat) : items (VW n (dg n c) p) := by
  unfold VW
  split <;> exact rwL_items hn c p _
theorem VW_len {n p : Nat} {h : Nat → Nat} (hp : p < n) : (VW n h p).length = 2 * tk h n := by
  unfold VW
  split
  · exact rwL_len hp (Or.inl rfl)
  · exact rwL_len hp (Or.inr rfl)
theorem VW_len8 {n c p k : Nat} (hc : CR n c k) (hp : p < n) : (VW n (dg n c) p).length ≤ 8 := by
  unfold VW
  split
  · exact rwL_len8 hc hp (Or.inl rfl)
  · exact rwL_len8 hc hp (Or.inr rfl)
theorem x_viewFrom {n c p k : Nat} (hn : RG n) (hc : CR n c k) (hp : p < n) : F_X3_viewFrom (nI c) (nI p) (nI n) = some (lN (pk7 (VW n (dg n c) p))) := by
  have a1 := pk7_lt56 (rwL_items hn c p 1) (rwL_len8 hc hp (Or.inl rfl))
  have a2 := pk7_lt56 (rwL_items hn c p (n - 1)) (rwL_len8 hc hp (Or.inr rfl))
  unfold F_X3_viewFrom
  rw [x_rowFrom hn hc hp (Or.inl ⟨rfl, rfl⟩)]
  simp only [Option.bind_some]
  rw [x_rowFrom hn hc hp (Or.inr ⟨rfl, rfl⟩)]
  simp only [Option.bind_some]
  rw [x_min (by omega) (by omega), VW_pk]
  rfl
theorem pkB_pos {l : List Nat} (h : items l) : ∀ {m : Nat}, 0 < m → m ≤ l.length → 0 < pkB (at0 l) m
  | 0, h0, _ => absurd h0 (by omega)
  | m + 1, _, hm => by
    show 0 < pkB (at0 l) m * 128 + at0 l m
    have := (h m (by omega)).1
    omega
theorem pkB_dg {h : Nat → Nat} : ∀ {n p : Nat}, (∀ x, x < n → h x < 128) → p < n → pkB h n / 2 ^ (7 * (n - 1 - p)) % 128 = h p
  | 0, p, _, hp => absurd hp (by omega)
  | n + 1, p, hh, hp => by
    show (pkB h n * 128 + h n) / 2 ^ (7 * (n + 1 - 1 - p)) % 128 = h p
    have h2 := hh n (by omega)
    by_cases e : p = n
    · subst e
      rw [show 7 * (p + 1 - 1 - p) = 0 by omega]
      simp
      omega
    · have ih := pkB_dg (h := h) (n := n) (p := p) (fun x hx => hh x (by omega)) (by omega)
      rw [show 7 * (n + 1 - 1 - p) = 7 + 7 * (n - 1 - p) by omega, Nat.pow_add, ← Nat.div_div_eq_div_mul]
      rw [show (pkB h n * 128 + h n) / 2 ^ 7 = pkB h n by omega]
      exact ih
theorem x_item_L {l : List Nat} (h : items l) (h8 : l.length ≤ 8) : ∀ (d j f : Nat), j + d = l.length → d < f → F_X4_item_L1 f (nI j) (lN (pkB (at0 l) d)) = some (nI l.length)
  | 0, j, f + 1, hj, _ => by
    rw [F_X4_item_L1.eq_2, if_pos (show lg_cmp (lN (pkB (at0 l) 0)) 0 = 0 from (lge _ _).mpr rfl), show j = l.length by omega]
  | d + 1, j, f + 1, hj, hf => by
    have hp := pkB_pos h (m := d + 1) (by omega) (by omega)
    have hb := pkB_lt (h := at0 l) (n := d + 1) (fun x hx => (h x (by omega)).2)
    have hb2 : 2 ^ (7 * (d + 1)) ≤ 2 ^ 56 := Nat.pow_le_pow_right (by decide) (by omega)
    rw [F_X4_item_L1.eq_2, if_neg (fun q => by
      have := (lge _ _).mp q
      rw [show (0 : Int64) = lN 0 from rfl, lN_eqI (by omega) (by omega)] at this
      omega), if_neg (by
      rw [show (8 : Int32) = nI 8 from rfl]
      exact nI_ge (by omega) (by omega))]
    simp only [Option.bind_some]
    rw [show (1 : Int32) = nI 1 from rfl, q_add, show (7 : Int32) = nI 7 from rfl]
    have e : jlushr (lN (pkB (at0 l) (d + 1))) (nI 7) = lN (pkB (at0 l) d) := by
      show ((lN (pkB (at0 l) (d + 1))).toUInt64 >>> ((nI 7).toInt64.toUInt64 &&& Int64.toUInt64 63)).toInt64 = _
      rw [wb_shr (by omega) (by decide)]
      congr 1
      show (pkB (at0 l) d * 128 + at0 l d) / 2 ^ 7 = _
      have := (h d (by omega)).2
      omega
    rw [e]
    exact x_item_L h h8 d (j + 1) f (by omega) (by omega)
theorem x_item_in {l : List Nat} (h : items l) (h8 : l.length ≤ 8) {j : Nat} (hj : j < l.length) : F_X4_item (lN (pk7 l)) (nI j) = some (nI (at0 l j)) := by
  have hb := pk7_lt56 h h8
  unfold F_X4_item
  have := x_item_L h h8 l.length 0 FU (by omega) (by unfold FU; omega)
  rw [show nI 0 = (0 : Int32) from rfl] at this
  rw [show pk7 l = pkB (at0 l) l.length from rfl, this]
  simp only [Option.bind_some]
  rw [out_in hj (by omega)]
  simp only [Option.bind_some]
  rw [if_pos trivial, show (1 : Int32) = nI 1 from rfl, show (7 : Int32) = nI 7 from rfl, q_sub (by omega), q_sub (by omega), q_mul]
  have e : jlushr (lN (pkB (at0 l) l.length)) (nI (7 * (l.length - 1 - j))) = lN (pkB (at0 l) l.length / 2 ^ (7 * (l.length - 1 - j))) := by
    show ((lN (pkB (at0 l) l.length)).toUInt64 >>> ((nI (7 * (l.length - 1 - j))).toInt64.toUInt64 &&& Int64.toUInt64 63)).toInt64 = _
    exact wb_shr (by unfold pk7 at hb; omega) (by omega)
  rw [e, show Int64.toInt32 (lN (pkB (at0 l) l.length / 2 ^ (7 * (l.length - 1 - j)))) = nI _ from lN_i _, show (127 : Int32) = nI (2 ^ 7 - 1) from rfl, q_and, Nat.and_two_pow_sub_one_eq_mod]
  rw [show (2 : Nat) ^ 7 = 128 from rfl, pkB_dg (fun x hx => (h x hx).2) hj]
theorem x_item_out {l : List Nat} (h : items l) (h8 : l.length ≤ 8) {a : Int32} (ha : a < 0 ∨ nI l.length ≤ a) : F_X4_item (lN (pk7 l)) a = some (-1000000) := by
  unfold F_X4_item
  have := x_item_L h h8 l.length 0 FU (by omega) (by unfold FU; omega)
  rw [show nI 0 = (0 : Int32) from rfl] at this
  rw [show pk7 l = pkB (at0 l) l.length from rfl, this]
  simp only [Option.bind_some]
  rw [out_out ha]
  simp only [Option.bind_some]
  rw [if_neg (by decide)]
