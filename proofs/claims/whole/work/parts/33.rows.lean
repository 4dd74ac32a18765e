/-! rows: base 128 -/
def pkB (h : Nat → Nat) : Nat → Nat
  | 0 => 0
  | m + 1 => pkB h m * 128 + h m
theorem pkB_congr {h k : Nat → Nat} : ∀ {n : Nat}, (∀ x, x < n → h x = k x) → pkB h n = pkB k n
  | 0, _ => rfl
  | n + 1, hh => by
    show pkB h n * 128 + h n = pkB k n * 128 + k n
    rw [pkB_congr (fun x hx => hh x (by omega)), hh n (by omega)]
theorem pkB_lt {h : Nat → Nat} : ∀ {n : Nat}, (∀ x, x < n → h x < 128) → pkB h n < 2 ^ (7 * n)
  | 0, _ => by
    show (0 : Nat) < 2 ^ (7 * 0)
    decide
  | n + 1, hh => by
    have h1 := pkB_lt (h := h) (n := n) (fun x hx => hh x (by omega))
    have h2 := hh n (by omega)
    have e : 2 ^ (7 * (n + 1)) = 2 ^ (7 * n) * 128 := by rw [Nat.mul_add, Nat.pow_add]
    rw [e]
    show pkB h n * 128 + h n < _
    omega
theorem pkB_inj {h k : Nat → Nat} : ∀ {n : Nat}, (∀ x, x < n → h x < 128) → (∀ x, x < n → k x < 128) → pkB h n = pkB k n → ∀ x, x < n → h x = k x
  | 0, _, _, _, x, hx => absurd hx (by omega)
  | n + 1, hh, hk, e, x, hx => by
    have e' : pkB h n * 128 + h n = pkB k n * 128 + k n := e
    have a := hh n (by omega)
    have b := hk n (by omega)
    by_cases hxn : x = n
    · subst hxn; omega
    · exact pkB_inj (n := n) (fun y hy => hh y (by omega)) (fun y hy => hk y (by omega)) (by omega) x (by omega)
theorem pkB_lex {h k : Nat → Nat} : ∀ {n j : Nat}, (∀ x, x < n → h x < 128) → (∀ x, x < n → k x < 128) → j < n → (∀ x, x < j → h x = k x) → h j < k j → pkB h n < pkB k n
  | 0, j, _, _, hj, _, _ => absurd hj (by omega)
  | n + 1, j, hh, hk, hj, he, hl => by
    show pkB h n * 128 + h n < pkB k n * 128 + k n
    have a1 := hh n (by omega)
    have a2 := hk n (by omega)
    by_cases e : j = n
    · subst e
      rw [pkB_congr he]
      omega
    · have := pkB_lex (n := n) (j := j) (fun x hx => hh x (by omega)) (fun x hx => hk x (by omega)) (by omega) he hl
      omega
/-- a row as a list, and its number -/
def at0 (l : List Nat) (j : Nat) : Nat := l.getD j 0
def pk7 (l : List Nat) : Nat := pkB (at0 l) l.length
def items (l : List Nat) : Prop := ∀ j, j < l.length → 0 < at0 l j ∧ at0 l j < 128
theorem at0_app {l : List Nat} {x : Nat} {j : Nat} (hj : j < l.length) : at0 (l ++ [x]) j = at0 l j := by
  unfold at0
  simp [List.getElem?_append_left hj]
theorem at0_end (l : List Nat) (x : Nat) : at0 (l ++ [x]) l.length = x := by
  unfold at0
  simp
theorem pk7_app (l : List Nat) (x : Nat) : pk7 (l ++ [x]) = pk7 l * 128 + x := by
  unfold pk7
  rw [List.length_append]
  show pkB (at0 (l ++ [x])) l.length * 128 + at0 (l ++ [x]) l.length = _
  rw [at0_end, pkB_congr (fun j hj => at0_app hj)]
theorem items_app {l : List Nat} {x : Nat} (h : items l) (h0 : 0 < x) (hx : x < 128) : items (l ++ [x]) := by
  intro j hj
  rw [List.length_append] at hj
  by_cases e : j < l.length
  · rw [at0_app e]; exact h j e
  · rw [show j = l.length by simp at hj; omega, at0_end]
    exact ⟨h0, hx⟩
theorem pk7_lt {l : List Nat} (h : items l) : pk7 l < 2 ^ (7 * l.length) := pkB_lt (fun x hx => (h x hx).2)
theorem pk7_lt56 {l : List Nat} (h : items l) (hl : l.length ≤ 8) : pk7 l < 2 ^ 56 := Nat.lt_of_lt_of_le (pk7_lt h) (Nat.pow_le_pow_right (by decide) (by omega))
theorem x_with {a x : Nat} (ha : a < 2 ^ 49) (hx : x < 128) : F_X4_with (lN a) (nI x) = some (lN (a * 128 + x)) := by
  unfold F_X4_with
  rw [show (7 : Int32) = nI 7 from rfl, show (127 : Int32) = nI (2 ^ 7 - 1) from rfl, q_and, Nat.and_two_pow_sub_one_eq_mod, Nat.mod_eq_of_lt hx, nI_l (by omega)]
  show some (lN a <<< ((nI 7).toInt64 &&& 63) ||| lN x) = _
  rw [wb_shl a (by decide), wb_or (by omega) (by omega), or_add (by omega)]
/-! places met, going one way round -/
def pos (n p w i : Nat) : Nat := (p + w * i) % n
theorem pos_succ (n p w i : Nat) : pos n p w (i + 1) = (pos n p w i + w) % n := by
  unfold pos
  rw [Nat.mul_add, Nat.mul_one, ← Nat.add_assoc]
  exact (Nat.mod_add_mod _ _ _).symm
theorem pos_lt {n : Nat} (h0 : 0 < n) (p w i : Nat) : pos n p w i < n := Nat.mod_lt _ h0
def WY (n w : Nat) : Prop := w = 1 ∨ w = n - 1
theorem pos_up (n p j : Nat) : pos n p 1 (j + 1) = (j + (p + 1)) % n := by
  unfold pos
  congr 1
  omega
theorem pos_down {n p j : Nat} (hp : p < n) (hj : j < n) : pos n p (n - 1) (j + 1) = n - 1 - (j + (n - p)) % n := by
  unfold pos
  obtain ⟨m, rfl⟩ : ∃ m, n = m + 1 := ⟨n - 1, by omega⟩
  have e : (m + 1 - 1) * (j + 1) + (j + 1) = (m + 1) * (j + 1) := by
    rw [Nat.add_sub_cancel, Nat.add_mul m 1 (j + 1), Nat.one_mul]
  by_cases h : j < p
  · rw [Nat.mod_eq_of_lt (show j + (m + 1 - p) < m + 1 by omega)]
    rw [show p + (m + 1 - 1) * (j + 1) = (p - 1 - j) + (m + 1) * (j + 1) by omega, Nat.add_mul_mod_self_left, Nat.mod_eq_of_lt (by omega)]
    omega
  · rw [show j + (m + 1 - p) = (j - p) + (m + 1) by omega, Nat.add_mod_right, Nat.mod_eq_of_lt (show j - p < m + 1 by omega)]
    have e2 : p + (m + 1 - 1) * (j + 1) = (m + p - j) + (m + 1) * j := by
      rw [Nat.add_sub_cancel, Nat.mul_add, Nat.mul_one, Nat.add_mul, Nat.one_mul]
      omega
    rw [e2, Nat.add_mul_mod_self_left, Nat.mod_eq_of_lt (by omega)]
    omega
theorem sm_pos {n p w : Nat} (hp : p < n) (hw : WY n w) (k : Nat → Nat) : sm (fun j => k (pos n p w (j + 1))) n = sm k n := by
  rcases hw with rfl | rfl
  · rw [← sm_rot k (by omega) (p + 1)]
    exact sm_congr (fun j _ => by rw [pos_up]; rfl)
  · rw [← sm_rev n k, ← sm_rot (rev n k) (by omega) (n - p)]
    exact sm_congr (fun j hj => by rw [pos_down hp hj]; rfl)
/-- what has been met after i places: the row so far, the gap since -/
def rwS (n : Nat) (h : Nat → Nat) (p w : Nat) : Nat → List Nat × Nat
  | 0 => ([], 0)
  | i + 1 => if 0 < h (pos n p w (i + 1)) then ((rwS n h p w i).1 ++ [(rwS n h p w i).2 + 1] ++ [h (pos n p w (i + 1))], 0) else ((rwS n h p w i).1, (rwS n h p w i).2 + 1)
def rwL (n : Nat) (h : Nat → Nat) (p w : Nat) : List Nat := (rwS n h p w n).1
def ind (h : Nat → Nat) : Nat → Nat := fun x => if 0 < h x then 1 else 0
theorem rwS_gap (n : Nat) (h : Nat → Nat) (p w : Nat) : ∀ i, (rwS n h p w i).2 ≤ i
  | 0 => Nat.le_refl _
  | i + 1 => by
    have := rwS_gap n h p w i
    unfold rwS
    split
    · exact Nat.zero_le _
    · show (rwS n h p w i).2 + 1 ≤ i + 1
      omega
theorem rwS_len (n : Nat) (h : Nat → Nat) (p w : Nat) : ∀ i, (rwS n h p w i).1.length = 2 * sm (fun j => ind h (pos n p w (j + 1))) i
  | 0 => rfl
  | i + 1 => by
    have ih := rwS_len n h p w i
    have e : sm (fun j => ind h (pos n p w (j + 1))) (i + 1) = sm (fun j => ind h (pos n p w (j + 1))) i + ind h (pos n p w (i + 1)) := rfl
    rw [e]
    unfold rwS
    unfold ind at ih ⊢
    by_cases hc : 0 < h (pos n p w (i + 1))
    · rw [if_pos hc, if_pos hc]
      simp [ih]
      omega
    · rw [if_neg hc, if_neg hc]
      exact ih
theorem rwS_items {n : Nat} {h : Nat → Nat} {p w : Nat} (h0 : 0 < n) (hh : ∀ x, x < n → h x < 8) : ∀ i, i ≤ n → n ≤ 9 → items (rwS n h p w i).1
  | 0, _, _ => fun j hj => absurd hj (by simp [rwS])
  | i + 1, hi, h9 => by
    have ih := rwS_items (p := p) (w := w) h0 hh i (by omega) h9
    have g := rwS_gap n h p w i
    have hb := hh (pos n p w (i + 1)) (pos_lt h0 _ _ _)
    unfold rwS
    by_cases hc : 0 < h (pos n p w (i + 1))
    · rw [if_pos hc]
      exact items_app (items_app ih (by omega) (by omega)) hc (by omega)
    · rw [if_neg hc]
      exact ih
theorem ind_le {h : Nat → Nat} (x : Nat) : ind h x ≤ h x := by
  unfold ind
  split <;> omega
theorem sm_le_sm {h k : Nat → Nat} (e : ∀ x, h x ≤ k x) : ∀ n, sm h n ≤ sm k n
  | 0 => Nat.le_refl _
  | n + 1 => Nat.add_le_add (sm_le_sm e n) (e n)
theorem rwS_len8 {n : Nat} {h : Nat → Nat} {p w k : Nat} (hp : p < n) (hw : WY n w) (hk : sm h n = k) (h4 : k ≤ 4) {i : Nat} (hi : i ≤ n) : (rwS n h p w i).1.length ≤ 8 := by
  rw [rwS_len]
  have a := sm_le_sm (h := fun j => ind h (pos n p w (j + 1))) (k := fun j => h (pos n p w (j + 1))) (fun x => ind_le _) i
  have b := sm_mono (h := fun j => h (pos n p w (j + 1))) hi
  rw [sm_pos hp hw h, hk] at b
  omega
theorem rwL_len {n : Nat} {h : Nat → Nat} {p w : Nat} (hp : p < n) (hw : WY n w) : (rwL n h p w).length = 2 * tk h n := by
  unfold rwL
  rw [rwS_len, sm_pos hp hw (ind h)]
  rfl
/-- way 1, or -1, as a number of places -/
def WI (n w : Nat) (z : Int32) : Prop := (w = 1 ∧ z = 1) ∨ (w = n - 1 ∧ z = -1)
theorem WI.wy {n w : Nat} {z : Int32} (h : WI n w z) : WY n w := by
  rcases h with ⟨h, -⟩ | ⟨h, -⟩
  · exact Or.inl h
  · exact Or.inr h
theorem x_beside {n p w : Nat} {z : Int32} (hn : RG n) (hp : p < n) (hw : WI n w z) : F_X3_beside (nI p) z (nI n) = some (nI ((p + w) % n)) := by
  rcases hw with ⟨rfl, rfl⟩ | ⟨rfl, rfl⟩
  · exact x_up hn hp
  · rw [x_down hn hp]
    congr 3
    have := hn.1
    omega
theorem x_rowFrom_L {n c p w k : Nat} {z : Int32} (hn : RG n) (hc : CR n c k) (hp : p < n) (hw : WI n w z) : ∀ (d i f : Nat), i + d = n → d < f → F_X3_rowFrom_L1 (nI c) z (nI n) f (lN (pk7 (rwS n (dg n c) p w i).1)) (nI (rwS n (dg n c) p w i).2) (nI (pos n p w i)) (nI i) = some (lN (pk7 (rwL n (dg n c) p w)))
  | 0, i, f + 1, hi, _ => by
    have h9 := hn.2
    rw [F_X3_rowFrom_L1.eq_2, if_pos (nI_le (by omega) (by omega)), show i = n by omega]
    rfl
  | d + 1, i, f + 1, hi, hf => by
    have h9 := hn.2
    have h0 : 0 < n := by have := hn.1; omega
    have ih := x_rowFrom_L hn hc hp hw d (i + 1) f (by omega) (by omega)
    have hb := dg_lt n c (pos n p w (i + 1))
    have g := rwS_gap n (dg n c) p w i
    have l8 := rwS_len8 (i := i + 1) hp hw.wy hc.2.1 hc.2.2 (by omega)
    have it := rwS_items (p := p) (w := w) h0 (fun x _ => dg_lt n c x) i (by omega) h9
    rw [F_X3_rowFrom_L1.eq_2, if_neg (nI_ge (by omega) (by omega)), x_beside hn (pos_lt h0 _ _ _) hw, ← pos_succ]
    simp only [Option.bind_some]
    rw [x_manyAt hn hc.1 (pos_lt h0 _ _ _), show (1 : Int32) = nI 1 from rfl, q_add, q_add]
    simp only [Option.bind_some]
    rw [show (0 : Int32) = nI 0 from rfl, ifLe (by omega) (by omega)]
    unfold rwS at ih l8
    by_cases hc2 : 0 < dg n c (pos n p w (i + 1))
    · rw [if_pos hc2] at ih l8
      rw [if_neg (by omega)]
      have l6 : (rwS n (dg n c) p w i).1.length ≤ 6 := by
        simp at l8
        omega
      have b1 : pk7 (rwS n (dg n c) p w i).1 < 2 ^ 42 := Nat.lt_of_lt_of_le (pk7_lt it) (Nat.pow_le_pow_right (by decide) (by omega))
      rw [x_with (by omega) (by omega)]
      simp only [Option.bind_some]
      rw [x_with (by omega) (by omega)]
      simp only [Option.bind_some]
      rw [pk7_app, pk7_app] at ih
      exact ih
    · rw [if_neg hc2] at ih
      rw [if_pos (by omega)]
      simp only [Option.bind_some]
      exact ih
theorem x_rowFrom {n c p w k : Nat} {z : Int32} (hn : RG n) (hc : CR n c k) (hp : p < n) (hw : WI n w z) : F_X3_rowFrom (nI c) (nI p) z (nI n) = some (lN (pk7 (rwL n (dg n c) p w))) := by
  unfold F_X3_rowFrom
  have := x_rowFrom_L hn hc hp hw n 0 FU (by omega) (by have := hn.2; unfold FU; omega)
  have e1 : pos n p w 0 = p := by
    unfold pos
    rw [Nat.mul_zero, Nat.add_zero, Nat.mod_eq_of_lt hp]
  rw [e1, show lN (pk7 (rwS n (dg n c) p w 0).1) = (0 : Int64) from rfl, show nI (rwS n (dg n c) p w 0).2 = (0 : Int32) from rfl, show nI 0 = (0 : Int32) from rfl] at this
  rw [this]
  rfl
