/-! what the model sees of a token -/
theorem S_end {T : Nat → Nat} {t p : Nat} : tokS T t p = 1 ↔ (tokK T t p).1 = 1 := by
  unfold tokS tokK
  by_cases h : t ≤ p
  · rw [if_pos h, if_pos h]
    simp
  · rw [if_neg h, if_neg h]
    by_cases f : isFg (T p) = true
    · rw [if_pos f, if_pos f]
      split <;> simp
    · rw [if_neg f, if_neg f]
      by_cases l : isLt (T p) = true
      · rw [if_pos l, if_pos l]
        constructor
        · intro q
          split at q <;> exact absurd q (by decide)
        · intro q
          repeat' (split at q)
          all_goals exact absurd q (by decide)
      · rw [if_neg l, if_neg l]
        constructor
        · intro q
          split at q <;> exact absurd q (by decide)
        · intro q
          repeat' (split at q)
          all_goals exact absurd q (by decide)
theorem S_num {T : Nat → Nat} {t p : Nat} : tokS T t p = 3 ↔ (tokK T t p).1 = 2 := by
  unfold tokS tokK
  by_cases h : t ≤ p
  · rw [if_pos h, if_pos h]
    exact ⟨fun q => absurd q (by decide), fun q => absurd q (by decide)⟩
  · rw [if_neg h, if_neg h]
    by_cases f : isFg (T p) = true
    · rw [if_pos f, if_pos f]
      by_cases q : tokE T t p ≤ p + 2
      · rw [if_pos q, if_pos q]
        simp
      · rw [if_neg q, if_neg q]
        exact ⟨fun q => absurd q (by decide), fun q => absurd q (by decide)⟩
    · rw [if_neg f, if_neg f]
      by_cases l : isLt (T p) = true
      · rw [if_pos l, if_pos l]
        constructor
        · intro q
          split at q <;> exact absurd q (by decide)
        · intro q
          repeat' (split at q)
          all_goals exact absurd q (by decide)
      · rw [if_neg l, if_neg l]
        constructor
        · intro q
          split at q <;> exact absurd q (by decide)
        · intro q
          repeat' (split at q)
          all_goals exact absurd q (by decide)
theorem K_sign {T : Nat → Nat} {t p : Nat} (h : ¬ t ≤ p) (f : ¬ isFg (T p) = true) (l : ¬ isLt (T p) = true) : tokK T t p = if T p = 44 then (3, 0) else if T p = 59 then (4, 0) else (0, 0) := by
  unfold tokK
  rw [if_neg h, if_neg f, if_neg l]
theorem S_sign {T : Nat → Nat} {t p : Nat} : tokS T t p = 4 ↔ (¬ t ≤ p ∧ (T p = 59 ∨ T p = 44)) := by
  unfold tokS
  by_cases h : t ≤ p
  · rw [if_pos h]
    exact ⟨fun q => absurd q (by decide), fun q => absurd h q.1⟩
  · rw [if_neg h]
    by_cases f : isFg (T p) = true
    · rw [if_pos f]
      have f2 := f
      unfold isFg at f2
      have := of_decide_eq_true f2
      refine ⟨fun q => ?_, fun q => by omega⟩
      split at q <;> exact absurd q (by decide)
    · rw [if_neg f]
      by_cases l : isLt (T p) = true
      · rw [if_pos l]
        have f2 := l
        unfold isLt at f2
        have := of_decide_eq_true f2
        refine ⟨fun q => ?_, fun q => by omega⟩
        split at q <;> exact absurd q (by decide)
      · rw [if_neg l]
        by_cases q : T p = 59 ∨ T p = 44
        · rw [if_pos q]
          exact ⟨fun _ => ⟨h, q⟩, fun _ => rfl⟩
        · rw [if_neg q]
          exact ⟨fun w => absurd w (by decide), fun w => absurd w.2 q⟩
theorem K_34 {T : Nat → Nat} {t p : Nat} : ((tokK T t p).1 = 3 ↔ (¬ t ≤ p ∧ T p = 44)) ∧ ((tokK T t p).1 = 4 ↔ (¬ t ≤ p ∧ T p = 59)) := by
  by_cases h : t ≤ p
  · have : tokK T t p = (1, 0) := by unfold tokK; rw [if_pos h]
    rw [this]
    exact ⟨⟨fun q => absurd q (by decide), fun q => absurd h q.1⟩, ⟨fun q => absurd q (by decide), fun q => absurd h q.1⟩⟩
  · by_cases f : isFg (T p) = true
    · have f2 := f
      unfold isFg at f2
      have hr := of_decide_eq_true f2
      have hK : (tokK T t p).1 = 2 ∨ (tokK T t p).1 = 0 := by
        unfold tokK
        rw [if_neg h, if_pos f]
        split
        · exact Or.inl rfl
        · exact Or.inr rfl
      refine ⟨⟨fun q => by omega, fun q => by omega⟩, ⟨fun q => by omega, fun q => by omega⟩⟩
    · by_cases l : isLt (T p) = true
      · have f2 := l
        unfold isLt at f2
        have hr := of_decide_eq_true f2
        have hK : (tokK T t p).1 = 5 ∨ (tokK T t p).1 = 6 ∨ (tokK T t p).1 = 0 := by
          unfold tokK
          rw [if_neg h, if_neg f, if_pos l]
          repeat' split
          all_goals simp
        refine ⟨⟨fun q => by omega, fun q => by omega⟩, ⟨fun q => by omega, fun q => by omega⟩⟩
      · rw [K_sign h f l]
        by_cases q : T p = 44
        · rw [if_pos q]
          exact ⟨⟨fun _ => ⟨h, q⟩, fun _ => rfl⟩, ⟨fun w => absurd w (by decide), fun w => by omega⟩⟩
        · rw [if_neg q]
          by_cases w : T p = 59
          · rw [if_pos w]
            exact ⟨⟨fun z => absurd z (by decide), fun z => absurd z.2 q⟩, ⟨fun _ => ⟨h, w⟩, fun _ => rfl⟩⟩
          · rw [if_neg w]
            exact ⟨⟨fun z => absurd z (by decide), fun z => absurd z.2 q⟩, ⟨fun z => absurd z (by decide), fun z => absurd z.2 w⟩⟩
theorem o_is {t p : Nat} {bx bm : Nat → Int32} {T : Nat → Nat} (ht : t ≤ 400) (hT : TP t bx bm T) (hp : p ≤ t) : F_X8_is 44 (tokS T t p) (nI p) bm = some (if (tokK T t p).1 = 3 then 1 else 0) ∧ F_X8_is 59 (tokS T t p) (nI p) bm = some (if (tokK T t p).1 = 4 then 1 else 0) := by
  obtain ⟨k3, k4⟩ := K_34 (T := T) (t := t) (p := p)
  unfold F_X8_is
  by_cases s : tokS T t p = 4
  · obtain ⟨h, hs⟩ := S_sign.mp s
    have hb := (hT p (by omega)).1
    have c1 : (nI (T p) = 44) ↔ T p = 44 := nI_eq (b := 44) (by omega) (by decide)
    have c2 : (nI (T p) = 59) ↔ T p = 59 := nI_eq (b := 59) (by omega) (by decide)
    rw [if_pos s, if_pos s, gdT (inbI (by omega) (by omega)), gdT (inbI (by omega) (by omega)), nI_clamp (by omega), (hT p (by omega)).2.2]
    rcases hs with w | w
    · rw [if_neg (fun z => by have := c1.mp z; omega), if_neg (fun z => by have := (k3.mp z).2; omega), if_pos (c2.mpr w), if_pos (k4.mpr ⟨h, w⟩)]
      exact ⟨rfl, rfl⟩
    · rw [if_pos (c1.mpr w), if_pos (k3.mpr ⟨h, w⟩), if_neg (fun z => by have := c2.mp z; omega), if_neg (fun z => by have := (k4.mp z).2; omega)]
      exact ⟨rfl, rfl⟩
  · rw [if_neg s, if_neg s, if_neg (fun z => s (S_sign.mpr ⟨(k3.mp z).1, Or.inr (k3.mp z).2⟩)), if_neg (fun z => s (S_sign.mpr ⟨(k4.mp z).1, Or.inl (k4.mp z).2⟩))]
    exact ⟨rfl, rfl⟩
/-- bytes as one number -/
def w256 (T : Nat → Nat) (p : Nat) : Nat → Nat
  | 0 => 0
  | d + 1 => w256 T p d * 256 + T (p + d)
theorem w256_lt {T : Nat → Nat} {p : Nat} : ∀ {d : Nat}, (∀ j, j < d → T (p + j) < 256) → w256 T p d < 2 ^ (8 * d)
  | 0, _ => by
    show (0 : Nat) < 2 ^ (8 * 0)
    decide
  | d + 1, h => by
    have h1 := w256_lt (T := T) (p := p) (d := d) (fun j hj => h j (by omega))
    have h2 := h d (by omega)
    have e : 2 ^ (8 * (d + 1)) = 2 ^ (8 * d) * 256 := by rw [Nat.mul_add, Nat.pow_add]
    rw [e]
    show w256 T p d * 256 + T (p + d) < _
    omega
theorem m_word_L {t p e : Nat} {bx bm : Nat → Int32} {T : Nat → Nat} (ht : t ≤ 400) (hT : TP t bx bm T) (he : e ≤ t) (h6 : e ≤ p + 6) : ∀ (d i f : Nat), p + i + d = e → d < f → F_X8_word_L1 2 (nI e) bm f (lN (w256 T p i)) (nI (p + i)) = some (lN (w256 T p (e - p)))
  | 0, i, f + 1, hi, _ => by
    rw [F_X8_word_L1.eq_2, if_pos (nI_le (by omega) (by omega)), show e - p = i by omega]
  | d + 1, i, f + 1, hi, hf => by
    have hb := (hT (p + i) (by omega)).1
    have hw := w256_lt (T := T) (p := p) (d := i) (fun j hj => (hT (p + j) (by omega)).1)
    have hw2 : 2 ^ (8 * i) ≤ 2 ^ 40 := Nat.pow_le_pow_right (by decide) (by omega)
    rw [F_X8_word_L1.eq_2, if_neg (nI_ge (by omega) (by omega)), if_pos rfl, gdT (inbI (by omega) (by omega)), nI_clamp (by omega), (hT (p + i) (by omega)).2.2]
    have e1 : jlshl (lN (w256 T p i)) 8 ||| Int32.toInt64 (nI (T (p + i))) = lN (w256 T p (i + 1)) := by
      rw [nI_l (by omega), show (8 : Int32) = nI 8 from rfl]
      show lN (w256 T p i) <<< ((nI 8).toInt64 &&& 63) ||| lN (T (p + i)) = _
      rw [wb_shl _ (by decide), wb_or (by omega) (by omega), or_add (by omega)]
      rfl
    rw [e1]
    (try simp only [Option.bind_some])
    rw [nI_1]
    exact m_word_L ht hT he h6 d (i + 1) f (by omega) (by omega)
theorem w_open {T : Nat → Nat} {p : Nat} : w256 T p 1 = T p ∧ w256 T p 2 = T p * 256 + T (p + 1) ∧ w256 T p 3 = (T p * 256 + T (p + 1)) * 256 + T (p + 2) ∧ w256 T p 4 = ((T p * 256 + T (p + 1)) * 256 + T (p + 2)) * 256 + T (p + 3) ∧ w256 T p 5 = (((T p * 256 + T (p + 1)) * 256 + T (p + 2)) * 256 + T (p + 3)) * 256 + T (p + 4) ∧ w256 T p 6 = ((((T p * 256 + T (p + 1)) * 256 + T (p + 2)) * 256 + T (p + 3)) * 256 + T (p + 4)) * 256 + T (p + 5) := by
  simp [w256]
theorem wW0 {T : Nat → Nat} {p e : Nat} (h1 : p < e) (h6 : e ≤ p + 6) (hl : ∀ j, p + j < e → 97 ≤ T (p + j) ∧ T (p + j) ≤ 122) : isW0 T p e ↔ w256 T p (e - p) = 7562597 := by
  obtain ⟨o1, o2, o3, o4, o5, o6⟩ := w_open (T := T) (p := p)
  have a0 := hl 0 (by omega)
  rw [Nat.add_zero] at a0
  rcases (show e = p + 1 ∨ e = p + 2 ∨ e = p + 3 ∨ e = p + 4 ∨ e = p + 5 ∨ e = p + 6 by omega) with rfl | rfl | rfl | rfl | rfl | rfl
  · rw [Nat.add_sub_cancel_left, o1]
    exact ⟨fun z => by have := z.1; omega, fun q => by omega⟩
  · rw [Nat.add_sub_cancel_left, o2]
    have a1 := hl 1 (by omega)
    exact ⟨fun z => by have := z.1; omega, fun q => by omega⟩
  · rw [Nat.add_sub_cancel_left, o3]
    have a1 := hl 1 (by omega)
    have a2 := hl 2 (by omega)
    refine ⟨fun ⟨_, z0, z1, z2⟩ => ?_, fun q => ⟨rfl, ?_, ?_, ?_⟩⟩
    · rw [Nat.add_zero] at z0
      omega
    · rw [Nat.add_zero]
      omega
    · omega
    · omega
  · rw [Nat.add_sub_cancel_left, o4]
    have a1 := hl 1 (by omega)
    have a2 := hl 2 (by omega)
    have a3 := hl 3 (by omega)
    exact ⟨fun z => by have := z.1; omega, fun q => by omega⟩
  · rw [Nat.add_sub_cancel_left, o5]
    have a1 := hl 1 (by omega)
    have a2 := hl 2 (by omega)
    have a3 := hl 3 (by omega)
    have a4 := hl 4 (by omega)
    exact ⟨fun z => by have := z.1; omega, fun q => by omega⟩
  · rw [Nat.add_sub_cancel_left, o6]
    have a1 := hl 1 (by omega)
    have a2 := hl 2 (by omega)
    have a3 := hl 3 (by omega)
    have a4 := hl 4 (by omega)
    have a5 := hl 5 (by omega)
    exact ⟨fun z => by have := z.1; omega, fun q => by omega⟩
theorem wW1 {T : Nat → Nat} {p e : Nat} (h1 : p < e) (h6 : e ≤ p + 6) (hl : ∀ j, p + j < e → 97 ≤ T (p + j) ∧ T (p + j) ≤ 122) : isW1 T p e ↔ w256 T p (e - p) = 1852137842 := by
  obtain ⟨o1, o2, o3, o4, o5, o6⟩ := w_open (T := T) (p := p)
  have a0 := hl 0 (by omega)
  rw [Nat.add_zero] at a0
  rcases (show e = p + 1 ∨ e = p + 2 ∨ e = p + 3 ∨ e = p + 4 ∨ e = p + 5 ∨ e = p + 6 by omega) with rfl | rfl | rfl | rfl | rfl | rfl
  · rw [Nat.add_sub_cancel_left, o1]
    exact ⟨fun z => by have := z.1; omega, fun q => by omega⟩
  · rw [Nat.add_sub_cancel_left, o2]
    have a1 := hl 1 (by omega)
    exact ⟨fun z => by have := z.1; omega, fun q => by omega⟩
  · rw [Nat.add_sub_cancel_left, o3]
    have a1 := hl 1 (by omega)
    have a2 := hl 2 (by omega)
    exact ⟨fun z => by have := z.1; omega, fun q => by omega⟩
  · rw [Nat.add_sub_cancel_left, o4]
    have a1 := hl 1 (by omega)
    have a2 := hl 2 (by omega)
    have a3 := hl 3 (by omega)
    refine ⟨fun ⟨_, z0, z1, z2, z3⟩ => ?_, fun q => ⟨rfl, ?_, ?_, ?_, ?_⟩⟩
    · rw [Nat.add_zero] at z0
      omega
    · rw [Nat.add_zero]
      omega
    · omega
    · omega
    · omega
  · rw [Nat.add_sub_cancel_left, o5]
    have a1 := hl 1 (by omega)
    have a2 := hl 2 (by omega)
    have a3 := hl 3 (by omega)
    have a4 := hl 4 (by omega)
    exact ⟨fun z => by have := z.1; omega, fun q => by omega⟩
  · rw [Nat.add_sub_cancel_left, o6]
    have a1 := hl 1 (by omega)
    have a2 := hl 2 (by omega)
    have a3 := hl 3 (by omega)
    have a4 := hl 4 (by omega)
    have a5 := hl 5 (by omega)
    exact ⟨fun z => by have := z.1; omega, fun q => by omega⟩
theorem wW2 {T : Nat → Nat} {p e : Nat} (h1 : p < e) (h6 : e ≤ p + 6) (hl : ∀ j, p + j < e → 97 ≤ T (p + j) ∧ T (p + j) ≤ 122) : isW2 T p e ↔ w256 T p (e - p) = 6709618 := by
  obtain ⟨o1, o2, o3, o4, o5, o6⟩ := w_open (T := T) (p := p)
  have a0 := hl 0 (by omega)
  rw [Nat.add_zero] at a0
  rcases (show e = p + 1 ∨ e = p + 2 ∨ e = p + 3 ∨ e = p + 4 ∨ e = p + 5 ∨ e = p + 6 by omega) with rfl | rfl | rfl | rfl | rfl | rfl
  · rw [Nat.add_sub_cancel_left, o1]
    exact ⟨fun z => by have := z.1; omega, fun q => by omega⟩
  · rw [Nat.add_sub_cancel_left, o2]
    have a1 := hl 1 (by omega)
    exact ⟨fun z => by have := z.1; omega, fun q => by omega⟩
  · rw [Nat.add_sub_cancel_left, o3]
    have a1 := hl 1 (by omega)
    have a2 := hl 2 (by omega)
    refine ⟨fun ⟨_, z0, z1, z2⟩ => ?_, fun q => ⟨rfl, ?_, ?_, ?_⟩⟩
    · rw [Nat.add_zero] at z0
      omega
    · rw [Nat.add_zero]
      omega
    · omega
    · omega
  · rw [Nat.add_sub_cancel_left, o4]
    have a1 := hl 1 (by omega)
    have a2 := hl 2 (by omega)
    have a3 := hl 3 (by omega)
    exact ⟨fun z => by have := z.1; omega, fun q => by omega⟩
  · rw [Nat.add_sub_cancel_left, o5]
    have a1 := hl 1 (by omega)
    have a2 := hl 2 (by omega)
    have a3 := hl 3 (by omega)
    have a4 := hl 4 (by omega)
    exact ⟨fun z => by have := z.1; omega, fun q => by omega⟩
  · rw [Nat.add_sub_cancel_left, o6]
    have a1 := hl 1 (by omega)
    have a2 := hl 2 (by omega)
    have a3 := hl 3 (by omega)
    have a4 := hl 4 (by omega)
    have a5 := hl 5 (by omega)
    exact ⟨fun z => by have := z.1; omega, fun q => by omega⟩
theorem wW3 {T : Nat → Nat} {p e : Nat} (h1 : p < e) (h6 : e ≤ p + 6) (hl : ∀ j, p + j < e → 97 ≤ T (p + j) ∧ T (p + j) ≤ 122) : isW3 T p e ↔ w256 T p (e - p) = 1937006969 := by
  obtain ⟨o1, o2, o3, o4, o5, o6⟩ := w_open (T := T) (p := p)
  have a0 := hl 0 (by omega)
  rw [Nat.add_zero] at a0
  rcases (show e = p + 1 ∨ e = p + 2 ∨ e = p + 3 ∨ e = p + 4 ∨ e = p + 5 ∨ e = p + 6 by omega) with rfl | rfl | rfl | rfl | rfl | rfl
  · rw [Nat.add_sub_cancel_left, o1]
    exact ⟨fun z => by have := z.1; omega, fun q => by omega⟩
  · rw [Nat.add_sub_cancel_left, o2]
    have a1 := hl 1 (by omega)
    exact ⟨fun z => by have := z.1; omega, fun q => by omega⟩
  · rw [Nat.add_sub_cancel_left, o3]
    have a1 := hl 1 (by omega)
    have a2 := hl 2 (by omega)
    exact ⟨fun z => by have := z.1; omega, fun q => by omega⟩
  · rw [Nat.add_sub_cancel_left, o4]
    have a1 := hl 1 (by omega)
    have a2 := hl 2 (by omega)
    have a3 := hl 3 (by omega)
    refine ⟨fun ⟨_, z0, z1, z2, z3⟩ => ?_, fun q => ⟨rfl, ?_, ?_, ?_, ?_⟩⟩
    · rw [Nat.add_zero] at z0
      omega
    · rw [Nat.add_zero]
      omega
    · omega
    · omega
    · omega
  · rw [Nat.add_sub_cancel_left, o5]
    have a1 := hl 1 (by omega)
    have a2 := hl 2 (by omega)
    have a3 := hl 3 (by omega)
    have a4 := hl 4 (by omega)
    exact ⟨fun z => by have := z.1; omega, fun q => by omega⟩
  · rw [Nat.add_sub_cancel_left, o6]
    have a1 := hl 1 (by omega)
    have a2 := hl 2 (by omega)
    have a3 := hl 3 (by omega)
    have a4 := hl 4 (by omega)
    have a5 := hl 5 (by omega)
    exact ⟨fun z => by have := z.1; omega, fun q => by omega⟩
/-- what word() tells of a token -/
theorem o_word {t p : Nat} {bx bm : Nat → Int32} {T : Nat → Nat} (ht : t ≤ 400) (hT : TP t bx bm T) (hp : p ≤ t) : ∃ w, F_X8_word (tokS T t p) (nI p) (nI (tokE T t p)) bm = some w ∧ (lg_cmp w 7562597 = 0 ↔ (tokK T t p).1 = 5) ∧ (lg_cmp w 1852137842 = 0 ↔ tokK T t p = (6, 1)) ∧ (lg_cmp w 6709618 = 0 ↔ tokK T t p = (6, 2)) ∧ (lg_cmp w 1937006969 = 0 ↔ tokK T t p = (6, 0)) := by
  have he := tokE_le (T := T) hp
  have other : ¬ tokS T t p = 2 → (tokK T t p).1 ≠ 5 → (tokK T t p).1 ≠ 6 → ∃ w, F_X8_word (tokS T t p) (nI p) (nI (tokE T t p)) bm = some w ∧ (lg_cmp w 7562597 = 0 ↔ (tokK T t p).1 = 5) ∧ (lg_cmp w 1852137842 = 0 ↔ tokK T t p = (6, 1)) ∧ (lg_cmp w 6709618 = 0 ↔ tokK T t p = (6, 2)) ∧ (lg_cmp w 1937006969 = 0 ↔ tokK T t p = (6, 0)) := by
    intro hs h5 h6
    have key : ∀ g, F_X8_word_L1 (tokS T t p) (nI (tokE T t p)) bm (g + 1) 0 (nI p) = some 0 := by
      intro g
      rw [F_X8_word_L1.eq_2]
      by_cases c : nI (tokE T t p) ≤ nI p
      · rw [if_pos c]
      · rw [if_neg c, if_neg hs]
    refine ⟨0, ?_, ⟨fun q => absurd q (by decide), fun q => absurd q h5⟩, ⟨fun q => absurd q (by decide), fun q => absurd (by rw [q]) h6⟩, ⟨fun q => absurd q (by decide), fun q => absurd (by rw [q]) h6⟩, ⟨fun q => absurd q (by decide), fun q => absurd (by rw [q]) h6⟩⟩
    unfold F_X8_word
    rw [show F_X8_word_L1 (tokS T t p) (nI (tokE T t p)) bm FU 0 (nI p) = _ from key 999999]
    rfl
  by_cases h : t ≤ p
  · refine other ?_ ?_ ?_
    · unfold tokS; rw [if_pos h]; decide
    · unfold tokK; rw [if_pos h]; decide
    · unfold tokK; rw [if_pos h]; decide
  · by_cases f : isFg (T p) = true
    · refine other ?_ ?_ ?_
      · unfold tokS; rw [if_neg h, if_pos f]; split <;> decide
      · unfold tokK; rw [if_neg h, if_pos f]; split <;> simp
      · unfold tokK; rw [if_neg h, if_pos f]; split <;> simp
    · by_cases l : isLt (T p) = true
      · have hK : tokK T t p = if isW0 T p (tokE T t p) then (5, 0) else if isW1 T p (tokE T t p) then (6, 1) else if isW2 T p (tokE T t p) then (6, 2) else if isW3 T p (tokE T t p) then (6, 0) else (0, 0) := by
          unfold tokK
          rw [if_neg h, if_neg f, if_pos l]
        have hpe := he.2 (by omega)
        by_cases q6 : tokE T t p ≤ p + 6
        · have hs : tokS T t p = 2 := by unfold tokS; rw [if_neg h, if_neg f, if_pos l, if_pos q6]
          have hl := fun j (hj : p + j < tokE T t p) => lt_in (i := p + j) (by omega) f l (by omega) hj
          have hw := m_word_L ht hT he.1 q6 (tokE T t p - p) 0 FU (by omega) (by unfold FU; omega)
          rw [show lN (w256 T p 0) = (0 : Int64) from rfl, Nat.add_zero] at hw
          refine ⟨lN (w256 T p (tokE T t p - p)), ?_, ?_⟩
          · unfold F_X8_word
            rw [hs, hw]
            rfl
          · obtain ⟨o1, o2, o3, o4, o5, o6⟩ := w_open (T := T) (p := p)
            have hb : w256 T p (tokE T t p - p) < 2 ^ 48 := Nat.lt_of_lt_of_le (w256_lt (fun j hj => (hT (p + j) (by omega)).1)) (Nat.pow_le_pow_right (by decide) (by omega))
            rw [lge, lge, lge, lge, show (7562597 : Int64) = lN 7562597 from rfl, show (1852137842 : Int64) = lN 1852137842 from rfl, show (6709618 : Int64) = lN 6709618 from rfl, show (1937006969 : Int64) = lN 1937006969 from rfl, lN_eqI (by omega) (by decide), lN_eqI (by omega) (by decide), lN_eqI (by omega) (by decide), lN_eqI (by omega) (by decide)]
            have a0 := hl 0 (by omega)
            have w0 : isW0 T p (tokE T t p) ↔ w256 T p (tokE T t p - p) = 7562597 := wW0 hpe q6 (fun j hj => hl j hj)
            have w1 : isW1 T p (tokE T t p) ↔ w256 T p (tokE T t p - p) = 1852137842 := wW1 hpe q6 (fun j hj => hl j hj)
            have w2 : isW2 T p (tokE T t p) ↔ w256 T p (tokE T t p - p) = 6709618 := wW2 hpe q6 (fun j hj => hl j hj)
            have w3 : isW3 T p (tokE T t p) ↔ w256 T p (tokE T t p - p) = 1937006969 := wW3 hpe q6 (fun j hj => hl j hj)
            rw [← w0, ← w1, ← w2, ← w3, hK]
            by_cases c0 : isW0 T p (tokE T t p)
            · have n1 : ¬ isW1 T p (tokE T t p) := fun z => by have := w0.mp c0; have := w1.mp z; omega
              have n2 : ¬ isW2 T p (tokE T t p) := fun z => by have := w0.mp c0; have := w2.mp z; omega
              have n3 : ¬ isW3 T p (tokE T t p) := fun z => by have := w0.mp c0; have := w3.mp z; omega
              rw [if_pos c0]
              exact ⟨⟨fun _ => rfl, fun _ => c0⟩, ⟨fun z => absurd z n1, fun z => absurd z (by decide)⟩, ⟨fun z => absurd z n2, fun z => absurd z (by decide)⟩, ⟨fun z => absurd z n3, fun z => absurd z (by decide)⟩⟩
            · rw [if_neg c0]
              by_cases c1 : isW1 T p (tokE T t p)
              · have n2 : ¬ isW2 T p (tokE T t p) := fun z => by have := w1.mp c1; have := w2.mp z; omega
                have n3 : ¬ isW3 T p (tokE T t p) := fun z => by have := w1.mp c1; have := w3.mp z; omega
                rw [if_pos c1]
                exact ⟨⟨fun z => absurd z c0, fun z => absurd z (by decide)⟩, ⟨fun _ => rfl, fun _ => c1⟩, ⟨fun z => absurd z n2, fun z => absurd z (by decide)⟩, ⟨fun z => absurd z n3, fun z => absurd z (by decide)⟩⟩
              · rw [if_neg c1]
                by_cases c2 : isW2 T p (tokE T t p)
                · have n3 : ¬ isW3 T p (tokE T t p) := fun z => by have := w2.mp c2; have := w3.mp z; omega
                  rw [if_pos c2]
                  exact ⟨⟨fun z => absurd z c0, fun z => absurd z (by decide)⟩, ⟨fun z => absurd z c1, fun z => absurd z (by decide)⟩, ⟨fun _ => rfl, fun _ => c2⟩, ⟨fun z => absurd z n3, fun z => absurd z (by decide)⟩⟩
                · rw [if_neg c2]
                  by_cases c3 : isW3 T p (tokE T t p)
                  · rw [if_pos c3]
                    exact ⟨⟨fun z => absurd z c0, fun z => absurd z (by decide)⟩, ⟨fun z => absurd z c1, fun z => absurd z (by decide)⟩, ⟨fun z => absurd z c2, fun z => absurd z (by decide)⟩, ⟨fun _ => rfl, fun _ => c3⟩⟩
                  · rw [if_neg c3]
                    exact ⟨⟨fun z => absurd z c0, fun z => absurd z (by decide)⟩, ⟨fun z => absurd z c1, fun z => absurd z (by decide)⟩, ⟨fun z => absurd z c2, fun z => absurd z (by decide)⟩, ⟨fun z => absurd z c3, fun z => absurd z (by decide)⟩⟩
        · refine other ?_ ?_ ?_
          · unfold tokS; rw [if_neg h, if_neg f, if_pos l, if_neg q6]; decide
          · rw [hK, if_neg (fun z => by omega), if_neg (fun z => by omega), if_neg (fun z => by omega), if_neg (fun z => by omega)]; decide
          · rw [hK, if_neg (fun z => by omega), if_neg (fun z => by omega), if_neg (fun z => by omega), if_neg (fun z => by omega)]; decide
      · refine other ?_ ?_ ?_
        · unfold tokS; rw [if_neg h, if_neg f, if_neg l]; split <;> decide
        · rw [K_sign h f l]; split
          · decide
          · split <;> decide
        · rw [K_sign h f l]; split
          · decide
          · split <;> decide
/-- what aNumber reads -/
theorem o_num {t p : Nat} {bx bm : Nat → Int32} {T : Nat → Nat} (ht : t ≤ 400) (hT : TP t bx bm T) (hp : p ≤ t) : ((tokK T t p).1 = 2 → F_X8_aNumber_L1 (tokS T t p) (nI (tokE T t p)) bm FU 0 (nI p) = some (nI (tokK T t p).2)) ∧ (¬ (tokK T t p).1 = 2 → F_X8_aNumber_L1 (tokS T t p) (nI (tokE T t p)) bm FU 0 (nI p) = some 0) := by
  have he := tokE_le (T := T) hp
  refine ⟨fun hK => ?_, fun hK => ?_⟩
  · have hs := S_num.mpr hK
    have h : ¬ t ≤ p := by
      intro h
      unfold tokK at hK
      rw [if_pos h] at hK
      exact absurd hK (by decide)
    have f : isFg (T p) = true := by
      by_cases f : isFg (T p) = true
      · exact f
      · unfold tokK at hK
        rw [if_neg h, if_neg f] at hK
        repeat' (split at hK)
        all_goals exact absurd hK (by decide)
    have q : tokE T t p ≤ p + 2 := by
      by_cases q : tokE T t p ≤ p + 2
      · exact q
      · unfold tokK at hK
        rw [if_neg h, if_pos f, if_neg q] at hK
        exact absurd hK (by decide)
    have hv : (tokK T t p).2 = nmv T p (tokE T t p) := by
      unfold tokK
      rw [if_neg h, if_pos f, if_pos q]
    have hpe := he.2 (by omega)
    have b0 := fg_in (by omega) f (Nat.le_refl p) hpe
    rw [hv, hs]
    have key : ∀ g, F_X8_aNumber_L1 3 (nI (tokE T t p)) bm (g + 1 + 1 + 1) 0 (nI p) = some (nI (nmv T p (tokE T t p))) := by
      intro g
      rw [F_X8_aNumber_L1.eq_2, if_neg (nI_ge (by omega) (by omega)), if_pos rfl, gdT (inbI (by omega) (by omega)), nI_clamp (by omega), (hT p (by omega)).2.2]
      (try simp only [Option.bind_some])
      have v0 : (10 : Int32) * 0 + nI (T p) - 48 = nI (T p - 48) := by
        rw [show (10 : Int32) * 0 = 0 from by decide, Int32.zero_add]
        exact q_sub (b := 48) b0.1
      rw [v0, nI_1, F_X8_aNumber_L1.eq_2]
      by_cases w : tokE T t p = p + 1
      · rw [if_pos (nI_le (by omega) (by omega))]
        unfold nmv
        rw [if_pos w]
      · have b1 := fg_in (i := p + 1) (show p < t by omega) f (by omega) (by omega)
        rw [if_neg (nI_ge (by omega) (by omega)), if_pos rfl, gdT (inbI (by omega) (by omega)), nI_clamp (by omega), (hT (p + 1) (by omega)).2.2]
        (try simp only [Option.bind_some])
        have v1 : (10 : Int32) * nI (T p - 48) + nI (T (p + 1)) - 48 = nI (10 * (T p - 48) + (T (p + 1) - 48)) := by
          rw [show (10 : Int32) = nI 10 from rfl, q_mul, q_add, show (48 : Int32) = nI 48 from rfl, q_sub (by omega)]
          congr 1
          omega
        rw [v1, nI_1, F_X8_aNumber_L1.eq_2, if_pos (nI_le (by omega) (by omega))]
        unfold nmv
        rw [if_neg w]
    exact key 999997
  · have hs : ¬ tokS T t p = 3 := fun z => hK (S_num.mp z)
    have key : ∀ g, F_X8_aNumber_L1 (tokS T t p) (nI (tokE T t p)) bm (g + 1) 0 (nI p) = some 0 := by
      intro g
      rw [F_X8_aNumber_L1.eq_2]
      by_cases c : nI (tokE T t p) ≤ nI p
      · rw [if_pos c]
      · rw [if_neg c, if_neg hs]
    exact key 999999
theorem K_val {t p : Nat} {T : Nat → Nat} (hp : p ≤ t) : (tokK T t p).2 ≤ 99 ∧ (tokK T t p).1 ≤ 6 ∧ ((tokK T t p).1 = 6 → (tokK T t p).2 ≤ 2) := by
  have he := tokE_le (T := T) hp
  by_cases h : t ≤ p
  · have : tokK T t p = (1, 0) := by unfold tokK; rw [if_pos h]
    rw [this]
    decide
  · by_cases f : isFg (T p) = true
    · have hK : tokK T t p = if tokE T t p ≤ p + 2 then (2, nmv T p (tokE T t p)) else (0, 0) := by
        unfold tokK
        rw [if_neg h, if_pos f]
      have hpe := he.2 (by omega)
      have b0 := fg_in (by omega) f (Nat.le_refl p) hpe
      rw [hK]
      by_cases q : tokE T t p ≤ p + 2
      · rw [if_pos q]
        refine ⟨?_, by show 2 ≤ 6; omega, fun z => absurd z (by show ¬ (2 : Nat) = 6; decide)⟩
        show nmv T p (tokE T t p) ≤ 99
        unfold nmv
        by_cases w : tokE T t p = p + 1
        · rw [if_pos w]; omega
        · have b1 := fg_in (i := p + 1) (show p < t by omega) f (by omega) (by omega)
          rw [if_neg w]; omega
      · rw [if_neg q]
        decide
    · by_cases l : isLt (T p) = true
      · unfold tokK
        rw [if_neg h, if_neg f, if_pos l]
        repeat' split
        all_goals decide
      · rw [K_sign h f l]
        repeat' split
        all_goals decide
