/-! the token at a place, on both sides -/
def tokP (T : Nat → Nat) (t a : Nat) : Nat := scn isBl T (t - a) a
def tokE (T : Nat → Nat) (t p : Nat) : Nat := if t ≤ p then t else if isFg (T p) = true then scn isFg T (t - p) p else if isLt (T p) = true then scn isLt T (t - p) p else p + 1
def nmv (T : Nat → Nat) (p e : Nat) : Nat := if e = p + 1 then T p - 48 else 10 * (T p - 48) + (T (p + 1) - 48)
def tokK (T : Nat → Nat) (t p : Nat) : Nat × Nat :=
  if t ≤ p then (1, 0)
  else if isFg (T p) = true then (if tokE T t p ≤ p + 2 then (2, nmv T p (tokE T t p)) else (0, 0))
  else if isLt (T p) = true then (if isW0 T p (tokE T t p) then (5, 0) else if isW1 T p (tokE T t p) then (6, 1) else if isW2 T p (tokE T t p) then (6, 2) else if isW3 T p (tokE T t p) then (6, 0) else (0, 0))
  else if T p = 44 then (3, 0) else if T p = 59 then (4, 0) else (0, 0)
theorem tokP_le {T : Nat → Nat} {t a : Nat} (ha : a ≤ t) : a ≤ tokP T t a ∧ tokP T t a ≤ t := by
  have := scn_le isBl T (t - a) a
  unfold tokP
  omega
theorem scn_first {P : Nat → Bool} {T : Nat → Nat} {t p : Nat} (hp : p < t) (h : P (T p) = true) : scn P T (t - p) p = scn P T (t - (p + 1)) (p + 1) := by
  obtain ⟨d, hd⟩ : ∃ d, t - p = d + 1 := ⟨t - p - 1, by omega⟩
  rw [hd, scn, if_pos h, show t - (p + 1) = d by omega]
theorem tokE_le {T : Nat → Nat} {t p : Nat} (hp : p ≤ t) : tokE T t p ≤ t ∧ (p < t → p < tokE T t p) := by
  unfold tokE
  by_cases h : t ≤ p
  · rw [if_pos h]; exact ⟨Nat.le_refl _, fun w => by omega⟩
  · rw [if_neg h]
    by_cases f : isFg (T p) = true
    · rw [if_pos f, scn_first (by omega) f]
      have := scn_le isFg T (t - (p + 1)) (p + 1)
      omega
    · rw [if_neg f]
      by_cases l : isLt (T p) = true
      · rw [if_pos l, scn_first (by omega) l]
        have := scn_le isLt T (t - (p + 1)) (p + 1)
        omega
      · rw [if_neg l]
        omega
theorem fg_in {T : Nat → Nat} {t p i : Nat} (hp : p < t) (f : isFg (T p) = true) (h1 : p ≤ i) (h2 : i < tokE T t p) : 48 ≤ T i ∧ T i ≤ 57 := by
  unfold tokE at h2
  rw [if_neg (by omega), if_pos f] at h2
  have := scn_in isFg T (t - p) p i h1 h2
  unfold isFg at this
  exact of_decide_eq_true this
theorem lt_in {T : Nat → Nat} {t p i : Nat} (hp : p < t) (f : ¬ isFg (T p) = true) (l : isLt (T p) = true) (h1 : p ≤ i) (h2 : i < tokE T t p) : 97 ≤ T i ∧ T i ≤ 122 := by
  unfold tokE at h2
  rw [if_neg (by omega), if_neg f, if_pos l] at h2
  have := scn_in isLt T (t - p) p i h1 h2
  unfold isLt at this
  exact of_decide_eq_true this
theorem x_number {t p : Nat} {bx bm : Nat → Int32} {T : Nat → Nat} (ht : t ≤ 400) (hT : TP t bx bm T) (hp : p < t) (f : isFg (T p) = true) : F_X5_readNumber (nI t) (nI p) 0 (nI (p + 1)) bx = some (nI (tokK T t p).1, nI (tokK T t p).2, nI (tokE T t p)) := by
  have he := tokE_le (T := T) (t := t) (p := p) (by omega)
  have hpe := he.2 hp
  have e1 : scn isFg T (t - (p + 1)) (p + 1) = tokE T t p := by
    unfold tokE
    rw [if_neg (by omega), if_pos f, scn_first hp f]
  have hK : tokK T t p = if tokE T t p ≤ p + 2 then (2, nmv T p (tokE T t p)) else (0, 0) := by
    unfold tokK
    rw [if_neg (by omega), if_pos f]
  unfold F_X5_readNumber
  rw [F_X5_readNumber_L1_s ht hT (t - (p + 1)) (p + 1) FU (by omega) (by unfold FU; omega), e1]
  (try simp only [Option.bind_some])
  rw [q_sub (by omega), hK]
  have c0 : (nI (tokE T t p - p) ≤ 2) ↔ tokE T t p - p ≤ 2 := nI_leI (b := 2) (by omega) (by decide)
  by_cases q : tokE T t p ≤ p + 2
  · rw [if_pos (c0.mpr (by omega)), if_pos q]
    (try simp only [Option.bind_some])
    have b0 := fg_in hp f (Nat.le_refl p) hpe
    have key : ∀ g, F_X5_readNumber_L9 (nI t) 2 (nI (tokE T t p)) bx (g + 1 + 1 + 1) (nI p) 0 = some (nI (nmv T p (tokE T t p))) := by
      intro g
      rw [F_X5_readNumber_L9.eq_2, if_neg (nI_ge (by omega) (by omega)), if_pos rfl, xb_in ht hT hp]
      (try simp only [Option.bind_some])
      have v0 : (10 : Int32) * 0 + nI (T p) - 48 = nI (T p - 48) := by
        rw [show (10 : Int32) * 0 = 0 from by decide, Int32.zero_add]
        exact q_sub (b := 48) b0.1
      rw [v0, nI_1, F_X5_readNumber_L9.eq_2]
      by_cases w : tokE T t p = p + 1
      · rw [if_pos (nI_le (by omega) (by omega))]
        unfold nmv
        rw [if_pos w]
      · have b1 := fg_in (i := p + 1) hp f (by omega) (by omega)
        rw [if_neg (nI_ge (by omega) (by omega)), if_pos rfl, xb_in ht hT (by omega)]
        (try simp only [Option.bind_some])
        have v1 : (10 : Int32) * nI (T p - 48) + nI (T (p + 1)) - 48 = nI (10 * (T p - 48) + (T (p + 1) - 48)) := by
          rw [show (10 : Int32) = nI 10 from rfl, q_mul, q_add, show (48 : Int32) = nI 48 from rfl, q_sub (by omega)]
          congr 1
          omega
        rw [v1, nI_1, F_X5_readNumber_L9.eq_2, if_pos (nI_le (by omega) (by omega))]
        unfold nmv
        rw [if_neg w]
    rw [show F_X5_readNumber_L9 (nI t) 2 (nI (tokE T t p)) bx FU (nI p) 0 = _ from key 999997]
    rfl
  · rw [if_neg (fun z => q (by have := c0.mp z; omega)), if_neg q]
    (try simp only [Option.bind_some])
    have key : ∀ g, F_X5_readNumber_L9 (nI t) 0 (nI (tokE T t p)) bx (g + 1) (nI p) 0 = some 0 := by
      intro g
      rw [F_X5_readNumber_L9.eq_2, if_neg (nI_ge (by omega) (by omega)), if_neg (by decide)]
    rw [show F_X5_readNumber_L9 (nI t) 0 (nI (tokE T t p)) bx FU (nI p) 0 = _ from key 999999]
    rfl
theorem x_name {t p : Nat} {bx bm : Nat → Int32} {T : Nat → Nat} (ht : t ≤ 400) (hT : TP t bx bm T) (hp : p < t) (f : ¬ isFg (T p) = true) (l : isLt (T p) = true) : F_X5_readName (nI t) (nI p) 0 (nI (p + 1)) bx = some (nI (tokK T t p).1, nI (tokK T t p).2, nI (tokE T t p)) := by
  have he := tokE_le (T := T) (t := t) (p := p) (by omega)
  have hpe := he.2 hp
  have e1 : scn isLt T (t - (p + 1)) (p + 1) = tokE T t p := by
    unfold tokE
    rw [if_neg (by omega), if_neg f, if_pos l, scn_first hp l]
  have hK : tokK T t p = if isW0 T p (tokE T t p) then (5, 0) else if isW1 T p (tokE T t p) then (6, 1) else if isW2 T p (tokE T t p) then (6, 2) else if isW3 T p (tokE T t p) then (6, 0) else (0, 0) := by
    unfold tokK
    rw [if_neg (by omega), if_neg f, if_pos l]
  unfold F_X5_readName
  rw [F_X5_readName_L1_s ht hT (t - (p + 1)) (p + 1) FU (by omega) (by unfold FU; omega), e1]
  (try simp only [Option.bind_some])
  rw [sp_0 ht hT hpe he.1, hK]
  (try simp only [Option.bind_some])
  by_cases w0 : isW0 T p (tokE T t p)
  · rw [if_pos w0, if_pos w0, if_neg (by decide)]
    rfl
  · rw [if_neg w0, if_neg w0, if_pos rfl, sp_1 ht hT hpe he.1]
    (try simp only [Option.bind_some])
    by_cases w1 : isW1 T p (tokE T t p)
    · rw [if_pos w1, if_pos w1, if_neg (by decide)]
      rfl
    · rw [if_neg w1, if_neg w1, if_pos rfl, sp_2 ht hT hpe he.1]
      (try simp only [Option.bind_some])
      by_cases w2 : isW2 T p (tokE T t p)
      · rw [if_pos w2, if_pos w2, if_neg (by decide)]
        rfl
      · rw [if_neg w2, if_neg w2, if_pos rfl, sp_3 ht hT hpe he.1]
        (try simp only [Option.bind_some])
        by_cases w3 : isW3 T p (tokE T t p)
        · rw [if_pos w3, if_pos w3, if_neg (by decide)]
          rfl
        · rw [if_neg w3, if_neg w3, if_pos rfl]
          rfl
theorem tokX {t a : Nat} {bx bm : Nat → Int32} {T : Nat → Nat} (ht : t ≤ 400) (hT : TP t bx bm T) (ha : a ≤ t) : F_X5_readToken (nI t) (nI a) bx = some (nI (tokK T t (tokP T t a)).1, nI (tokP T t a), nI (tokK T t (tokP T t a)).2, nI (tokE T t (tokP T t a))) := by
  have hp := tokP_le (T := T) ha
  unfold F_X5_readToken
  rw [F_X5_readToken_L1_s ht hT (t - a) a FU (by omega) (by unfold FU; omega), show scn isBl T (t - a) a = tokP T t a from rfl]
  generalize tokP T t a = p at hp ⊢
  (try simp only [Option.bind_some])
  rw [nI_1]
  by_cases h : t ≤ p
  · have e : p = t := by omega
    subst e
    rw [xb_out]
    (try simp only [Option.bind_some])
    rw [if_neg (nI_nlt (by omega) (by omega))]
    unfold tokK tokE
    rw [if_pos h, if_pos h]
    rfl
  · have hb := (hT p (by omega)).1
    rw [xb_in ht hT (by omega)]
    (try simp only [Option.bind_some])
    rw [if_pos (nI_lt (by omega) (by omega)), x_fig hb]
    (try simp only [Option.bind_some])
    by_cases f : isFg (T p) = true
    · rw [if_pos f, if_neg (by decide), x_number ht hT (by omega) f]
      rfl
    · rw [if_neg f, if_pos rfl, x_let hb]
      (try simp only [Option.bind_some])
      by_cases l : isLt (T p) = true
      · rw [if_pos l, if_neg (by decide), x_name ht hT (by omega) f l]
        rfl
      · rw [if_neg l, if_pos rfl]
        have c1 : (nI (T p) = 44) ↔ T p = 44 := nI_eq (b := 44) (by omega) (by decide)
        have c2 : (nI (T p) = 59) ↔ T p = 59 := nI_eq (b := 59) (by omega) (by decide)
        unfold tokK tokE
        rw [if_neg h, if_neg f, if_neg l, if_neg h, if_neg f, if_neg l]
        by_cases q : T p = 44
        · rw [if_pos (c1.mpr q), if_pos q]
          rfl
        · rw [if_neg (fun z => q (c1.mp z)), if_neg q]
          by_cases w : T p = 59
          · rw [if_pos (c2.mpr w), if_pos w]
            rfl
          · rw [if_neg (fun z => w (c2.mp z)), if_neg w]
            rfl
/-! the model's -/
def tokS (T : Nat → Nat) (t p : Nat) : Int32 :=
  if t ≤ p then 1
  else if isFg (T p) = true then (if tokE T t p ≤ p + 2 then 3 else 0)
  else if isLt (T p) = true then (if tokE T t p ≤ p + 6 then 2 else 0)
  else if T p = 59 ∨ T p = 44 then 4 else 0
theorem tokM {t a : Nat} {bx bm : Nat → Int32} {T : Nat → Nat} (ht : t ≤ 400) (hT : TP t bx bm T) (ha : a ≤ t) : F_X8_next (nI t) (nI a) bm = some (nI (tokE T t (tokP T t a)), tokS T t (tokP T t a), nI (tokP T t a), nI (tokE T t (tokP T t a))) := by
  have hp := tokP_le (T := T) ha
  unfold F_X8_next
  rw [F_X8_next_L1_s ht hT (t - a) a FU (by omega) (by unfold FU; omega), show scn isBl T (t - a) a = tokP T t a from rfl]
  generalize tokP T t a = p at hp ⊢
  (try simp only [Option.bind_some])
  by_cases h : t ≤ p
  · have e : p = t := by omega
    subst e
    rw [mb_out]
    (try simp only [Option.bind_some])
    rw [if_pos (by trivial)]
    unfold tokS tokE
    rw [if_pos h, if_pos h]
    rfl
  · have hb := (hT p (by omega)).1
    have he := tokE_le (T := T) (t := t) (p := p) (by omega)
    have hpe := he.2 (by omega)
    have hne : ¬ nI (T p) = -1000000 := by
      intro q
      have e := congrArg Int32.toInt q
      rw [nI_toInt (by omega), show (-1000000 : Int32).toInt = -1000000 by decide] at e
      omega
    rw [mb_in ht hT (by omega)]
    (try simp only [Option.bind_some])
    rw [if_neg hne, m_let hb]
    (try simp only [Option.bind_some])
    by_cases f : isFg (T p) = true
    · have l : ¬ isLt (T p) = true := by
        unfold isFg at f
        unfold isLt
        have := of_decide_eq_true f
        simp
        omega
      have e1 : scn isFg T (t - p) p = tokE T t p := by
        unfold tokE
        rw [if_neg h, if_pos f]
      have eS : tokS T t p = if tokE T t p ≤ p + 2 then 3 else 0 := by
        unfold tokS
        rw [if_neg h, if_pos f]
      rw [if_neg l, if_pos rfl, m_fig hb]
      (try simp only [Option.bind_some])
      rw [if_pos f, if_neg (by decide), F_X8_next_L19_s ht hT (t - p) p FU (by omega) (by unfold FU; omega), e1]
      (try simp only [Option.bind_some])
      have c0 : (nI (tokE T t p - p) ≤ 2) ↔ tokE T t p - p ≤ 2 := nI_leI (b := 2) (by omega) (by decide)
      rw [q_sub (by omega), eS]
      by_cases q : tokE T t p ≤ p + 2
      · rw [if_pos (c0.mpr (by omega)), if_pos q]
        rfl
      · rw [if_neg (fun z => q (by have := c0.mp z; omega)), if_neg q]
        rfl
    · by_cases l : isLt (T p) = true
      · have e1 : scn isLt T (t - p) p = tokE T t p := by
          unfold tokE
          rw [if_neg h, if_neg f, if_pos l]
        have eS : tokS T t p = if tokE T t p ≤ p + 6 then 2 else 0 := by
          unfold tokS
          rw [if_neg h, if_neg f, if_pos l]
        rw [if_pos l, if_neg (by decide), F_X8_next_L26_s ht hT (t - p) p FU (by omega) (by unfold FU; omega), e1]
        (try simp only [Option.bind_some])
        have c0 : (nI (tokE T t p - p) ≤ 6) ↔ tokE T t p - p ≤ 6 := nI_leI (b := 6) (by omega) (by decide)
        rw [q_sub (by omega), eS]
        by_cases q : tokE T t p ≤ p + 6
        · rw [if_pos (c0.mpr (by omega)), if_pos q]
          rfl
        · rw [if_neg (fun z => q (by have := c0.mp z; omega)), if_neg q]
          rfl
      · have e1 : tokE T t p = p + 1 := by
          unfold tokE
          rw [if_neg h, if_neg f, if_neg l]
        have eS : tokS T t p = if T p = 59 ∨ T p = 44 then 4 else 0 := by
          unfold tokS
          rw [if_neg h, if_neg f, if_neg l]
        rw [if_neg l, if_pos rfl, m_fig hb]
        (try simp only [Option.bind_some])
        rw [if_neg f, if_pos rfl, e1, eS, nI_1]
        have c1 : (nI (T p) = 44) ↔ T p = 44 := nI_eq (b := 44) (by omega) (by decide)
        have c2 : (nI (T p) = 59) ↔ T p = 59 := nI_eq (b := 59) (by omega) (by decide)
        by_cases w : T p = 59
        · rw [if_pos (c2.mpr w), if_pos (Or.inl w)]
          rfl
        · rw [if_neg (fun z => w (c2.mp z))]
          by_cases q : T p = 44
          · rw [if_pos (c1.mpr q), if_pos (Or.inr q)]
            rfl
          · rw [if_neg (fun z => q (c1.mp z)), if_neg (fun z => by rcases z with z | z; exact w z; exact q z)]
            rfl
