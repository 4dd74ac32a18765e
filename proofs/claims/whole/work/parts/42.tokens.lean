/-! tokens -/
def isBl (b : Nat) : Bool := decide (b = 32 ∨ b = 10)
def isFg (b : Nat) : Bool := decide (48 ≤ b ∧ b ≤ 57)
def isLt (b : Nat) : Bool := decide (97 ≤ b ∧ b ≤ 122)
def scn (P : Nat → Bool) (T : Nat → Nat) : Nat → Nat → Nat
  | 0, a => a
  | d + 1, a => if P (T a) = true then scn P T d (a + 1) else a
theorem scn_le (P : Nat → Bool) (T : Nat → Nat) : ∀ d a, a ≤ scn P T d a ∧ scn P T d a ≤ a + d
  | 0, a => ⟨Nat.le_refl _, Nat.le_refl _⟩
  | d + 1, a => by
    have := scn_le P T d (a + 1)
    unfold scn
    split <;> omega
theorem scn_in (P : Nat → Bool) (T : Nat → Nat) : ∀ d a i, a ≤ i → i < scn P T d a → P (T i) = true
  | 0, a, i, h1, h2 => absurd h2 (by unfold scn; omega)
  | d + 1, a, i, h1, h2 => by
    unfold scn at h2
    by_cases q : P (T a) = true
    · rw [if_pos q] at h2
      by_cases e : i = a
      · rw [e]; exact q
      · exact scn_in P T d (a + 1) i (by omega) h2
    · rw [if_neg q] at h2
      omega
theorem scn_stop (P : Nat → Bool) (T : Nat → Nat) : ∀ d a, scn P T d a < a + d → ¬ P (T (scn P T d a)) = true
  | 0, a, h => absurd h (by unfold scn; omega)
  | d + 1, a, h => by
    unfold scn at h ⊢
    by_cases q : P (T a) = true
    · rw [if_pos q] at h ⊢
      exact scn_stop P T d (a + 1) (by omega)
    · rw [if_neg q] at h ⊢
      exact q
theorem xb_in {t i : Nat} {bx bm : Nat → Int32} {T : Nat → Nat} (ht : t ≤ 400) (hT : TP t bx bm T) (hi : i < t) : F_X5_byteAt (nI i) (nI t) bx = some (nI (T i)) := by
  unfold F_X5_byteAt
  rw [out_in hi (by omega)]
  (try simp only [Option.bind_some])
  rw [if_pos (by trivial), if_pos (show nI i < 400 from nI_lt (b := 400) (by omega) (by decide)), gdT (inbI (by omega) (by omega)), nI_clamp (by omega), (hT i hi).2.1]
theorem xb_out {t : Nat} {bx : Nat → Int32} : F_X5_byteAt (nI t) (nI t) bx = some (-1) := by
  unfold F_X5_byteAt
  rw [out_out (Or.inr (Int32.le_refl _))]
  (try simp only [Option.bind_some])
  rw [if_neg (by decide)]
theorem mb_in {t i : Nat} {bx bm : Nat → Int32} {T : Nat → Nat} (ht : t ≤ 400) (hT : TP t bx bm T) (hi : i < t) : F_X8_byteAt (nI i) (nI t) bm = some (nI (T i)) := by
  unfold F_X8_byteAt
  rw [if_neg (nI_ge (by omega) (by omega)), gdT (inbI (by omega) (by omega)), nI_clamp (by omega), (hT i hi).2.2]
theorem mb_out {t : Nat} {bm : Nat → Int32} : F_X8_byteAt (nI t) (nI t) bm = some (-1000000) := by
  unfold F_X8_byteAt
  rw [if_pos (Int32.le_refl _)]
theorem nIlt (a b : Nat) (ha : a < 2 ^ 31) (hb : b < 2 ^ 31) : (nI a < nI b) ↔ a < b := nI_ltI ha hb

theorem x_fig {b : Nat} (hb : b < 256) : F_X5_isFigure (nI b) = some (if isFg b = true then 1 else 0) := by
  unfold F_X5_isFigure isFg
  have c1 : (nI b < 48) ↔ b < 48 := nI_ltI (b := 48) (by omega) (by decide)
  have c2 : (57 < nI b) ↔ 57 < b := nI_ltI (a := 57) (by decide) (by omega)
  by_cases q : b < 48
  · rw [if_pos (c1.mpr q), if_neg (by simp; omega)]
  · rw [if_neg (fun z => q (c1.mp z))]
    by_cases w : 57 < b
    · rw [if_pos (c2.mpr w), if_neg (by simp; omega)]
    · rw [if_neg (fun z => w (c2.mp z)), if_pos (by simp; omega)]
theorem m_fig {b : Nat} (hb : b < 256) : F_X8_isFigure (nI b) = some (if isFg b = true then 1 else 0) := by
  unfold F_X8_isFigure isFg
  have c1 : (nI b < 48) ↔ b < 48 := nI_ltI (b := 48) (by omega) (by decide)
  have c2 : (57 < nI b) ↔ 57 < b := nI_ltI (a := 57) (by decide) (by omega)
  by_cases q : b < 48
  · rw [if_pos (c1.mpr q), if_neg (by simp; omega)]
  · rw [if_neg (fun z => q (c1.mp z))]
    by_cases w : 57 < b
    · rw [if_pos (c2.mpr w), if_neg (by simp; omega)]
    · rw [if_neg (fun z => w (c2.mp z)), if_pos (by simp; omega)]
theorem x_let {b : Nat} (hb : b < 256) : F_X5_isLetter (nI b) = some (if isLt b = true then 1 else 0) := by
  unfold F_X5_isLetter isLt
  have c1 : (nI b < 97) ↔ b < 97 := nI_ltI (b := 97) (by omega) (by decide)
  have c2 : (122 < nI b) ↔ 122 < b := nI_ltI (a := 122) (by decide) (by omega)
  by_cases q : b < 97
  · rw [if_pos (c1.mpr q), if_neg (by simp; omega)]
  · rw [if_neg (fun z => q (c1.mp z))]
    by_cases w : 122 < b
    · rw [if_pos (c2.mpr w), if_neg (by simp; omega)]
    · rw [if_neg (fun z => w (c2.mp z)), if_pos (by simp; omega)]
theorem m_let {b : Nat} (hb : b < 256) : F_X8_isLetter (nI b) = some (if isLt b = true then 1 else 0) := by
  unfold F_X8_isLetter isLt
  have c1 : (nI b < 97) ↔ b < 97 := nI_ltI (b := 97) (by omega) (by decide)
  have c2 : (122 < nI b) ↔ 122 < b := nI_ltI (a := 122) (by decide) (by omega)
  by_cases q : b < 97
  · rw [if_pos (c1.mpr q), if_neg (by simp; omega)]
  · rw [if_neg (fun z => q (c1.mp z))]
    by_cases w : 122 < b
    · rw [if_pos (c2.mpr w), if_neg (by simp; omega)]
    · rw [if_neg (fun z => w (c2.mp z)), if_pos (by simp; omega)]
theorem x_bl {b : Nat} (hb : b < 256) : F_X5_isBlank (nI b) = some (if isBl b = true then 1 else 0) := by
  unfold F_X5_isBlank isBl
  have c1 : (nI b = 32) ↔ b = 32 := nI_eq (b := 32) (by omega) (by decide)
  have c2 : (nI b = 10) ↔ b = 10 := nI_eq (b := 10) (by omega) (by decide)
  by_cases q : b = 32
  · rw [if_pos (c1.mpr q), if_pos (by simp [q])]
  · rw [if_neg (fun z => q (c1.mp z))]
    by_cases w : b = 10
    · rw [if_pos (c2.mpr w), if_pos (by simp [w])]
    · rw [if_neg (fun z => w (c2.mp z)), if_neg (by simp [q, w])]
theorem F_X5_readToken_L1_s {t : Nat} {bx bm : Nat → Int32} {T : Nat → Nat} (ht : t ≤ 400) (hT : TP t bx bm T) : ∀ (d a f : Nat), a + d = t → d < f → F_X5_readToken_L1 (nI t) bx f (nI a) = some (nI (scn isBl T d a))
  | 0, a, f + 1, ha, _ => by
    rw [F_X5_readToken_L1.eq_2, if_pos (nI_le (by omega) (by omega))]
    rfl
  | d + 1, a, f + 1, ha, hf => by
    rw [F_X5_readToken_L1.eq_2, if_neg (nI_ge (by omega) (by omega)), xb_in ht hT (by omega)]
    (try simp only [Option.bind_some])
    rw [x_bl (hT a (by omega)).1]
    (try simp only [Option.bind_some])
    rw [nI_1, scn]
    by_cases q : isBl (T a) = true
    · rw [if_pos q, if_pos q, if_neg (by decide)]
      exact F_X5_readToken_L1_s ht hT d (a + 1) f (by omega) (by omega)
    · rw [if_neg q, if_neg q, if_pos rfl]
theorem F_X5_readName_L1_s {t : Nat} {bx bm : Nat → Int32} {T : Nat → Nat} (ht : t ≤ 400) (hT : TP t bx bm T) : ∀ (d a f : Nat), a + d = t → d < f → F_X5_readName_L1 (nI t) bx f (nI a) = some (nI (scn isLt T d a))
  | 0, a, f + 1, ha, _ => by
    rw [F_X5_readName_L1.eq_2, if_pos (nI_le (by omega) (by omega))]
    rfl
  | d + 1, a, f + 1, ha, hf => by
    rw [F_X5_readName_L1.eq_2, if_neg (nI_ge (by omega) (by omega)), xb_in ht hT (by omega)]
    (try simp only [Option.bind_some])
    rw [x_let (hT a (by omega)).1]
    (try simp only [Option.bind_some])
    rw [nI_1, scn]
    by_cases q : isLt (T a) = true
    · rw [if_pos q, if_pos q, if_neg (by decide)]
      exact F_X5_readName_L1_s ht hT d (a + 1) f (by omega) (by omega)
    · rw [if_neg q, if_neg q, if_pos rfl]
theorem F_X5_readNumber_L1_s {t : Nat} {bx bm : Nat → Int32} {T : Nat → Nat} (ht : t ≤ 400) (hT : TP t bx bm T) : ∀ (d a f : Nat), a + d = t → d < f → F_X5_readNumber_L1 (nI t) bx f (nI a) = some (nI (scn isFg T d a))
  | 0, a, f + 1, ha, _ => by
    rw [F_X5_readNumber_L1.eq_2, if_pos (nI_le (by omega) (by omega))]
    rfl
  | d + 1, a, f + 1, ha, hf => by
    rw [F_X5_readNumber_L1.eq_2, if_neg (nI_ge (by omega) (by omega)), xb_in ht hT (by omega)]
    (try simp only [Option.bind_some])
    rw [x_fig (hT a (by omega)).1]
    (try simp only [Option.bind_some])
    rw [nI_1, scn]
    by_cases q : isFg (T a) = true
    · rw [if_pos q, if_pos q, if_neg (by decide)]
      exact F_X5_readNumber_L1_s ht hT d (a + 1) f (by omega) (by omega)
    · rw [if_neg q, if_neg q, if_pos rfl]
theorem F_X8_next_L19_s {t : Nat} {bx bm : Nat → Int32} {T : Nat → Nat} (ht : t ≤ 400) (hT : TP t bx bm T) : ∀ (d a f : Nat), a + d = t → d < f → F_X8_next_L19 (nI t) bm f (nI a) = some (nI (scn isFg T d a))
  | 0, a, f + 1, ha, _ => by
    have e : a = t := by omega
    subst e
    rw [F_X8_next_L19.eq_2, mb_out]
    (try simp only [Option.bind_some])
    rw [show F_X8_isFigure (-1000000) = some 0 from rfl]
    (try simp only [Option.bind_some])
    rw [if_pos (by trivial)]
    rfl
  | d + 1, a, f + 1, ha, hf => by
    rw [F_X8_next_L19.eq_2, mb_in ht hT (by omega)]
    (try simp only [Option.bind_some])
    rw [m_fig (hT a (by omega)).1]
    (try simp only [Option.bind_some])
    rw [nI_1, scn]
    by_cases q : isFg (T a) = true
    · rw [if_pos q, if_pos q, if_neg (by decide)]
      exact F_X8_next_L19_s ht hT d (a + 1) f (by omega) (by omega)
    · rw [if_neg q, if_neg q, if_pos rfl]
theorem F_X8_next_L26_s {t : Nat} {bx bm : Nat → Int32} {T : Nat → Nat} (ht : t ≤ 400) (hT : TP t bx bm T) : ∀ (d a f : Nat), a + d = t → d < f → F_X8_next_L26 (nI t) bm f (nI a) = some (nI (scn isLt T d a))
  | 0, a, f + 1, ha, _ => by
    have e : a = t := by omega
    subst e
    rw [F_X8_next_L26.eq_2, mb_out]
    (try simp only [Option.bind_some])
    rw [show F_X8_isLetter (-1000000) = some 0 from rfl]
    (try simp only [Option.bind_some])
    rw [if_pos (by trivial)]
    rfl
  | d + 1, a, f + 1, ha, hf => by
    rw [F_X8_next_L26.eq_2, mb_in ht hT (by omega)]
    (try simp only [Option.bind_some])
    rw [m_let (hT a (by omega)).1]
    (try simp only [Option.bind_some])
    rw [nI_1, scn]
    by_cases q : isLt (T a) = true
    · rw [if_pos q, if_pos q, if_neg (by decide)]
      exact F_X8_next_L26_s ht hT d (a + 1) f (by omega) (by omega)
    · rw [if_neg q, if_neg q, if_pos rfl]
theorem F_X8_next_L1_s {t : Nat} {bx bm : Nat → Int32} {T : Nat → Nat} (ht : t ≤ 400) (hT : TP t bx bm T) : ∀ (d a f : Nat), a + d = t → d < f → F_X8_next_L1 (nI t) bm f (nI a) = some (nI (scn isBl T d a))
  | 0, a, f + 1, ha, _ => by
    have e : a = t := by omega
    subst e
    rw [F_X8_next_L1.eq_2, mb_out]
    (try simp only [Option.bind_some])
    rw [if_neg (by decide), if_neg (by decide)]
    rfl
  | d + 1, a, f + 1, ha, hf => by
    have hb := (hT a (by omega)).1
    have c1 : (nI (T a) = 32) ↔ T a = 32 := nI_eq (b := 32) (by omega) (by decide)
    have c2 : (nI (T a) = 10) ↔ T a = 10 := nI_eq (b := 10) (by omega) (by decide)
    rw [F_X8_next_L1.eq_2, mb_in ht hT (by omega)]
    (try simp only [Option.bind_some])
    rw [nI_1, scn]
    by_cases q : T a = 32
    · rw [if_pos (c1.mpr q), if_pos (by simp [isBl, q])]
      exact F_X8_next_L1_s ht hT d (a + 1) f (by omega) (by omega)
    · rw [if_neg (fun z => q (c1.mp z))]
      by_cases w : T a = 10
      · rw [if_pos (c2.mpr w), if_pos (by simp [isBl, w])]
        exact F_X8_next_L1_s ht hT d (a + 1) f (by omega) (by omega)
      · rw [if_neg (fun z => w (c2.mp z)), if_neg (by simp [isBl, q, w])]
abbrev isW0 (T : Nat → Nat) (p e : Nat) : Prop := e = p + 3 ∧ T (p + 0) = 115 ∧ T (p + 1) = 101 ∧ T (p + 2) = 101
theorem sp_0 {t p e : Nat} {bx bm : Nat → Int32} {T : Nat → Nat} (ht : t ≤ 400) (hT : TP t bx bm T) (hp : p < e) (he : e ≤ t) : F_X5_spells_0 (nI t) (nI p) (nI e) bx = some (if isW0 T p e then 1 else 0) := by
  unfold F_X5_spells_0
  rw [q_sub (by omega)]
  have c0 : (nI (e - p) = 3) ↔ e - p = 3 := nI_eq (b := 3) (by omega) (by decide)
  by_cases q : e - p = 3
  · rw [if_pos (c0.mpr q)]
    have b0 := (hT (p + 0) (by omega)).1
    have c1 : (nI (T (p + 0)) = 115) ↔ T (p + 0) = 115 := nI_eq (b := 115) (by omega) (by decide)
    have b1 := (hT (p + 1) (by omega)).1
    have c2 : (nI (T (p + 1)) = 101) ↔ T (p + 1) = 101 := nI_eq (b := 101) (by omega) (by decide)
    have b2 := (hT (p + 2) (by omega)).1
    have c3 : (nI (T (p + 2)) = 101) ↔ T (p + 2) = 101 := nI_eq (b := 101) (by omega) (by decide)
    have key : ∀ f, F_X5_spells_0_L2 (nI t) (nI p) bx (f + 1 + 1 + 1 + 1) 0 = if isW0 T p e then some (.inr ()) else some (.inl 0) := by
      intro f
      rw [F_X5_spells_0_L2.eq_2, if_neg (by decide), show nI p + 0 = nI (p + 0) from q_add p 0, xb_in ht hT (by omega)]
      (try simp only [Option.bind_some])
      rw [gdT (by decide), show sCh 0 0 = 115 from by decide]
      by_cases w0 : T (p + 0) = 115
      · rw [if_pos (c1.mpr w0)]
        (try simp only [Option.bind_some])
        (try rw [show (0 : Int32) + 1 = 1 from rfl])
        rw [F_X5_spells_0_L2.eq_2, if_neg (by decide), show nI p + 1 = nI (p + 1) from q_add p 1, xb_in ht hT (by omega)]
        (try simp only [Option.bind_some])
        rw [gdT (by decide), show sCh 0 1 = 101 from by decide]
        by_cases w1 : T (p + 1) = 101
        · rw [if_pos (c2.mpr w1)]
          (try simp only [Option.bind_some])
          (try rw [show (1 : Int32) + 1 = 2 from rfl])
          rw [F_X5_spells_0_L2.eq_2, if_neg (by decide), show nI p + 2 = nI (p + 2) from q_add p 2, xb_in ht hT (by omega)]
          (try simp only [Option.bind_some])
          rw [gdT (by decide), show sCh 0 2 = 101 from by decide]
          by_cases w2 : T (p + 2) = 101
          · rw [if_pos (c3.mpr w2)]
            (try simp only [Option.bind_some])
            (try rw [show (2 : Int32) + 1 = 3 from rfl])
            rw [F_X5_spells_0_L2.eq_2, if_pos (by decide), if_pos ⟨by omega, w0, w1, w2⟩]
          · rw [if_neg (fun z => w2 (c3.mp z)), if_neg (fun z => w2 z.2.2.2)]
        · rw [if_neg (fun z => w1 (c2.mp z)), if_neg (fun z => w1 z.2.2.1)]
      · rw [if_neg (fun z => w0 (c1.mp z)), if_neg (fun z => w0 z.2.1)]
    rw [show F_X5_spells_0_L2 (nI t) (nI p) bx FU 0 = _ from key 999996]
    by_cases w : isW0 T p e
    · rw [if_pos w, if_pos w]; rfl
    · rw [if_neg w, if_neg w]; rfl
  · rw [if_neg (fun z => q (c0.mp z)), if_neg (fun z => q (by omega))]
abbrev isW1 (T : Nat → Nat) (p e : Nat) : Prop := e = p + 4 ∧ T (p + 0) = 110 ∧ T (p + 1) = 101 ∧ T (p + 2) = 97 ∧ T (p + 3) = 114
theorem sp_1 {t p e : Nat} {bx bm : Nat → Int32} {T : Nat → Nat} (ht : t ≤ 400) (hT : TP t bx bm T) (hp : p < e) (he : e ≤ t) : F_X5_spells_1 (nI t) (nI p) (nI e) bx = some (if isW1 T p e then 1 else 0) := by
  unfold F_X5_spells_1
  rw [q_sub (by omega)]
  have c0 : (nI (e - p) = 4) ↔ e - p = 4 := nI_eq (b := 4) (by omega) (by decide)
  by_cases q : e - p = 4
  · rw [if_pos (c0.mpr q)]
    have b0 := (hT (p + 0) (by omega)).1
    have c1 : (nI (T (p + 0)) = 110) ↔ T (p + 0) = 110 := nI_eq (b := 110) (by omega) (by decide)
    have b1 := (hT (p + 1) (by omega)).1
    have c2 : (nI (T (p + 1)) = 101) ↔ T (p + 1) = 101 := nI_eq (b := 101) (by omega) (by decide)
    have b2 := (hT (p + 2) (by omega)).1
    have c3 : (nI (T (p + 2)) = 97) ↔ T (p + 2) = 97 := nI_eq (b := 97) (by omega) (by decide)
    have b3 := (hT (p + 3) (by omega)).1
    have c4 : (nI (T (p + 3)) = 114) ↔ T (p + 3) = 114 := nI_eq (b := 114) (by omega) (by decide)
    have key : ∀ f, F_X5_spells_1_L2 (nI t) (nI p) bx (f + 1 + 1 + 1 + 1 + 1) 0 = if isW1 T p e then some (.inr ()) else some (.inl 0) := by
      intro f
      rw [F_X5_spells_1_L2.eq_2, if_neg (by decide), show nI p + 0 = nI (p + 0) from q_add p 0, xb_in ht hT (by omega)]
      (try simp only [Option.bind_some])
      rw [gdT (by decide), show sCh 1 0 = 110 from by decide]
      by_cases w0 : T (p + 0) = 110
      · rw [if_pos (c1.mpr w0)]
        (try simp only [Option.bind_some])
        (try rw [show (0 : Int32) + 1 = 1 from rfl])
        rw [F_X5_spells_1_L2.eq_2, if_neg (by decide), show nI p + 1 = nI (p + 1) from q_add p 1, xb_in ht hT (by omega)]
        (try simp only [Option.bind_some])
        rw [gdT (by decide), show sCh 1 1 = 101 from by decide]
        by_cases w1 : T (p + 1) = 101
        · rw [if_pos (c2.mpr w1)]
          (try simp only [Option.bind_some])
          (try rw [show (1 : Int32) + 1 = 2 from rfl])
          rw [F_X5_spells_1_L2.eq_2, if_neg (by decide), show nI p + 2 = nI (p + 2) from q_add p 2, xb_in ht hT (by omega)]
          (try simp only [Option.bind_some])
          rw [gdT (by decide), show sCh 1 2 = 97 from by decide]
          by_cases w2 : T (p + 2) = 97
          · rw [if_pos (c3.mpr w2)]
            (try simp only [Option.bind_some])
            (try rw [show (2 : Int32) + 1 = 3 from rfl])
            rw [F_X5_spells_1_L2.eq_2, if_neg (by decide), show nI p + 3 = nI (p + 3) from q_add p 3, xb_in ht hT (by omega)]
            (try simp only [Option.bind_some])
            rw [gdT (by decide), show sCh 1 3 = 114 from by decide]
            by_cases w3 : T (p + 3) = 114
            · rw [if_pos (c4.mpr w3)]
              (try simp only [Option.bind_some])
              (try rw [show (3 : Int32) + 1 = 4 from rfl])
              rw [F_X5_spells_1_L2.eq_2, if_pos (by decide), if_pos ⟨by omega, w0, w1, w2, w3⟩]
            · rw [if_neg (fun z => w3 (c4.mp z)), if_neg (fun z => w3 z.2.2.2.2)]
          · rw [if_neg (fun z => w2 (c3.mp z)), if_neg (fun z => w2 z.2.2.2.1)]
        · rw [if_neg (fun z => w1 (c2.mp z)), if_neg (fun z => w1 z.2.2.1)]
      · rw [if_neg (fun z => w0 (c1.mp z)), if_neg (fun z => w0 z.2.1)]
    rw [show F_X5_spells_1_L2 (nI t) (nI p) bx FU 0 = _ from key 999995]
    by_cases w : isW1 T p e
    · rw [if_pos w, if_pos w]; rfl
    · rw [if_neg w, if_neg w]; rfl
  · rw [if_neg (fun z => q (c0.mp z)), if_neg (fun z => q (by omega))]
abbrev isW2 (T : Nat → Nat) (p e : Nat) : Prop := e = p + 3 ∧ T (p + 0) = 102 ∧ T (p + 1) = 97 ∧ T (p + 2) = 114
theorem sp_2 {t p e : Nat} {bx bm : Nat → Int32} {T : Nat → Nat} (ht : t ≤ 400) (hT : TP t bx bm T) (hp : p < e) (he : e ≤ t) : F_X5_spells_2 (nI t) (nI p) (nI e) bx = some (if isW2 T p e then 1 else 0) := by
  unfold F_X5_spells_2
  rw [q_sub (by omega)]
  have c0 : (nI (e - p) = 3) ↔ e - p = 3 := nI_eq (b := 3) (by omega) (by decide)
  by_cases q : e - p = 3
  · rw [if_pos (c0.mpr q)]
    have b0 := (hT (p + 0) (by omega)).1
    have c1 : (nI (T (p + 0)) = 102) ↔ T (p + 0) = 102 := nI_eq (b := 102) (by omega) (by decide)
    have b1 := (hT (p + 1) (by omega)).1
    have c2 : (nI (T (p + 1)) = 97) ↔ T (p + 1) = 97 := nI_eq (b := 97) (by omega) (by decide)
    have b2 := (hT (p + 2) (by omega)).1
    have c3 : (nI (T (p + 2)) = 114) ↔ T (p + 2) = 114 := nI_eq (b := 114) (by omega) (by decide)
    have key : ∀ f, F_X5_spells_2_L2 (nI t) (nI p) bx (f + 1 + 1 + 1 + 1) 0 = if isW2 T p e then some (.inr ()) else some (.inl 0) := by
      intro f
      rw [F_X5_spells_2_L2.eq_2, if_neg (by decide), show nI p + 0 = nI (p + 0) from q_add p 0, xb_in ht hT (by omega)]
      (try simp only [Option.bind_some])
      rw [gdT (by decide), show sCh 2 0 = 102 from by decide]
      by_cases w0 : T (p + 0) = 102
      · rw [if_pos (c1.mpr w0)]
        (try simp only [Option.bind_some])
        (try rw [show (0 : Int32) + 1 = 1 from rfl])
        rw [F_X5_spells_2_L2.eq_2, if_neg (by decide), show nI p + 1 = nI (p + 1) from q_add p 1, xb_in ht hT (by omega)]
        (try simp only [Option.bind_some])
        rw [gdT (by decide), show sCh 2 1 = 97 from by decide]
        by_cases w1 : T (p + 1) = 97
        · rw [if_pos (c2.mpr w1)]
          (try simp only [Option.bind_some])
          (try rw [show (1 : Int32) + 1 = 2 from rfl])
          rw [F_X5_spells_2_L2.eq_2, if_neg (by decide), show nI p + 2 = nI (p + 2) from q_add p 2, xb_in ht hT (by omega)]
          (try simp only [Option.bind_some])
          rw [gdT (by decide), show sCh 2 2 = 114 from by decide]
          by_cases w2 : T (p + 2) = 114
          · rw [if_pos (c3.mpr w2)]
            (try simp only [Option.bind_some])
            (try rw [show (2 : Int32) + 1 = 3 from rfl])
            rw [F_X5_spells_2_L2.eq_2, if_pos (by decide), if_pos ⟨by omega, w0, w1, w2⟩]
          · rw [if_neg (fun z => w2 (c3.mp z)), if_neg (fun z => w2 z.2.2.2)]
        · rw [if_neg (fun z => w1 (c2.mp z)), if_neg (fun z => w1 z.2.2.1)]
      · rw [if_neg (fun z => w0 (c1.mp z)), if_neg (fun z => w0 z.2.1)]
    rw [show F_X5_spells_2_L2 (nI t) (nI p) bx FU 0 = _ from key 999996]
    by_cases w : isW2 T p e
    · rw [if_pos w, if_pos w]; rfl
    · rw [if_neg w, if_neg w]; rfl
  · rw [if_neg (fun z => q (c0.mp z)), if_neg (fun z => q (by omega))]
abbrev isW3 (T : Nat → Nat) (p e : Nat) : Prop := e = p + 4 ∧ T (p + 0) = 115 ∧ T (p + 1) = 116 ∧ T (p + 2) = 97 ∧ T (p + 3) = 121
theorem sp_3 {t p e : Nat} {bx bm : Nat → Int32} {T : Nat → Nat} (ht : t ≤ 400) (hT : TP t bx bm T) (hp : p < e) (he : e ≤ t) : F_X5_spells_3 (nI t) (nI p) (nI e) bx = some (if isW3 T p e then 1 else 0) := by
  unfold F_X5_spells_3
  rw [q_sub (by omega)]
  have c0 : (nI (e - p) = 4) ↔ e - p = 4 := nI_eq (b := 4) (by omega) (by decide)
  by_cases q : e - p = 4
  · rw [if_pos (c0.mpr q)]
    have b0 := (hT (p + 0) (by omega)).1
    have c1 : (nI (T (p + 0)) = 115) ↔ T (p + 0) = 115 := nI_eq (b := 115) (by omega) (by decide)
    have b1 := (hT (p + 1) (by omega)).1
    have c2 : (nI (T (p + 1)) = 116) ↔ T (p + 1) = 116 := nI_eq (b := 116) (by omega) (by decide)
    have b2 := (hT (p + 2) (by omega)).1
    have c3 : (nI (T (p + 2)) = 97) ↔ T (p + 2) = 97 := nI_eq (b := 97) (by omega) (by decide)
    have b3 := (hT (p + 3) (by omega)).1
    have c4 : (nI (T (p + 3)) = 121) ↔ T (p + 3) = 121 := nI_eq (b := 121) (by omega) (by decide)
    have key : ∀ f, F_X5_spells_3_L2 (nI t) (nI p) bx (f + 1 + 1 + 1 + 1 + 1) 0 = if isW3 T p e then some (.inr ()) else some (.inl 0) := by
      intro f
      rw [F_X5_spells_3_L2.eq_2, if_neg (by decide), show nI p + 0 = nI (p + 0) from q_add p 0, xb_in ht hT (by omega)]
      (try simp only [Option.bind_some])
      rw [gdT (by decide), show sCh 3 0 = 115 from by decide]
      by_cases w0 : T (p + 0) = 115
      · rw [if_pos (c1.mpr w0)]
        (try simp only [Option.bind_some])
        (try rw [show (0 : Int32) + 1 = 1 from rfl])
        rw [F_X5_spells_3_L2.eq_2, if_neg (by decide), show nI p + 1 = nI (p + 1) from q_add p 1, xb_in ht hT (by omega)]
        (try simp only [Option.bind_some])
        rw [gdT (by decide), show sCh 3 1 = 116 from by decide]
        by_cases w1 : T (p + 1) = 116
        · rw [if_pos (c2.mpr w1)]
          (try simp only [Option.bind_some])
          (try rw [show (1 : Int32) + 1 = 2 from rfl])
          rw [F_X5_spells_3_L2.eq_2, if_neg (by decide), show nI p + 2 = nI (p + 2) from q_add p 2, xb_in ht hT (by omega)]
          (try simp only [Option.bind_some])
          rw [gdT (by decide), show sCh 3 2 = 97 from by decide]
          by_cases w2 : T (p + 2) = 97
          · rw [if_pos (c3.mpr w2)]
            (try simp only [Option.bind_some])
            (try rw [show (2 : Int32) + 1 = 3 from rfl])
            rw [F_X5_spells_3_L2.eq_2, if_neg (by decide), show nI p + 3 = nI (p + 3) from q_add p 3, xb_in ht hT (by omega)]
            (try simp only [Option.bind_some])
            rw [gdT (by decide), show sCh 3 3 = 121 from by decide]
            by_cases w3 : T (p + 3) = 121
            · rw [if_pos (c4.mpr w3)]
              (try simp only [Option.bind_some])
              (try rw [show (3 : Int32) + 1 = 4 from rfl])
              rw [F_X5_spells_3_L2.eq_2, if_pos (by decide), if_pos ⟨by omega, w0, w1, w2, w3⟩]
            · rw [if_neg (fun z => w3 (c4.mp z)), if_neg (fun z => w3 z.2.2.2.2)]
          · rw [if_neg (fun z => w2 (c3.mp z)), if_neg (fun z => w2 z.2.2.2.1)]
        · rw [if_neg (fun z => w1 (c2.mp z)), if_neg (fun z => w1 z.2.2.1)]
      · rw [if_neg (fun z => w0 (c1.mp z)), if_neg (fun z => w0 z.2.1)]
    rw [show F_X5_spells_3_L2 (nI t) (nI p) bx FU 0 = _ from key 999995]
    by_cases w : isW3 T p e
    · rw [if_pos w, if_pos w]; rfl
    · rw [if_neg w, if_neg w]; rfl
  · rw [if_neg (fun z => q (c0.mp z)), if_neg (fun z => q (by omega))]
