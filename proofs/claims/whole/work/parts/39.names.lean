/-! the model's names -/
def sx (n m t k : Nat) : Nat := if m = 0 then (k + t) % n else (t + n - k) % n
def imgF (n : Nat) (h : Nat → Nat) (m t : Nat) : Nat → Nat := fun k => h (sx n m t k)
theorem sx_lt {n : Nat} (h0 : 0 < n) (m t k : Nat) : sx n m t k < n := by
  unfold sx
  split <;> exact Nat.mod_lt _ h0
theorem m_seen {n m t k : Nat} {h : Nat → Nat} {hand : Nat → Int32} (hn : RG n) (hH : HF hand n h) (hm : m < 2) (ht : t < n) (hk : k < n) : F_X8_seen (nI m) (nI t) (nI k) (nI n) hand = some (nI (imgF n h m t k)) := by
  have h9 := hn.2
  have h0 : 0 < n := by have := hn.1; omega
  have hl := sx_lt h0 m t k
  unfold F_X8_seen imgF
  rw [ifE0 (by omega)]
  by_cases q : m = 0
  · have e : sx n m t k = (k + t) % n := if_pos q
    rw [if_pos q, gdT (nzI (by omega) (by omega)), q_add, q_rem (by omega) (by omega) (by omega), ← e, gdT (inbI (by omega) (by omega)), nI_clamp (by omega), hH.at hn hl]
  · have e : sx n m t k = (t + n - k) % n := if_neg q
    have e2 : nI t - nI k + nI n = nI (t + n - k) := by
      rw [← q_sub (by omega), ← q_add]
      grind
    rw [if_neg q, gdT (nzI (by omega) (by omega)), e2, q_rem (by omega) (by omega) (by omega), ← e, gdT (inbI (by omega) (by omega)), nI_clamp (by omega), hH.at hn hl]
theorem m_name_L1 {n c : Nat} {hand : Nat → Int32} (hn : RG n) (hH : HD hand n c) : ∀ (d i f : Nat) (name : Nat → Int32), i + d = 9 → d < f → (∀ x, x < i → name x = hand x) → ∃ name', F_X8_findName_L1 (nI n) hand f (nI i) name = some name' ∧ HD name' n c
  | 0, i, f + 1, name, hi, _, hx => by
    rw [F_X8_findName_L1.eq_2, show (9 : Int32) = nI 9 from rfl, if_pos (nI_le (by omega) (by omega))]
    exact ⟨name, rfl, fun x h => by rw [hx x (by omega)]; exact hH x h⟩
  | d + 1, i, f + 1, name, hi, hf, hx => by
    have h9 := hn.2
    rw [F_X8_findName_L1.eq_2, show (9 : Int32) = nI 9 from rfl, if_neg (nI_ge (by omega) (by omega)), ifLe (by omega) (by omega), gdT (inbI (by omega) (by omega)), nI_clamp (by omega)]
    have e : (if n ≤ i then some (0 : Int32) else some (hand i)) = some (hand i) := by
      by_cases q : n ≤ i
      · rw [if_pos q, hH i (by omega), if_neg (by omega)]
      · rw [if_neg q]
    rw [e]
    (try simp only [Option.bind_some])
    rw [gdT (inbI (by omega) (by omega)), nI_1]
    (try simp only [Option.bind_some])
    refine m_name_L1 hn hH d (i + 1) f _ (by omega) (by omega) (fun x h => ?_)
    by_cases q : x = i
    · subst q; exact pk_us
    · rw [pk_un q]; exact hx x (by omega)
theorem m_name_L10 {n m t : Nat} {h nh : Nat → Nat} {hand name : Nat → Int32} (hn : RG n) (hH : HF hand n h) (hN : HF name n nh) (h8 : ∀ x, x < n → h x < 8) (n8 : ∀ x, x < n → nh x < 8) (hm : m < 2) (ht : t < n) : ∀ (d i f : Nat), i + d = n → d + 1 < f → (∀ j, j < i → imgF n h m t j = nh j) → ∃ z : Int32, F_X8_findName_L10 (nI m) (nI t) (nI n) hand name f 0 (nI i) = some z ∧ (z ≤ 0 ↔ ¬ pkR nh n < pkR (imgF n h m t) n)
  | 0, i, f + 1, hi, _, he => by
    have h9 := hn.2
    rw [F_X8_findName_L10.eq_2, if_pos (nI_le (by omega) (by omega))]
    refine ⟨0, rfl, ⟨fun _ => ?_, fun _ => by decide⟩⟩
    rw [pkR_congr (fun x hx => he x (by omega))]
    exact Nat.lt_irrefl _
  | d + 1, i, f + 1 + 1, hi, hf, he => by
    have h9 := hn.2
    have h0 : 0 < n := by have := hn.1; omega
    have i8 : ∀ x, x < n → imgF n h m t x < 8 := fun x _ => h8 _ (sx_lt h0 _ _ _)
    have a1 := i8 i (by omega)
    have a2 := n8 i (by omega)
    rw [F_X8_findName_L10.eq_2, if_neg (nI_ge (by omega) (by omega)), if_pos rfl, m_seen hn hH hm ht (by omega)]
    (try simp only [Option.bind_some])
    rw [gdT (inbI (by omega) (by omega)), nI_clamp (by omega), hN.at hn (show i < n by omega), nI_1]
    (try simp only [Option.bind_some])
    have fin : ∀ z : Int32, ¬ z = 0 → F_X8_findName_L10 (nI m) (nI t) (nI n) hand name (f + 1) z (nI (i + 1)) = some z := by
      intro z hz
      rw [F_X8_findName_L10.eq_2]
      by_cases hc : nI n ≤ nI (i + 1)
      · rw [if_pos hc]
      · rw [if_neg hc, if_neg hz]
    rcases Nat.lt_trichotomy (imgF n h m t i) (nh i) with hlt | heq | hgt
    · have hneg := pk_sneg (a := imgF n h m t i) (b := nh i) (by omega) hlt
      rw [fin _ (fun q => by rw [q] at hneg; exact absurd hneg (by decide))]
      refine ⟨_, rfl, ⟨fun _ => ?_, fun _ => Int32.le_of_lt hneg⟩⟩
      have := pkR_lex i8 n8 (j := i) (by omega) he hlt
      omega
    · rw [heq, show nI (nh i) - nI (nh i) = (0 : Int32) from Int32.sub_self _]
      exact m_name_L10 hn hH hN h8 n8 hm ht d (i + 1) (f + 1) (by omega) (by omega) (fun j hj => by
        by_cases q : j = i
        · rw [q]; exact heq
        · exact he j (by omega))
    · rw [q_sub (show nh i ≤ imgF n h m t i by omega), fin _ (nI_ne0 (by omega) (by omega))]
      refine ⟨_, rfl, ⟨fun q => ?_, fun q => ?_⟩⟩
      · exact absurd q (nI_nle (by omega) (by omega))
      · exact absurd (pkR_lex n8 i8 (j := i) (by omega) (fun x hx => (he x hx).symm) hgt) q
theorem m_name_L16 {n m t : Nat} {h nh : Nat → Nat} {hand : Nat → Int32} {z : Int32} (hn : RG n) (hH : HF hand n h) (hm : m < 2) (ht : t < n) (hz : ¬ z ≤ 0) : ∀ (d i f : Nat) (name : Nat → Int32), i + d = n → d < f → HF name n (fun x => if x < i then imgF n h m t x else nh x) → ∃ name', F_X8_findName_L16 (nI m) (nI t) z (nI n) hand f (nI i) name = some name' ∧ HF name' n (imgF n h m t)
  | 0, i, f + 1, name, hi, _, hx => by
    have h9 := hn.2
    rw [F_X8_findName_L16.eq_2, if_pos (nI_le (by omega) (by omega))]
    refine ⟨name, rfl, fun x q => ?_⟩
    rw [hx x q]
    by_cases w : x < n
    · rw [if_pos w, if_pos w]
      dsimp only
      rw [if_pos (by omega)]
    · rw [if_neg w, if_neg w]
  | d + 1, i, f + 1, name, hi, hf, hx => by
    have h9 := hn.2
    rw [F_X8_findName_L16.eq_2, if_neg (nI_ge (by omega) (by omega)), if_neg hz, m_seen hn hH hm ht (by omega)]
    (try simp only [Option.bind_some])
    rw [gdT (inbI (by omega) (by omega)), nI_1, nI_clamp (by omega)]
    (try simp only [Option.bind_some])
    refine m_name_L16 (nh := nh) hn hH hm ht hz d (i + 1) f _ (by omega) (by omega) (fun x q => ?_)
    have := hx.upd (x := i) (v := imgF n h m t i) (by omega) x q
    rw [this]
    by_cases w : x < n
    · rw [if_pos w, if_pos w]
      congr 1
      by_cases e : x = i
      · subst e
        rw [updN_s]
        dsimp only
        rw [if_pos (by omega)]
      · rw [updN_n e]
        dsimp only
        by_cases e2 : x < i
        · rw [if_pos e2, if_pos (by omega)]
        · rw [if_neg e2, if_neg (by omega)]
    · rw [if_neg w, if_neg w]
def gmT (n : Nat) (h : Nat → Nat) (m s : Nat) : Nat → Nat
  | 0 => s
  | t + 1 => max (gmT n h m s t) (pkR (imgF n h m t) n)
theorem m_name_L8 {n m s : Nat} {h : Nat → Nat} {hand : Nat → Int32} (hn : RG n) (hH : HF hand n h) (h8 : ∀ x, x < n → h x < 8) (hm : m < 2) : ∀ (d t f : Nat) (name : Nat → Int32) (nh : Nat → Nat), t + d = n → d < f → HF name n nh → (∀ x, x < n → nh x < 8) → pkR nh n = gmT n h m s t → ∃ name' nh', F_X8_findName_L8 (nI m) (nI n) hand f (nI t) name = some name' ∧ HF name' n nh' ∧ (∀ x, x < n → nh' x < 8) ∧ pkR nh' n = gmT n h m s n
  | 0, t, f + 1, name, nh, hi, _, hN, n8, hp => by
    have h9 := hn.2
    have e : t = n := by omega
    subst e
    rw [F_X8_findName_L8.eq_2, if_pos (nI_le (by omega) (by omega))]
    exact ⟨name, nh, rfl, hN, n8, hp⟩
  | d + 1, t, f + 1, name, nh, hi, hf, hN, n8, hp => by
    have h9 := hn.2
    have h0 : 0 < n := by have := hn.1; omega
    have i8 : ∀ x, x < n → imgF n h m t x < 8 := fun x _ => h8 _ (sx_lt h0 _ _ _)
    obtain ⟨z, hz1, hz2⟩ := m_name_L10 hn hH hN h8 n8 hm (show t < n by omega) n 0 FU (by omega) (by unfold FU; omega) (fun j hj => absurd hj (by omega))
    rw [F_X8_findName_L8.eq_2, if_neg (nI_ge (by omega) (by omega))]
    rw [show nI 0 = (0 : Int32) from rfl] at hz1
    rw [hz1]
    (try simp only [Option.bind_some])
    by_cases hc : z ≤ 0
    · have hng := hz2.mp hc
      have e16 : F_X8_findName_L16 (nI m) (nI t) z (nI n) hand FU 0 name = some name := by
        rw [show FU = 999999 + 1 from rfl, F_X8_findName_L16.eq_2, if_neg (by rw [show (0 : Int32) = nI 0 from rfl]; exact nI_ge (by omega) (by omega)), if_pos hc]
      rw [e16]
      (try simp only [Option.bind_some])
      rw [nI_1]
      exact m_name_L8 hn hH h8 hm d (t + 1) f name nh (by omega) (by omega) hN n8 (by
        show _ = max (gmT n h m s t) (pkR (imgF n h m t) n)
        rw [← hp, Nat.max_eq_left (by omega)])
    · have hg : pkR nh n < pkR (imgF n h m t) n := by
        rcases Nat.lt_or_ge (pkR nh n) (pkR (imgF n h m t) n) with q | q
        · exact q
        · exact absurd (hz2.mpr (by omega)) hc
      obtain ⟨name', e16, hN'⟩ := m_name_L16 (nh := nh) hn hH hm (show t < n by omega) hc n 0 FU name (by omega) (by unfold FU; omega) (fun x q => by
        rw [hN x q]
        by_cases w : x < n
        · rw [if_pos w, if_pos w]
          dsimp only
          rw [if_neg (by omega)]
        · rw [if_neg w, if_neg w])
      rw [show nI 0 = (0 : Int32) from rfl] at e16
      rw [e16]
      (try simp only [Option.bind_some])
      rw [nI_1]
      exact m_name_L8 hn hH h8 hm d (t + 1) f name' (imgF n h m t) (by omega) (by omega) hN' i8 (by
        show _ = max (gmT n h m s t) (pkR (imgF n h m t) n)
        rw [← hp, Nat.max_eq_right (by omega)])
theorem gmT_ge (n : Nat) (h : Nat → Nat) (m s : Nat) : ∀ j, s ≤ gmT n h m s j ∧ ∀ t, t < j → pkR (imgF n h m t) n ≤ gmT n h m s j
  | 0 => ⟨Nat.le_refl _, fun t ht => absurd ht (by omega)⟩
  | j + 1 => by
    obtain ⟨a, b⟩ := gmT_ge n h m s j
    show s ≤ max _ _ ∧ _
    refine ⟨Nat.le_trans a (Nat.le_max_left _ _), fun t ht => ?_⟩
    by_cases q : t = j
    · rw [q]; exact Nat.le_max_right _ _
    · exact Nat.le_trans (b t (by omega)) (Nat.le_max_left _ _)
theorem gmT_le (n : Nat) (h : Nat → Nat) (m s b : Nat) (hs : s ≤ b) : ∀ j, (∀ t, t < j → pkR (imgF n h m t) n ≤ b) → gmT n h m s j ≤ b
  | 0, _ => hs
  | j + 1, hb => Nat.max_le.mpr ⟨gmT_le n h m s b hs j (fun t ht => hb t (by omega)), hb j (by omega)⟩
theorem gmx_ge (n : Nat) (h : Nat → Nat) : ∀ j, pkR h n ≤ gmx n h j ∧ ∀ t, t < j → pkR (rot n h t) n ≤ gmx n h j ∧ pkR (rot n (rev n h) t) n ≤ gmx n h j
  | 0 => ⟨Nat.le_refl _, fun t ht => absurd ht (by omega)⟩
  | j + 1 => by
    obtain ⟨a, b⟩ := gmx_ge n h j
    show pkR h n ≤ max _ _ ∧ _
    refine ⟨Nat.le_trans a (Nat.le_max_left _ _), fun t ht => ?_⟩
    show _ ≤ max _ _ ∧ _ ≤ max _ _
    by_cases q : t = j
    · rw [q]; exact ⟨Nat.le_trans (Nat.le_max_left _ _) (Nat.le_max_right _ _), Nat.le_trans (Nat.le_max_right _ _) (Nat.le_max_right _ _)⟩
    · exact ⟨Nat.le_trans (b t (by omega)).1 (Nat.le_max_left _ _), Nat.le_trans (b t (by omega)).2 (Nat.le_max_left _ _)⟩
theorem gmx_le (n : Nat) (h : Nat → Nat) (b : Nat) (hs : pkR h n ≤ b) : ∀ j, (∀ t, t < j → pkR (rot n h t) n ≤ b ∧ pkR (rot n (rev n h) t) n ≤ b) → gmx n h j ≤ b
  | 0, _ => hs
  | j + 1, hb => Nat.max_le.mpr ⟨gmx_le n h b hs j (fun t ht => hb t (by omega)), Nat.max_le.mpr (hb j (by omega))⟩
theorem img0 (n : Nat) (h : Nat → Nat) (t : Nat) : imgF n h 0 t = rot n h t := rfl
theorem img1 {n : Nat} (h : Nat → Nat) {i : Nat} (hi : i < n) : pkR (imgF n h 1 (n - 1 - i)) n = pkR (rot n (rev n h) i) n := pkR_congr (fun x hx => by
  show h (sx n 1 (n - 1 - i) x) = h (n - 1 - (x + i) % n)
  unfold sx
  rw [if_neg (by decide)]
  congr 1
  by_cases q : x + i < n
  · rw [Nat.mod_eq_of_lt q, show n - 1 - i + n - x = (n - 1 - (x + i)) + n by omega, Nat.add_mod_right, Nat.mod_eq_of_lt (by omega)]
  · rw [show x + i = (x + i - n) + n by omega, Nat.add_mod_right, Nat.mod_eq_of_lt (show x + i - n < n by omega), Nat.mod_eq_of_lt (by omega)]
    omega)
theorem gm_eq {n : Nat} (h : Nat → Nat) : gmT n h 1 (gmT n h 0 (pkR h n) n) n = gmx n h n := by
  obtain ⟨a1, a2⟩ := gmx_ge n h n
  obtain ⟨b1, b2⟩ := gmT_ge n h 1 (gmT n h 0 (pkR h n) n) n
  obtain ⟨c1, c2⟩ := gmT_ge n h 0 (pkR h n) n
  apply Nat.le_antisymm
  · refine gmT_le n h 1 _ _ (gmT_le n h 0 _ _ a1 n (fun t ht => (a2 t ht).1)) n (fun t ht => ?_)
    have := (a2 (n - 1 - t) (by omega)).2
    rw [← img1 h (show n - 1 - t < n by omega), show n - 1 - (n - 1 - t) = t by omega] at this
    exact this
  · refine gmx_le n h _ (Nat.le_trans c1 b1) n (fun t ht => ⟨Nat.le_trans (c2 t ht) b1, ?_⟩)
    rw [← img1 h ht]
    exact b2 _ (by omega)
theorem m_findName {n c : Nat} {hand name : Nat → Int32} (hn : RG n) (hc : c < 2 ^ (3 * n)) (hH : HD hand n c) : ∃ name', F_X8_findName (nI n) hand name = some name' ∧ HD name' n (NM n c) := by
  have h8 : ∀ x, x < n → dg n c x < 8 := fun x _ => dg_lt _ _ _
  obtain ⟨n1, e1, q1⟩ := m_name_L1 hn hH 9 0 FU name (by omega) (by unfold FU; omega) (fun x hx => absurd hx (by omega))
  obtain ⟨n2, g2, e2, q2, r2, s2⟩ := m_name_L8 (s := c) hn (h := dg n c) hH h8 (show 0 < 2 by omega) n 0 FU n1 (dg n c) (by omega) (by have := hn.2; unfold FU; omega) q1 h8 (pkR_dg hc)
  obtain ⟨n3, g3, e3, q3, r3, s3⟩ := m_name_L8 (s := gmT n (dg n c) 0 c n) hn (h := dg n c) hH h8 (show 1 < 2 by omega) n 0 FU n2 g2 (by omega) (by have := hn.2; unfold FU; omega) q2 r2 s2
  have hfin := gm_eq (n := n) (dg n c)
  rw [pkR_dg hc] at hfin
  refine ⟨n3, ?_, ?_⟩
  · unfold F_X8_findName
    rw [show nI 0 = (0 : Int32) from rfl] at e1 e2 e3
    rw [show nI 1 = (1 : Int32) from rfl] at e3
    rw [e1]
    (try simp only [Option.bind_some])
    have e6 : ∀ f, F_X8_findName_L6 (nI n) hand (f + 1 + 1 + 1) 0 n1 = some n3 := by
      intro f
      rw [F_X8_findName_L6.eq_2, if_neg (by decide), e2]
      (try simp only [Option.bind_some])
      rw [F_X8_findName_L6.eq_2, if_neg (by decide), show (0 : Int32) + 1 = 1 from rfl, e3]
      (try simp only [Option.bind_some])
      rw [F_X8_findName_L6.eq_2, if_pos (by decide)]
    rw [show F_X8_findName_L6 (nI n) hand FU 0 n1 = some n3 from e6 999997]
    rfl
  · have := q3.hd r3
    rw [s3, hfin] at this
    exact this
/-! the model's counts of turns and mirrors -/
theorem m_same_L3 {n m t : Nat} {h : Nat → Nat} {hand : Nat → Int32} (hn : RG n) (hH : HF hand n h) (h8 : ∀ x, x < n → h x < 8) (hm : m < 2) (ht : t < n) : ∀ (d i f : Nat) (z : Int32), i + d = n → d < f → (z = 0 ∨ z = 1) → ((z = 1 ∧ ∀ j, i ≤ j → j < n → imgF n h m t j = h j) → F_X8_same_L3 (nI m) (nI t) (nI n) hand f z (nI i) = some 1) ∧ (¬ (z = 1 ∧ ∀ j, i ≤ j → j < n → imgF n h m t j = h j) → F_X8_same_L3 (nI m) (nI t) (nI n) hand f z (nI i) = some 0)
  | 0, i, f + 1, z, hi, _, hz => by
    have h9 := hn.2
    rw [F_X8_same_L3.eq_2, if_pos (nI_le (by omega) (by omega))]
    rcases hz with rfl | rfl
    · exact ⟨fun q => absurd q.1 (by decide), fun _ => rfl⟩
    · exact ⟨fun _ => rfl, fun q => absurd ⟨rfl, fun j h1 h2 => by omega⟩ q⟩
  | d + 1, i, f + 1, z, hi, hf, hz => by
    have h9 := hn.2
    have h0 : 0 < n := by have := hn.1; omega
    have a1 : imgF n h m t i < 8 := h8 _ (sx_lt h0 _ _ _)
    have a2 := h8 i (by omega)
    rw [F_X8_same_L3.eq_2, if_neg (nI_ge (by omega) (by omega))]
    rcases hz with rfl | rfl
    · rw [if_pos rfl]
      (try simp only [Option.bind_some])
      rw [nI_1]
      have ih := m_same_L3 hn hH h8 hm ht d (i + 1) f 0 (by omega) (by omega) (Or.inl rfl)
      exact ⟨fun q => absurd q.1 (by decide), fun _ => ih.2 (fun q => absurd q.1 (by decide))⟩
    · rw [if_neg (by decide), m_seen hn hH hm ht (by omega)]
      (try simp only [Option.bind_some])
      rw [gdT (inbI (by omega) (by omega)), nI_clamp (by omega), hH.at hn (show i < n by omega), ifEq (by omega) (by omega)]
      by_cases hc : imgF n h m t i = h i
      · rw [if_pos hc]
        (try simp only [Option.bind_some])
        rw [nI_1]
        have ih := m_same_L3 hn hH h8 hm ht d (i + 1) f 1 (by omega) (by omega) (Or.inr rfl)
        refine ⟨fun q => ih.1 ⟨by trivial, fun j h1 h2 => q.2 j (by omega) h2⟩, fun q => ih.2 (fun w => q ⟨by trivial, fun j h1 h2 => ?_⟩)⟩
        by_cases e : j = i
        · rw [e]; exact hc
        · exact w.2 j (by omega) h2
      · rw [if_neg hc]
        (try simp only [Option.bind_some])
        rw [nI_1]
        have ih := m_same_L3 hn hH h8 hm ht d (i + 1) f 0 (by omega) (by omega) (Or.inl rfl)
        exact ⟨fun q => absurd (q.2 i (Nat.le_refl i) (by omega)) hc, fun _ => ih.2 (fun q => absurd q.1 (by decide))⟩
def smI (n : Nat) (h : Nat → Nat) (m : Nat) : Nat → Nat := sm (fun t => if pkR (imgF n h m t) n = pkR h n then 1 else 0)
theorem m_same_L1 {n m : Nat} {h : Nat → Nat} {hand : Nat → Int32} (hn : RG n) (hH : HF hand n h) (h8 : ∀ x, x < n → h x < 8) (hm : m < 2) : ∀ (d t f : Nat), t + d = n → d < f → F_X8_same_L1 (nI m) (nI n) hand f (nI (smI n h m t)) (nI t) = some (nI (smI n h m n))
  | 0, t, f + 1, hi, _ => by
    have h9 := hn.2
    rw [F_X8_same_L1.eq_2, if_pos (nI_le (by omega) (by omega)), show t = n by omega]
  | d + 1, t, f + 1, hi, hf => by
    have h9 := hn.2
    have h0 : 0 < n := by have := hn.1; omega
    have i8 : ∀ x, x < n → imgF n h m t x < 8 := fun x _ => h8 _ (sx_lt h0 _ _ _)
    have h3 := m_same_L3 hn hH h8 hm (show t < n by omega) n 0 FU 1 (by omega) (by unfold FU; omega) (Or.inr rfl)
    rw [show nI 0 = (0 : Int32) from rfl] at h3
    have ih := m_same_L1 hn hH h8 hm d (t + 1) f (by omega) (by omega)
    have es : smI n h m (t + 1) = smI n h m t + (if pkR (imgF n h m t) n = pkR h n then 1 else 0) := rfl
    rw [F_X8_same_L1.eq_2, if_neg (nI_ge (by omega) (by omega))]
    by_cases hc : pkR (imgF n h m t) n = pkR h n
    · rw [h3.1 ⟨rfl, fun j _ hj => pkR_inj i8 h8 hc j hj⟩]
      (try simp only [Option.bind_some])
      rw [if_neg (by decide)]
      (try simp only [Option.bind_some])
      rw [nI_1, nI_1]
      rw [es, if_pos hc] at ih
      exact ih
    · rw [h3.2 (fun q => hc (pkR_congr (fun x hx => q.2 x (Nat.zero_le x) hx)))]
      (try simp only [Option.bind_some])
      rw [if_pos (by trivial)]
      (try simp only [Option.bind_some])
      rw [nI_1]
      rw [es, if_neg hc, Nat.add_zero] at ih
      rw [show nI (smI n h m t) + 0 = nI (smI n h m t) from Int32.add_zero _]
      exact ih
theorem m_same0 {n c : Nat} {hand : Nat → Int32} (hn : RG n) (hc : c < 2 ^ (3 * n)) (hH : HD hand n c) : F_X8_same 0 (nI n) hand = some (nI (trn n c)) := by
  have h8 : ∀ x, x < n → dg n c x < 8 := fun x _ => dg_lt _ _ _
  have := m_same_L1 (m := 0) hn (h := dg n c) hH h8 (by omega) n 0 FU (by omega) (by have := hn.2; unfold FU; omega)
  rw [show nI (smI n (dg n c) 0 0) = (0 : Int32) from rfl, show nI 0 = (0 : Int32) from rfl] at this
  unfold F_X8_same
  rw [this]
  unfold smI trn tb
  simp only [img0, pkR_dg hc]
  rfl
theorem m_same1 {n c : Nat} {hand : Nat → Int32} (hn : RG n) (hc : c < 2 ^ (3 * n)) (hH : HD hand n c) : F_X8_same 1 (nI n) hand = some (nI (mir n c)) := by
  have h8 : ∀ x, x < n → dg n c x < 8 := fun x _ => dg_lt _ _ _
  have := m_same_L1 (m := 1) hn (h := dg n c) hH h8 (by omega) n 0 FU (by omega) (by have := hn.2; unfold FU; omega)
  rw [show nI (smI n (dg n c) 1 0) = (0 : Int32) from rfl, show nI 0 = (0 : Int32) from rfl, show nI 1 = (1 : Int32) from rfl] at this
  unfold F_X8_same
  rw [this]
  have e : smI n (dg n c) 1 n = mir n c := by
    unfold smI mir tb
    rw [← sm_rev n (fun t => if pkR (imgF n (dg n c) 1 t) n = pkR (dg n c) n then 1 else 0)]
    refine sm_congr (fun i hi => ?_)
    show (if pkR (imgF n (dg n c) 1 (n - 1 - i)) n = pkR (dg n c) n then 1 else 0) = _
    rw [img1 _ hi, pkR_dg hc]
  rw [e]
  rfl
