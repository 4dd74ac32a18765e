/-! the model's reader, a rule -/
theorem isRead_L5 (m r : Int32) (rr own : Nat → Int32) : ∀ (f : Nat) (z i : Int32), F_X8_isRead_L5 m r rr own f z i = F_X8_doing_L6 r (2 * m) own rr f z i
  | 0, _, _ => rfl
  | f + 1, z, i => by
    rw [F_X8_isRead_L5.eq_2, F_X8_doing_L6.eq_2]
    simp only [isRead_L5 m r rr own f]
theorem isRead_L1 {B : BOOK} {rs rr rd own : Nat → Int32} {read : Int32} {l : List Nat} {m : Nat} (hB : BKok B) (hM : BKM read rs rr rd B) (hR : RW own l) (hi : items l) (hm : l.length = 2 * m) (h4 : m ≤ 4) : ∀ (d i f : Nat) (z : Bool), i + d = B.length → d < f → (z = true ↔ ∃ r, r < i ∧ rRow B r = l) → F_X8_isRead_L1 (nI m) read rs rr own f (if z = true then 1 else 0) (nI i) = some (if hasB B l = true then 1 else 0)
  | 0, i, f + 1, z, hi', _, hz => by
    have h30 := hB.1
    have e : i = B.length := by omega
    subst e
    rw [F_X8_isRead_L1.eq_2, hM.1, if_pos (nI_le (by omega) (by omega))]
    have : z = hasB B l := by
      rw [Bool.eq_iff_iff, hz, hasB_iff]
    rw [this]
  | d + 1, i, f + 1, z, hi', hf, hz => by
    have h30 := hB.1
    have hr : i < B.length := by omega
    have hl := (hB.2.1 i hr).2.1
    have e2 : (2 : Int32) * nI m = nI l.length := by rw [show (2 : Int32) = nI 2 from rfl, q_mul, hm]
    rw [F_X8_isRead_L1.eq_2, hM.1, if_neg (nI_ge (by omega) (by omega)), gdT (inbI (by omega) (by omega)), nI_clamp (by omega), (hM.2 i hr).1, e2, ifEq (by omega) (by omega)]
    have key : (Option.bind (if (rRow B i).length = l.length then some (1 : Int32) else some 0) fun (j3 : Int32) => F_X8_isRead_L5 (nI m) (nI i) rr own FU j3 0) = some (if rRow B i = l then 1 else 0) := by
      by_cases hc : (rRow B i).length = l.length
      · rw [if_pos hc]
        (try simp only [Option.bind_some])
        rw [isRead_L5, e2]
        have h6 := m_doing_L6 hB hM hR hi (by omega) hr l.length 0 FU 1 (by omega) (by unfold FU; omega) (Or.inr ⟨rfl, hc⟩)
        rw [show nI 0 = (0 : Int32) from rfl] at h6
        by_cases hq : rRow B i = l
        · rw [h6.1 ⟨rfl, fun j _ _ => by rw [hq]⟩, if_pos hq]
        · have hne : ¬ ((1 : Int32) = 1 ∧ ∀ j, 0 ≤ j → j < l.length → at0 (rRow B i) j = at0 l j) := by
            intro q
            apply hq
            apply List.ext_getElem hc
            intro j h1 h2
            have := q.2 j (Nat.zero_le j) h2
            unfold at0 at this
            simpa [h1, h2] using this
          rw [h6.2 hne, if_neg hq]
      · rw [if_neg hc]
        (try simp only [Option.bind_some])
        rw [isRead_L5, e2]
        have h6 := m_doing_L6 hB hM hR hi (by omega) hr l.length 0 FU 0 (by omega) (by unfold FU; omega) (Or.inl rfl)
        rw [show nI 0 = (0 : Int32) from rfl] at h6
        rw [h6.2 (fun q => absurd q.1 (by decide)), if_neg (fun z => hc (by rw [z]))]
    have ih := isRead_L1 hB hM hR hi hm h4 d (i + 1) f (z || decide (rRow B i = l)) (by omega) (by omega) (by
      rw [Bool.or_eq_true, hz, decide_eq_true_iff]
      constructor
      · rintro (⟨r, h1, h2⟩ | h)
        · exact ⟨r, by omega, h2⟩
        · exact ⟨i, by omega, h⟩
      · rintro ⟨r, h1, h2⟩
        by_cases q : r = i
        · right; rw [← q]; exact h2
        · left; exact ⟨r, by omega, h2⟩)
    rw [hM.1] at ih
    rw [← ih, nI_1]
    generalize (if (rRow B i).length = l.length then some (1 : Int32) else some 0) = o at key ⊢
    cases o with
    | none => exact absurd key (by simp)
    | some j =>
      (try simp only [Option.bind_some] at key ⊢)
      rw [key]
      by_cases hq : rRow B i = l <;> cases z <;> simp [hq]
theorem m_isRead {B : BOOK} {rs rr rd own : Nat → Int32} {read : Int32} {l : List Nat} {m : Nat} (hB : BKok B) (hM : BKM read rs rr rd B) (hR : RW own l) (hi : items l) (hm : l.length = 2 * m) (h4 : m ≤ 4) : F_X8_isRead (nI m) read rs rr own = some (if hasB B l = true then 1 else 0) := by
  have h30 := hB.1
  unfold F_X8_isRead
  have h := isRead_L1 hB hM hR hi hm h4 B.length 0 FU false (by omega) (by unfold FU; omega) (by simp)
  rw [if_neg (by decide), show nI 0 = (0 : Int32) from rfl] at h
  rw [h]
  by_cases q : hasB B l = true
  · rw [if_pos q]; rfl
  · rw [if_neg q]; rfl
/-- the pairs behind commas -/
theorem m_L13 {t : Nat} {bx bm : Nat → Int32} {T : Nat → Nat} (ht : t ≤ 400) (hT : TP t bx bm T) {B : BOOK} : ∀ (d m a f : Nat) (l : List Nat) (own : Nat → Int32) (fa : Int32), m + d = 4 → d + 1 < f → a ≤ t → l.length = 2 * m → items l → RW own l →
    (∃ m' l' e own', m' ≤ 4 ∧ l'.length = 2 * m' ∧ items l' ∧ RW own' l' ∧ PR T t 3 l B a = PR T t 3 l' B e ∧ e ≤ t ∧ a ≤ e ∧ ¬ (tokK T t (tokP T t e)).1 = 3 ∧ F_X8_readRule_L13 (nI t) bm f (nI m) (mA T t a) (mS T t a) (mP T t a) (mA T t a) 0 fa own = some (nI m', mA T t e, mS T t e, mP T t e, mA T t e, 0, fa, own')) ∨ (∃ z e own' fl p, ¬ fl = 0 ∧ fl ≤ 3 ∧ p ≤ t ∧ e ≤ t ∧ PR T t 3 l B a = (fl, p, B) ∧ F_X8_readRule_L13 (nI t) bm f (nI m) (mA T t a) (mS T t a) (mP T t a) (mA T t a) 0 fa own = some (z, mA T t e, mS T t e, mP T t e, mA T t e, nI fl, nI p, own'))
  | d, m, a, f + 1, l, own, fa, hd, hf, ha, hm, hi, hR => by
    have hp := (tokP_le (T := T) ha).2
    have o3 := (o_is ht hT hp).1
    rw [F_X8_readRule_L13.eq_2, if_pos rfl]
    rw [o3]
    (try simp only [Option.bind_some])
    by_cases q3 : (tokK T t (tokP T t a)).1 = 3
    · rw [if_pos q3, if_neg (by decide), show (4 : Int32) = nI 4 from rfl, ifEq (by omega) (by omega)]
      by_cases q4 : m = 4
      · rw [if_pos q4, bad_new]
        (try simp only [Option.bind_some])
        obtain ⟨f, rfl⟩ : ∃ f', f = f' + 1 := ⟨f - 1, by omega⟩
        rw [F_X8_readRule_L13.eq_2, if_neg (by decide)]
        right
        have hfl : flt (tokK T t (tokP T t a)).1 (tokK T t (tokP T t a)).2 3 l.length B.length (hasB B l) = 3 := by
          rw [q3]
          unfold flt
          simp; omega
        refine ⟨_, a, own, 3, tokP T t a, by decide, by decide, hp, ha, ?_, rfl⟩
        rw [PR_flt rfl rfl rfl (by decide) (by rw [hfl]; decide), hfl]
      · rw [if_neg q4]
        have he := tokE_le (T := T) hp
        rw [tokM ht hT he.1]
        (try simp only [Option.bind_some])
        have hfl : flt (tokK T t (tokP T t a)).1 (tokK T t (tokP T t a)).2 3 l.length B.length (hasB B l) = 0 := by
          rw [q3]
          unfold flt
          simp; omega
        have hn : nxt (tokK T t (tokP T t a)).1 (tokK T t (tokP T t a)).2 3 l B = (1, l, B) := by
          rw [q3]; rfl
        obtain ⟨g1, g2, g3⟩ := PR_go (T := T) (a := a) rfl rfl rfl rfl (by decide) ha hfl (by rw [q3]; decide) (by rw [hn]; show 1 ≤ 4; decide)
        rw [hn] at g1
        rcases m_pair ht hT g2 (fa := fa) (B := B) hm (by omega) hR hi with ⟨l', e, own', i1, i2, i3, i4, i5, i6, i7⟩ | ⟨e, own', fl, p, i1, i2, i3, i4, i5, i6⟩
        · rw [i7]
          (try simp only [Option.bind_some])
          rw [nI_1]
          rcases m_L13 ht hT (d - 1) (m + 1) e f l' own' fa (by omega) (by omega) i5 i1 i2 i3 with ⟨m', l'', e', own'', j1, j2, j3, j4, j5, j6, j7, j8, j9⟩ | ⟨z, e', own'', fl, p, j1, j2, j3, j4, j5, j6⟩
          · left
            exact ⟨m', l'', e', own'', j1, j2, j3, j4, g1.trans (i4.trans j5), j6, by omega, j8, j9⟩
          · right
            exact ⟨z, e', own'', fl, p, j1, j2, j3, j4, g1.trans (i4.trans j5), j6⟩
        · rw [i6]
          (try simp only [Option.bind_some])
          obtain ⟨f, rfl⟩ : ∃ f', f = f' + 1 := ⟨f - 1, by omega⟩
          rw [F_X8_readRule_L13.eq_2, ifE0 (by omega), if_neg i1]
          right
          exact ⟨_, e, own', fl, p, i1, i2, i3, i4, g1.trans i5, rfl⟩
    · rw [if_neg q3, if_pos rfl]
      left
      exact ⟨m, l, a, own, by omega, hm, hi, hR, rfl, ha, Nat.le_refl a, q3, rfl⟩
theorem m_copy8 {r : Nat} (hr : r < 30) (own : Nat → Int32) : ∀ (d i f : Nat) (rr : Nat → Int32), i + d = 8 → d < f → ∃ rr', F_X8_readRule_L41 (nI r) own f (nI i) rr = some rr' ∧ (∀ j, i ≤ j → j < 8 → rr' (8 * r + j) = own j) ∧ ∀ x, (∀ j, i ≤ j → j < 8 → x ≠ 8 * r + j) → rr' x = rr x
  | 0, i, f + 1, rr, hi, _ => by
    rw [F_X8_readRule_L41.eq_2, show (8 : Int32) = nI 8 from rfl, ifLe (by omega) (by omega), if_pos (by omega)]
    exact ⟨rr, rfl, fun j h1 h2 => by omega, fun _ _ => rfl⟩
  | d + 1, i, f + 1, rr, hi, hf => by
    rw [F_X8_readRule_L41.eq_2]
    rw [show (8 : Int32) = nI 8 from rfl, ifLe (by omega) (by omega), if_neg (by omega), gdT (inbI (by omega) (by omega)), nI_clamp (by omega)]
    (try simp only [Option.bind_some])
    rw [q_mul, q_add, gdT (inbI (by omega) (by omega)), nI_clamp (by omega), nI_1]
    obtain ⟨rr', h1, h2, h3⟩ := m_copy8 hr own d (i + 1) f (upd rr (8 * r + i) (own i)) (by omega) (by omega)
    refine ⟨rr', h1, fun j j1 j2 => ?_, fun x hx => ?_⟩
    · by_cases q : j = i
      · rw [q, h3 _ (fun j' h1 h2 z => by omega), pk_us]
      · exact h2 j (by omega) j2
    · rw [h3 x (fun j j1 j2 => hx j (by omega) j2), pk_un (hx i (Nat.le_refl i) (by omega))]
