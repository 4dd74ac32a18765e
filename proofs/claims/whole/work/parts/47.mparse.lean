/-! the model's reader -/
theorem prs_fuel {T : Nat → Nat} {t : Nat} : ∀ (d d' w : Nat) (l : List Nat) (B : BOOK) (a : Nat), w ≤ 4 → a ≤ t → t - a < d → t - a < d' → prs T t d w l B a = prs T t d' w l B a
  | 0, _, _, _, _, _, _, _, h, _ => by omega
  | _ + 1, 0, _, _, _, _, _, _, _, h => by omega
  | d + 1, d' + 1, w, l, B, a, hw, ha, hd, hd' => by
    obtain ⟨hp1, hp2⟩ := tokP_le (T := T) ha
    have he := tokE_le (T := T) hp2
    have hK1 := fun h => K_one (T := T) (t := t) (p := tokP T t a) h
    rw [prs_step (f := d) (p := tokP T t a) (e := tokE T t (tokP T t a)) (k := (tokK T t (tokP T t a)).1) (v := (tokK T t (tokP T t a)).2) rfl rfl rfl rfl hw, prs_step (f := d') (p := tokP T t a) (e := tokE T t (tokP T t a)) (k := (tokK T t (tokP T t a)).1) (v := (tokK T t (tokP T t a)).2) rfl rfl rfl rfl hw]
    generalize hp : tokP T t a = p at *
    generalize heq : tokE T t p = e at *
    generalize hkq : (tokK T t p).1 = k at *
    generalize hvq : (tokK T t p).2 = v at *
    by_cases q : flt k v w l.length B.length (hasB B l) = 0
    · rw [if_pos q, if_pos q]
      by_cases q1 : k = 1
      · rw [if_pos q1, if_pos q1]
      · rw [if_neg q1, if_neg q1]
        have hpt : p < t := by
          by_cases z : t ≤ p
          · exact absurd (hK1 z) q1
          · omega
        have := he.2 hpt
        have hw' : (nxt k v w l B).1 ≤ 4 := by
          unfold nxt
          unfold flt at q
          rcases (show w = 0 ∨ w = 1 ∨ w = 2 ∨ w = 3 ∨ w = 4 by omega) with rfl | rfl | rfl | rfl | rfl
          all_goals (repeat' split)
          all_goals simp_all
        exact prs_fuel d d' _ _ _ _ hw' he.1 (by omega) (by omega)
    · rw [if_neg q, if_neg q]
/-- the reading from a place on -/
def PR (T : Nat → Nat) (t w : Nat) (l : List Nat) (B : BOOK) (a : Nat) : Nat × Nat × BOOK := prs T t (t - a + 1) w l B a
theorem PR_go {T : Nat → Nat} {t w : Nat} {l : List Nat} {B : BOOK} {a k v p e : Nat} (hp : p = tokP T t a) (he : e = tokE T t p) (hk : k = (tokK T t p).1) (hv : v = (tokK T t p).2) (hw : w ≤ 4) (ha : a ≤ t) (h0 : flt k v w l.length B.length (hasB B l) = 0) (h1 : ¬ k = 1) (hw' : (nxt k v w l B).1 ≤ 4) : PR T t w l B a = PR T t (nxt k v w l B).1 (nxt k v w l B).2.1 (nxt k v w l B).2.2 e ∧ e ≤ t ∧ a < e := by
  obtain ⟨hp1, hp2⟩ := tokP_le (T := T) ha
  rw [← hp] at hp1 hp2
  have he' := tokE_le (T := T) hp2
  rw [← he] at he'
  have hpt : p < t := by
    by_cases z : t ≤ p
    · exact absurd (hk.trans (K_one z)) h1
    · omega
  have := he'.2 hpt
  refine ⟨?_, he'.1, by omega⟩
  unfold PR
  rw [prs_step hp he hk hv hw, if_pos h0, if_neg h1]
  exact prs_fuel _ _ _ _ _ _ hw' he'.1 (by omega) (by omega)
theorem PR_flt {T : Nat → Nat} {t w : Nat} {l : List Nat} {B : BOOK} {a k v p : Nat} (hp : p = tokP T t a) (hk : k = (tokK T t p).1) (hv : v = (tokK T t p).2) (hw : w ≤ 4) (h0 : ¬ flt k v w l.length B.length (hasB B l) = 0) : PR T t w l B a = (flt k v w l.length B.length (hasB B l), p, B) := by
  unfold PR
  rw [prs_step hp rfl hk hv hw, if_neg h0]
theorem PR_end {T : Nat → Nat} {t : Nat} {l : List Nat} {B : BOOK} {a k p : Nat} (hp : p = tokP T t a) (hk : k = (tokK T t p).1) (h1 : k = 1) : PR T t 0 l B a = (0, p, B) := by
  unfold PR
  rw [prs_step hp rfl hk rfl (by decide), if_pos (by rw [h1]; rfl), if_pos h1]
/-- the token that stands before the model when it has read up to a -/
abbrev mA (T : Nat → Nat) (t a : Nat) : Int32 := nI (tokE T t (tokP T t a))
abbrev mS (T : Nat → Nat) (t a : Nat) : Int32 := tokS T t (tokP T t a)
abbrev mP (T : Nat → Nat) (t a : Nat) : Int32 := nI (tokP T t a)
theorem need_next {t a : Nat} {bx bm : Nat → Int32} {T : Nat → Nat} (ht : t ≤ 400) (hT : TP t bx bm T) (ha : a ≤ t) {z fa : Int32} (hz : ¬ z = 0) : F_X8_need z (nI t) (mA T t a) (mS T t a) (mP T t a) (mA T t a) 0 fa bm = some (mA T t (tokE T t (tokP T t a)), mS T t (tokE T t (tokP T t a)), mP T t (tokE T t (tokP T t a)), mA T t (tokE T t (tokP T t a)), 0, fa) := by
  have he := tokE_le (T := T) (tokP_le (T := T) ha).2
  unfold F_X8_need
  rw [if_neg hz]
  (try simp only [Option.bind_some])
  rw [if_pos (by trivial), tokM ht hT he.1]
  rfl
theorem need_bad {t : Nat} {A S P E fa : Int32} {bm : Nat → Int32} : F_X8_need 0 (nI t) A S P E 0 fa bm = some (A, S, P, E, 1, P) := rfl
theorem need_old {t : Nat} {z A S P E fl fa : Int32} {bm : Nat → Int32} (h : ¬ fl = 0) : F_X8_need z (nI t) A S P E fl fa bm = some (A, S, P, E, fl, fa) := by
  unfold F_X8_need F_X8_bad
  rw [if_neg h]
  (try simp only [Option.bind_some])
  rw [ite_self]
  (try simp only [Option.bind_some])
  rw [if_neg h]
theorem bad_new {P fa z : Int32} : F_X8_bad z P 0 fa = some (z, P) := rfl
theorem bad_old {P fa z fl : Int32} (h : ¬ fl = 0) : F_X8_bad z P fl fa = some (fl, fa) := by
  unfold F_X8_bad
  rw [if_neg h]
theorem aNum_old {t a : Nat} {bx bm : Nat → Int32} {T : Nat → Nat} (ht : t ≤ 400) (hT : TP t bx bm T) (ha : a ≤ t) {fl fa : Int32} (h : ¬ fl = 0) : ∃ x, F_X8_aNumber (nI t) (mA T t a) (mS T t a) (mP T t a) (mA T t a) fl fa bm = some (x, mA T t a, mS T t a, mP T t a, mA T t a, fl, fa) := by
  have hp := (tokP_le (T := T) ha).2
  obtain ⟨o1, o2⟩ := o_num ht hT hp
  have hb : ∃ x, F_X8_aNumber_L1 (mS T t a) (mA T t a) bm FU 0 (mP T t a) = some x := by
    by_cases q : (tokK T t (tokP T t a)).1 = 2
    · exact ⟨_, o1 q⟩
    · exact ⟨_, o2 q⟩
  obtain ⟨x, hx⟩ := hb
  refine ⟨x, ?_⟩
  unfold F_X8_aNumber
  rw [hx]
  (try simp only [Option.bind_some])
  rw [bad_old h]
  (try simp only [Option.bind_some])
  rw [ite_self, ite_self]
  (try simp only [Option.bind_some])
  rw [need_old h, need_old h]
  (try simp only [Option.bind_some])
  rw [ite_self]
theorem aNum_new {t a : Nat} {bx bm : Nat → Int32} {T : Nat → Nat} (ht : t ≤ 400) (hT : TP t bx bm T) (ha : a ≤ t) {fa : Int32} {l : List Nat} {B : BOOK} {w : Nat} (hw : w = 1 ∨ w = 2) :
    (∃ v e, v ≤ 99 ∧ 0 < v ∧ PR T t w l B a = PR T t (w + 1) (l ++ [v]) B e ∧ e ≤ t ∧ a < e ∧ F_X8_aNumber (nI t) (mA T t a) (mS T t a) (mP T t a) (mA T t a) 0 fa bm = some (nI v, mA T t e, mS T t e, mP T t e, mA T t e, 0, fa)) ∨ (∃ x fl, ¬ fl = 0 ∧ fl ≤ 3 ∧ PR T t w l B a = (fl, tokP T t a, B) ∧ F_X8_aNumber (nI t) (mA T t a) (mS T t a) (mP T t a) (mA T t a) 0 fa bm = some (x, mA T t a, mS T t a, mP T t a, mA T t a, nI fl, mP T t a)) := by
  have hp := (tokP_le (T := T) ha).2
  obtain ⟨v99, -, -⟩ := K_val (T := T) hp
  obtain ⟨o1, o2⟩ := o_num ht hT hp
  have hs := S_num (T := T) (t := t) (p := tokP T t a)
  have hw4 : w ≤ 4 := by omega
  by_cases q : (tokK T t (tokP T t a)).1 = 2
  · by_cases q0 : (tokK T t (tokP T t a)).2 = 0
    · right
      have hfl : flt (tokK T t (tokP T t a)).1 (tokK T t (tokP T t a)).2 w l.length B.length (hasB B l) = 2 := by
        rw [q, q0]
        rcases hw with rfl | rfl <;> rfl
      refine ⟨0, 2, by decide, by decide, ?_, ?_⟩
      · rw [PR_flt rfl rfl rfl hw4 (by rw [hfl]; decide), hfl]
      · unfold F_X8_aNumber
        rw [o1 q, q0]
        (try simp only [Option.bind_some])
        rw [if_pos (hs.mpr q), if_pos (by rfl), bad_new]
        (try simp only [Option.bind_some])
        rw [if_pos (hs.mpr q), need_old (by decide)]
        rfl
    · left
      have hfl : flt (tokK T t (tokP T t a)).1 (tokK T t (tokP T t a)).2 w l.length B.length (hasB B l) = 0 := by
        rw [q]
        unfold flt
        rcases hw with rfl | rfl <;> simp [q0]
      have hn : nxt (tokK T t (tokP T t a)).1 (tokK T t (tokP T t a)).2 w l B = (w + 1, l ++ [(tokK T t (tokP T t a)).2], B) := by
        rw [q]; rfl
      obtain ⟨g1, g2, g3⟩ := PR_go (T := T) (a := a) rfl rfl rfl rfl hw4 ha hfl (by rw [q]; decide) (by rw [hn]; show w + 1 ≤ 4; omega)
      rw [hn] at g1
      refine ⟨(tokK T t (tokP T t a)).2, _, v99, by omega, g1, g2, g3, ?_⟩
      unfold F_X8_aNumber
      rw [o1 q]
      (try simp only [Option.bind_some])
      rw [if_pos (hs.mpr q), ifE0 (by omega), if_neg q0]
      (try simp only [Option.bind_some])
      rw [if_pos (hs.mpr q), need_next ht hT ha (by decide)]
      rfl
  · right
    have hfl : flt (tokK T t (tokP T t a)).1 (tokK T t (tokP T t a)).2 w l.length B.length (hasB B l) = 1 := by
      unfold flt
      rcases hw with rfl | rfl <;> simp [q]
    refine ⟨0, 1, by decide, by decide, ?_, ?_⟩
    · rw [PR_flt rfl rfl rfl hw4 (by rw [hfl]; decide), hfl]
    · unfold F_X8_aNumber
      rw [o2 q]
      (try simp only [Option.bind_some])
      rw [if_neg (fun z => q (hs.mp z))]
      (try simp only [Option.bind_some])
      rw [if_neg (fun z => q (hs.mp z)), need_bad]
      rfl
/-- a pair: read, or at fault -/
theorem m_pair {t a : Nat} {bx bm : Nat → Int32} {T : Nat → Nat} (ht : t ≤ 400) (hT : TP t bx bm T) (ha : a ≤ t) {fa : Int32} {l : List Nat} {B : BOOK} {m : Nat} {own : Nat → Int32} (hm : l.length = 2 * m) (h4 : m < 4) (hR : RW own l) (hi : items l) :
    (∃ l' e own', l'.length = 2 * (m + 1) ∧ items l' ∧ RW own' l' ∧ PR T t 1 l B a = PR T t 3 l' B e ∧ e ≤ t ∧ a < e ∧ F_X8_readPair (nI m) (nI t) (mA T t a) (mS T t a) (mP T t a) (mA T t a) 0 fa bm own = some (mA T t e, mS T t e, mP T t e, mA T t e, 0, fa, own')) ∨ (∃ e own' fl p, ¬ fl = 0 ∧ fl ≤ 3 ∧ p ≤ t ∧ e ≤ t ∧ PR T t 1 l B a = (fl, p, B) ∧ F_X8_readPair (nI m) (nI t) (mA T t a) (mS T t a) (mP T t a) (mA T t a) 0 fa bm own = some (mA T t e, mS T t e, mP T t e, mA T t e, nI fl, nI p, own')) := by
  have e2 : (2 : Int32) * nI m = nI (2 * m) := by rw [show (2 : Int32) = nI 2 from rfl, q_mul]
  have fin : ∀ (x y A S P E fl f' : Int32), (gd (inb (2 * nI m) 8) (gd (inb ((2 * nI m) + 1) 8) (some (A, S, P, E, fl, f', (upd (upd own (Int32.toNatClampNeg (2 * nI m)) x) (Int32.toNatClampNeg ((2 * nI m) + 1)) y))))) = some (A, S, P, E, fl, f', upd (upd own (2 * m) x) (2 * m + 1) y) := by
    intro x y A S P E fl f'
    rw [e2, nI_1, gdT (inbI (by omega) (by omega)), gdT (inbI (by omega) (by omega)), nI_clamp (by omega), nI_clamp (by omega)]
  unfold F_X8_readPair
  rcases aNum_new ht hT ha (fa := fa) (l := l) (B := B) (Or.inl rfl) with ⟨v, e, v1, v2, g1, g2, g3, g4⟩ | ⟨x, fl, f1, f2, f3, f4⟩
  · rw [g4]
    (try simp only [Option.bind_some])
    rcases aNum_new ht hT g2 (fa := fa) (l := l ++ [v]) (B := B) (Or.inr rfl) with ⟨v', e', v1', v2', g1', g2', g3', g4'⟩ | ⟨x, fl, f1, f2, f3, f4⟩
    · rw [g4']
      (try simp only [Option.bind_some])
      rw [fin]
      left
      refine ⟨l ++ [v] ++ [v'], e', _, by simp; omega, items_app (items_app hi (by omega) (by omega)) (by omega) (by omega), ?_, g1.trans g1', g2', by omega, rfl⟩
      have h1 := (hR.app v).app v'
      rw [List.length_append, hm] at h1
      exact h1
    · rw [f4]
      (try simp only [Option.bind_some])
      rw [fin]
      right
      exact ⟨e, _, fl, tokP T t e, f1, f2, (tokP_le g2).2, g2, g1.trans f3, rfl⟩
  · rw [f4]
    (try simp only [Option.bind_some])
    obtain ⟨y, hy⟩ := aNum_old ht hT ha (fl := nI fl) (fa := mP T t a) (fun z => f1 ((nI_eq (b := 0) (by omega) (by decide)).mp z))
    rw [hy]
    (try simp only [Option.bind_some])
    rw [fin]
    right
    exact ⟨a, _, fl, tokP T t a, f1, f2, (tokP_le ha).2, ha, f3, rfl⟩
