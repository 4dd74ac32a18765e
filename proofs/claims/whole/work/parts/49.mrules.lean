/-! the model's reader, all rules -/
theorem L13_old {t : Nat} {bm own : Nat → Int32} {z A S P E fl fa : Int32} (h : ¬ fl = 0) : F_X8_readRule_L13 (nI t) bm FU z A S P E fl fa own = some (z, A, S, P, E, fl, fa, own) := by
  rw [show FU = 999999 + 1 from rfl, F_X8_readRule_L13.eq_2, if_neg h]
theorem k6v {T : Nat → Nat} {t p : Nat} (hp : p ≤ t) (h : (tokK T t p).1 = 6) : tokK T t p = (6, 0) ∨ tokK T t p = (6, 1) ∨ tokK T t p = (6, 2) := by
  have := (K_val (T := T) hp).2.2 h
  rcases (show (tokK T t p).2 = 0 ∨ (tokK T t p).2 = 1 ∨ (tokK T t p).2 = 2 by omega) with z | z | z
  · left; exact Prod.ext h z
  · right; left; exact Prod.ext h z
  · right; right; exact Prod.ext h z
theorem BKM_put {B : BOOK} {l : List Nat} {v : Nat} {rs rr rd own rr' : Nat → Int32} {read : Int32} (hB : BKok B) (hM : BKM read rs rr rd B) (hR : RW own l) (h8 : l.length ≤ 8) (h1 : ∀ j, j < 8 → rr' (8 * B.length + j) = own j) (h2 : ∀ x, (∀ j, j < 8 → x ≠ 8 * B.length + j) → rr' x = rr x) : BKM (nI (B ++ [(l, v)]).length) (upd rs B.length (nI l.length)) rr' (upd rd B.length (nI v)) (B ++ [(l, v)]) := by
  refine ⟨rfl, fun r hr => ?_⟩
  simp at hr
  unfold rRow rAct
  by_cases q : r < B.length
  · have hl := (hB.2.1 r q).2.1
    have hm := hM.2 r q
    unfold rRow rAct at hm
    unfold rRow at hl
    rw [List.getD_eq_getElem?_getD, List.getElem?_append_left q, ← List.getD_eq_getElem?_getD, pk_un (by omega), pk_un (by omega)]
    refine ⟨hm.1, fun j hj => ?_, hm.2.2⟩
    rw [h2 _ (fun j' hj' z => by omega)]
    exact hm.2.1 j hj
  · have e : r = B.length := by omega
    subst e
    rw [pk_us, pk_us]
    have e2 : (B ++ [(l, v)]).getD B.length ([], 0) = (l, v) := by simp
    rw [e2]
    refine ⟨rfl, fun j hj => ?_, rfl⟩
    have hj : j < l.length := hj
    rw [h1 j (by omega), hR j hj]
theorem m_rule {t a : Nat} {bx bm : Nat → Int32} {T : Nat → Nat} (ht : t ≤ 400) (hT : TP t bx bm T) (ha : a ≤ t) {B : BOOK} {l : List Nat} {read fa : Int32} {rs rr rd own : Nat → Int32} (hB : BKok B) (hM : BKM read rs rr rd B) (hk1 : ¬ (tokK T t (tokP T t a)).1 = 1) :
    (∃ B' l' e rs' rr' rd' own', BKok B' ∧ BKM (nI B'.length) rs' rr' rd' B' ∧ PR T t 0 l B a = PR T t 0 l' B' e ∧ e ≤ t ∧ a < e ∧ F_X8_readRule (nI t) (mA T t a) (mS T t a) (mP T t a) (mA T t a) 0 fa read bm rs rr rd own = some (mA T t e, mS T t e, mP T t e, mA T t e, 0, fa, nI B'.length, rs', rr', rd', own')) ∨ (∃ e own' fl p, ¬ fl = 0 ∧ fl ≤ 3 ∧ p ≤ t ∧ e ≤ t ∧ (PR T t 0 l B a).1 = fl ∧ (PR T t 0 l B a).2.1 = p ∧ F_X8_readRule (nI t) (mA T t a) (mS T t a) (mP T t a) (mA T t a) 0 fa read bm rs rr rd own = some (mA T t e, mS T t e, mP T t e, mA T t e, nI fl, nI p, read, rs, rr, rd, own')) := by
  have h30 := hB.1
  have hM1 := hM.1
  subst hM1
  have hp := (tokP_le (T := T) ha).2
  obtain ⟨w, w0, w1, -, -, -⟩ := o_word ht hT hp
  unfold F_X8_readRule
  rw [w0]
  (try simp only [Option.bind_some])
  by_cases q5 : (tokK T t (tokP T t a)).1 = 5
  · rw [if_pos (w1.mpr q5), if_pos (w1.mpr q5), show (30 : Int32) = nI 30 from rfl, ifEq (by omega) (by omega)]
    by_cases q30 : B.length = 30
    · rw [if_pos q30, bad_new]
      (try simp only [Option.bind_some])
      rw [need_old (by decide)]
      (try simp only [Option.bind_some])
      rw [if_neg (by decide)]
      (try simp only [Option.bind_some])
      rw [L13_old (by decide)]
      (try simp only [Option.bind_some])
      rw [if_neg (by decide)]
      right
      have hfl : flt (tokK T t (tokP T t a)).1 (tokK T t (tokP T t a)).2 0 l.length B.length (hasB B l) = 3 := by
        rw [q5, q30]; rfl
      have hq := PR_flt (w := 0) (T := T) (t := t) (a := a) (l := l) (B := B) rfl rfl rfl (by decide) (by rw [hfl]; decide)
      rw [hfl] at hq
      exact ⟨a, own, 3, tokP T t a, by decide, by decide, hp, ha, by rw [hq], by rw [hq], by rfl⟩
    · rw [if_neg q30]
      (try simp only [Option.bind_some])
      rw [need_next ht hT ha (by decide)]
      (try simp only [Option.bind_some])
      rw [if_pos (by trivial)]
      have hfl : flt (tokK T t (tokP T t a)).1 (tokK T t (tokP T t a)).2 0 l.length B.length (hasB B l) = 0 := by
        rw [q5]
        unfold flt
        simp; omega
      have hn : nxt (tokK T t (tokP T t a)).1 (tokK T t (tokP T t a)).2 0 l B = (1, [], B) := by
        rw [q5]; rfl
      obtain ⟨g1, g2, g3⟩ := PR_go (T := T) (a := a) rfl rfl rfl rfl (by decide) ha hfl hk1 (by rw [hn]; show 1 ≤ 4; decide)
      rw [hn] at g1
      generalize tokE T t (tokP T t a) = a1 at g1 g2 g3 ⊢
      have hR0 : RW own [] := fun j hj => absurd hj (by simp)
      have hi0 : items [] := fun j hj => absurd hj (by simp)
      have hpair := m_pair ht hT g2 (fa := fa) (B := B) (l := []) (m := 0) rfl (by decide) hR0 hi0
      rw [show nI 0 = (0 : Int32) from rfl] at hpair
      rcases hpair with ⟨l1, e1, own1, i1, i2, i3, i4, i5, i6, i7⟩ | ⟨e1, own1, fl, p, i1, i2, i3, i4, i5, i6⟩
      · rw [i7]
        (try simp only [Option.bind_some])
        have h13 := m_L13 ht hT (B := B) 3 1 e1 FU l1 own1 fa (by decide) (by decide) i5 i1 i2 i3
        rw [show nI 1 = (1 : Int32) from rfl] at h13
        rcases h13 with ⟨m', l2, e2, own2, j1, j2, j3, j4, j5, j6, j7, j8, j9⟩ | ⟨z, e2, own2, fl, p, j1, j2, j3, j4, j5, j6⟩
        · rw [j9]
          (try simp only [Option.bind_some])
          have hq := g1.trans (i4.trans j5)
          have hp2 := (tokP_le (T := T) j6).2
          obtain ⟨w', u0, -, u1, u2, u3⟩ := o_word ht hT hp2
          rw [if_pos (by decide), u0]
          (try simp only [Option.bind_some])
          have o59 := (o_is ht hT hp2).2
          by_cases q6 : (tokK T t (tokP T t e2)).1 = 6
          · have hj : (if lg_cmp w' 1852137842 = 0 then some (1 : Int32) else if lg_cmp w' 6709618 = 0 then some 1 else if lg_cmp w' 1937006969 = 0 then some 1 else some 0) = some 1 := by
              rcases k6v hp2 q6 with z | z | z
              · rw [if_pos (u3.mpr z)]; simp
              · rw [if_pos (u1.mpr z)]
              · rw [if_pos (u2.mpr z)]; simp
            have hv : (if lg_cmp w' 1852137842 = 0 then some (1 : Int32) else if lg_cmp w' 6709618 = 0 then some 2 else some 0) = some (nI (tokK T t (tokP T t e2)).2) := by
              rcases k6v hp2 q6 with z | z | z
              · rw [if_neg (fun y => absurd ((u1.mp y).symm.trans z) (by decide)), if_neg (fun y => absurd ((u2.mp y).symm.trans z) (by decide)), z]; rfl
              · rw [if_pos (u1.mpr z), z]; rfl
              · rw [if_neg (fun y => absurd ((u1.mp y).symm.trans z) (by decide)), if_pos (u2.mpr z), z]; rfl
            rw [hj]
            (try simp only [Option.bind_some])
            rw [if_neg (by decide), m_isRead hB hM j4 j3 j2 j1]
            (try simp only [Option.bind_some])
            by_cases qh : hasB B l2 = true
            · rw [if_pos qh, if_neg (by decide), bad_new]
              (try simp only [Option.bind_some])
              rw [need_old (by decide)]
              (try simp only [Option.bind_some])
              rw [o59]
              (try simp only [Option.bind_some])
              rw [need_old (by decide)]
              (try simp only [Option.bind_some])
              rw [if_neg (by decide)]
              right
              have hfl : flt (tokK T t (tokP T t e2)).1 (tokK T t (tokP T t e2)).2 3 l2.length B.length (hasB B l2) = 3 := by
                rw [q6, qh]; rfl
              have hq' := hq.trans (PR_flt (w := 3) (T := T) (t := t) (a := e2) (l := l2) (B := B) rfl rfl rfl (by decide) (by rw [hfl]; decide))
              rw [hfl] at hq'
              exact ⟨e2, own2, 3, tokP T t e2, by decide, by decide, hp2, j6, by rw [hq'], by rw [hq'], by rfl⟩
            · rw [if_neg qh, if_pos rfl]
              (try simp only [Option.bind_some])
              rw [need_next ht hT j6 (by decide)]
              (try simp only [Option.bind_some])
              have hfl : flt (tokK T t (tokP T t e2)).1 (tokK T t (tokP T t e2)).2 3 l2.length B.length (hasB B l2) = 0 := by
                rw [q6]
                unfold flt
                simp [qh]
              have hn : nxt (tokK T t (tokP T t e2)).1 (tokK T t (tokP T t e2)).2 3 l2 B = (4, l2, B ++ [(l2, (tokK T t (tokP T t e2)).2)]) := by
                rw [q6]; rfl
              obtain ⟨k1, k2, k3⟩ := PR_go (w := 3) (T := T) (a := e2) rfl rfl rfl rfl (by decide) j6 hfl (by rw [q6]; decide) (by rw [hn]; show 4 ≤ 4; decide)
              rw [hn] at k1
              have hv2 := (K_val (T := T) hp2).2.2 q6
              generalize (tokK T t (tokP T t e2)).2 = v at *
              generalize tokE T t (tokP T t e2) = e3 at *
              have hp3 := (tokP_le (T := T) k2).2
              rw [(o_is ht hT hp3).2]
              (try simp only [Option.bind_some])
              have hq3 : PR T t 0 l B a = PR T t 4 l2 (B ++ [(l2, v)]) e3 := hq.trans k1
              by_cases q4 : (tokK T t (tokP T t e3)).1 = 4
              · rw [if_pos q4, need_next ht hT k2 (by decide)]
                (try simp only [Option.bind_some])
                rw [if_pos (by trivial), hv]
                have e2' : (2 : Int32) * nI m' = nI l2.length := by rw [show (2 : Int32) = nI 2 from rfl, q_mul, j2]
                rw [e2', gdT (inbI (by omega) (by omega))]
                (try simp only [Option.bind_some])
                rw [gdT (inbI (by omega) (by omega))]
                obtain ⟨rr', c1, c2, c3⟩ := m_copy8 (r := B.length) (by omega) own2 8 0 FU rr (by decide) (by decide)
                rw [show nI 0 = (0 : Int32) from rfl] at c1
                rw [c1]
                (try simp only [Option.bind_some])
                rw [nI_1, nI_clamp (by omega)]
                left
                have hfl : flt (tokK T t (tokP T t e3)).1 (tokK T t (tokP T t e3)).2 4 l2.length (B ++ [(l2, v)]).length (hasB (B ++ [(l2, v)]) l2) = 0 := by
                  rw [q4]; rfl
                have hn : nxt (tokK T t (tokP T t e3)).1 (tokK T t (tokP T t e3)).2 4 l2 (B ++ [(l2, v)]) = (0, l2, B ++ [(l2, v)]) := by
                  rw [q4]; rfl
                obtain ⟨y1, y2, y3⟩ := PR_go (w := 4) (T := T) (a := e3) rfl rfl rfl rfl (by decide) k2 hfl (by rw [q4]; decide) (by rw [hn]; show 0 ≤ 4; decide)
                rw [hn] at y1
                refine ⟨B ++ [(l2, v)], l2, _, _, _, _, own2, BKok_put hB (by omega) j3 (by omega) hv2 qh, BKM_put hB hM j4 (by omega) (fun j hj => c2 j (by omega) hj) (fun x hx => c3 x (fun j _ h2 => hx j h2)), hq3.trans y1, y2, by omega, ?_⟩
                rw [List.length_append]
                rfl
              · rw [if_neg q4, need_bad]
                (try simp only [Option.bind_some])
                rw [if_neg (by decide)]
                right
                have hfl : flt (tokK T t (tokP T t e3)).1 (tokK T t (tokP T t e3)).2 4 l2.length (B ++ [(l2, v)]).length (hasB (B ++ [(l2, v)]) l2) = 1 := by
                  unfold flt
                  simp [q4]
                have hq' := hq3.trans (PR_flt (w := 4) (T := T) (t := t) (a := e3) (l := l2) rfl rfl rfl (by decide) (by rw [hfl]; decide))
                rw [hfl] at hq'
                exact ⟨e3, own2, 1, tokP T t e3, by decide, by decide, hp3, k2, by rw [hq'], by rw [hq'], by rfl⟩
          · have hj : (if lg_cmp w' 1852137842 = 0 then some (1 : Int32) else if lg_cmp w' 6709618 = 0 then some 1 else if lg_cmp w' 1937006969 = 0 then some 1 else some 0) = some 0 := by
              rw [if_neg (fun y => q6 (by rw [u1.mp y])), if_neg (fun y => q6 (by rw [u2.mp y])), if_neg (fun y => q6 (by rw [u3.mp y]))]
            rw [hj]
            (try simp only [Option.bind_some])
            rw [if_pos (by trivial)]
            (try simp only [Option.bind_some])
            rw [need_bad]
            (try simp only [Option.bind_some])
            rw [o59]
            (try simp only [Option.bind_some])
            rw [need_old (by decide)]
            (try simp only [Option.bind_some])
            rw [if_neg (by decide)]
            right
            have hfl : flt (tokK T t (tokP T t e2)).1 (tokK T t (tokP T t e2)).2 3 l2.length B.length (hasB B l2) = 1 := by
              unfold flt
              simp [q6, j8]
            have hq' := hq.trans (PR_flt (w := 3) (T := T) (t := t) (a := e2) (l := l2) (B := B) rfl rfl rfl (by decide) (by rw [hfl]; decide))
            rw [hfl] at hq'
            exact ⟨e2, own2, 1, tokP T t e2, by decide, by decide, hp2, j6, by rw [hq'], by rw [hq'], by rfl⟩
        · rw [j6]
          (try simp only [Option.bind_some])
          rw [ifL0 (by omega), if_neg (by omega)]
          right
          have hq := g1.trans (i4.trans j5)
          exact ⟨e2, own2, fl, p, j1, j2, j3, j4, by rw [hq], by rw [hq], rfl⟩
      · rw [i6]
        (try simp only [Option.bind_some])
        have hf0 : ¬ nI fl = 0 := fun z => i1 ((nI_eq (b := 0) (by omega) (by decide)).mp z)
        rw [L13_old hf0]
        (try simp only [Option.bind_some])
        rw [ifL0 (by omega), if_neg (by omega)]
        right
        have hq := g1.trans i5
        exact ⟨e1, own1, fl, p, i1, i2, i3, i4, by rw [hq], by rw [hq], rfl⟩
  · rw [if_neg (fun z => q5 (w1.mp z)), if_neg (fun z => q5 (w1.mp z))]
    (try simp only [Option.bind_some])
    rw [need_bad]
    (try simp only [Option.bind_some])
    rw [if_neg (by decide)]
    (try simp only [Option.bind_some])
    rw [L13_old (by decide)]
    (try simp only [Option.bind_some])
    rw [if_neg (by decide)]
    right
    have hfl : flt (tokK T t (tokP T t a)).1 (tokK T t (tokP T t a)).2 0 l.length B.length (hasB B l) = 1 := by
      unfold flt
      simp [q5, hk1]
    have hq := PR_flt (w := 0) (T := T) (t := t) (a := a) (l := l) (B := B) rfl rfl rfl (by decide) (by rw [hfl]; decide)
    rw [hfl] at hq
    exact ⟨a, own, 1, tokP T t a, by decide, by decide, hp, ha, by rw [hq], by rw [hq], by rfl⟩
theorem m_L2 {t : Nat} {bx bm : Nat → Int32} {T : Nat → Nat} (ht : t ≤ 400) (hT : TP t bx bm T) : ∀ (d a f : Nat) (B : BOOK) (l : List Nat) (read fa : Int32) (rs rr rd own : Nat → Int32), a ≤ t → t - a < d → d < f → BKok B → BKM read rs rr rd B →
    ∃ e rs' rr' rd' own' fl fa' read', e ≤ t ∧ F_X8_rules_L2 (nI t) bm f (mA T t a) (mS T t a) (mP T t a) (mA T t a) 0 fa read rs rr rd own = some (mA T t e, mS T t e, mP T t e, mA T t e, nI fl, fa', read', rs', rr', rd', own') ∧ fl ≤ 3 ∧ (PR T t 0 l B a).1 = fl ∧ (fl = 0 → BKok (PR T t 0 l B a).2.2 ∧ BKM read' rs' rr' rd' (PR T t 0 l B a).2.2) ∧ (¬ fl = 0 → fa' = nI (PR T t 0 l B a).2.1)
  | 0, _, _, _, _, _, _, _, _, _, _, _, h, _, _, _ => by omega
  | d + 1, a, f + 1, B, l, rd0, fa, rs, rr, rd, own, ha, hd, hf, hB, hM => by
    rw [F_X8_rules_L2.eq_2, if_pos rfl]
    by_cases q : (tokK T t (tokP T t a)).1 = 1
    · rw [if_pos (S_end.mpr q)]
      have := PR_end (T := T) (t := t) (l := l) (B := B) (a := a) rfl rfl q
      exact ⟨a, rs, rr, rd, own, 0, fa, rd0, ha, rfl, by decide, by rw [this], fun _ => by rw [this]; exact ⟨hB, hM⟩, fun z => absurd rfl z⟩
    · rw [if_neg (fun z => q (S_end.mp z))]
      rcases m_rule ht hT ha (l := l) (fa := fa) (own := own) hB hM q with ⟨B', l', e, rs', rr', rd', own', i1, i2, i3, i4, i5, i6⟩ | ⟨e, own', fl, p, i1, i2, i3, i4, i5, i6, i7⟩
      · rw [i6]
        (try simp only [Option.bind_some])
        obtain ⟨e', rs'', rr'', rd'', own'', fl, fa', read', j0, j1, j2, j3, j4, j5⟩ := m_L2 ht hT d e f B' l' _ fa rs' rr' rd' own' i4 (by omega) (by omega) i1 i2
        rw [i3]
        exact ⟨e', rs'', rr'', rd'', own'', fl, fa', read', j0, j1, j2, j3, j4, j5⟩
      · rw [i7]
        (try simp only [Option.bind_some])
        obtain ⟨f, rfl⟩ : ∃ f', f = f' + 1 := ⟨f - 1, by omega⟩
        rw [F_X8_rules_L2.eq_2, ifE0 (by omega), if_neg i1]
        exact ⟨e, rs, rr, rd, own', fl, nI p, rd0, i4, rfl, i2, i5, fun z => absurd z i1, fun _ => by rw [i6]⟩
theorem m_copyR {r : Nat} (hr : r < 30) (own : Nat → Int32) : ∀ (d i f : Nat) (rr : Nat → Int32), i + d = 8 → d < f → ∃ rr', F_X8_rules_L11 (nI r) own f (nI i) rr = some rr' ∧ (∀ j, i ≤ j → j < 8 → rr' (8 * r + j) = own (8 * r + j)) ∧ ∀ x, (∀ j, i ≤ j → j < 8 → x ≠ 8 * r + j) → rr' x = rr x
  | 0, i, f + 1, rr, hi, _ => by
    rw [F_X8_rules_L11.eq_2, show (8 : Int32) = nI 8 from rfl, ifLe (by omega) (by omega), if_pos (by omega)]
    exact ⟨rr, rfl, fun j h1 h2 => by omega, fun _ _ => rfl⟩
  | d + 1, i, f + 1, rr, hi, hf => by
    rw [F_X8_rules_L11.eq_2]
    rw [show (8 : Int32) = nI 8 from rfl, ifLe (by omega) (by omega), if_neg (by omega), q_mul, q_add, gdT (inbI (by omega) (by omega)), nI_clamp (by omega)]
    (try simp only [Option.bind_some])
    rw [gdT (inbI (by omega) (by omega)), nI_1]
    obtain ⟨rr', h1, h2, h3⟩ := m_copyR hr own d (i + 1) f (upd rr (8 * r + i) (own (8 * r + i))) (by omega) (by omega)
    refine ⟨rr', h1, fun j j1 j2 => ?_, fun x hx => ?_⟩
    · by_cases q : j = i
      · rw [q, h3 _ (fun j' h1 h2 z => by omega), pk_us]
      · exact h2 j (by omega) j2
    · rw [h3 x (fun j j1 j2 => hx j (by omega) j2), pk_un (hx i (Nat.le_refl i) (by omega))]
theorem m_L7 {B : BOOK} {rs rr rd : Nat → Int32} (hB : BKok B) (hM : BKM (nI B.length) rs rr rd B) : ∀ (d i f : Nat) (us ur ud : Nat → Int32), i + d = B.length → d < f → (∀ r, r < i → us r = rs r ∧ (∀ j, j < 8 → ur (8 * r + j) = rr (8 * r + j)) ∧ ud r = rd r) → ∃ us' ur' ud', F_X8_rules_L7 (nI B.length) rs rr rd f (nI i) us ur ud = some (us', ur', ud') ∧ BKM (nI B.length) us' ur' ud' B
  | 0, i, f + 1, us, ur, ud, hi, _, h => by
    have h30 := hB.1
    rw [F_X8_rules_L7.eq_2, if_pos (nI_le (by omega) (by omega))]
    refine ⟨us, ur, ud, rfl, rfl, fun r hr => ?_⟩
    obtain ⟨a1, a2, a3⟩ := h r (by omega)
    obtain ⟨b1, b2, b3⟩ := hM.2 r hr
    have hl := (hB.2.1 r hr).2.1
    refine ⟨by rw [a1, b1], fun j hj => ?_, by rw [a3, b3]⟩
    rw [a2 j (by omega), b2 j hj]
  | d + 1, i, f + 1, us, ur, ud, hi, hf, h => by
    have h30 := hB.1
    rw [F_X8_rules_L7.eq_2, if_neg (nI_ge (by omega) (by omega)), gdT (inbI (by omega) (by omega)), nI_clamp (by omega)]
    (try simp only [Option.bind_some])
    rw [gdT (inbI (by omega) (by omega)), gdT (inbI (by omega) (by omega)), gdT (inbI (by omega) (by omega))]
    obtain ⟨ur', c1, c2, c3⟩ := m_copyR (r := i) (by omega) rr 8 0 FU ur (by decide) (by decide)
    rw [show nI 0 = (0 : Int32) from rfl] at c1
    rw [c1]
    (try simp only [Option.bind_some])
    rw [nI_1]
    apply m_L7 hB hM d (i + 1) f _ _ _ (by omega) (by omega)
    intro r hr
    by_cases q : r = i
    · subst q
      exact ⟨pk_us, fun j hj => c2 j (by omega) hj, pk_us⟩
    · obtain ⟨a1, a2, a3⟩ := h r (by omega)
      refine ⟨by rw [pk_un q, a1], fun j hj => ?_, by rw [pk_un q, a3]⟩
      rw [c3 _ (fun j' _ h2 z => by omega), a2 j hj]
