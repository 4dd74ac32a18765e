/-! rules(), both sides -/
theorem x_forget (w : Nat → Int32) : ∃ w', F_X6_forgetRules w = some w' ∧ ∀ i, i < 3 → w' i = 0 := by
  unfold F_X6_forgetRules
  refine ⟨upd (upd (upd w 0 0) 1 0) 2 0, rfl, fun i hi => ?_⟩
  rcases (show i = 0 ∨ i = 1 ∨ i = 2 by omega) with rfl | rfl | rfl <;> rfl
theorem PI0 : PI 0 [] [] := by
  refine ⟨⟨by simp, fun r hr => absurd hr (by simp), fun r r' hr => absurd hr (by simp)⟩, by decide, fun j hj => absurd hj (by simp), by decide, by decide, by decide, by decide⟩
theorem x_rules {t : Nat} {bx bm : Nat → Int32} {T : Nat → Nat} (ht : t ≤ 400) (hT : TP t bx bm T) (latest pairs : Int32) (row : Int64) (bsize : Int32) (linked : Nat → Int32) (brows : Nat → Int64) (bacts : Nat → Int32) (srows : Nat → Int64) (sacts : Nat → Int32) :
    ∃ beh w' p' s' row' sz rows' acts' linked', (∀ i, i < 3 → linked' i = 0) ∧ (PR T t 0 [] [] 0).1 ≤ 3 ∧ (PR T t 0 [] [] 0).2.1 ≤ t ∧ ((PR T t 0 [] [] 0).1 = 0 → BKok (PR T t 0 [] [] 0).2.2 ∧ BKX sz rows' acts' (PR T t 0 [] [] 0).2.2 ∧ F_X7_rules latest (nI t) pairs row bsize linked bx brows bacts srows sacts = some (sz, true, latest, 0, 0, 0, 0, beh, w', p', s', row', sz, bsize, linked', rows', acts', brows, bacts)) ∧ (¬ (PR T t 0 [] [] 0).1 = 0 → F_X7_rules latest (nI t) pairs row bsize linked bx brows bacts srows sacts = some (-1000100 - nI (PR T t 0 [] [] 0).2.1, false, nI (PR T t 0 [] [] 0).1, 0, 0, 0, 0, beh, w', p', s', row', bsize, sz, linked, brows, bacts, rows', acts')) := by
  obtain ⟨tok', val', beh', w', pairs', sees', row', size', rows', acts', h1, h2, h3, h4⟩ := x_loop ht hT (t - 0 + 1) FU 0 0 0 [] [] 0 0 0 pairs 0 row 0 srows sacts (by omega) (by omega) (by omega) (by unfold FU; omega) PI0 ⟨rfl, fun r hr => absurd hr (by simp)⟩ ⟨fun _ => rfl, fun z => absurd z (by decide)⟩
  obtain ⟨lk, l1, l2⟩ := x_forget linked
  rw [show nI 0 = (0 : Int32) from rfl] at h1
  have e : F_X2_read (nI t) pairs row bx srows sacts = some (nI (PR T t 0 [] [] 0).1, tok', nI (PR T t 0 [] [] 0).2.1, val', beh', w', pairs', sees', row', size', rows', acts') := by
    unfold F_X2_read F_X1_clear_s F_X5_rewind
    (try simp only [Option.bind_some])
    rw [h1]
    rfl
  refine ⟨0, w', pairs', sees', row', size', rows', acts', lk, l2, h2, h3, fun h => ⟨(h4 h).2, (h4 h).1, ?_⟩, fun h => ?_⟩
  · unfold F_X7_rules F_X5_clear F_X5_rewind
    rw [e]
    (try simp only [Option.bind_some])
    rw [h, l1]
    rfl
  · unfold F_X7_rules F_X5_clear F_X5_rewind
    rw [e]
    (try simp only [Option.bind_some])
    have h2' : (PR T t 0 [] [] 0).1 ≤ 3 := h2
    rw [ifE0 (by omega), if_neg h]
theorem m_rules {t : Nat} {bx bm : Nat → Int32} {T : Nat → Nat} (ht : t ≤ 400) (hT : TP t bx bm T) (rules latest fa : Int32) (us ur ud rs rr rd own : Nat → Int32) :
    ∃ A S P E F fa' rd0 us' ur' ud' rs' rr' rd' own', ((PR T t 0 [] [] 0).1 = 0 → BKM (nI (PR T t 0 [] [] 0).2.2.length) us' ur' ud' (PR T t 0 [] [] 0).2.2 ∧ F_X8_rules rules (nI t) latest fa us ur ud bm rs rr rd own = some (nI (PR T t 0 [] [] 0).2.2.length, 0, nI (PR T t 0 [] [] 0).2.2.length, 0, latest, nI t, A, S, P, E, F, fa', rd0, us', ur', ud', rs', rr', rd', own')) ∧ (¬ (PR T t 0 [] [] 0).1 = 0 → F_X8_rules rules (nI t) latest fa us ur ud bm rs rr rd own = some (-1000100 - nI (PR T t 0 [] [] 0).2.1, 0, rules, 0, nI (PR T t 0 [] [] 0).1, nI t, A, S, P, E, F, fa', rd0, us, ur, ud, rs', rr', rd', own')) := by
  obtain ⟨e, rs', rr', rd', own', fl, fa', read', e1, h1, h2, h3, h4, h5⟩ := m_L2 ht hT (t + 1) 0 FU [] [] 0 fa rs rr rd own (by omega) (by omega) (by unfold FU; omega) PI0.1 ⟨rfl, fun r hr => absurd hr (by simp)⟩
  have h0 := tokM ht hT (Nat.zero_le t)
  rw [show nI 0 = (0 : Int32) from rfl] at h0
  by_cases q : fl = 0
  · obtain ⟨b1, b2⟩ := h4 q
    have b3 := b2.1
    subst b3
    obtain ⟨us', ur', ud', g1, g2⟩ := m_L7 b1 b2 (PR T t 0 [] [] 0).2.2.length 0 FU us ur ud (by omega) (by have := b1.1; unfold FU; omega) (fun r hr => absurd hr (by omega))
    rw [show nI 0 = (0 : Int32) from rfl] at g1
    refine ⟨mA T t e, mS T t e, mP T t e, mA T t e, nI fl, fa', nI (PR T t 0 [] [] 0).2.2.length, us', ur', ud', rs', rr', rd', own', fun h => ⟨g2, ?_⟩, fun h => absurd (h3.trans q) h⟩
    unfold F_X8_rules
    rw [h0]
    (try simp only [Option.bind_some])
    rw [h1]
    (try simp only [Option.bind_some])
    rw [ifL0 (by omega), if_pos (by omega), g1]
    rfl
  · refine ⟨mA T t e, mS T t e, mP T t e, mA T t e, nI fl, fa', read', us, ur, ud, rs', rr', rd', own', fun h => absurd (h3.symm.trans h) q, fun h => ?_⟩
    unfold F_X8_rules
    rw [h0]
    (try simp only [Option.bind_some])
    rw [h1]
    (try simp only [Option.bind_some])
    rw [ifL0 (by omega), if_neg (by omega), h5 q, h3]
