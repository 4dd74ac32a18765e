/-! call by call, both sides -/
theorem b_robot {n c k : Nat} {here : Nat → Int32} (hn : RG n) (hc : CR n c k) (hH : HD here n c) (a : Int32) : ∃ r c' k' here', F_X7_robot a (nI c) (nI n) = some (r, nI c') ∧ F_X8_robot a (nI n) (nI k) here = some (r, 0, nI k', here') ∧ CR n c' k' ∧ HD here' n c' := by
  have h9 := hn.2
  have h4 := hc.2.2
  unfold F_X7_robot F_X8_robot
  rcases ix3 a (b := n) (by omega) with q | ⟨j, hj, rfl⟩
  · rw [noPlace_out q, isPlace_out hn q]
    (try simp only [Option.bind_some])
    rw [if_neg (by decide), if_pos (by trivial)]
    exact ⟨_, c, k, here, rfl, rfl, hc, hH⟩
  · have h8 := dg_lt n c j
    rw [noPlace_in hn hj, isPlace_in hn hj, x_robotsIn hn hc.1, hc.2.1]
    (try simp only [Option.bind_some])
    rw [if_pos (by trivial), if_neg (show ¬ (1 : Int32) = 0 by decide), show (4 : Int32) = nI 4 from rfl, ifLt (by omega) (by omega), ifEq (by omega) (by omega)]
    by_cases q : k < 4
    · rw [if_pos q, if_neg (by omega), x_oneAt hn hj, gdT (inbI (by omega) (by omega)), nI_clamp (by omega), HD_at hH hn hj, nI_1, nI_1, gdT (inbI (by omega) (by omega))]
      (try simp only [Option.bind_some])
      refine ⟨_, c + wt n j, k + 1, _, by rw [q_add]; rfl, rfl, CR_add hc q hj, fun x hx => ?_⟩
      by_cases e : x < n
      · rw [if_pos e, dg_add hc q hj x e]
        by_cases e2 : x = j
        · rw [e2, pk_us, updN_s]
        · rw [pk_un e2, updN_n e2, HD_at hH hn e]
      · rw [if_neg e, pk_un (by omega), hH x hx, if_neg e]
    · rw [if_neg q, if_pos (by omega)]
      exact ⟨_, c, k, here, rfl, rfl, hc, hH⟩
theorem wipe_L : ∀ (d i f : Nat) (h : Nat → Int32), i + d = 9 → d < f → (∀ x, x < i → h x = 0) → ∃ h', F_X8_wipe_L1 f (nI i) h = some h' ∧ ∀ x, x < 9 → h' x = 0
  | 0, i, f + 1, h, hi, _, hh => by
    rw [F_X8_wipe_L1.eq_2, show (9 : Int32) = nI 9 from rfl, ifLe (by omega) (by omega), if_pos (by omega)]
    exact ⟨h, rfl, fun x hx => hh x (by omega)⟩
  | d + 1, i, f + 1, h, hi, hf, hh => by
    rw [F_X8_wipe_L1.eq_2, show (9 : Int32) = nI 9 from rfl, ifLe (by omega) (by omega), if_neg (by omega), gdT (inbI (by omega) (by omega)), nI_clamp (by omega), nI_1]
    (try simp only [Option.bind_some])
    refine wipe_L d (i + 1) f _ (by omega) (by omega) (fun x hx => ?_)
    by_cases e : x = i
    · rw [e, pk_us]
    · rw [pk_un e]
      exact hh x (by omega)
theorem HD_0 {n : Nat} {h : Nat → Int32} (hh : ∀ x, x < 9 → h x = 0) : HD h n 0 := fun x hx => by
  rw [hh x hx]
  split
  · unfold dg
    simp
    rfl
  · rfl
theorem b_wipe {n c k : Nat} {here : Nat → Int32} (hn : RG n) (hc : CR n c k) : ∃ r here', F_X7_wipe (nI c) (nI n) = some (r, nI 0) ∧ F_X8_wipe (nI k) here = some (r, 0, nI 0, here') ∧ HD here' n 0 := by
  obtain ⟨h', a, b⟩ := wipe_L 9 0 FU here (by omega) (by unfold FU; omega) (fun x hx => absurd hx (by omega))
  unfold F_X7_wipe F_X8_wipe
  rw [show nI 0 = (0 : Int32) from rfl] at a
  rw [x_robotsIn hn hc.1, hc.2.1, a]
  exact ⟨nI k, h', rfl, rfl, HD_0 b⟩
theorem b_at {n c k : Nat} {here : Nat → Int32} (hn : RG n) (hc : CR n c k) (hH : HD here n c) (a : Int32) : ∃ r, F_X7_at a (nI c) (nI n) = some r ∧ F_X8_at a (nI n) here = some (r, 0) := by
  have h9 := hn.2
  unfold F_X7_at F_X8_at
  rcases ix3 a (b := n) (by omega) with q | ⟨j, hj, rfl⟩
  · rw [noPlace_out q, isPlace_out hn q]
    (try simp only [Option.bind_some])
    rw [if_neg (by decide), if_pos (by trivial)]
    exact ⟨_, rfl, rfl⟩
  · rw [noPlace_in hn hj, isPlace_in hn hj, x_manyAt hn hc.1 hj]
    (try simp only [Option.bind_some])
    rw [if_pos (by trivial), if_neg (show ¬ (1 : Int32) = 0 by decide), gdT (inbI (by omega) (by omega)), nI_clamp (by omega), HD_at hH hn hj]
    exact ⟨_, rfl, rfl⟩
theorem b_view {n c k : Nat} {here : Nat → Int32} (hn : RG n) (hc : CR n c k) (hH : HD here n c) (a i : Int32) (vd : Int32) (hand view up down : Nat → Int32) : ∃ r vd' hand' view' up' down', F_X7_view a i (nI c) (nI n) = some r ∧ F_X8_view a i (nI n) vd here hand view up down = some (r, 0, vd', hand', view', up', down') := by
  have h9 := hn.2
  unfold F_X7_view F_X8_view
  rcases ix3 a (b := n) (by omega) with q | ⟨j, hj, rfl⟩
  · rw [noPlace_out q, isPlace_out hn q]
    (try simp only [Option.bind_some])
    rw [if_neg (by decide), if_pos (by trivial)]
    exact ⟨_, _, _, _, _, _, rfl, rfl⟩
  · have h8 := dg_lt n c j
    rw [noPlace_in hn hj, isPlace_in hn hj, x_manyAt hn hc.1 hj]
    (try simp only [Option.bind_some])
    rw [if_pos (by trivial), if_neg (show ¬ (1 : Int32) = 0 by decide), gdT (inbI (by omega) (by omega)), nI_clamp (by omega), HD_at hH hn hj, ifE0 (by omega), ifE0 (by omega)]
    by_cases q : dg n c j = 0
    · rw [if_pos q, if_pos q]
      exact ⟨_, _, _, _, _, _, rfl, rfl⟩
    · obtain ⟨v', u', d', e1, e2⟩ := m_look (view := view) (up := up) (down := down) hn hc (hH.take (hand := hand)) hj
      have hi := VW_items hn c j
      have hl := VW_len8 (n := n) hc hj
      rw [if_neg q, if_neg q, m_take, x_viewFrom hn hc hj]
      (try simp only [Option.bind_some])
      rw [e1]
      (try simp only [Option.bind_some])
      rcases ix3 i (b := (VW n (dg n c) j).length) (by omega) with z | ⟨t, ht, rfl⟩
      · rw [x_item_out hi hl z, in_out (by omega) z]
        (try simp only [Option.bind_some])
        rw [if_pos (by trivial)]
        exact ⟨_, _, _, _, _, _, rfl, rfl⟩
      · rw [x_item_in hi hl ht, in_in ht (by omega)]
        (try simp only [Option.bind_some])
        rw [if_neg (show ¬ (1 : Int32) = 0 by decide), gdT (inbI (by omega) (by omega)), nI_clamp (by omega), e2 t ht]
        exact ⟨_, _, _, _, _, _, rfl, rfl⟩
theorem b_does {n c k : Nat} {B : BOOK} {here rs rr rd : Nat → Int32} {rules bsize : Int32} {rows : Nat → Int64} {acts : Nat → Int32} (hn : RG n) (hc : CR n c k) (hH : HD here n c) (hB : BKok B) (hX : BKX bsize rows acts B) (hM : BKM rules rs rr rd B) (a vd : Int32) (hand view up down : Nat → Int32) : ∃ r vd' hand' view' up' down', F_X7_does a (nI c) (nI n) bsize rows acts = some r ∧ F_X8_does a (nI n) vd rules here hand view up down rs rr rd = some (r, 0, vd', hand', view', up', down') := by
  have h9 := hn.2
  unfold F_X7_does F_X8_does
  rcases ix3 a (b := n) (by omega) with q | ⟨j, hj, rfl⟩
  · rw [noPlace_out q, isPlace_out hn q]
    (try simp only [Option.bind_some])
    rw [if_neg (by decide), if_pos (by trivial)]
    exact ⟨_, _, _, _, _, _, rfl, rfl⟩
  · have h8 := dg_lt n c j
    rw [noPlace_in hn hj, isPlace_in hn hj, x_manyAt hn hc.1 hj, m_take]
    (try simp only [Option.bind_some])
    rw [if_pos (by trivial), if_neg (show ¬ (1 : Int32) = 0 by decide), gdT (inbI (by omega) (by omega)), nI_clamp (by omega), HD_at hH hn hj, ifE0 (by omega), ifE0 (by omega)]
    by_cases q : dg n c j = 0
    · rw [if_pos q, if_pos q]
      exact ⟨_, _, _, _, _, _, rfl, rfl⟩
    · obtain ⟨v1, v2, v3, v4, e1⟩ := m_doing (view := view) (up := up) (down := down) hn hc (hH.take (hand := hand)) hj hB hM
      rw [if_neg q, if_neg q, x_moveAt hn hc hj hB hX, e1]
      exact ⟨_, _, _, _, _, _, rfl, rfl⟩
theorem b_name {n c k : Nat} {here : Nat → Int32} (hn : RG n) (hc : CR n c k) (hH : HD here n c) (a : Int32) (hand name : Nat → Int32) : ∃ r hand' name', F_X7_name a (nI c) (nI n) (nI (mskN n)) = some r ∧ F_X8_name a (nI n) here hand name = some (r, 0, hand', name') := by
  have h9 := hn.2
  unfold F_X7_name F_X8_name
  rcases ix3 a (b := n) (by omega) with q | ⟨j, hj, rfl⟩
  · rw [noPlace_out q, isPlace_out hn q]
    (try simp only [Option.bind_some])
    rw [if_neg (by decide), if_pos (by trivial)]
    exact ⟨_, _, _, rfl, rfl⟩
  · obtain ⟨nm, e1, e2⟩ := m_findName (name := name) hn hc.1 (hH.take (hand := hand))
    rw [noPlace_in hn hj, isPlace_in hn hj, x_nameOf hn hc.1, m_take]
    (try simp only [Option.bind_some])
    rw [if_pos (by trivial), if_neg (show ¬ (1 : Int32) = 0 by decide), x_manyAt hn (NM_lt hn c) hj, e1]
    (try simp only [Option.bind_some])
    rw [gdT (inbI (by omega) (by omega)), nI_clamp (by omega), HD_at e2 hn hj]
    exact ⟨_, _, _, rfl, rfl⟩
theorem b_goal {n c k : Nat} {here : Nat → Int32} (hn : RG n) (hc : CR n c k) (hH : HD here n c) (a : Int32) (hand : Nat → Int32) : ∃ r hand', F_X7_goal a (nI c) (nI n) = some r ∧ F_X8_goal a (nI n) (nI k) here hand = some (r, 0, hand') := by
  have h4 := hc.2.2
  have hI := in_lit (a := a) (b := 3) (L := 2) (by decide) (by decide)
  unfold F_X7_goal F_X8_goal
  rcases ix3 a (b := 3) (by decide) with q | ⟨j, hj, rfl⟩
  · rw [show F_X7_outside a 3 = some 1 from out_out (b := 3) q, hI.1 q]
    (try simp only [Option.bind_some])
    rw [if_neg (by decide), if_pos (by trivial)]
    exact ⟨_, _, rfl, rfl⟩
  · rw [show F_X7_outside (nI j) 3 = some 0 from out_in hj (by decide), hI.2 j hj rfl]
    (try simp only [Option.bind_some])
    rw [if_pos (by trivial), if_neg (show ¬ (1 : Int32) = 0 by decide), m_take]
    (try simp only [Option.bind_some])
    rw [ifL0 (by omega)]
    by_cases q : k = 0
    · have e : F_X3_isOfGoal (nI c) (nI j) (nI n) = some 0 := by
        unfold F_X3_isOfGoal
        rw [x_robotsIn hn hc.1, hc.2.1, x_takenIn hn hc.1]
        (try simp only [Option.bind_some])
        rw [ifE0 (by omega), if_pos q]
      rw [e, if_pos (show k ≤ 0 by omega)]
      exact ⟨0, _, rfl, rfl⟩
    · rw [if_neg (show ¬ k ≤ 0 by omega), x_isOfGoal hn hc q hj, m_isGoal hn hc (hH.take (hand := hand)) q hj]
      (try simp only [Option.bind_some])
      by_cases z : gl n c j k = true
      · rw [if_pos z, if_neg (by decide), if_neg (by decide)]
        exact ⟨_, _, rfl, rfl⟩
      · rw [if_neg z, if_pos rfl, if_pos rfl]
        exact ⟨_, _, rfl, rfl⟩
theorem b_step {n c k : Nat} {B : BOOK} {here rs rr rd : Nat → Int32} {rules bsize : Int32} {rows : Nat → Int64} {acts : Nat → Int32} (hn : RG n) (hc : CR n c k) (hH : HD here n c) (hB : BKok B) (hX : BKX bsize rows acts B) (hM : BKM rules rs rr rd B) (vd : Int32) (hand view up down goes : Nat → Int32) : ∃ r c' vd' here' hand' view' up' down' goes', F_X7_step (nI c) (nI n) bsize rows acts = some (r, nI c') ∧ F_X8_step (nI n) (nI k) vd rules here hand view up down rs rr rd goes = some (r, 0, vd', here', hand', view', up', down', goes') ∧ CR n c' k ∧ HD here' n c' := by
  have hlt := hc.lt hn
  have h4 := hc.2.2
  by_cases q : k = 0
  · have q2 := (CR_ne hc).mpr q
    unfold F_X7_step F_X8_step
    rw [ifE0 (by omega), if_pos q2, ifE0 (by omega), if_pos q]
    exact ⟨_, c, vd, here, hand, view, up, down, goes, rfl, rfl, hc, hH⟩
  · have q2 : c ≠ 0 := fun e => q ((CR_ne hc).mp e)
    obtain ⟨v1, v2, v3, v4, v5, v6, v7, e1, e2⟩ := m_step (hand := hand) (view := view) (up := up) (down := down) (goes := goes) (vd := vd) hn hc hH hB hM q
    exact ⟨_, _, _, _, _, _, _, _, _, x_step hn hc hB hX q2, e1, stC_CR hn hc B, e2⟩
theorem b_go {n c k : Nat} {B : BOOK} {here rs rr rd : Nat → Int32} {rules bsize : Int32} {rows : Nat → Int64} {acts : Nat → Int32} (hn : RG n) (hc : CR n c k) (hH : HD here n c) (hB : BKok B) (hX : BKX bsize rows acts B) (hM : BKM rules rs rr rd B) (a b vd : Int32) (hand view up down : Nat → Int32) : ∃ r c' vd' here' hand' view' up' down', F_X7_go a b (nI c) (nI n) bsize rows acts = some (r, nI c') ∧ F_X8_go a b (nI n) vd rules here hand view up down rs rr rd = some (r, 0, vd', here', hand', view', up', down') ∧ CR n c' k ∧ HD here' n c' := by
  have h9 := hn.2
  rcases ix3 a (b := n) (by omega) with q | ⟨j, hj, rfl⟩
  · unfold F_X7_go F_X8_go
    rw [noPlace_out q, isPlace_out hn q]
    (try simp only [Option.bind_some])
    rw [if_neg (by decide), if_pos (by trivial)]
    exact ⟨_, c, _, _, _, _, _, _, rfl, rfl, hc, hH⟩
  · rw [x_go hn hc hB hX hj b]
    obtain ⟨r, v1, v2, v3, v4, v5, v6, e1, e2⟩ := m_go (hand := hand) (view := view) (up := up) (down := down) (vd := vd) hn hc hH hB hM hj b
    rw [e1]
    rcases e2 with ⟨g, er, eh⟩ | ⟨g, er, eh⟩
    · have g2 := (goes_D3 g).2
      rw [if_pos g, er]
      exact ⟨_, _, _, _, _, _, _, _, rfl, rfl, (goC_CR hn hc B hj g2 b).1, eh⟩
    · rw [if_neg g, er, eh]
      exact ⟨_, c, _, _, _, _, _, _, rfl, rfl, hc, hH⟩
theorem b_kind {n c k : Nat} {here : Nat → Int32} (hn : RG n) (hc : CR n c k) (hH : HD here n c) (hand : Nat → Int32) : ∃ r hand', F_X7_kind (nI c) (nI n) (nI (mskN n)) = some r ∧ F_X8_kind (nI n) (nI k) here hand = some (r, 0, hand') := by
  have hlt := hc.lt hn
  have h4 := hc.2.2
  unfold F_X7_kind F_X8_kind
  rw [ifE0 (a := c) (by omega), ifE0 (a := k) (by omega)]
  by_cases q : k = 0
  · rw [if_pos ((CR_ne hc).mpr q), if_pos q]
    exact ⟨_, _, rfl, rfl⟩
  · rw [if_neg (fun e => q ((CR_ne hc).mp e)), if_neg q, x_kindOf hn hc.1, m_kindNow hn hc.1 hH]
    exact ⟨_, _, rfl, rfl⟩
theorem b_as {n c k : Nat} {here : Nat → Int32} (hn : RG n) (hc : CR n c k) (hH : HD here n c) (a : Int32) (hand : Nat → Int32) : ∃ r hand', F_X7_as a (nI c) (nI n) (nI (mskN n)) = some r ∧ F_X8_as a (nI n) (nI k) here hand = some (r, 0, hand') := by
  have hlt := hc.lt hn
  have h4 := hc.2.2
  have hI := in_lit (a := a) (b := 4) (L := 3) (by decide) (by decide)
  unfold F_X7_as F_X8_as
  rcases ix3 a (b := 4) (by decide) with q | ⟨j, hj, rfl⟩
  · rw [show F_X7_outside a 4 = some 1 from out_out (b := 4) q, hI.1 q]
    (try simp only [Option.bind_some])
    rw [if_neg (by decide), if_pos (by trivial)]
    exact ⟨_, _, rfl, rfl⟩
  · rw [show F_X7_outside (nI j) 4 = some 0 from out_in hj (by decide), hI.2 j hj rfl]
    (try simp only [Option.bind_some])
    rw [if_pos (by trivial), if_neg (show ¬ (1 : Int32) = 0 by decide), ifE0 (a := c) (by omega), ifE0 (a := k) (by omega)]
    by_cases q : k = 0
    · rw [if_pos ((CR_ne hc).mpr q), if_pos q]
      exact ⟨_, _, rfl, rfl⟩
    · have hk3 : knd n c < 4 := by
        rcases knd_cases n c with z | z | z <;> omega
      rw [if_neg (fun e => q ((CR_ne hc).mp e)), if_neg q, x_kindOf hn hc.1, m_kindNow hn hc.1 hH, x_robotsIn hn hc.1, hc.2.1]
      (try simp only [Option.bind_some])
      rw [ifE0 (by omega), ifE0 (by omega), ifEq (by omega) (by omega), ifEq (by omega) (by omega)]
      by_cases j0 : j = 0
      · rw [if_pos j0, if_pos j0]
        exact ⟨_, _, rfl, rfl⟩
      · rw [if_neg j0, if_neg j0]
        by_cases jk : j = knd n c
        · rw [if_pos jk, if_pos jk.symm]
          exact ⟨_, _, rfl, rfl⟩
        · rw [if_neg jk, if_neg (fun e => jk e.symm)]
          exact ⟨_, _, rfl, rfl⟩
theorem b_trace {a : Nat} {bx bm : Nat → Int32} (ha : a ≤ 16) (h : TR a bx bm) (z : Int32) : ∃ r, F_X7_trace z (nI a) bx = some r ∧ F_X8_trace z (nI a) bm = some (r, 0) := by
  unfold F_X7_trace F_X0_traced F_X8_trace
  rcases ix3 z (b := a) (by omega) with q | ⟨j, hj, rfl⟩
  · rw [out_out q, in_out (by omega) q]
    (try simp only [Option.bind_some])
    rw [if_neg (by decide), if_pos (by trivial)]
    exact ⟨_, rfl, rfl⟩
  · rw [out_in hj (by omega), in_in hj (by omega)]
    (try simp only [Option.bind_some])
    rw [if_pos (by trivial), if_neg (show ¬ (1 : Int32) = 0 by decide), show (16 : Int32) = nI 16 from rfl, ifLt (by omega) (by omega), if_pos (by omega), gdT (inbI (by omega) (by omega)), gdT (inbI (by omega) (by omega)), nI_clamp (by omega), h j hj]
    exact ⟨_, rfl, rfl⟩
theorem b_count {n c k t : Nat} {B : BOOK} {here rs rr rd : Nat → Int32} {rules bsize : Int32} {rows : Nat → Int64} {acts : Nat → Int32} (hn : RG n) (hc : CR n c k) (hH : HD here n c) (hX : BKX bsize rows acts B) (hM : BKM rules rs rr rd B) (a : Int32) (hand : Nat → Int32) : ∃ r hand', F_X7_count a (nI c) (nI n) (nI (mskN n)) (nI t) bsize = some r ∧ F_X8_count a (nI n) (nI k) rules (nI t) here hand = some (r, 0, hand') := by
  have hT := hH.take (hand := hand)
  unfold F_X7_count F_X8_count
  rw [m_take, x_robotsIn hn hc.1, hc.2.1, x_takenIn hn hc.1, x_turnsOf hn hc.1, x_mirrorsOf hn hc.1, m_places hn hH]
  (try simp only [Option.bind_some])
  rw [m_same0 hn hc.1 hT, m_same1 hn hc.1 hT, hX.1, hM.1]
  (try simp only [Option.bind_some])
  rcases ix3 a (b := 7) (by decide) with q | ⟨j, hj, rfl⟩
  · rw [show F_X7_outside a 7 = some 1 from out_out (b := 7) q]
    (try simp only [Option.bind_some])
    have hne : ∀ i, i < 7 → ¬ a = nI i := by
      intro i hi e
      subst e
      rcases q with q | q
      · exact absurd q (nI_pos (by omega))
      · exact nI_ge hi (by decide) q
    rw [if_neg (by decide), if_neg (show ¬ a = 0 from hne 0 (by decide)), if_neg (show ¬ a = 1 from hne 1 (by decide)), if_neg (show ¬ a = 2 from hne 2 (by decide)), if_neg (show ¬ a = 3 from hne 3 (by decide)), if_neg (show ¬ a = 4 from hne 4 (by decide)), if_neg (show ¬ a = 5 from hne 5 (by decide)), if_neg (show ¬ a = 6 from hne 6 (by decide))]
    exact ⟨_, _, rfl, rfl⟩
  · rw [show F_X7_outside (nI j) 7 = some 0 from out_in hj (by decide)]
    (try simp only [Option.bind_some])
    rw [if_pos (by trivial)]
    rcases (show j = 0 ∨ j = 1 ∨ j = 2 ∨ j = 3 ∨ j = 4 ∨ j = 5 ∨ j = 6 by omega) with e | e | e | e | e | e | e <;> subst e <;> exact ⟨_, _, rfl, rfl⟩
theorem b_proves {n c k : Nat} {B : BOOK} {here rs rr rd : Nat → Int32} {rules bsize r size nexts : Int32} {rows goals links : Nat → Int64} {acts names linked ups downs next : Nat → Int32} (hn : RG n) (hc : CR n c k) (hH : HD here n c) (hB : BKok B) (hX : BKX bsize rows acts B) (hM : BKM rules rs rr rd B) (hW : WSt n B r size names goals links linked) (w g what vd crowds : Int32) (hand view up down name crowd isStep isGoal isMet most stands does from_ : Nat → Int32) : ∃ a r' size' nexts' names' goals' links' linked' ups' downs' next' vd' crowds' hand' view' up' down' name' crowd' isStep' isGoal' isMet' most' stands' does' from', F_X7_proves w g what (nI c) (nI n) (nI (mskN n)) r size nexts bsize names goals links linked ups downs next rows acts = some (a, r', size', nexts', names', goals', links', linked', ups', downs', next') ∧ F_X8_proves w g what (nI n) (nI k) vd rules crowds here hand view up down rs rr rd name crowd isStep isGoal isMet most stands does from_ = some (a, 0, vd', crowds', hand', view', up', down', name', crowd', isStep', isGoal', isMet', most', stands', does', from') ∧ WSt n B r' size' names' goals' links' linked' := by
  have hlt := hc.lt hn
  have h4 := hc.2.2
  have bad : ∀ q : Int32, (F_X7_proves w g what (nI c) (nI n) (nI (mskN n)) r size nexts bsize names goals links linked ups downs next rows acts = some (q, r, size, nexts, names, goals, links, linked, ups, downs, next)) → (F_X8_proves w g what (nI n) (nI k) vd rules crowds here hand view up down rs rr rd name crowd isStep isGoal isMet most stands does from_ = some (q, 0, vd, crowds, hand, view, up, down, name, crowd, isStep, isGoal, isMet, most, stands, does, from_)) → ∃ a r' size' nexts' names' goals' links' linked' ups' downs' next' vd' crowds' hand' view' up' down' name' crowd' isStep' isGoal' isMet' most' stands' does' from', F_X7_proves w g what (nI c) (nI n) (nI (mskN n)) r size nexts bsize names goals links linked ups downs next rows acts = some (a, r', size', nexts', names', goals', links', linked', ups', downs', next') ∧ F_X8_proves w g what (nI n) (nI k) vd rules crowds here hand view up down rs rr rd name crowd isStep isGoal isMet most stands does from_ = some (a, 0, vd', crowds', hand', view', up', down', name', crowd', isStep', isGoal', isMet', most', stands', does', from') ∧ WSt n B r' size' names' goals' links' linked' := by
    intro q e1 e2
    exact ⟨q, _, _, _, _, _, _, _, _, _, _, _, _, _, _, _, _, _, _, _, _, _, _, _, _, _, e1, e2, hW⟩
  have hI1 := in_lit (a := w) (b := 3) (L := 2) (by decide) (by decide)
  have hI2 := in_lit (a := g) (b := 3) (L := 2) (by decide) (by decide)
  have hI3 := in_lit (a := what) (b := 5) (L := 4) (by decide) (by decide)
  rcases ix3 w (b := 3) (by decide) with q | ⟨w, hw, rfl⟩
  · apply bad (-1000001)
    · unfold F_X7_proves
      rw [show F_X7_outside w 3 = some 1 from out_out (b := 3) q]
      (try simp only [Option.bind_some])
      rw [if_neg (by decide)]
    · unfold F_X8_proves
      rw [hI1.1 q]
      (try simp only [Option.bind_some])
      rw [if_pos (by trivial)]
  · rcases ix3 g (b := 3) (by decide) with q | ⟨g, hg, rfl⟩
    · apply bad (-1000001)
      · unfold F_X7_proves
        rw [show F_X7_outside (nI w) 3 = some 0 from out_in hw (by decide), show F_X7_outside g 3 = some 1 from out_out (b := 3) q]
        (try simp only [Option.bind_some])
        rw [if_pos (by trivial), if_neg (by decide)]
      · unfold F_X8_proves
        rw [hI1.2 w hw rfl, hI2.1 q]
        (try simp only [Option.bind_some])
        rw [if_neg (by decide), if_pos (by trivial)]
    · rcases ix3 what (b := 5) (by decide) with q | ⟨what, h5, rfl⟩
      · apply bad (-1000001)
        · unfold F_X7_proves
          rw [show F_X7_outside (nI w) 3 = some 0 from out_in hw (by decide), show F_X7_outside (nI g) 3 = some 0 from out_in hg (by decide), show F_X7_outside what 5 = some 1 from out_out (b := 5) q]
          (try simp only [Option.bind_some])
          rw [if_pos (by trivial), if_pos (by trivial), if_neg (by decide)]
        · unfold F_X8_proves
          rw [hI1.2 w hw rfl, hI2.2 g hg rfl, hI3.1 q]
          (try simp only [Option.bind_some])
          rw [if_neg (by decide), if_neg (by decide), if_pos (by trivial)]
      · by_cases k0 : k = 0
        · apply bad (-1000002)
          · unfold F_X7_proves
            rw [show F_X7_outside (nI w) 3 = some 0 from out_in hw (by decide), show F_X7_outside (nI g) 3 = some 0 from out_in hg (by decide), show F_X7_outside (nI what) 5 = some 0 from out_in h5 (by decide)]
            (try simp only [Option.bind_some])
            rw [if_pos (by trivial), if_pos (by trivial), if_pos (by trivial), ifE0 (by omega), if_pos ((CR_ne hc).mpr k0)]
          · unfold F_X8_proves
            rw [hI1.2 w hw rfl, hI2.2 g hg rfl, hI3.2 what h5 rfl]
            (try simp only [Option.bind_some])
            rw [if_neg (by decide), if_neg (by decide), if_neg (by decide), ifE0 (by omega), if_pos k0]
        · obtain ⟨a, a1, a2, a3, a4, a5, a6, a7, a8, a9, a10, e1, e2, e3⟩ := x_proves (nexts := nexts) (ups := ups) (downs := downs) (next := next) hn hc k0 hB hX hW hw hg h5
          obtain ⟨b, b1, b2, b3, b4, b5, b6, b7, b8, b9, b10, b11, b12, b13, b14, b15, f1, f2⟩ := m_proves (vd := vd) (crowds := crowds) hn hc k0 hH hB hM hw hg h5 hand view up down name crowd isStep isGoal isMet most stands does from_
          rw [PA_u f2 e2] at f1
          exact ⟨a, _, _, _, _, _, _, _, _, _, _, _, _, _, _, _, _, _, _, _, _, _, _, _, _, _, e1, f1, e3⟩
theorem b_starts {n c k : Nat} {B : BOOK} {rs rr rd : Nat → Int32} {rules bsize r size nexts : Int32} {rows goals links : Nat → Int64} {acts names linked ups downs next : Nat → Int32} (hn : RG n) (hc : CR n c k) (hB : BKok B) (hX : BKX bsize rows acts B) (hM : BKM rules rs rr rd B) (hW : WSt n B r size names goals links linked) (w g what vd crowds : Int32) (hand view up down name crowd isStep isGoal most stands does from_ : Nat → Int32) : ∃ a r' size' nexts' names' goals' links' linked' ups' downs' next' vd' crowds' hand' view' up' down' name' crowd' isStep' isGoal' most' stands' does' from', F_X7_starts w g what (nI c) (nI n) (nI (mskN n)) r size nexts bsize names goals links linked ups downs next rows acts = some (a, r', size', nexts', names', goals', links', linked', ups', downs', next') ∧ F_X8_starts w g what (nI n) (nI k) vd rules crowds hand view up down rs rr rd name crowd isStep isGoal most stands does from_ = some (a, 0, vd', crowds', hand', view', up', down', name', crowd', isStep', isGoal', most', stands', does', from') ∧ WSt n B r' size' names' goals' links' linked' := by
  have hlt := hc.lt hn
  have h4 := hc.2.2
  have bad : ∀ q : Int32, (F_X7_starts w g what (nI c) (nI n) (nI (mskN n)) r size nexts bsize names goals links linked ups downs next rows acts = some (q, r, size, nexts, names, goals, links, linked, ups, downs, next)) → (F_X8_starts w g what (nI n) (nI k) vd rules crowds hand view up down rs rr rd name crowd isStep isGoal most stands does from_ = some (q, 0, vd, crowds, hand, view, up, down, name, crowd, isStep, isGoal, most, stands, does, from_)) → ∃ a r' size' nexts' names' goals' links' linked' ups' downs' next' vd' crowds' hand' view' up' down' name' crowd' isStep' isGoal' most' stands' does' from', F_X7_starts w g what (nI c) (nI n) (nI (mskN n)) r size nexts bsize names goals links linked ups downs next rows acts = some (a, r', size', nexts', names', goals', links', linked', ups', downs', next') ∧ F_X8_starts w g what (nI n) (nI k) vd rules crowds hand view up down rs rr rd name crowd isStep isGoal most stands does from_ = some (a, 0, vd', crowds', hand', view', up', down', name', crowd', isStep', isGoal', most', stands', does', from') ∧ WSt n B r' size' names' goals' links' linked' := by
    intro q e1 e2
    exact ⟨q, _, _, _, _, _, _, _, _, _, _, _, _, _, _, _, _, _, _, _, _, _, _, _, _, e1, e2, hW⟩
  have hI1 := in_lit (a := w) (b := 3) (L := 2) (by decide) (by decide)
  have hI2 := in_lit (a := g) (b := 3) (L := 2) (by decide) (by decide)
  have hI3 := in_lit (a := what) (b := 2) (L := 1) (by decide) (by decide)
  rcases ix3 w (b := 3) (by decide) with q | ⟨w, hw, rfl⟩
  · apply bad (-1000001)
    · unfold F_X7_starts
      rw [show F_X7_outside w 3 = some 1 from out_out (b := 3) q]
      (try simp only [Option.bind_some])
      rw [if_neg (by decide)]
    · unfold F_X8_starts
      rw [hI1.1 q]
      (try simp only [Option.bind_some])
      rw [if_pos (by trivial)]
  · rcases ix3 g (b := 3) (by decide) with q | ⟨g, hg, rfl⟩
    · apply bad (-1000001)
      · unfold F_X7_starts
        rw [show F_X7_outside (nI w) 3 = some 0 from out_in hw (by decide), show F_X7_outside g 3 = some 1 from out_out (b := 3) q]
        (try simp only [Option.bind_some])
        rw [if_pos (by trivial), if_neg (by decide)]
      · unfold F_X8_starts
        rw [hI1.2 w hw rfl, hI2.1 q]
        (try simp only [Option.bind_some])
        rw [if_neg (by decide), if_pos (by trivial)]
    · rcases ix3 what (b := 2) (by decide) with q | ⟨what, h5, rfl⟩
      · apply bad (-1000001)
        · unfold F_X7_starts
          rw [show F_X7_outside (nI w) 3 = some 0 from out_in hw (by decide), show F_X7_outside (nI g) 3 = some 0 from out_in hg (by decide), show F_X7_outside what 2 = some 1 from out_out (b := 2) q]
          (try simp only [Option.bind_some])
          rw [if_pos (by trivial), if_pos (by trivial), if_neg (by decide)]
        · unfold F_X8_starts
          rw [hI1.2 w hw rfl, hI2.2 g hg rfl, hI3.1 q]
          (try simp only [Option.bind_some])
          rw [if_neg (by decide), if_neg (by decide), if_pos (by trivial)]
      · by_cases k0 : k = 0
        · apply bad (-1000002)
          · unfold F_X7_starts
            rw [show F_X7_outside (nI w) 3 = some 0 from out_in hw (by decide), show F_X7_outside (nI g) 3 = some 0 from out_in hg (by decide), show F_X7_outside (nI what) 2 = some 0 from out_in h5 (by decide)]
            (try simp only [Option.bind_some])
            rw [if_pos (by trivial), if_pos (by trivial), if_pos (by trivial), ifE0 (by omega), if_pos ((CR_ne hc).mpr k0)]
          · unfold F_X8_starts
            rw [hI1.2 w hw rfl, hI2.2 g hg rfl, hI3.2 what h5 rfl]
            (try simp only [Option.bind_some])
            rw [if_neg (by decide), if_neg (by decide), if_neg (by decide), ifE0 (by omega), if_pos k0]
        · obtain ⟨a1, a2, a3, a4, a5, a6, a7, a8, a9, a10, e1, e3⟩ := x_starts (nexts := nexts) (ups := ups) (downs := downs) (next := next) hn hc k0 hB hX hW hw hg h5
          obtain ⟨b1, b2, b3, b4, b5, b6, b7, b8, b9, b10, b11, b12, b13, b14, f1⟩ := m_starts (vd := vd) (crowds := crowds) hn hc k0 hB hM hw hg h5 hand view up down name crowd isStep isGoal most stands does from_
          exact ⟨_, _, _, _, _, _, _, _, _, _, _, _, _, _, _, _, _, _, _, _, _, _, _, _, _, e1, f1, e3⟩
theorem WSt_forget {n : Nat} {B B' : BOOK} {r size : Int32} {names linked linked' : Nat → Int32} {goals links : Nat → Int64} (h : WSt n B r size names goals links linked) (hl : ∀ i, i < 3 → linked' i = 0) : WSt n B' r size names goals links linked' := by
  rcases h with ⟨a, _⟩ | ⟨k, a1, a4, a, b, _⟩
  · exact Or.inl ⟨a, hl⟩
  · exact Or.inr ⟨k, a1, a4, a, b, fun w hw => Or.inl (hl w hw)⟩
