/-! proves and starts of the class -/
def WSt (n : Nat) (B : BOOK) (r size : Int32) (names : Nat → Int32) (goals links : Nat → Int64) (linked : Nat → Int32) : Prop := (r = 0 ∧ ∀ w, w < 3 → linked w = 0) ∨ ∃ k, 1 ≤ k ∧ k ≤ 4 ∧ r = nI k ∧ WG n k size names goals ∧ LD n k B links linked
theorem x_gatherFor {n k : Nat} {B : BOOK} {r size : Int32} {names linked : Nat → Int32} {goals links : Nat → Int64} (hn : RG n) (h1 : 1 ≤ k) (h4 : k ≤ 4) (hW : WSt n B r size names goals links linked) : ∃ names' goals' linked', F_X6_gatherFor (nI k) (nI n) (nI (mskN n)) r size names goals linked = some (nI k, nI (GL n k).length, names', goals', linked') ∧ WG n k (nI (GL n k).length) names' goals' ∧ LD n k B links linked' := by
  by_cases q : r = nI k
  · rcases hW with ⟨h, _⟩ | ⟨k', a1, a4, a, b, d⟩
    · rw [q] at h
      exact absurd h (by
        rw [show (0 : Int32) = nI 0 from rfl]
        intro z
        have := (nI_eq (by omega) (by omega)).mp z
        omega)
    · have e : k' = k := (nI_eq (by omega) (by omega)).mp (a.symm.trans q)
      subst e
      have es : size = nI (GL n k').length := b.1.1
      unfold F_X6_gatherFor
      rw [if_pos q, q]
      subst es
      exact ⟨names, goals, linked, rfl, b, d⟩
  · obtain ⟨names', goals', linked', a, b, d⟩ := x_gatherNew (size := size) (names := names) (linked := linked) (goals := goals) hn h1 h4 q
    exact ⟨names', goals', linked', a, b, fun w hw => Or.inl (d w hw)⟩
theorem ST_clo {n k w : Nat} {B : BOOK} (hn : RG n) (h1 : 1 ≤ k) (h4 : k ≤ 4) : CLO (GL n k) (ST n B w) := by
  obtain ⟨g1, g2, g3, g4⟩ := GLok hn h1 h4
  rintro x hx y ⟨c, h, e⟩
  rw [e]
  exact g4 c (NX_CR hn (RB_ok (g3 x hx).1 B) h)
theorem TB_of {n k w : Nat} {B : BOOK} {links : Nat → Int64} (hn : RG n) (h1 : 1 ≤ k) (h4 : k ≤ 4) (hL : LK n k B w links) : TB (GL n k) w links (ST n B w) := by
  obtain ⟨g1, g2, g3, g4⟩ := GLok hn h1 h4
  exact ⟨g1, g2, ST_clo hn h1 h4, hL⟩
def GP (n k g : Nat) (y : Nat) : Prop := gl n y g k = true
/-- the answer of proves -/
def PA (n k : Nat) (B : BOOK) (w g what c : Nat) (r : Int32) : Prop := ∃ m, MOST (ST n B w) (GP n k g) (NM n c) m ∧ r = if what = 0 then (if m = -1000000 then 0 else 1) else if what = 4 then m else nI (cN (GL n k) (CNT (ST n B w) (GP n k g) (RR (ST n B w) (GP n k g) (NM n c)) what))
theorem MOST_u {S : Nat → Nat → Prop} {G : Nat → Prop} {x : Nat} {r r' : Int32} (h : MOST S G x r) (h' : MOST S G x r') : r = r' := by
  rcases h with ⟨s, _, a, b, e⟩ | ⟨a, e⟩
  · rcases h' with ⟨s', _, a', b', e'⟩ | ⟨a', e'⟩
    · have : s = s' := by
        rcases Nat.lt_trichotomy s s' with q | q | q
        · exact absurd a (b' s q)
        · exact q
        · exact absurd a' (b s' q)
      rw [e, e', this]
    · exact absurd ⟨s, a⟩ a'
  · rcases h' with ⟨s', _, a', b', e'⟩ | ⟨a', e'⟩
    · exact absurd ⟨s', a'⟩ a
    · rw [e, e']
theorem PA_u {n k : Nat} {B : BOOK} {w g what c : Nat} {r r' : Int32} (h : PA n k B w g what c r) (h' : PA n k B w g what c r') : r = r' := by
  obtain ⟨m, a, e⟩ := h
  obtain ⟨m', a', e'⟩ := h'
  rw [e, e', MOST_u a a']
theorem CR_ne {n c k : Nat} (hc : CR n c k) : c = 0 ↔ k = 0 := by
  constructor
  · intro e
    subst e
    rw [← hc.2.1]
    refine sm_zero (fun i _ => ?_)
    unfold dg
    simp
  · intro e
    rw [← pkR_dg hc.1]
    have hz : ∀ x, x < n → dg n c x = 0 := fun x hx => by
      have := sm_le (h := dg n c) hx
      rw [hc.2.1, e] at this
      omega
    rw [pkR_congr (k := fun _ => 0) hz]
    have : ∀ m, pkR (fun _ => 0) m = 0 := fun m => by
      induction m with
      | zero => rfl
      | succ m ih =>
        show pkR (fun _ => 0) m * 8 + 0 = 0
        rw [ih]
    exact this n
theorem x_proves {n c k w g what : Nat} {B : BOOK} {r size nexts bsize : Int32} {names linked ups downs next acts : Nat → Int32} {goals links rows : Nat → Int64} (hn : RG n) (hc : CR n c k) (hk : k ≠ 0) (hB : BKok B) (hX : BKX bsize rows acts B) (hW : WSt n B r size names goals links linked) (hw : w < 3) (hg : g < 3) (h5 : what < 5) : ∃ a r' size' nexts' names' goals' links' linked' ups' downs' next', F_X7_proves (nI w) (nI g) (nI what) (nI c) (nI n) (nI (mskN n)) r size nexts bsize names goals links linked ups downs next rows acts = some (a, r', size', nexts', names', goals', links', linked', ups', downs', next') ∧ PA n k B w g what c a ∧ WSt n B r' size' names' goals' links' linked' := by
  have h4 := hc.2.2
  have h1 : 1 ≤ k := by omega
  have hlt := hc.lt hn
  have hc0 : c ≠ 0 := fun e => hk ((CR_ne hc).mp e)
  unfold F_X7_proves
  rw [show (3 : Int32) = nI 3 from rfl, show (5 : Int32) = nI 5 from rfl, out_in hw (by omega), out_in hg (by omega), out_in h5 (by omega)]
  (try simp only [Option.bind_some])
  rw [if_pos (by trivial), if_pos (by trivial), if_pos (by trivial), ifE0 (by omega), if_neg hc0, x_robotsIn hn hc.1, hc.2.1]
  (try simp only [Option.bind_some])
  obtain ⟨names', goals', linked', a1, a2, a3⟩ := x_gatherFor hn h1 h4 hW
  rw [a1]
  (try simp only [Option.bind_some])
  obtain ⟨nexts2, links2, linked2, ups2, downs2, next2, b1, b2, b3⟩ := x_linkBy (nexts := nexts) (ups := ups) (downs := downs) (next := next) hn h1 h4 hw hB hX a2.1 a3
  rw [b1]
  (try simp only [Option.bind_some])
  obtain ⟨j, j1, j2, j3⟩ := x_numberOf hn h1 h4 a2.1 hc
  rw [j3]
  (try simp only [Option.bind_some])
  have hT := TB_of hn h1 h4 b3
  have hG : BS (GL n k) (goals' g) (GP n k g) := a2.2 g hg
  obtain ⟨m, m1, m2⟩ := x_most hw hg hT hG j1
  rw [j2] at m2
  have hS : WSt n B (nI k) (nI (GL n k).length) names' goals' links2 linked2 := Or.inr ⟨k, h1, h4, rfl, a2, b2⟩
  rw [ifE0 (by omega), show (4 : Int32) = nI 4 from rfl, ifEq (by omega) (by omega)]
  by_cases q0 : what = 0
  · rw [if_pos q0, m1]
    (try simp only [Option.bind_some])
    by_cases z : m = -1000000
    · rw [if_pos z]
      exact ⟨_, _, _, _, _, _, _, _, _, _, _, rfl, ⟨m, m2, by rw [if_pos q0, if_pos z]⟩, hS⟩
    · rw [if_neg z]
      exact ⟨_, _, _, _, _, _, _, _, _, _, _, rfl, ⟨m, m2, by rw [if_pos q0, if_neg z]⟩, hS⟩
  · rw [if_neg q0]
    by_cases q4 : what = 4
    · rw [if_pos q4, m1]
      (try simp only [Option.bind_some])
      exact ⟨_, _, _, _, _, _, _, _, _, _, _, rfl, ⟨m, m2, by rw [if_neg q0, if_pos q4]⟩, hS⟩
    · rw [if_neg q4]
      obtain ⟨rr, r1, r2⟩ := x_reach hw hg hT hG j1
      rw [r1]
      (try simp only [Option.bind_some])
      rw [x_count hw hg hT hG r2 (by omega) (by omega)]
      (try simp only [Option.bind_some])
      exact ⟨_, _, _, _, _, _, _, _, _, _, _, rfl, ⟨m, m2, by rw [if_neg q0, if_neg q4, j2]⟩, hS⟩
/-- the answer of starts -/
noncomputable def SA (n k : Nat) (B : BOOK) (w g what : Nat) : Int32 := if what = 0 then nI (GL n k).length else nI (cN (GL n k) (WK (ST n B w) (GP n k g)))
theorem x_starts {n c k w g what : Nat} {B : BOOK} {r size nexts bsize : Int32} {names linked ups downs next acts : Nat → Int32} {goals links rows : Nat → Int64} (hn : RG n) (hc : CR n c k) (hk : k ≠ 0) (hB : BKok B) (hX : BKX bsize rows acts B) (hW : WSt n B r size names goals links linked) (hw : w < 3) (hg : g < 3) (h5 : what < 2) : ∃ r' size' nexts' names' goals' links' linked' ups' downs' next', F_X7_starts (nI w) (nI g) (nI what) (nI c) (nI n) (nI (mskN n)) r size nexts bsize names goals links linked ups downs next rows acts = some (SA n k B w g what, r', size', nexts', names', goals', links', linked', ups', downs', next') ∧ WSt n B r' size' names' goals' links' linked' := by
  have h4 := hc.2.2
  have h1 : 1 ≤ k := by omega
  have hlt := hc.lt hn
  have hc0 : c ≠ 0 := fun e => hk ((CR_ne hc).mp e)
  unfold F_X7_starts
  rw [show (3 : Int32) = nI 3 from rfl, show (2 : Int32) = nI 2 from rfl, out_in hw (by omega), out_in hg (by omega), out_in h5 (by omega)]
  (try simp only [Option.bind_some])
  rw [if_pos (by trivial), if_pos (by trivial), if_pos (by trivial), ifE0 (by omega), if_neg hc0, x_robotsIn hn hc.1, hc.2.1]
  (try simp only [Option.bind_some])
  obtain ⟨names', goals', linked', a1, a2, a3⟩ := x_gatherFor hn h1 h4 hW
  rw [a1]
  (try simp only [Option.bind_some])
  rw [ifE0 (by omega)]
  unfold SA
  by_cases q0 : what = 0
  · rw [if_pos q0, if_pos q0]
    exact ⟨_, _, _, _, _, _, _, _, _, _, rfl, Or.inr ⟨k, h1, h4, rfl, a2, a3⟩⟩
  · rw [if_neg q0, if_neg q0]
    obtain ⟨nexts2, links2, linked2, ups2, downs2, next2, b1, b2, b3⟩ := x_linkBy (nexts := nexts) (ups := ups) (downs := downs) (next := next) hn h1 h4 hw hB hX a2.1 a3
    rw [b1]
    (try simp only [Option.bind_some])
    have hT := TB_of hn h1 h4 b3
    have hG : BS (GL n k) (goals' g) (GP n k g) := a2.2 g hg
    obtain ⟨rr, r1, r2⟩ := x_working hw hg hT hG
    rw [r1]
    (try simp only [Option.bind_some])
    rw [x_bits, BS_cN hT.1 r2]
    (try simp only [Option.bind_some])
    exact ⟨_, _, _, _, _, _, _, _, _, _, rfl, Or.inr ⟨k, h1, h4, rfl, a2, b2⟩⟩
