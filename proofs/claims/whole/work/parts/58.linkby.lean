/-! numbersOfNext, linkBy -/
theorem numN_L {n k : Nat} {size : Int32} {names next : Nat → Int32} {Ls : List Nat} (hn : RG n) (h1 : 1 ≤ k) (h4 : k ≤ 4) (hW : WN n k size names) (hN : NA next Ls) (hL : ∀ y, y ∈ Ls → CR n y k) (h81 : Ls.length ≤ 81) : ∀ (e i f : Nat) (l : Int64), i + e = Ls.length → e < f → BS (GL n k) l (fun y => ∃ c, c ∈ Ls.take i ∧ y = NM n c) → ∃ l', F_X6_numbersOfNext_L1 (nI n) (nI (mskN n)) size (nI Ls.length) names next f l (nI i) = some l' ∧ BS (GL n k) l' (fun y => ∃ c, c ∈ Ls ∧ y = NM n c)
  | 0, i, f + 1, l, hi, _, hb => by
    rw [F_X6_numbersOfNext_L1.eq_2, if_pos (nI_le (by omega) (by omega))]
    rw [List.take_of_length_le (by omega)] at hb
    exact ⟨l, rfl, hb⟩
  | e + 1, i, f + 1, l, hi, hf, hb => by
    obtain ⟨g1, g2, g3, g4⟩ := GLok hn h1 h4
    have hi2 : i < Ls.length := by omega
    obtain ⟨j, j1, j2, j3⟩ := x_numberOf hn h1 h4 hW (hL _ (getD_mem hi2))
    rw [F_X6_numbersOfNext_L1.eq_2, if_neg (nI_ge (by omega) (by omega)), show (81 : Int32) = nI 81 from rfl, ifLe (by omega) (by omega), if_neg (by omega), gdT (inbI (by omega) (by omega)), nI_clamp (by omega), hN i hi2, j3]
    (try simp only [Option.bind_some])
    rw [nI_1]
    refine numN_L hn h1 h4 hW hN hL h81 e (i + 1) f _ (by omega) (by omega) (fun q hq => ?_)
    rw [bt_or, Bool.or_eq_true, bt_1 j (by omega) q hq, decide_eq_true_iff, hb q hq, take_s hi2]
    constructor
    · rintro (⟨a, c, b, d⟩ | a)
      · exact ⟨a, c, List.mem_append_left _ b, d⟩
      · subst a
        exact ⟨j1, _, List.mem_append_right _ (List.mem_singleton.mpr rfl), j2⟩
    · rintro ⟨a, c, b, d⟩
      rcases List.mem_append.mp b with b | b
      · exact Or.inl ⟨a, c, b, d⟩
      · right
        rw [List.mem_singleton.mp b, ← j2] at d
        exact nd_inj g2 a j1 d
theorem x_numN {n k : Nat} {size : Int32} {names next : Nat → Int32} {Ls : List Nat} (hn : RG n) (h1 : 1 ≤ k) (h4 : k ≤ 4) (hW : WN n k size names) (hN : NA next Ls) (hL : ∀ y, y ∈ Ls → CR n y k) (h81 : Ls.length ≤ 81) : ∃ l', F_X6_numbersOfNext (nI n) (nI (mskN n)) size (nI Ls.length) names next = some l' ∧ BS (GL n k) l' (fun y => ∃ c, c ∈ Ls ∧ y = NM n c) := by
  obtain ⟨l, a, b⟩ := numN_L hn h1 h4 hW hN hL h81 Ls.length 0 FU 0 (by omega) (by unfold FU; omega) (fun q hq => by
    rw [bt_0]
    simp)
  unfold F_X6_numbersOfNext
  rw [show nI 0 = (0 : Int32) from rfl] at a
  rw [a]
  exact ⟨l, rfl, b⟩
theorem BS_congr {N : List Nat} {L : Int64} {P Q : Nat → Prop} (h : BS N L P) (e : ∀ y, P y ↔ Q y) : BS N L Q := fun i hi => by rw [h i hi, e]
theorem x_setLinks {w i : Nat} (hw : w < 3) (hi : i < 64) (l : Int64) (links : Nat → Int64) : F_X6_setLinks (nI w) (nI i) l links = some (vp_updL links (w * 64 + i) l) := by
  unfold F_X6_setLinks
  rw [show (64 : Int32) = nI 64 from rfl, q_mul, q_add, show (192 : Int32) = nI 192 from rfl]
  (try simp only [Option.bind_some])
  rw [out_in (by omega) (by omega)]
  (try simp only [Option.bind_some])
  rw [if_pos (by trivial), gdT (inbI (by omega) (by omega)), nI_clamp (by omega)]
theorem x_linksOf {w i : Nat} (hw : w < 3) (hi : i < 64) (links : Nat → Int64) : F_X6_linksOf (nI w) (nI i) links = some (links (w * 64 + i)) := by
  unfold F_X6_linksOf
  rw [show (64 : Int32) = nI 64 from rfl, q_mul, q_add, show (192 : Int32) = nI 192 from rfl]
  (try simp only [Option.bind_some])
  rw [out_in (by omega) (by omega)]
  (try simp only [Option.bind_some])
  rw [if_pos (by trivial), gdT (inbI (by omega) (by omega)), nI_clamp (by omega)]
/-- the links of a waking stand, the first m -/
def LKm (n k : Nat) (B : BOOK) (w : Nat) (links : Nat → Int64) (m : Nat) : Prop := ∀ i, i < m → BS (GL n k) (links (w * 64 + i)) (fun y => ST n B w ((GL n k).getD i 0) y)
def LK (n k : Nat) (B : BOOK) (w : Nat) (links : Nat → Int64) : Prop := LKm n k B w links (GL n k).length
theorem link_L4 {n k w : Nat} {B : BOOK} {bsize size : Int32} {names acts : Nat → Int32} {rows : Nat → Int64} (hn : RG n) (h1 : 1 ≤ k) (h4 : k ≤ 4) (hw : w < 3) (hB : BKok B) (hX : BKX bsize rows acts B) (hW : WN n k size names) : ∀ (e i f : Nat) (nexts : Int32) (links : Nat → Int64) (ups downs next : Nat → Int32), i + e = (GL n k).length → e < f → LKm n k B w links i → ∃ nexts' links' ups' downs' next', F_X6_linkBy_L4 (nI w) (nI n) (nI (mskN n)) size bsize names rows acts f (nI i) nexts links ups downs next = some (nexts', links', ups', downs', next') ∧ LK n k B w links' ∧ ∀ w' j, w' ≠ w → j < 64 → links' (w' * 64 + j) = links (w' * 64 + j)
  | 0, i, f + 1, nexts, links, ups, downs, next, hi, _, hL => by
    obtain ⟨g1, g2, g3, g4⟩ := GLok hn h1 h4
    rw [F_X6_linkBy_L4.eq_2, hW.1, if_pos (nI_le (by omega) (by omega))]
    refine ⟨nexts, links, ups, downs, next, rfl, ?_, fun _ _ _ _ => rfl⟩
    unfold LK
    rw [show (GL n k).length = i by omega]
    exact hL
  | e + 1, i, f + 1, nexts, links, ups, downs, next, hi, hf, hL => by
    obtain ⟨g1, g2, g3, g4⟩ := GLok hn h1 h4
    have hi2 : i < (GL n k).length := by omega
    obtain ⟨c1, c2⟩ := g3 _ (getD_mem hi2)
    obtain ⟨u, d, m1, m2⟩ := x_findMoves hn c1 hB hX ups downs
    rw [F_X6_linkBy_L4.eq_2, hW.1, if_neg (nI_ge (by omega) (by omega)), show (64 : Int32) = nI 64 from rfl, ifLe (by omega) (by omega), if_neg (by omega), gdT (inbI (by omega) (by omega)), nI_clamp (by omega), hW.2 i hi2, m1]
    (try simp only [Option.bind_some])
    rw [gdT (inbI (by omega) (by omega)), gdT (inbI (by omega) (by omega))]
    have go : ∀ (Ls : List Nat) (next' : Nat → Int32), NA next' Ls → Ls.length ≤ 81 → (∀ y, y ∈ Ls ↔ NX n (RB n B ((GL n k).getD i 0)) w ((GL n k).getD i 0) y) → ∃ nexts' links' ups' downs' next'', (Option.bind (F_X6_numbersOfNext (nI n) (nI (mskN n)) (nI (GL n k).length) (nI Ls.length) names next') fun p14 => Option.bind (F_X6_setLinks (nI w) (nI i) p14 links) fun p15 => F_X6_linkBy_L4 (nI w) (nI n) (nI (mskN n)) (nI (GL n k).length) bsize names rows acts f (nI i + 1) (nI Ls.length) p15 u d next') = some (nexts', links', ups', downs', next'') ∧ LK n k B w links' ∧ ∀ w' j, w' ≠ w → j < 64 → links' (w' * 64 + j) = links (w' * 64 + j) := by
      intro Ls next' hN h81 hy
      obtain ⟨l, a, b⟩ := x_numN hn h1 h4 hW hN (fun y hy2 => NX_CR hn (RB_ok c1 B) ((hy y).mp hy2)) h81
      rw [hW.1] at a
      rw [a]
      (try simp only [Option.bind_some])
      rw [x_setLinks hw (by omega)]
      (try simp only [Option.bind_some])
      rw [nI_1]
      obtain ⟨a1, a2, a3, a4, a5, r1, r2, r3⟩ := link_L4 hn h1 h4 hw hB hX hW e (i + 1) f (nI Ls.length) (vp_updL links (w * 64 + i) l) u d next' (by omega) (by omega) (fun j hj => by
        by_cases q : j = i
        · subst q
          rw [pk_uLs]
          refine BS_congr b (fun y => ?_)
          unfold ST
          constructor
          · rintro ⟨c, p, q⟩
            exact ⟨c, (hy c).mp p, q⟩
          · rintro ⟨c, p, q⟩
            exact ⟨c, (hy c).mpr p, q⟩
        · rw [pk_uLn (by omega)]
          exact hL j (by omega))
      rw [hW.1] at r1
      refine ⟨a1, a2, a3, a4, a5, r1, r2, fun w' j hw' hj => ?_⟩
      rw [r3 w' j hw' hj, pk_uLn (by omega)]
    by_cases q1 : w = 1
    · subst q1
      rw [if_pos (by rfl)]
      obtain ⟨nx, b1, b2, b3⟩ := x_wakeOne (B := B) (next := next) hn c1 m2
      rw [b1]
      (try simp only [Option.bind_some])
      exact go _ nx b2 b3 (fun y => WO_NX)
    · rw [show (1 : Int32) = nI 1 from rfl, ifEq (by omega) (by omega), if_neg q1]
      by_cases q0 : w = 0
      · subst q0
        rw [show (if nI 0 = 0 then some (nI 1) else some (0 : Int32)) = some (zz true) from rfl]
        (try simp only [Option.bind_some])
        obtain ⟨nx, b1, b2, b3⟩ := x_wakeSome (B := B) (next := next) true hn c1 m2
        rw [b1]
        (try simp only [Option.bind_some])
        exact go _ nx b2 b3 (fun y => WL_NX hn true)
      · have e2 : w = 2 := by omega
        subst e2
        rw [show (if nI 2 = 0 then some (nI 1) else some (0 : Int32)) = some (zz false) from rfl]
        (try simp only [Option.bind_some])
        obtain ⟨nx, b1, b2, b3⟩ := x_wakeSome (B := B) (next := next) false hn c1 m2
        rw [b1]
        (try simp only [Option.bind_some])
        exact go _ nx b2 b3 (fun y => WL_NX hn false)
/-- what the class has linked -/
def LD (n k : Nat) (B : BOOK) (links : Nat → Int64) (linked : Nat → Int32) : Prop := ∀ w, w < 3 → linked w = 0 ∨ (linked w = 1 ∧ LK n k B w links)
theorem x_linkBy {n k w : Nat} {B : BOOK} {bsize size nexts : Int32} {names acts ups downs next linked : Nat → Int32} {rows links : Nat → Int64} (hn : RG n) (h1 : 1 ≤ k) (h4 : k ≤ 4) (hw : w < 3) (hB : BKok B) (hX : BKX bsize rows acts B) (hW : WN n k size names) (hL : LD n k B links linked) : ∃ nexts' links' linked' ups' downs' next', F_X6_linkBy (nI w) (nI n) (nI (mskN n)) size nexts bsize names links linked ups downs next rows acts = some (nexts', links', linked', ups', downs', next') ∧ LD n k B links' linked' ∧ LK n k B w links' := by
  obtain ⟨g1, g2, g3, g4⟩ := GLok hn h1 h4
  unfold F_X6_linkBy
  rw [show (3 : Int32) = nI 3 from rfl, out_in hw (by omega)]
  (try simp only [Option.bind_some])
  rw [if_pos (by trivial), gdT (inbI (by omega) (by omega)), nI_clamp (by omega)]
  rcases hL w hw with q | ⟨q, hk⟩
  · rw [if_pos q, gdT (inbI (by omega) (by omega))]
    obtain ⟨a1, a2, a3, a4, a5, r1, r2, r3⟩ := link_L4 hn h1 h4 hw hB hX hW (GL n k).length 0 FU nexts links ups downs next (by omega) (by unfold FU; omega) (fun i hi => absurd hi (by omega))
    rw [show nI 0 = (0 : Int32) from rfl] at r1
    rw [r1]
    (try simp only [Option.bind_some])
    refine ⟨_, _, _, _, _, _, rfl, fun w' hw' => ?_, r2⟩
    by_cases z : w' = w
    · subst z
      right
      rw [pk_us]
      exact ⟨rfl, r2⟩
    · rw [pk_un z]
      rcases hL w' hw' with p | ⟨p, p2⟩
      · exact Or.inl p
      · right
        refine ⟨p, fun i hi => ?_⟩
        rw [r3 w' i z (by omega)]
        exact p2 i hi
  · rw [if_neg (by rw [q]; decide)]
    exact ⟨_, _, _, _, _, _, rfl, hL, hk⟩
