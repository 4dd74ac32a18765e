/-! the tape -/
def TP (t : Nat) (bx bm : Nat → Int32) (T : Nat → Nat) : Prop := ∀ i, i < t → T i < 256 ∧ bx i = nI (T i) ∧ bm i = nI (T i)
theorem fd_byte (w : Int64) {i : Nat} (hi : i < 8) : Int64.toInt32 (jlushr w (nI (8 * i))) &&& 255 = Int64.toInt32 (jlshr w (nI (8 * i)) &&& 255) := by
  have e1 : ((nI (8 * i)).toInt64.toUInt64 &&& Int64.toUInt64 63) = UInt64.ofNat (8 * i) := wb_cu (8 * i) (by omega)
  have e2 : ((nI (8 * i)).toInt64 &&& 63) = lN (8 * i) := wb_c (8 * i) (by omega)
  unfold jlushr jlshr
  rw [e1, e2]
  apply Int32.toBitVec_inj.mp
  show ((w.toBitVec >>> ((UInt64.ofNat (8 * i)).toBitVec % 64#64)).signExtend 32) &&& 255#32 = ((w.toBitVec.sshiftRight' ((lN (8 * i)).toBitVec.smod 64#64)) &&& 255#64).signExtend 32
  have e3 : ((UInt64.ofNat (8 * i)).toBitVec % 64#64).toNat = 8 * i := by
    show (BitVec.ofNat 64 (8 * i) % 64#64).toNat = _
    rw [BitVec.toNat_umod, BitVec.toNat_ofNat]
    show 8 * i % 2 ^ 64 % 64 = _
    omega
  have e4 : ((lN (8 * i)).toBitVec.smod 64#64).toNat = 8 * i := by
    show ((BitVec.ofNat 64 (8 * i)).smod 64#64).toNat = _
    have := wb_sm (8 * i) (by omega)
    rw [show (BitVec.ofNat 64 (8 * i)).smod 64#64 = BitVec.ofNat 64 (8 * i) from this, BitVec.toNat_ofNat]
    omega
  apply BitVec.eq_of_getLsbD_eq
  intro j hj
  have h255 : ∀ j, j < 32 → (255#32).getLsbD j = decide (j < 8) := by decide
  have h255b : ∀ j, j < 32 → (255#64).getLsbD j = decide (j < 8) := by decide
  rw [BitVec.getLsbD_and, h255 j hj]
  rw [BitVec.getLsbD_signExtend, BitVec.getLsbD_signExtend, BitVec.getLsbD_and, h255b j hj]
  simp only [BitVec.ushiftRight_eq', BitVec.getLsbD_ushiftRight, BitVec.sshiftRight', BitVec.getLsbD_sshiftRight, e3, e4, hj, decide_true, Bool.true_and]
  by_cases q : j < 8
  · simp only [q, decide_true, Bool.and_true]
    rw [if_pos (show j < 64 by omega), if_pos (show j < 64 by omega), if_pos (show 8 * i + j < 64 by omega)]
    simp
    omega
  · simp only [q, decide_false, Bool.and_false]
    rw [if_pos (show j < 64 by omega)]
theorem fd_L (w : Int64) : ∀ (d t f : Nat) (bx bm : Nat → Int32) (T : Nat → Nat) (z : Int32), d ≤ 8 → t + d ≤ 400 → d < f → z = nI d - 1 → TP t bx bm T → ∃ bx' bm' T', F_X5_append_L3 w f z (nI t) bx = some (nI (t + d), bx') ∧ F_X8_feed_L5 w f z (nI t) bm = some (nI (t + d), bm') ∧ TP (t + d) bx' bm' T'
  | 0, t, f + 1, bx, bm, T, z, _, _, _, hz, hT => by
    subst hz
    rw [F_X5_append_L3.eq_2, F_X8_feed_L5.eq_2, if_pos (by decide), if_pos (by decide)]
    exact ⟨bx, bm, T, rfl, rfl, hT⟩
  | d + 1, t, f + 1, bx, bm, T, z, h8, h4, hf, hz, hT => by
    rw [nI_pred] at hz
    subst hz
    obtain ⟨v, hv, ev⟩ := pk_andE (Int64.toInt32 (jlushr w (nI (8 * d)))) (m := 255) 8 (by decide)
    have e2 : nI d + (-1) = nI d - 1 := by grind
    rw [F_X5_append_L3.eq_2, F_X8_feed_L5.eq_2, if_neg (nI_pos (by omega)), if_neg (nI_pos (by omega)), show (8 : Int32) = nI 8 from rfl, q_mul, ← fd_byte w (show d < 8 by omega), ev]
    (try simp only [Option.bind_some])
    rw [gdT (inbI (show t < 400 by omega) (by omega)), gdT (inbI (show t < 400 by omega) (by omega)), nI_1, nI_clamp (by omega), e2]
    (try simp only [Option.bind_some])
    have ih := fd_L w d (t + 1) f (upd bx t (nI v)) (upd bm t (nI v)) (updN T t v) _ (by omega) (by omega) (by omega) rfl (fun i hi => by
      by_cases q : i = t
      · subst q
        rw [pk_us, pk_us, updN_s]
        exact ⟨by omega, rfl, rfl⟩
      · rw [pk_un q, pk_un q, updN_n q]
        exact hT i (by omega))
    rw [show t + 1 + d = t + (d + 1) by omega] at ih
    exact ih
theorem in18_in {s : Nat} (h1 : 1 ≤ s) (h8 : s ≤ 8) : F_X8_in (Int32.toInt64 (nI s)) 1 8 = some 1 := by
  unfold F_X8_in
  have e1 := nI_toInt (n := s) (by omega)
  rw [if_neg, if_neg]
  · rw [lgg, Int64.lt_iff_toInt_lt, t64, e1]
    show ¬ (8 : Int) < s
    omega
  · rw [lgl, Int64.lt_iff_toInt_lt, t64, e1]
    show ¬ (s : Int) < 1
    omega
theorem in18_out {a : Int32} (h : a < 1 ∨ ¬ a ≤ 8) : F_X8_in (Int32.toInt64 a) 1 8 = some 0 := by
  unfold F_X8_in
  have e8 : (8 : Int32).toInt = 8 := by decide
  have e1 : (1 : Int32).toInt = 1 := by decide
  by_cases q : lg_cmp (Int32.toInt64 a) 1 < 0
  · rw [if_pos q]
  · rw [if_neg q, if_pos]
    rw [lgl, Int64.lt_iff_toInt_lt, t64] at q
    rw [lgg, Int64.lt_iff_toInt_lt, t64]
    rw [Int32.lt_iff_toInt_lt, Int32.le_iff_toInt_le, e8, e1] at h
    have q2 : ¬ a.toInt < 1 := q
    show (8 : Int) < a.toInt
    omega
theorem s18 (a : Int32) : (a < 1 ∨ ¬ a ≤ 8) ∨ ∃ s : Nat, 1 ≤ s ∧ s ≤ 8 ∧ a = nI s := by
  by_cases h1 : a < 1
  · exact Or.inl (Or.inl h1)
  · by_cases h8 : a ≤ 8
    · right
      have e8 : (8 : Int32).toInt = 8 := by decide
      have e1 : (1 : Int32).toInt = 1 := by decide
      rw [Int32.lt_iff_toInt_lt, e1] at h1
      obtain ⟨j, hj, rfl⟩ := nI_of (x := a) (by
        rw [Int32.lt_iff_toInt_lt]
        show ¬ a.toInt < 0
        omega)
      rw [Int32.le_iff_toInt_le, e8, nI_toInt hj] at h8
      rw [nI_toInt hj] at h1
      exact ⟨j, by omega, by omega, rfl⟩
    · exact Or.inl (Or.inr h8)
/-- feed, on both sides -/
theorem feed_both {t : Nat} {bx bm : Nat → Int32} {T : Nat → Nat} (ht : t ≤ 400) (hT : TP t bx bm T) (w : Int64) (a : Int32) : ∃ r t' bx' bm' T', F_X7_feed w a (nI t) bx = some (r, nI t', bx') ∧ F_X8_feed w a (nI t) bm = some (r, 0, nI t', bm') ∧ t' ≤ 400 ∧ TP t' bx' bm' T' := by
  unfold F_X7_feed F_X8_feed F_X5_append
  rcases s18 a with h | ⟨s, h1, h8, rfl⟩
  · refine ⟨-1000001, t, bx, bm, T, ?_, ?_, ht, hT⟩
    · rcases h with h | h
      · rw [if_pos h]
      · by_cases q : a < 1
        · rw [if_pos q]
        · rw [if_neg q, if_neg h]
    · rw [in18_out h]
      (try simp only [Option.bind_some])
      rw [if_pos (by trivial)]
  · have c1 : ¬ nI s < 1 := by
      rw [show (1 : Int32) = nI 1 from rfl]
      exact nI_nlt (by omega) (by omega)
    have c2 : nI s ≤ 8 := by
      rw [show (8 : Int32) = nI 8 from rfl]
      exact nI_le (by omega) (by omega)
    rw [if_neg c1, if_pos c2, in18_in h1 h8, q_add]
    (try simp only [Option.bind_some])
    have c3 : (nI (t + s) ≤ 400) ↔ t + s ≤ 400 := nI_leI (b := 400) (by omega) (by decide)
    by_cases q : t + s ≤ 400
    · obtain ⟨bx', bm', T', e1, e2, e3⟩ := fd_L w s t FU bx bm T _ h8 q (by unfold FU; omega) rfl hT
      refine ⟨nI (t + s), t + s, bx', bm', T', ?_, ?_, q, e3⟩
      · rw [if_pos (c3.mpr q), e1]
        (try simp only [Option.bind_some])
        rw [if_neg (by decide)]
      · rw [if_neg (by decide), if_pos (c3.mpr q), e2]
        rfl
    · refine ⟨-1000003, t, bx, bm, T, ?_, ?_, ht, hT⟩
      · rw [if_neg (fun z => q (c3.mp z))]
        (try simp only [Option.bind_some])
        rw [if_pos (by trivial)]
      · rw [if_neg (by decide), if_neg (fun z => q (c3.mp z))]
/-! asks -/
def TR (a : Nat) (bx bm : Nat → Int32) : Prop := ∀ i, i < a → bx i = bm i
theorem begin_both {a : Nat} {bx bm : Nat → Int32} (ha : a ≤ 16) (h : TR a bx bm) (z : Int32) : ∃ a' bx' bm', F_X0_begin z (nI a) bx = some (nI a', bx') ∧ F_X8_began z (nI a) bm = some (nI a', bm') ∧ a' ≤ 16 ∧ TR a' bx' bm' := by
  unfold F_X0_begin F_X8_began
  have c : (16 ≤ nI a) ↔ 16 ≤ a := nI_leI (a := 16) (by decide) (by omega)
  by_cases q : 16 ≤ a
  · rw [if_pos (c.mpr q), if_pos (c.mpr q)]
    exact ⟨a, bx, bm, rfl, rfl, ha, h⟩
  · rw [if_neg (fun z => q (c.mp z)), if_neg (fun z => q (c.mp z)), gdT (inbI (by omega) (by omega)), gdT (inbI (by omega) (by omega)), nI_1, nI_clamp (by omega)]
    refine ⟨a + 1, _, _, rfl, rfl, by omega, fun i hi => ?_⟩
    by_cases e : i = a
    · subst e; rw [pk_us, pk_us]
    · rw [pk_un e, pk_un e]; exact h i (by omega)
theorem knd_cases (n c : Nat) : knd n c = 1 ∨ knd n c = 2 ∨ knd n c = 3 := by
  unfold knd
  split
  · split
    · exact Or.inr (Or.inr rfl)
    · exact Or.inl rfl
  · exact Or.inr (Or.inl rfl)
theorem m_kindNow {n c : Nat} {here hand : Nat → Int32} (hn : RG n) (hc : c < 2 ^ (3 * n)) (hH : HD here n c) : F_X8_kindNow (nI n) here hand = some (nI (knd n c), cpy9 here hand 9) := by
  have h9 := hn.2
  have a1 := tb_le n (dg n c) c n
  have a2 := tb_le n (rev n (dg n c)) c n
  have hT := hH.take (hand := hand)
  unfold F_X8_kindNow knd
  rw [m_take]
  (try simp only [Option.bind_some])
  rw [m_same0 hn hc hT]
  (try simp only [Option.bind_some])
  have c1 : (nI (trn n c) ≤ 1) ↔ trn n c ≤ 1 := nI_leI (b := 1) (by unfold trn; omega) (by decide)
  by_cases q : trn n c ≤ 1
  · rw [if_pos (c1.mpr q), if_pos q, m_same1 hn hc hT]
    (try simp only [Option.bind_some])
    rw [ifL0 (by unfold mir; omega)]
    by_cases w : mir n c ≤ 0
    · rw [if_pos w, if_pos w]; rfl
    · rw [if_neg w, if_neg w]; rfl
  · rw [if_neg (fun z => q (c1.mp z)), if_neg q]; rfl
theorem m_places_L {n c : Nat} {here : Nat → Int32} (hn : RG n) (hH : HD here n c) : ∀ (d i f : Nat), i + d = n → d < f → F_X8_places_L1 (nI n) here f (nI (tk (dg n c) i)) (nI i) = some (nI (tk (dg n c) n))
  | 0, i, f + 1, hi, _ => by
    have h9 := hn.2
    rw [F_X8_places_L1.eq_2, if_pos (nI_le (by omega) (by omega)), show i = n by omega]
  | d + 1, i, f + 1, hi, hf => by
    have h9 := hn.2
    have h8 := dg_lt n c i
    have e : tk (dg n c) (i + 1) = tk (dg n c) i + (if 0 < dg n c i then 1 else 0) := rfl
    have ih := m_places_L hn hH d (i + 1) f (by omega) (by omega)
    rw [F_X8_places_L1.eq_2, if_neg (nI_ge (by omega) (by omega)), gdT (inbI (by omega) (by omega)), nI_clamp (by omega), hH.at hn (show i < n by omega), ifL0 (by omega)]
    have e2 : (if dg n c i ≤ 0 then some (0 : Int32) else some 1) = some (nI (if 0 < dg n c i then 1 else 0)) := by
      by_cases q : dg n c i ≤ 0
      · rw [if_pos q, if_neg (by omega)]; rfl
      · rw [if_neg q, if_pos (by omega)]; rfl
    rw [e2]
    (try simp only [Option.bind_some])
    rw [q_add, nI_1, ← e]
    exact ih
theorem m_places {n c : Nat} {here : Nat → Int32} (hn : RG n) (hH : HD here n c) : F_X8_places (nI n) here = some (nI (tk (dg n c) n)) := by
  have h := m_places_L hn hH n 0 FU (by omega) (by have := hn.2; unfold FU; omega)
  rw [show nI (tk (dg n c) 0) = (0 : Int32) from rfl, show nI 0 = (0 : Int32) from rfl] at h
  unfold F_X8_places
  rw [h]
  rfl
theorem size_both {n c k a : Nat} {bx bm here hand : Nat → Int32} (hn : RG n) (hc : CR n c k) (hH : HD hand n c) (ha : a ≤ 16) (h : TR a bx bm) : ∃ r a' bx' bm', F_X0_sizeOf (nI c) (nI n) (nI (mskN n)) (nI a) bx = some (r, nI a', bx') ∧ F_X8_sized (nI (knd n c)) (nI n) (nI k) (nI a) hand bm = some (r, nI a', bm') ∧ a' ≤ 16 ∧ TR a' bx' bm' := by
  unfold F_X0_sizeOf F_X8_sized F_X0_lentSize
  rw [x_kindOf hn hc.1, m_same0 hn hc.1 hH, x_robotsIn hn hc.1, x_turnsOf hn hc.1, hc.2.1]
  rcases knd_cases n c with q | q | q
  · rw [q]
    obtain ⟨a1, b1, m1, e1, e2, l1, r1⟩ := begin_both ha h 11
    obtain ⟨a2, b2, m2, e3, e4, l2, r2⟩ := begin_both l1 r1 10
    refine ⟨nI k + nI n, a2, b2, m2, ?_, ?_, l2, r2⟩
    · simp only [Option.bind_some, if_pos (show nI 1 = 1 from rfl), e1, e3]
    · simp only [Option.bind_some, if_pos (show nI 1 = 1 from rfl), e2, e4]
  · rw [q]
    obtain ⟨a1, b1, m1, e1, e2, l1, r1⟩ := begin_both ha h 12
    obtain ⟨a2, b2, m2, e3, e4, l2, r2⟩ := begin_both l1 r1 10
    refine ⟨nI k + nI (trn n c), a2, b2, m2, ?_, ?_, l2, r2⟩
    · simp only [Option.bind_some, if_neg (show ¬ nI 2 = 1 by decide), if_pos (show nI 2 = 2 from rfl), e1, e3]
    · simp only [Option.bind_some, if_neg (show ¬ nI 2 = 1 by decide), if_pos (show nI 2 = 2 from rfl), e2, e4]
  · rw [q]
    obtain ⟨a1, b1, m1, e1, e2, l1, r1⟩ := begin_both ha h 13
    obtain ⟨a2, b2, m2, e3, e4, l2, r2⟩ := begin_both l1 r1 10
    refine ⟨2 * nI k, a2, b2, m2, ?_, ?_, l2, r2⟩
    · simp only [Option.bind_some, if_neg (show ¬ nI 3 = 1 by decide), if_neg (show ¬ nI 3 = 2 by decide), if_pos (show nI 3 = 3 from rfl), e1, e3]
    · simp only [Option.bind_some, if_neg (show ¬ nI 3 = 1 by decide), if_neg (show ¬ nI 3 = 2 by decide), e2, e4]
theorem CR.zero {n c k : Nat} (hc : CR n c k) : c = 0 ↔ k = 0 := by
  obtain ⟨h1, h2, h3⟩ := hc
  constructor
  · intro q
    subst q
    rw [← h2]
    have : ∀ m, sm (dg n 0) m = 0 := by
      intro m
      induction m with
      | zero => rfl
      | succ m ih =>
        show sm (dg n 0) m + dg n 0 m = 0
        rw [ih]
        unfold dg
        simp
    exact this n
  · intro q
    rw [← pkR_dg h1]
    have e : ∀ x, x < n → dg n c x = 0 := fun x hx => by
      have := sm_le (h := dg n c) hx
      omega
    rw [pkR_congr (k := fun _ => 0) e]
    have : ∀ m, pkR (fun _ => 0) m = 0 := by
      intro m
      induction m with
      | zero => rfl
      | succ m ih =>
        show pkR (fun _ => 0) m * 8 + 0 = 0
        rw [ih]
    exact this n
theorem in_lit {a : Int32} {b : Nat} {L : Int64} (hb : b < 2 ^ 30) (hL : (Int32.toInt64 (nI b - 1)) = L) : ((a < 0 ∨ nI b ≤ a) → F_X8_in (Int32.toInt64 a) 0 L = some 0) ∧ (∀ j, j < b → a = nI j → F_X8_in (Int32.toInt64 a) 0 L = some 1) := by
  subst hL
  exact ⟨fun h => in_out hb h, fun j hj e => by subst e; exact in_in hj hb⟩
/-- ask, on both sides -/
theorem ask_both {n c k a : Nat} {bx bm here hand : Nat → Int32} (hn : RG n) (hc : CR n c k) (hH : HD here n c) (ha : a ≤ 16) (h : TR a bx bm) (z : Int32) : ∃ r a' bx' bm' hand', F_X7_ask z (nI c) (nI n) (nI (mskN n)) (nI a) bx = some (r, nI a', bx') ∧ F_X8_ask z (nI n) (nI k) (nI a) here hand bm = some (r, 0, nI a', hand', bm') ∧ a' ≤ 16 ∧ TR a' bx' bm' := by
  have hlt := hc.lt hn
  have hk4 := hc.2.2
  have hT := hH.take (hand := hand)
  have hI := in_lit (a := z) (b := 2) (L := 1) (by decide) (by decide)
  unfold F_X7_ask F_X8_ask
  rcases ix3 z (b := 2) (by decide) with q | ⟨j, hj, rfl⟩
  · refine ⟨-1000001, a, bx, bm, hand, ?_, ?_, ha, h⟩
    · rw [show (2 : Int32) = nI 2 from rfl, out_out q]
      (try simp only [Option.bind_some])
      rw [if_neg (by decide)]
    · rw [hI.1 q]
      (try simp only [Option.bind_some])
      rw [if_pos (by trivial)]
  · rw [show F_X7_outside (nI j) 2 = some 0 from out_in hj (by decide), hI.2 j hj rfl]
    (try simp only [Option.bind_some])
    rw [if_pos (by trivial), if_neg (show ¬ (1 : Int32) = 0 by decide), ifE0 (a := c) (by omega), ifE0 (a := k) (by omega)]
    by_cases q0 : k = 0
    · rw [if_pos (hc.zero.mpr q0), if_pos q0]
      exact ⟨_, a, bx, bm, hand, rfl, rfl, ha, h⟩
    · rw [if_neg (fun e => q0 (hc.zero.mp e)), if_neg q0, m_kindNow hn hc.1 hH]
      (try simp only [Option.bind_some])
      unfold F_X0_answer
      rw [ifE0 (by omega), ifE0 (by omega)]
      have h0 : TR 0 bx bm := fun i hi => absurd hi (by omega)
      by_cases j0 : j = 0
      · rw [if_pos j0, if_pos j0]
        obtain ⟨r, a1, b1, m1, e1, e2, l1, r1⟩ := size_both (here := here) hn hc hT (show 0 ≤ 16 by omega) h0
        rw [show nI 0 = (0 : Int32) from rfl] at e1 e2
        rw [e1, e2]
        exact ⟨r, a1, b1, m1, _, rfl, rfl, l1, r1⟩
      · rw [if_neg j0, if_neg j0, m_places hn hH]
        unfold F_X0_markOf F_X0_lentMark
        rw [x_kindOf hn hc.1, x_takenIn hn hc.1]
        rcases knd_cases n c with q | q | q
        · rw [q]
          obtain ⟨a2, b2, m2, e3, e4, l2, r2⟩ := begin_both (show 0 ≤ 16 by omega) h0 20
          rw [show nI 0 = (0 : Int32) from rfl] at e3 e4
          refine ⟨nI (tk (dg n c) n), a2, b2, m2, cpy9 here hand 9, ?_, ?_, l2, r2⟩
          · simp only [Option.bind_some, if_neg (show ¬ nI 1 = 2 by decide), if_neg (show ¬ nI 1 = 3 by decide), e3]
          · simp only [Option.bind_some, if_neg (show ¬ nI 1 = 2 by decide), if_neg (show ¬ nI 1 = 3 by decide), e4]
        · obtain ⟨a1, b1, m1, e1, e2, l1, r1⟩ := begin_both (show 0 ≤ 16 by omega) h0 21
          rw [show nI 0 = (0 : Int32) from rfl] at e1 e2
          obtain ⟨a2, b2, m2, e3, e4, l2, r2⟩ := begin_both l1 r1 20
          obtain ⟨r, a3, b3, m3, e5, e6, l3, r3⟩ := size_both (here := here) hn hc hT l2 r2
          rw [q] at e6 ⊢
          refine ⟨nI (tk (dg n c) n) + r, a3, b3, m3, cpy9 here hand 9, ?_, ?_, l3, r3⟩
          · simp only [Option.bind_some, if_pos (show nI 2 = 2 from rfl), e1, e3, e5]
          · simp only [Option.bind_some, if_pos (show nI 2 = 2 from rfl), e2, e4, e6]
        · rw [q]
          obtain ⟨a1, b1, m1, e1, e2, l1, r1⟩ := begin_both (show 0 ≤ 16 by omega) h0 22
          rw [show nI 0 = (0 : Int32) from rfl] at e1 e2
          obtain ⟨a2, b2, m2, e3, e4, l2, r2⟩ := begin_both l1 r1 20
          refine ⟨nI (tk (dg n c) n) + 100, a2, b2, m2, cpy9 here hand 9, ?_, ?_, l2, r2⟩
          · simp only [Option.bind_some, if_neg (show ¬ nI 3 = 2 by decide), if_pos (show nI 3 = 3 from rfl), e1, e3]
          · simp only [Option.bind_some, if_neg (show ¬ nI 3 = 2 by decide), if_pos (show nI 3 = 3 from rfl), e2, e4]
