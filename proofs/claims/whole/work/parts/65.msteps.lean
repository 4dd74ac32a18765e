/-! the model's table of steps -/
def SRW (isStep : Nat → Int32) (i : Nat) (M : List Nat) (P : Nat → Prop) : Prop := ∀ j, j < M.length → (¬ isStep (120 * i + j) = 0 ↔ P (M.getD j 0))
def OUT (i : Nat) (s s' : Nat → Int32) : Prop := ∀ q, (∀ j, j < 120 → q ≠ 120 * i + j) → s' q = s q
theorem OUT.trans {i : Nat} {a b c : Nat → Int32} (h : OUT i a b) (g : OUT i b c) : OUT i a c := fun q hq => by rw [g q hq, h q hq]
theorem nar1 : vp_nar .boolean 1 = 1 := rfl
theorem nar0 : vp_nar .boolean 0 = 0 := rfl
/-- what a table of the model stands on -/
def MT (n k : Nat) (crowd : Nat → Int32) (M : List Nat) : Prop := RG n ∧ 1 ≤ k ∧ k ≤ 4 ∧ MLok n k M ∧ CM crowd n M
theorem MT.get {n k i : Nat} {crowd : Nat → Int32} {M : List Nat} (h : MT n k crowd M) (hi : i < M.length) : CR n (M.getD i 0) k ∧ NM n (M.getD i 0) = M.getD i 0 ∧ M.getD i 0 ∈ GL n k := by
  obtain ⟨hn, h1, h4, hM, hC⟩ := h
  obtain ⟨g1, g2, g3, g4⟩ := GLok hn h1 h4
  have := (hM.2.1 _).mpr (getD_mem hi)
  exact ⟨(g3 _ this).1, (g3 _ this).2, this⟩
theorem MT.num {n k y : Nat} {crowd name : Nat → Int32} {M : List Nat} (h : MT n k crowd M) (hy : CR n y k) (hN : HD name n (NM n y)) : ∃ r, r < M.length ∧ M.getD r 0 = NM n y ∧ F_X8_numberOfName (nI n) (nI M.length) name crowd = some (nI r) := by
  have h' := h
  obtain ⟨hn, h1, h4, hM, hC⟩ := h'
  obtain ⟨g1, g2, g3, g4⟩ := GLok hn h1 h4
  rcases m_number hn hM.2.2 (fun x hx => (g3 x ((hM.2.1 x).mpr hx)).1.1) (NM_lt hn y) hC hN with a | ⟨a, _⟩
  · exact a
  · exact absurd ((hM.2.1 _).mp (g4 y hy)) a
theorem fst_L27 {n k i a c : Nat} {crowd stands does from_ : Nat → Int32} {M : List Nat} {R : List (Nat × Int32)} {may : Int32} (hT : MT n k crowd M) (hi : i < M.length) (h4 : R.length ≤ 4) (hD : RD R) (hA : RA stands does R) (hO : OKc n k R c) (hF : HD from_ n c) (ha : a < 16) (hmay : ¬ may = 0) : ∀ (d b f : Nat) (hand name isStep : Nat → Int32) (P : Nat → Prop), b + d = 2 ^ R.length → d < f → SRW isStep i M P → ∃ hand' name' isStep', F_X8_findSteps_L27 (nI i) (nI R.length) (nI a) may (nI n) (nI M.length) crowd stands does from_ f (nI b) hand name isStep = some (hand', name', isStep') ∧ SRW isStep' i M (fun y => P y ∨ ∃ b', b ≤ b' ∧ b' < 2 ^ R.length ∧ y = NM n (ap n R (gs (cw R n a b') 0 R.length) c)) ∧ OUT i isStep isStep'
  | 0, b, f + 1, hand, name, isStep, P, hb, _, hS => by
    have h16 := m16 h4 (show 2 ^ R.length - 1 < 2 ^ R.length by have : 0 < 2 ^ R.length := Nat.pow_pos (by decide); omega)
    rw [F_X8_findSteps_L27.eq_2, show (1 : Int32) = nI 1 from rfl, q_shl (by omega) (by omega), Nat.one_mul, ifLe (by omega) (by omega), if_pos (by omega)]
    refine ⟨hand, name, isStep, rfl, fun j hj => ?_, fun _ _ => rfl⟩
    rw [hS j hj]
    constructor
    · exact Or.inl
    · rintro (h | ⟨b', h1, h2, _⟩)
      · exact h
      · omega
  | d + 1, b, f + 1, hand, name, isStep, P, hb, hf, hS => by
    have hT' := hT
    obtain ⟨hn, h1, hk4, hM, hC⟩ := hT'
    have h60 := hM.2.2
    have h16 := m16 h4 (show 2 ^ R.length - 1 < 2 ^ R.length by have : 0 < 2 ^ R.length := Nat.pow_pos (by decide); omega)
    rw [F_X8_findSteps_L27.eq_2, show (1 : Int32) = nI 1 from rfl, q_shl (by omega) (by omega), Nat.one_mul, ifLe (by omega) (by omega), if_neg (by omega), if_neg hmay]
    obtain ⟨ha1, a1, a2⟩ := fst_L30 (from_ := from_) 9 0 FU hand (by omega) (by unfold FU; omega) (fun x hx => absurd hx (by omega))
    have a3 : HD ha1 n c := fun x hx => by rw [a2 x hx]; exact hF x hx
    obtain ⟨ha2, b1, b2⟩ := fst_L34 (b := b) hn h4 hD hA ha (by omega) R.length 0 FU ha1 c (by omega) (by unfold FU; omega) a3 (by rw [List.drop_zero]; exact hO)
    rw [List.drop_zero] at b2
    have hcr := ap_CR hn (g := gs (cw R n a b) 0 R.length) hO
    obtain ⟨nm, c1, c2⟩ := m_findName (name := name) hn hcr.1 b2
    obtain ⟨r, r1, r2, r3⟩ := hT.num hcr c2
    rw [show nI 0 = (0 : Int32) from rfl] at a1 b1
    rw [a1]
    (try simp only [Option.bind_some])
    rw [b1]
    (try simp only [Option.bind_some])
    rw [c1]
    (try simp only [Option.bind_some])
    rw [r3]
    (try simp only [Option.bind_some])
    rw [show (120 : Int32) = nI 120 from rfl, q_mul, q_add, gdT (inbI (by omega) (by omega)), nI_clamp (by omega), show nI b + nI 1 = nI (b + 1) from nI_1 b, show nI 1 = (1 : Int32) from rfl, nar1]
    have hS2 : SRW (upd isStep (120 * i + r) 1) i M (fun y => P y ∨ y = NM n (ap n R (gs (cw R n a b) 0 R.length) c)) := by
      intro j hj
      by_cases e : j = r
      · subst e
        rw [pk_us]
        exact ⟨fun _ => Or.inr r2, fun _ => by decide⟩
      · rw [pk_un (by omega), hS j hj]
        constructor
        · exact Or.inl
        · rintro (h | h)
          · exact h
          · exact absurd (nd_inj hM.1 hj r1 (h.trans r2.symm)) e
    obtain ⟨h', n', s', d1, d2, d3⟩ := fst_L27 hT hi h4 hD hA hO hF ha hmay d (b + 1) f ha2 nm _ _ (by omega) (by omega) hS2
    refine ⟨h', n', s', d1, fun j hj => ?_, ?_⟩
    · rw [d2 j hj]
      constructor
      · rintro ((h | h) | ⟨b', q1, q2, q3⟩)
        · exact Or.inl h
        · exact Or.inr ⟨b, by omega, by omega, h⟩
        · exact Or.inr ⟨b', by omega, q2, q3⟩
      · rintro (h | ⟨b', q1, q2, q3⟩)
        · exact Or.inl (Or.inl h)
        · by_cases e : b' = b
          · subst e
            exact Or.inl (Or.inr q3)
          · exact Or.inr ⟨b', by omega, q2, q3⟩
    · intro q hq
      rw [d3 q hq, pk_un (hq r (by omega))]
theorem may_I {w m a : Nat} (hw : w < 3) (hm : m ≤ 4) (h1 : 1 ≤ a) (ha : a < 2 ^ m) : ∃ z : Int32, (if nI w = 2 then some (1 : Int32) else (if nI w = 0 then (if nI a = (jshl 1 (nI m) - 1) then some 1 else (if nI w = 1 then (if (nI a &&& (nI a - 1)) = 0 then some 1 else some 0) else some 0)) else (if nI w = 1 then (if (nI a &&& (nI a - 1)) = 0 then some 1 else some 0) else some 0))) = some z ∧ (¬ z = 0 ↔ mayB w m a) := by
  have h16 := m16 hm ha
  have h2 := m16 hm (show 2 ^ m - 1 < 2 ^ m by have : 0 < 2 ^ m := Nat.pow_pos (by decide); omega)
  have hp : 1 ≤ 2 ^ m := Nat.pow_pos (by decide)
  have e1 : jshl 1 (nI m) - 1 = nI (2 ^ m - 1) := by
    rw [show (1 : Int32) = nI 1 from rfl, q_shl (by omega) (by omega), Nat.one_mul, q_sub hp]
  have e2 : (nI a &&& (nI a - 1)) = nI (a &&& (a - 1)) := by
    rw [show (1 : Int32) = nI 1 from rfl, q_sub h1, q_and]
  have e3 : a &&& (a - 1) ≤ a := Nat.and_le_left
  rw [e1, e2, show (2 : Int32) = nI 2 from rfl, ifEq (by omega) (by omega), ifE0 (by omega), ifE1 (by omega), ifEq (by omega) (by omega), ifE0 (by omega)]
  unfold mayB
  have h01 : ¬ (1 : Int32) = 0 := by decide
  have hw3 : w = 0 ∨ w = 1 ∨ w = 2 := by omega
  rcases hw3 with q | q | q
  · subst q
    rw [if_neg (by decide), if_pos rfl, if_neg (show ¬ (0 : Nat) = 1 by decide)]
    by_cases z : a = 2 ^ m - 1
    · rw [if_pos z]
      exact ⟨1, rfl, fun _ => Or.inr (Or.inl ⟨rfl, z⟩), fun _ => h01⟩
    · rw [if_neg z]
      refine ⟨0, rfl, fun y => absurd rfl y, ?_⟩
      rintro (y | ⟨_, y⟩ | ⟨y, _⟩)
      · omega
      · exact absurd y z
      · omega
  · subst q
    rw [if_neg (by decide), if_neg (by decide), if_pos rfl]
    by_cases z : a &&& (a - 1) = 0
    · rw [if_pos z]
      exact ⟨1, rfl, fun _ => Or.inr (Or.inr ⟨rfl, z⟩), fun _ => h01⟩
    · rw [if_neg z]
      refine ⟨0, rfl, fun y => absurd rfl y, ?_⟩
      rintro (y | ⟨y, _⟩ | ⟨_, y⟩)
      · omega
      · omega
      · exact absurd y z
  · subst q
    rw [if_pos rfl]
    exact ⟨1, rfl, fun _ => Or.inl rfl, fun _ => h01⟩
theorem fst_L17 {n k i c w : Nat} {crowd stands does from_ : Nat → Int32} {M : List Nat} {R : List (Nat × Int32)} (hT : MT n k crowd M) (hi : i < M.length) (hw : w < 3) (h4 : R.length ≤ 4) (hD : RD R) (hA : RA stands does R) (hO : OKc n k R c) (hF : HD from_ n c) : ∀ (d a f : Nat) (hand name isStep : Nat → Int32) (P : Nat → Prop), a + d = 2 ^ R.length → 1 ≤ a → d < f → SRW isStep i M P → ∃ hand' name' isStep', F_X8_findSteps_L17 (nI i) (nI w) (nI R.length) (nI n) (nI M.length) crowd stands does from_ f (nI a) hand name isStep = some (hand', name', isStep') ∧ SRW isStep' i M (fun y => P y ∨ ∃ a', a ≤ a' ∧ a' < 2 ^ R.length ∧ mayB w R.length a' ∧ ∃ b, b < 2 ^ R.length ∧ y = NM n (ap n R (gs (cw R n a' b) 0 R.length) c)) ∧ OUT i isStep isStep'
  | 0, a, f + 1, hand, name, isStep, P, hb, _, _, hS => by
    have h16 := m16 h4 (show 2 ^ R.length - 1 < 2 ^ R.length by have : 0 < 2 ^ R.length := Nat.pow_pos (by decide); omega)
    rw [F_X8_findSteps_L17.eq_2, show jshl 1 (nI R.length) = nI (2 ^ R.length) by rw [show (1 : Int32) = nI 1 from rfl, q_shl (by omega) (by omega), Nat.one_mul], ifLe (by omega) (by omega), if_pos (by omega)]
    refine ⟨hand, name, isStep, rfl, fun j hj => ?_, fun _ _ => rfl⟩
    rw [hS j hj]
    constructor
    · exact Or.inl
    · rintro (h | ⟨b', h1, h2, _⟩)
      · exact h
      · omega
  | d + 1, a, f + 1, hand, name, isStep, P, hb, ha1, hf, hS => by
    have h16 := m16 h4 (show 2 ^ R.length - 1 < 2 ^ R.length by have : 0 < 2 ^ R.length := Nat.pow_pos (by decide); omega)
    have ha : a < 2 ^ R.length := by omega
    obtain ⟨z, z1, z2⟩ := may_I hw h4 ha1 ha
    rw [F_X8_findSteps_L17.eq_2]
    rw [z1]
    (try simp only [Option.bind_some])
    rw [show jshl 1 (nI R.length) = nI (2 ^ R.length) by rw [show (1 : Int32) = nI 1 from rfl, q_shl (by omega) (by omega), Nat.one_mul], ifLe (by omega) (by omega), if_neg (by omega)]
    by_cases q : z = 0
    · have hn : ¬ mayB w R.length a := fun y => z2.mpr y q
      rw [show FU = 999999 + 1 from rfl, F_X8_findSteps_L27.eq_2, show jshl 1 (nI R.length) = nI (2 ^ R.length) by rw [show (1 : Int32) = nI 1 from rfl, q_shl (by omega) (by omega), Nat.one_mul], ifL0 (by omega), if_neg (by omega), if_pos q]
      (try simp only [Option.bind_some])
      rw [nI_1]
      obtain ⟨h', n', s', d1, d2, d3⟩ := fst_L17 hT hi hw h4 hD hA hO hF d (a + 1) f hand name isStep P (by omega) (by omega) (by omega) hS
      refine ⟨h', n', s', d1, fun j hj => ?_, d3⟩
      rw [d2 j hj]
      constructor
      · rintro (h | ⟨b', q1, q2⟩)
        · exact Or.inl h
        · exact Or.inr ⟨b', by omega, q2⟩
      · rintro (h | ⟨b', q1, q2, q3, q4⟩)
        · exact Or.inl h
        · by_cases e : b' = a
          · subst e
            exact absurd q3 hn
          · exact Or.inr ⟨b', by omega, q2, q3, q4⟩
    · have hm := z2.mp q
      obtain ⟨h1', n1', s1', e1, e2, e3⟩ := fst_L27 hT hi h4 hD hA hO hF (show a < 16 by omega) q (2 ^ R.length) 0 FU hand name isStep P (by omega) (by unfold FU; omega) hS
      rw [show nI 0 = (0 : Int32) from rfl] at e1
      rw [e1]
      (try simp only [Option.bind_some])
      rw [nI_1]
      obtain ⟨h', n', s', d1, d2, d3⟩ := fst_L17 hT hi hw h4 hD hA hO hF d (a + 1) f h1' n1' s1' _ (by omega) (by omega) (by omega) e2
      refine ⟨h', n', s', d1, fun j hj => ?_, e3.trans d3⟩
      rw [d2 j hj]
      constructor
      · rintro ((h | ⟨b, _, q1, q2⟩) | ⟨b', q1, q2⟩)
        · exact Or.inl h
        · exact Or.inr ⟨a, Nat.le_refl a, ha, hm, b, q1, q2⟩
        · exact Or.inr ⟨b', by omega, q2⟩
      · rintro (h | ⟨b', q1, q2, q3, b, q4, q5⟩)
        · exact Or.inl (Or.inl h)
        · by_cases e : b' = a
          · subst e
            exact Or.inl (Or.inr ⟨b, by omega, q4, q5⟩)
          · exact Or.inr ⟨b', by omega, q2, q3, b, q4, q5⟩
theorem RB_D {n c : Nat} {B : BOOK} : RD (RB n B c) := fun r hr => by
  obtain ⟨_, b, d⟩ := RBp_mem hr
  rw [d]
  exact (goes_D3 b).1
theorem m_findSteps {n k i w : Nat} {B : BOOK} {rs rr rd crowd hand view up down name isStep stands does from_ : Nat → Int32} {rules vd : Int32} {M : List Nat} (hT : MT n k crowd M) (hi : i < M.length) (hw : w < 3) (hB : BKok B) (hM : BKM rules rs rr rd B) (hS : SRW isStep i M (fun _ => False)) : ∃ vd' hand' view' up' down' name' isStep' stands' does' from', F_X8_findSteps (nI i) (nI w) (nI n) vd rules (nI M.length) hand view up down rs rr rd name crowd isStep stands does from_ = some (vd', hand', view', up', down', name', isStep', stands', does', from') ∧ SRW isStep' i M (fun y => ST n B w (M.getD i 0) y) ∧ OUT i isStep isStep' := by
  have hT' := hT
  obtain ⟨hn, h1, hk4, hML, hC⟩ := hT'
  obtain ⟨hc, _, _⟩ := hT.get hi
  have h60 := hML.2.2
  have h4 := RB_len hc B
  obtain ⟨ha, fr, a1, a2⟩ := fst_L1 (crowd := crowd) (show i < 60 by omega) 9 0 FU hand from_ (by omega) (by unfold FU; omega) (fun x hx => absurd hx (by omega))
  have hH : HD ha n (M.getD i 0) := fun x hx => by rw [(a2 x hx).1]; exact hC i hi x hx
  have hF : HD fr n (M.getD i 0) := fun x hx => by rw [(a2 x hx).2]; exact hC i hi x hx
  obtain ⟨vd1, view1, up1, down1, st1, do1, b1, b2⟩ := fst_L6 hn hc hH hF hB hM n 0 FU vd view up down stands does (by omega) (by have := hn.2; unfold FU; omega) (fun j hj => absurd hj (by simp [RBp]))
  obtain ⟨h', n', s', d1, d2, d3⟩ := fst_L17 hT hi hw h4 RB_D b2 (RB_ok hc B) hF (2 ^ (RB n B (M.getD i 0)).length - 1) 1 FU ha name isStep _ (by have : 0 < 2 ^ (RB n B (M.getD i 0)).length := Nat.pow_pos (by decide); omega) (by omega) (by
    have := m16 h4 (show 2 ^ (RB n B (M.getD i 0)).length - 1 < 2 ^ (RB n B (M.getD i 0)).length by have : 0 < 2 ^ (RB n B (M.getD i 0)).length := Nat.pow_pos (by decide); omega)
    unfold FU; omega) hS
  unfold F_X8_findSteps
  rw [show nI 0 = (0 : Int32) from rfl] at a1
  rw [a1]
  (try simp only [Option.bind_some])
  rw [show nI (RBp n B (M.getD i 0) 0).length = (0 : Int32) from rfl, show nI 0 = (0 : Int32) from rfl] at b1
  rw [b1]
  (try simp only [Option.bind_some])
  rw [show nI 1 = (1 : Int32) from rfl] at d1
  rw [d1]
  refine ⟨_, _, _, _, _, _, _, _, _, _, rfl, fun j hj => ?_, d3⟩
  rw [d2 j hj]
  unfold ST
  constructor
  · rintro (h | ⟨a, q1, q2, q3, b, q4, q5⟩)
    · exact absurd h id
    · exact ⟨_, (NX_bits hn h4 hw).mpr ⟨a, q1, q2, q3, b, q4, rfl⟩, q5⟩
  · rintro ⟨y, q1, q2⟩
    obtain ⟨a, p1, p2, p3, b, p4, p5⟩ := (NX_bits hn h4 hw).mp q1
    right
    rw [p5] at q2
    exact ⟨a, p1, p2, p3, b, p4, q2⟩
