/-! choices by bits -/
def gs (gw : Nat → Nat) (i e : Nat) : List Nat := (List.range' i e).map gw
theorem gs_s (gw : Nat → Nat) (i e : Nat) : gs gw i (e + 1) = gw i :: gs gw (i + 1) e := rfl
theorem gs_c {gw gv : Nat → Nat} : ∀ {e i : Nat}, (∀ k, i ≤ k → gw k = gv k) → gs gw i e = gs gv i e
  | 0, _, _ => rfl
  | e + 1, i, h => by
    rw [gs_s, gs_s, h i (Nat.le_refl i), gs_c (fun k hk => h k (by omega))]
def rg (R : List (Nat × Int32)) (k : Nat) : Nat × Int32 := R.getD k (0, 0)
theorem rg_0 (r : Nat × Int32) (R : List (Nat × Int32)) : rg (r :: R) 0 = r := rfl
theorem rg_s (r : Nat × Int32) (R : List (Nat × Int32)) (k : Nat) : rg (r :: R) (k + 1) = rg R k := rfl
theorem rg_mem {R : List (Nat × Int32)} {k : Nat} (h : k < R.length) : rg R k ∈ R := by
  unfold rg
  rw [List.getD_eq_getElem?_getD, List.getElem?_eq_getElem h, Option.getD_some]
  exact List.getElem_mem h
theorem val_gs {n : Nat} {all : Bool} {gw : Nat → Nat} : ∀ {R : List (Nat × Int32)} {i : Nat}, (∀ k, k < R.length → gw (i + k) ∈ opts n (rg R k).2 ∨ (all = false ∧ gw (i + k) = 0)) → val n all R (gs gw i R.length)
  | [], _, _ => trivial
  | r :: R, i, h => by
    rw [List.length_cons, gs_s]
    refine ⟨h 0 (by simp), val_gs (fun k hk => ?_)⟩
    have := h (k + 1) (by rw [List.length_cons]; omega)
    rw [rg_s, show i + (k + 1) = i + 1 + k by omega] at this
    exact this
theorem gs_val {n : Nat} {all : Bool} : ∀ {R : List (Nat × Int32)} {g : List Nat} (i : Nat), val n all R g → ∃ gw : Nat → Nat, g = gs gw i R.length ∧ ∀ k, k < R.length → gw (i + k) ∈ opts n (rg R k).2 ∨ (all = false ∧ gw (i + k) = 0)
  | [], [], i, _ => ⟨fun _ => 0, rfl, fun k hk => absurd hk (by simp)⟩
  | [], _ :: _, _, h => absurd h (by unfold val; exact id)
  | _ :: _, [], _, h => absurd h (by unfold val; exact id)
  | r :: R, v :: g, i, h => by
    unfold val at h
    obtain ⟨gw, e, hh⟩ := gs_val (i + 1) h.2
    refine ⟨fun k => if k = i then v else gw k, ?_, fun k hk => ?_⟩
    · rw [List.length_cons, gs_s, if_pos rfl, e]
      congr 1
      exact gs_c (fun k hk => (if_neg (by omega)).symm)
    · cases k with
      | zero =>
        rw [Nat.add_zero, rg_0]
        show (if i = i then v else gw i) ∈ _ ∨ _ ∧ (if i = i then v else gw i) = 0
        rw [if_pos rfl]
        exact h.1
      | succ k =>
        rw [rg_s]
        show (if i + (k + 1) = i then v else gw (i + (k + 1))) ∈ _ ∨ _ ∧ (if i + (k + 1) = i then v else gw (i + (k + 1))) = 0
        rw [if_neg (by omega), show i + (k + 1) = i + 1 + k by omega]
        rw [List.length_cons] at hk
        exact hh k (by omega)
theorem ap_z {n : Nat} {gw : Nat → Nat} : ∀ {R : List (Nat × Int32)} {i c : Nat}, (∀ k, i ≤ k → k < i + R.length → gw k = 0) → ap n R (gs gw i R.length) c = c
  | [], _, _, _ => rfl
  | r :: R, i, c, h => by
    rw [List.length_cons] at h ⊢
    rw [gs_s, h i (Nat.le_refl i) (by omega)]
    unfold ap ap1
    rw [if_pos rfl]
    exact ap_z (fun k h1 h2 => h k (by omega) (by omega))
theorem ap_one {n : Nat} {gw : Nat → Nat} {j : Nat} : ∀ {R : List (Nat × Int32)} {i c : Nat}, i ≤ j → j < i + R.length → (∀ k, k ≠ j → gw k = 0) → ap n R (gs gw i R.length) c = ap1 n c (rg R (j - i)) (gw j)
  | [], i, _, h1, h2, _ => absurd h2 (by simp; omega)
  | r :: R, i, c, h1, h2, h => by
    rw [List.length_cons] at h2 ⊢
    rw [gs_s]
    by_cases e : i = j
    · subst e
      unfold ap
      rw [ap_z (fun k q1 q2 => h k (by omega)), Nat.sub_self, rg_0]
    · rw [h i e]
      unfold ap
      rw [ap_one (by omega) (by omega) h, show j - i = (j - (i + 1)) + 1 by omega, rg_s]
      show ap1 n (ap1 n c r 0) _ _ = _
      unfold ap1
      rw [if_pos rfl]
/-- the choices that two numbers tell -/
def cw (R : List (Nat × Int32)) (n a b k : Nat) : Nat := if a.testBit k = true then (if (rg R k).2 = 2 then (if b.testBit k = true then 1 else n - 1) else if (rg R k).2 = -1 then n - 1 else 1) else 0
def RD (R : List (Nat × Int32)) : Prop := ∀ r, r ∈ R → D3 r.2
theorem cw_opts {R : List (Nat × Int32)} {n a b k : Nat} (ha : a.testBit k = true) : cw R n a b k ∈ opts n (rg R k).2 := by
  unfold cw opts
  rw [if_pos ha]
  repeat' split
  all_goals simp
theorem cw_off {R : List (Nat × Int32)} {n a b k : Nat} (ha : ¬ a.testBit k = true) : cw R n a b k = 0 := by
  unfold cw
  rw [if_neg ha]
theorem cw_on {R : List (Nat × Int32)} {n a b k v : Nat} (hn : RG n) (ha : a.testBit k = true) (hv : v ∈ opts n (rg R k).2) (hb : b.testBit k = decide (v = 1)) : cw R n a b k = v := by
  have h3 := hn.1
  unfold cw
  unfold opts at hv
  rw [if_pos ha]
  by_cases q : (rg R k).2 = 2
  · rw [if_pos q] at hv ⊢
    simp at hv
    rcases hv with e | e
    · subst e
      rw [if_pos (by rw [hb]; rfl)]
    · rw [if_neg (by rw [hb, decide_eq_true_iff]; omega), e]
  · rw [if_neg q] at hv ⊢
    by_cases q2 : (rg R k).2 = -1
    · rw [if_pos q2] at hv ⊢
      simp at hv
      exact hv.symm
    · rw [if_neg q2] at hv ⊢
      simp at hv
      exact hv.symm
theorem bits_of (p : Nat → Bool) : ∀ m, ∃ a, a < 2 ^ m ∧ ∀ k, k < m → a.testBit k = p k
  | 0 => ⟨0, by decide, fun k hk => absurd hk (by omega)⟩
  | m + 1 => by
    obtain ⟨a, h1, h2⟩ := bits_of p m
    have e : 2 ^ (m + 1) = 2 ^ m + 2 ^ m := by rw [Nat.pow_succ]; omega
    cases q : p m with
    | false =>
      refine ⟨a, by omega, fun k hk => ?_⟩
      by_cases z : k = m
      · rw [z, q, Nat.testBit_lt_two_pow h1]
      · exact h2 k (by omega)
    | true =>
      refine ⟨2 ^ m + a, by omega, fun k hk => ?_⟩
      by_cases z : k = m
      · rw [z, q, Nat.testBit_two_pow_add_eq, Nat.testBit_lt_two_pow h1]
        rfl
      · rw [Nat.testBit_two_pow_add_gt (by omega)]
        exact h2 k (by omega)
theorem bit_lt {a m k : Nat} (h : a < 2 ^ m) (hb : a.testBit k = true) : k < m := by
  refine Classical.byContradiction fun z => ?_
  have : 2 ^ m ≤ 2 ^ k := Nat.pow_le_pow_right (by decide) (by omega)
  rw [Nat.testBit_lt_two_pow (by omega)] at hb
  exact absurd hb (by decide)
theorem some_bit : ∀ a, a < 16 → 1 ≤ a → (a.testBit 0 || a.testBit 1 || a.testBit 2 || a.testBit 3) = true := by decide +kernel
theorem ex_bit {a : Nat} (h : a < 16) (h1 : 1 ≤ a) : ∃ k, a.testBit k = true := by
  have := some_bit a h h1
  simp only [Bool.or_eq_true] at this
  rcases this with ((q | q) | q) | q
  · exact ⟨0, q⟩
  · exact ⟨1, q⟩
  · exact ⟨2, q⟩
  · exact ⟨3, q⟩
theorem pow2_of : ∀ a, a < 16 → 1 ≤ a → a &&& (a - 1) = 0 → a = 2 ^ 0 ∨ a = 2 ^ 1 ∨ a = 2 ^ 2 ∨ a = 2 ^ 3 := by decide +kernel
theorem pow2_and : ∀ j, j < 4 → 2 ^ j &&& (2 ^ j - 1) = 0 := by decide +kernel
def mayB (w m a : Nat) : Prop := w = 2 ∨ (w = 0 ∧ a = 2 ^ m - 1) ∨ (w = 1 ∧ a &&& (a - 1) = 0)
theorem m16 {m a : Nat} (hm : m ≤ 4) (h : a < 2 ^ m) : a < 16 := Nat.lt_of_lt_of_le h (Nat.pow_le_pow_right (by decide) hm)
theorem NX_bits {n w c y : Nat} {R : List (Nat × Int32)} (hn : RG n) (h4 : R.length ≤ 4) (hw : w < 3) : NX n R w c y ↔ ∃ a, 1 ≤ a ∧ a < 2 ^ R.length ∧ mayB w R.length a ∧ ∃ b, b < 2 ^ R.length ∧ y = ap n R (gs (cw R n a b) 0 R.length) c := by
  unfold NX
  constructor
  · intro h
    -- given a valid row of choices, the two numbers
    have mk : ∀ (all : Bool) (g : List Nat), val n all R g → ∃ a b gw, a < 2 ^ R.length ∧ b < 2 ^ R.length ∧ g = gs gw 0 R.length ∧ g = gs (cw R n a b) 0 R.length ∧ (∀ k, k < R.length → (a.testBit k = true ↔ gw k ≠ 0)) := by
      intro all g hg
      obtain ⟨gw, e, hh⟩ := gs_val 0 hg
      obtain ⟨a, a1, a2⟩ := bits_of (fun k => decide (gw k ≠ 0)) R.length
      obtain ⟨b, b1, b2⟩ := bits_of (fun k => decide (gw k = 1)) R.length
      refine ⟨a, b, gw, a1, b1, e, ?_, fun k hk => by rw [a2 k hk, decide_eq_true_iff]⟩
      have hc : ∀ k, k < R.length → cw R n a b k = gw k := by
        intro k hk
        have hk2 := hh k hk
        rw [Nat.zero_add] at hk2
        by_cases z : gw k = 0
        · rw [z]
          exact cw_off (by rw [a2 k hk, decide_eq_true_iff]; exact fun q => q z)
        · rcases hk2 with q | q
          · exact cw_on hn (by rw [a2 k hk, decide_eq_true_iff]; exact z) q (b2 k hk)
          · exact absurd q.2 z
      rw [e]
      unfold gs
      refine List.map_congr_left (fun k hk => ?_)
      have := (List.mem_range'_1.mp hk).2
      exact (hc k (by omega)).symm
    by_cases q0 : w = 0
    · rw [if_pos q0] at h
      obtain ⟨hR, g, hg, e⟩ := h
      obtain ⟨a, b, gw, a1, b1, e1, e2, e3⟩ := mk true g hg
      obtain ⟨gv, f1, f2⟩ := gs_val 0 hg
      have hpos : 1 ≤ R.length := by
        cases R with
        | nil => exact absurd rfl hR
        | cons r R => simp
      have eqg : ∀ k, k < R.length → gw k = gv k := by
        intro k hk
        have q := congrArg (fun l => l[k]?) (e1.symm.trans f1)
        unfold gs at q
        simpa [List.getElem?_map, List.getElem?_range', hk] using q
      have ea : a = 2 ^ R.length - 1 := by
        apply Nat.eq_of_testBit_eq
        intro k
        rw [Nat.testBit_two_pow_sub_one]
        by_cases hk : k < R.length
        · rw [decide_eq_true hk, e3 k hk, eqg k hk]
          have := f2 k hk
          rw [Nat.zero_add] at this
          rcases this with q | q
          · exact (opts_ne hn q).1
          · exact absurd q.1 (by decide)
        · rw [decide_eq_false hk]
          cases z : a.testBit k with
          | false => rfl
          | true => exact absurd (bit_lt a1 z) hk
      have h2 : 2 ≤ 2 ^ R.length := Nat.le_trans (by decide) (Nat.pow_le_pow_right (by decide) hpos)
      exact ⟨a, by omega, a1, Or.inr (Or.inl ⟨q0, ea⟩), b, b1, by rw [e, ← e2]⟩
    · rw [if_neg q0] at h
      by_cases q1 : w = 1
      · rw [if_pos q1] at h
        obtain ⟨r, hr, v, hv, e⟩ := h
        obtain ⟨j, j1, j2⟩ := List.getElem_of_mem hr
        have j3 : rg R j = r := by
          unfold rg
          rw [List.getD_eq_getElem?_getD, List.getElem?_eq_getElem j1, Option.getD_some, j2]
        have hlt : 2 ^ j < 2 ^ R.length := Nat.pow_lt_pow_right (by decide) j1
        refine ⟨2 ^ j, Nat.pow_pos (by decide), hlt, Or.inr (Or.inr ⟨q1, pow2_and j (by omega)⟩), if v = 1 then 2 ^ j else 0, by split; exact hlt; exact Nat.pow_pos (by decide), ?_⟩
        rw [ap_one (j := j) (by omega) (by omega) (fun k hk => cw_off (by rw [Nat.testBit_two_pow, decide_eq_true_iff]; omega)), Nat.sub_zero, j3, cw_on (v := v) hn (by rw [Nat.testBit_two_pow, decide_eq_true_iff]) (by rw [j3]; exact hv) (by
          by_cases z : v = 1
          · rw [if_pos z, Nat.testBit_two_pow, decide_eq_true z, decide_eq_true rfl]
          · rw [if_neg z, decide_eq_false z, Nat.zero_testBit])]
        unfold ap1
        rw [if_neg (opts_ne hn hv).1]
        exact e
      · rw [if_neg q1] at h
        obtain ⟨g, hg, ⟨v, hv, hv0⟩, e⟩ := h
        obtain ⟨a, b, gw, a1, b1, e1, e2, e3⟩ := mk false g hg
        refine ⟨a, ?_, a1, Or.inl (by omega), b, b1, by rw [e, ← e2]⟩
        rw [e1] at hv
        unfold gs at hv
        obtain ⟨k, k1, k2⟩ := List.mem_map.mp hv
        have k3 := (List.mem_range'_1.mp k1).2
        have := (e3 k (by omega)).mpr (by rw [k2]; exact hv0)
        refine Classical.byContradiction fun z => ?_
        rw [show a = 0 by omega, Nat.zero_testBit] at this
        exact absurd this (by decide)
  · rintro ⟨a, a0, a1, hm, b, b1, e⟩
    have a16 := m16 h4 a1
    have hval : val n false R (gs (cw R n a b) 0 R.length) := val_gs (fun k _ => by
      by_cases z : a.testBit (0 + k) = true
      · left
        have := cw_opts (R := R) (n := n) (b := b) z
        rw [Nat.zero_add] at this ⊢
        exact this
      · right
        exact ⟨rfl, cw_off z⟩)
    have hex : ∃ k, k < R.length ∧ a.testBit k = true := by
      obtain ⟨k, hk⟩ := ex_bit a16 a0
      exact ⟨k, bit_lt a1 hk, hk⟩
    obtain ⟨k, k1, k2⟩ := hex
    by_cases q0 : w = 0
    · rw [if_pos q0]
      refine ⟨fun z => by rw [z] at k1; exact absurd k1 (by simp), _, ?_, e⟩
      have ea : a = 2 ^ R.length - 1 := by
        rcases hm with z | z | z
        · omega
        · exact z.2
        · omega
      refine val_gs (fun k hk => Or.inl ?_)
      rw [Nat.zero_add]
      exact cw_opts (by rw [ea, Nat.testBit_two_pow_sub_one, decide_eq_true_iff]; exact hk)
    · rw [if_neg q0]
      by_cases q1 : w = 1
      · rw [if_pos q1]
        have hp : a &&& (a - 1) = 0 := by
          rcases hm with z | z | z
          · omega
          · omega
          · exact z.2
        have hj : ∃ j, a = 2 ^ j := by
          rcases pow2_of a a16 a0 hp with z | z | z | z
          · exact ⟨0, z⟩
          · exact ⟨1, z⟩
          · exact ⟨2, z⟩
          · exact ⟨3, z⟩
        obtain ⟨j, hj⟩ := hj
        rw [hj, Nat.testBit_two_pow, decide_eq_true_iff] at k2
        rw [ap_one (j := j) (by omega) (by omega) (fun k hk => cw_off (by rw [hj, Nat.testBit_two_pow, decide_eq_true_iff]; omega)), Nat.sub_zero] at e
        have ho := cw_opts (R := R) (n := n) (a := a) (b := b) (k := j) (by rw [hj, Nat.testBit_two_pow, decide_eq_true_iff])
        unfold ap1 at e
        rw [if_neg (opts_ne hn ho).1] at e
        exact ⟨rg R j, rg_mem (by omega), _, ho, e⟩
      · rw [if_neg q1]
        refine ⟨_, hval, ⟨cw R n a b k, ?_, (opts_ne hn (cw_opts k2)).1⟩, e⟩
        unfold gs
        exact List.mem_map.mpr ⟨k, List.mem_range'_1.mpr ⟨by omega, by omega⟩, rfl⟩
