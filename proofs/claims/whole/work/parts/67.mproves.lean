/-! the model's proves and starts -/
theorem me_L14 {st m : Nat} (h60 : m ≤ 60) (hst : st < m) : ∀ (d i f : Nat) (met : Nat → Int32), i + d = m → d < f → (∀ j, j < i → met j = if j = st then 1 else 0) → ∃ met', F_X8_proves_L14 (nI st) (nI m) f (nI i) met = some met' ∧ ∀ j, j < m → met' j = if j = st then 1 else 0
  | 0, i, f + 1, met, hi, _, h => by
    rw [F_X8_proves_L14.eq_2, if_pos (nI_le (by omega) (by omega))]
    exact ⟨met, rfl, fun j hj => h j (by omega)⟩
  | d + 1, i, f + 1, met, hi, hf, h => by
    rw [F_X8_proves_L14.eq_2, if_neg (nI_ge (by omega) (by omega)), ifEq (by omega) (by omega)]
    have go : ∀ v : Int32, v = (if i = st then 1 else 0) → ∃ met', F_X8_proves_L14 (nI st) (nI m) f (nI (i + 1)) (upd met i v) = some met' ∧ ∀ j, j < m → met' j = if j = st then 1 else 0 := by
      intro v hv
      refine me_L14 h60 hst d (i + 1) f _ (by omega) (by omega) (fun j hj => ?_)
      by_cases e : j = i
      · rw [e, pk_us, hv]
      · rw [pk_un e]
        exact h j (by omega)
    by_cases q : i = st
    · rw [if_pos q]
      (try simp only [Option.bind_some])
      rw [gdT (inbI (by omega) (by omega)), nI_clamp (show i < 2 ^ 31 by omega), nI_1, nar1]
      exact go 1 (by rw [if_pos q])
    · rw [if_neg q]
      (try simp only [Option.bind_some])
      rw [gdT (inbI (by omega) (by omega)), nI_clamp (show i < 2 ^ 31 by omega), nI_1, nar0]
      exact go 0 (by rw [if_neg q])
def zn (met : Nat → Int32) (m : Nat) : Nat := sm (fun i => if met i = 0 then 1 else 0) m
theorem zn_upd {met : Nat → Int32} {m i : Nat} (hi : i < m) (h : met i = 0) : zn (upd met i 1) m + 1 = zn met m := by
  have e := sm_upd (h := fun j => if met j = 0 then 1 else 0) (n := m) (x := i) (v := 0) hi
  have e2 : zn (upd met i 1) m = sm (updN (fun j => if met j = 0 then 1 else 0) i 0) m := by
    unfold zn
    refine sm_congr (fun j hj => ?_)
    by_cases q : j = i
    · rw [q, pk_us, updN_s, if_neg (by decide)]
    · rw [pk_un q, updN_n q]
  rw [e2]
  unfold zn
  show _ + 1 = sm (fun j => if met j = 0 then 1 else 0) m
  have e3 : (if met i = 0 then 1 else 0) = 1 := if_pos h
  have e4 : sm (updN (fun j => if met j = 0 then 1 else 0) i 0) m + (if met i = 0 then 1 else 0) = sm (fun j => if met j = 0 then 1 else 0) m + 0 := e
  rw [e3] at e4
  omega
def ME (M : List Nat) (S : Nat → Nat → Prop) (G : Nat → Prop) (st : Nat) (met : Nat → Int32) : Prop := (∀ i, i < M.length → ¬ met i = 0 → RR S G (M.getD st 0) (M.getD i 0)) ∧ ¬ met st = 0
def CLD (isStep met : Nat → Int32) (m i d : Nat) : Prop := ¬ met i = 0 → ∀ j, d ≤ j → j < m → ¬ isStep (120 * i + j) = 0 → ¬ met j = 0
theorem me_L23 {M : List Nat} {S : Nat → Nat → Prop} {G : Nat → Prop} {st i : Nat} {isStep : Nat → Int32} (h60 : M.length ≤ 60) (hi : i < M.length) (hS : SRW isStep i M (SG S G (M.getD i 0))) : ∀ (e d f : Nat) (z : Int32) (met : Nat → Int32), d + e = M.length → e < f → ME M S G st met → ∃ z' met', F_X8_proves_L23 (nI i) (nI M.length) isStep f z (nI d) met = some (z', met') ∧ ME M S G st met' ∧ ((z' = z ∧ met' = met ∧ CLD isStep met M.length i d) ∨ (z' = 1 ∧ zn met' M.length < zn met M.length))
  | 0, d, f + 1, z, met, hd, _, hI => by
    rw [F_X8_proves_L23.eq_2, if_pos (nI_le (by omega) (by omega))]
    exact ⟨z, met, rfl, hI, Or.inl ⟨rfl, rfl, fun _ j h1 h2 => by omega⟩⟩
  | e + 1, d, f + 1, z, met, hd, hf, hI => by
    have hd2 : d < M.length := by omega
    rw [F_X8_proves_L23.eq_2, if_neg (nI_ge (by omega) (by omega)), gdT (inbI (by omega) (by omega)), nI_clamp (show i < 2 ^ 31 by omega)]
    by_cases q : met i = 0
    · rw [if_pos q]
      exact ⟨z, met, rfl, hI, Or.inl ⟨rfl, rfl, fun y => absurd q y⟩⟩
    · rw [if_neg q, show (120 : Int32) = nI 120 from rfl, q_mul, q_add, gdT (inbI (by omega) (by omega)), nI_clamp (show 120 * i + d < 2 ^ 31 by omega)]
      have stay : (¬ isStep (120 * i + d) = 0 → ¬ met d = 0) → ∃ z' met', F_X8_proves_L23 (nI i) (nI M.length) isStep f z (nI (d + 1)) met = some (z', met') ∧ ME M S G st met' ∧ ((z' = z ∧ met' = met ∧ CLD isStep met M.length i d) ∨ (z' = 1 ∧ zn met' M.length < zn met M.length)) := by
        intro hn
        obtain ⟨z', m', a, b, c⟩ := me_L23 h60 hi hS e (d + 1) f z met (by omega) (by omega) hI
        refine ⟨z', m', a, b, ?_⟩
        rcases c with ⟨c1, c2, c3⟩ | c
        · refine Or.inl ⟨c1, c2, fun y j h1 h2 h3 => ?_⟩
          by_cases y2 : j = d
          · rw [y2] at h3 ⊢
            exact hn h3
          · exact c3 y j (by omega) h2 h3
        · exact Or.inr c
      by_cases q2 : isStep (120 * i + d) = 0
      · rw [if_pos q2]
        (try simp only [Option.bind_some])
        rw [nI_1]
        exact stay fun y => absurd q2 y
      · rw [if_neg q2, gdT (inbI (by omega) (by omega)), nI_clamp (show d < 2 ^ 31 by omega)]
        by_cases q3 : met d = 0
        · rw [if_pos q3, gdT (inbI (by omega) (by omega)), nar1]
          (try simp only [Option.bind_some])
          rw [nI_1]
          have hsg := (hS d hd2).mp q2
          obtain ⟨s, hs⟩ := hI.1 i hi q
          have hI2 : ME M S G st (upd met d 1) := by
            refine ⟨fun j hj hm => ?_, ?_⟩
            · by_cases y : j = d
              · rw [y]
                exact ⟨s + 1, Or.inr ⟨_, hs, hsg.1, hsg.2⟩⟩
              · rw [pk_un y] at hm
                exact hI.1 j hj hm
            · by_cases y : st = d
              · rw [y, pk_us]
                decide
              · rw [pk_un y]
                exact hI.2
          have hz := zn_upd hd2 q3
          obtain ⟨z', m', a, b, c⟩ := me_L23 h60 hi hS e (d + 1) f 1 _ (by omega) (by omega) hI2
          refine ⟨z', m', a, b, Or.inr ?_⟩
          rcases c with ⟨c1, c2, c3⟩ | ⟨c1, c2⟩
          · exact ⟨c1, by rw [c2]; omega⟩
          · exact ⟨c1, by omega⟩
        · rw [if_neg q3]
          (try simp only [Option.bind_some])
          rw [nI_1]
          exact stay fun _ => q3
theorem me_L21 {M : List Nat} {S : Nat → Nat → Prop} {G : Nat → Prop} {st : Nat} {isStep : Nat → Int32} (h60 : M.length ≤ 60) (hS : ∀ i, i < M.length → SRW isStep i M (SG S G (M.getD i 0))) : ∀ (e i f : Nat) (z : Int32) (met : Nat → Int32), i + e = M.length → e < f → ME M S G st met → ∃ z' met', F_X8_proves_L21 (nI M.length) isStep f z (nI i) met = some (z', met') ∧ ME M S G st met' ∧ ((z' = z ∧ met' = met ∧ ∀ j, i ≤ j → j < M.length → CLD isStep met M.length j 0) ∨ (z' = 1 ∧ zn met' M.length < zn met M.length))
  | 0, i, f + 1, z, met, hi, _, hI => by
    rw [F_X8_proves_L21.eq_2, if_pos (nI_le (by omega) (by omega))]
    exact ⟨z, met, rfl, hI, Or.inl ⟨rfl, rfl, fun j h1 h2 => by omega⟩⟩
  | e + 1, i, f + 1, z, met, hi, hf, hI => by
    have hi2 : i < M.length := by omega
    rw [F_X8_proves_L21.eq_2, if_neg (nI_ge (by omega) (by omega))]
    obtain ⟨z1, m1, a, b, c⟩ := me_L23 h60 hi2 (hS i hi2) M.length 0 FU z met (by omega) (by unfold FU; omega) hI
    rw [show nI 0 = (0 : Int32) from rfl] at a
    rw [a]
    (try simp only [Option.bind_some])
    rw [nI_1]
    obtain ⟨z2, m2, a2, b2, c2⟩ := me_L21 h60 hS e (i + 1) f z1 m1 (by omega) (by omega) b
    refine ⟨z2, m2, a2, b2, ?_⟩
    rcases c with ⟨d1, d2, d3⟩ | ⟨d1, d2⟩
    · subst d2
      subst d1
      rcases c2 with ⟨e1, e2, e3⟩ | e1
      · refine Or.inl ⟨e1, e2, fun j h1 h2 => ?_⟩
        by_cases y : j = i
        · rw [y]
          exact d3
        · exact e3 j (by omega) h2
      · exact Or.inr e1
    · right
      rcases c2 with ⟨e1, e2, e3⟩ | ⟨e1, e2⟩
      · exact ⟨e1.trans d1, by rw [e2]; exact d2⟩
      · exact ⟨e1, by omega⟩
theorem me_L19 {M : List Nat} {S : Nat → Nat → Prop} {G : Nat → Prop} {st : Nat} {isStep : Nat → Int32} (h60 : M.length ≤ 60) (hS : ∀ i, i < M.length → SRW isStep i M (SG S G (M.getD i 0))) : ∀ (m f : Nat) (met : Nat → Int32), zn met M.length ≤ m → m + 1 < f → ME M S G st met → ∃ met', F_X8_proves_L19 (nI M.length) isStep f 1 met = some met' ∧ ME M S G st met' ∧ ∀ j, j < M.length → CLD isStep met' M.length j 0
  | m, f + 2, met, hm, hf, hI => by
    rw [F_X8_proves_L19.eq_2, if_neg (by decide)]
    obtain ⟨z', m', a, b, c⟩ := me_L21 h60 hS M.length 0 FU 0 met (by omega) (by unfold FU; omega) hI
    rw [show nI 0 = (0 : Int32) from rfl] at a
    rw [a]
    (try simp only [Option.bind_some])
    rcases c with ⟨c1, c2, c3⟩ | ⟨c1, c2⟩
    · rw [c1, F_X8_proves_L19.eq_2, if_pos rfl]
      subst c2
      exact ⟨m', rfl, hI, fun j hj => c3 j (by omega) hj⟩
    · rw [c1]
      cases m with
      | zero => omega
      | succ m => exact me_L19 h60 hS m (f + 1) m' (by omega) (by omega) b
  | m, 0, _, _, hf, _ => by omega
  | m, 1, _, _, hf, _ => by omega
theorem met_end {N M : List Nat} {S : Nat → Nat → Prop} {G : Nat → Prop} {st : Nat} {isStep met : Nat → Int32} (hd : M.Nodup) (hst : st < M.length) (hNM : ∀ x, x ∈ N ↔ x ∈ M) (hC : CLO N S) (hS : ∀ i, i < M.length → SRW isStep i M (SG S G (M.getD i 0))) (hI : ME M S G st met) (hE : ∀ j, j < M.length → CLD isStep met M.length j 0) : ∀ i, i < M.length → (¬ met i = 0 ↔ RR S G (M.getD st 0) (M.getD i 0)) := by
  have h0 : M.getD st 0 ∈ N := (hNM _).mpr (getD_mem hst)
  have key : ∀ s i, i < M.length → RCH S G (M.getD st 0) s (M.getD i 0) → ¬ met i = 0 := by
    intro s
    induction s with
    | zero =>
      intro i hi h
      have : i = st := nd_inj hd hi hst h
      rw [this]
      exact hI.2
    | succ s ih =>
      intro i hi h
      rcases h with h | ⟨x, h1, h2, h3⟩
      · exact ih i hi h
      · obtain ⟨j, k1, k2⟩ := mem_getD ((hNM x).mp (RCH_mem hC h0 h1))
        rw [← k2] at h1 h2 h3
        exact hE j k1 (ih j k1 h1) i (by omega) hi ((hS j k1 i hi).mpr ⟨h2, h3⟩)
  intro i hi
  exact ⟨hI.1 i hi, fun ⟨s, hs⟩ => key s i hi hs⟩
theorem ld_L33 {m i : Nat} {isStep : Nat → Int32} (h60 : m ≤ 60) (hi : i < m) : ∀ (e d f : Nat) (z : Int32), d + e = m → e < f → (z = 0 ∨ z = 1) → (z = 1 ↔ ∃ j, j < d ∧ ¬ isStep (120 * i + j) = 0) → ∃ z', F_X8_proves_L33 (nI i) (nI m) isStep f z (nI d) = some z' ∧ (z' = 0 ∨ z' = 1) ∧ (z' = 1 ↔ ∃ j, j < m ∧ ¬ isStep (120 * i + j) = 0)
  | 0, d, f + 1, z, hd, _, hz, h => by
    rw [F_X8_proves_L33.eq_2, if_pos (nI_le (by omega) (by omega))]
    rw [show d = m by omega] at h
    exact ⟨z, rfl, hz, h⟩
  | e + 1, d, f + 1, z, hd, hf, hz, h => by
    rw [F_X8_proves_L33.eq_2, if_neg (nI_ge (by omega) (by omega)), show (120 : Int32) = nI 120 from rfl, q_mul, q_add, gdT (inbI (by omega) (by omega)), nI_clamp (by omega)]
    have h1 : ¬ (1 : Int32) = 0 := by decide
    rcases hz with hz | hz
    · rw [if_pos hz]
      have hno : ¬ ∃ j, j < d ∧ ¬ isStep (120 * i + j) = 0 := fun y => by
        have := h.mpr y
        rw [hz] at this
        exact absurd this (by decide)
      by_cases q : isStep (120 * i + d) = 0
      · rw [if_pos q]
        (try simp only [Option.bind_some])
        rw [nI_1]
        refine ld_L33 h60 hi e (d + 1) f 0 (by omega) (by omega) (Or.inl rfl) ⟨fun y => absurd y (by decide), ?_⟩
        rintro ⟨j, j1, j2⟩
        by_cases y : j = d
        · rw [y] at j2
          exact absurd q j2
        · exact absurd ⟨j, by omega, j2⟩ hno
      · rw [if_neg q]
        (try simp only [Option.bind_some])
        rw [nI_1]
        exact ld_L33 h60 hi e (d + 1) f 1 (by omega) (by omega) (Or.inr rfl) ⟨fun _ => ⟨d, by omega, q⟩, fun _ => rfl⟩
    · rw [if_neg (by rw [hz]; exact h1)]
      (try simp only [Option.bind_some])
      rw [nI_1]
      obtain ⟨j, j1, j2⟩ := h.mp hz
      exact ld_L33 h60 hi e (d + 1) f 1 (by omega) (by omega) (Or.inr rfl) ⟨fun _ => ⟨j, by omega, j2⟩, fun _ => rfl⟩
theorem ct_L31 {N M : List Nat} {S : Nat → Nat → Prop} {G P : Nat → Prop} {isStep isGoal met : Nat → Int32} {what : Nat} (h60 : M.length ≤ 60) (hNM : ∀ x, x ∈ N ↔ x ∈ M) (hC : CLO N S) (hS : ∀ i, i < M.length → SRW isStep i M (SG S G (M.getD i 0))) (hG : ∀ i, i < M.length → (isGoal i = 0 ↔ ¬ G (M.getD i 0))) (hP : ∀ i, i < M.length → (¬ met i = 0 ↔ P (M.getD i 0))) (hw : what < 5) : ∀ (e i f : Nat), i + e = M.length → e < f → F_X8_proves_L31 (nI what) (nI M.length) isStep isGoal met f (nI (sm (fun j => one (bp (CNT S G P what (M.getD j 0)))) i)) (nI i) = some (nI (sm (fun j => one (bp (CNT S G P what (M.getD j 0)))) M.length))
  | 0, i, f + 1, hi, _ => by
    rw [F_X8_proves_L31.eq_2, if_pos (nI_le (by omega) (by omega)), show i = M.length by omega]
  | e + 1, i, f + 1, hi, hf => by
    have hi2 : i < M.length := by omega
    have ih := ct_L31 h60 hNM hC hS hG hP hw e (i + 1) f (by omega) (by omega)
    obtain ⟨z, a, b, c⟩ := ld_L33 (isStep := isStep) h60 hi2 M.length 0 FU 0 (by omega) (by unfold FU; omega) (Or.inl rfl) ⟨fun y => absurd y (by decide), fun ⟨j, j1, _⟩ => absurd j1 (by omega)⟩
    have hz : z = 0 ↔ ¬ ∃ y, SG S G (M.getD i 0) y := by
      have hx : M.getD i 0 ∈ N := (hNM _).mpr (getD_mem hi2)
      constructor
      · rintro y ⟨t, ht⟩
        obtain ⟨j, k1, k2⟩ := mem_getD ((hNM t).mp (hC _ hx t ht.2))
        have := c.mpr ⟨j, k1, (hS i hi2 j k1).mpr (by rw [k2]; exact ht)⟩
        rw [y] at this
        exact absurd this (by decide)
      · intro y
        rcases b with b | b
        · exact b
        · obtain ⟨j, j1, j2⟩ := c.mp b
          exact absurd ⟨_, (hS i hi2 j j1).mp j2⟩ y
    rw [F_X8_proves_L31.eq_2, if_neg (nI_ge (by omega) (by omega))]
    rw [show nI 0 = (0 : Int32) from rfl] at a
    rw [a]
    (try simp only [Option.bind_some])
    have hG0 := hG i hi2
    have hP0 := hP i hi2
    have key : (if met i = 0 then some (0 : Int32) else (if nI what = 1 then some 1 else (if nI what = 2 then (if isGoal i = 0 then (if nI what = 3 then (if isGoal i = 0 then (if z = 0 then some 1 else some 0) else some 0) else some 0) else some 1) else (if nI what = 3 then (if isGoal i = 0 then (if z = 0 then some 1 else some 0) else some 0) else some 0)))) = some (nI (one (bp (CNT S G P what (M.getD i 0))))) := by
      rw [ifE1 (by omega), show (2 : Int32) = nI 2 from rfl, ifEq (by omega) (by omega), show (3 : Int32) = nI 3 from rfl, ifEq (by omega) (by omega)]
      have yes : CNT S G P what (M.getD i 0) → some (1 : Int32) = some (nI (one (bp (CNT S G P what (M.getD i 0))))) := fun h => by rw [bp_iff.mpr h]; rfl
      have no : ¬ CNT S G P what (M.getD i 0) → some (0 : Int32) = some (nI (one (bp (CNT S G P what (M.getD i 0))))) := fun h => by rw [bp_no h]; rfl
      by_cases m0 : met i = 0
      · rw [if_pos m0]
        exact no fun h => (hP0.mpr h.1) m0
      · have p0 := hP0.mp m0
        rw [if_neg m0]
        by_cases w1 : what = 1
        · rw [if_pos w1]
          exact yes ⟨p0, Or.inl w1⟩
        · rw [if_neg w1]
          by_cases w2 : what = 2
          · rw [if_pos w2, if_neg (show ¬ what = 3 by omega)]
            by_cases g0 : isGoal i = 0
            · rw [if_pos g0]
              refine no ?_
              rintro ⟨_, h | ⟨_, h⟩ | ⟨h, _⟩⟩
              · omega
              · exact hG0.mp g0 h
              · omega
            · rw [if_neg g0]
              exact yes ⟨p0, Or.inr (Or.inl ⟨w2, Classical.byContradiction fun y => g0 (hG0.mpr y)⟩)⟩
          · rw [if_neg w2]
            by_cases w3 : what = 3
            · rw [if_pos w3]
              by_cases g0 : isGoal i = 0
              · have gn := hG0.mp g0
                rw [if_pos g0]
                by_cases z0 : z = 0
                · rw [if_pos z0]
                  exact yes ⟨p0, Or.inr (Or.inr ⟨w3, gn, fun ⟨y, hy⟩ => hz.mp z0 ⟨y, gn, hy⟩⟩)⟩
                · rw [if_neg z0]
                  refine no ?_
                  rintro ⟨_, h | ⟨h, _⟩ | ⟨_, _, h⟩⟩
                  · omega
                  · omega
                  · exact z0 (hz.mpr fun ⟨y, hy⟩ => h ⟨y, hy.2⟩)
              · rw [if_neg g0]
                refine no ?_
                rintro ⟨_, h | ⟨h, _⟩ | ⟨_, h, _⟩⟩
                · omega
                · omega
                · exact g0 (hG0.mpr h)
            · rw [if_neg w3]
              refine no ?_
              rintro ⟨_, h | ⟨h, _⟩ | ⟨h, _⟩⟩
              · omega
              · omega
              · omega
    rw [gdT (inbI (by omega) (by omega)), nI_clamp (by omega), gdT (inbI (by omega) (by omega)), gdT (inbI (by omega) (by omega)), key]
    (try simp only [Option.bind_some])
    rw [nI_1, q_add]
    exact ih
theorem m_proves {n c k w g what : Nat} {B : BOOK} {rs rr rd here : Nat → Int32} {rules vd crowds : Int32} (hn : RG n) (hc : CR n c k) (hk : k ≠ 0) (hH : HD here n c) (hB : BKok B) (hM : BKM rules rs rr rd B) (hw : w < 3) (hg : g < 3) (h5 : what < 5) (hand view up down name crowd isStep isGoal isMet most stands does from_ : Nat → Int32) : ∃ a vd' crowds' hand' view' up' down' name' crowd' isStep' isGoal' isMet' most' stands' does' from', F_X8_proves (nI w) (nI g) (nI what) (nI n) (nI k) vd rules crowds here hand view up down rs rr rd name crowd isStep isGoal isMet most stands does from_ = some (a, 0, vd', crowds', hand', view', up', down', name', crowd', isStep', isGoal', isMet', most', stands', does', from') ∧ PA n k B w g what c a := by
  have h4 := hc.2.2
  have h1 : 1 ≤ k := by omega
  obtain ⟨g1, g2, g3, g4⟩ := GLok hn h1 h4
  obtain ⟨M, c1, c2, c3, c4, c5, c6, c7, c8, c9, c10, c11, c12, c13, e1, hT, hS, hG, hMo⟩ := m_prove (vd := vd) hn h1 h4 hw hg hB hM hand view up down name crowd isStep isGoal most stands does from_
  have hML := hT.2.2.2.1
  have h60 := hML.2.2
  have hC := ST_clo (w := w) (B := B) hn h1 h4
  obtain ⟨nm, n1, n2⟩ := m_findName (name := c6) hn hc.1 (hH.take (hand := c2))
  obtain ⟨r, r1, r2, r3⟩ := hT.num hc n2
  unfold F_X8_proves
  rw [(in_lit (a := nI w) (b := 3) (L := 2) (by decide) (by decide)).2 w hw rfl, (in_lit (a := nI g) (b := 3) (L := 2) (by decide) (by decide)).2 g hg rfl, (in_lit (a := nI what) (b := 5) (L := 4) (by decide) (by decide)).2 what h5 rfl]
  (try simp only [Option.bind_some])
  rw [if_neg (by decide), if_neg (by decide), if_neg (by decide), ifE0 (by omega), if_neg hk, e1]
  (try simp only [Option.bind_some])
  rw [m_take]
  (try simp only [Option.bind_some])
  rw [n1]
  (try simp only [Option.bind_some])
  rw [r3]
  (try simp only [Option.bind_some])
  have hmo := hMo r r1
  rw [r2] at hmo
  rw [ifE0 (by omega), show (4 : Int32) = nI 4 from rfl, ifEq (by omega) (by omega)]
  by_cases q0 : what = 0
  · rw [if_pos q0, gdT (inbI (by omega) (by omega)), nI_clamp (by omega)]
    by_cases z : c10 r = -1000000
    · rw [if_pos z]
      exact ⟨_, _, _, _, _, _, _, _, _, _, _, _, _, _, _, _, rfl, ⟨_, hmo, by rw [if_pos q0, if_pos z]⟩⟩
    · rw [if_neg z]
      exact ⟨_, _, _, _, _, _, _, _, _, _, _, _, _, _, _, _, rfl, ⟨_, hmo, by rw [if_pos q0, if_neg z]⟩⟩
  · rw [if_neg q0]
    by_cases q4 : what = 4
    · rw [if_pos q4, gdT (inbI (by omega) (by omega)), nI_clamp (by omega)]
      exact ⟨_, _, _, _, _, _, _, _, _, _, _, _, _, _, _, _, rfl, ⟨_, hmo, by rw [if_neg q0, if_pos q4]⟩⟩
    · rw [if_neg q4]
      obtain ⟨me, a1, a2⟩ := me_L14 h60 r1 M.length 0 FU isMet (by omega) (by unfold FU; omega) (fun j hj => absurd hj (by omega))
      have hI : ME M (ST n B w) (GP n k g) r me := by
        refine ⟨fun i hi hm => ?_, ?_⟩
        · rw [a2 i hi] at hm
          by_cases y : i = r
          · rw [y]
            exact ⟨0, rfl⟩
          · rw [if_neg y] at hm
            exact absurd rfl hm
        · rw [a2 r r1, if_pos rfl]
          decide
      have hzn : zn me M.length ≤ M.length := by
        unfold zn
        have : ∀ m, sm (fun i => if me i = 0 then 1 else 0) m ≤ m := fun m => by
          induction m with
          | zero => exact Nat.le_refl _
          | succ m ih =>
            show sm (fun i => if me i = 0 then 1 else 0) m + (if me m = 0 then 1 else 0) ≤ m + 1
            split <;> omega
        exact this _
      obtain ⟨mt, b1, b2, b3⟩ := me_L19 h60 hS M.length FU me hzn (by unfold FU; omega) hI
      have hP := met_end hML.1 r1 hML.2.1 hC hS b2 b3
      have hct := ct_L31 (what := what) h60 hML.2.1 hC hS hG hP h5 M.length 0 FU (by omega) (by unfold FU; omega)
      rw [show nI 0 = (0 : Int32) from rfl] at a1
      rw [a1]
      (try simp only [Option.bind_some])
      rw [b1]
      (try simp only [Option.bind_some])
      rw [show nI (sm (fun j => one (bp (CNT (ST n B w) (GP n k g) (RR (ST n B w) (GP n k g) (M.getD r 0)) what (M.getD j 0)))) 0) = (0 : Int32) from rfl, show nI 0 = (0 : Int32) from rfl] at hct
      rw [hct]
      (try simp only [Option.bind_some])
      refine ⟨_, _, _, _, _, _, _, _, _, _, _, _, _, _, _, _, rfl, ⟨_, hmo, ?_⟩⟩
      rw [if_neg q0, if_neg q4, ← cN_sm, r2, cN_perm g2 hML.1 hML.2.1]
theorem st_L9 {N M : List Nat} {S : Nat → Nat → Prop} {G : Nat → Prop} {most : Nat → Int32} (h60 : M.length ≤ 60) (hM : ∀ i, i < M.length → MOST S G (M.getD i 0) (most i)) : ∀ (e i f : Nat), i + e = M.length → e < f → F_X8_starts_L9 (nI M.length) most f (nI (sm (fun j => one (bp (WK S G (M.getD j 0)))) i)) (nI i) = some (nI (sm (fun j => one (bp (WK S G (M.getD j 0)))) M.length))
  | 0, i, f + 1, hi, _ => by
    rw [F_X8_starts_L9.eq_2, if_pos (nI_le (by omega) (by omega)), show i = M.length by omega]
  | e + 1, i, f + 1, hi, hf => by
    have hi2 : i < M.length := by omega
    have ih := st_L9 (N := N) h60 hM e (i + 1) f (by omega) (by omega)
    rw [F_X8_starts_L9.eq_2, if_neg (nI_ge (by omega) (by omega)), gdT (inbI (by omega) (by omega)), nI_clamp (by omega)]
    have key : (if most i = -1000000 then some (0 : Int32) else some 1) = some (nI (one (bp (WK S G (M.getD i 0))))) := by
      rcases hM i hi2 with ⟨s, s1, s2, s3, s4⟩ | ⟨a, b⟩
      · rw [if_neg (by rw [s4]; exact nNone (by omega)), bp_iff.mpr ⟨s, s2⟩]
        rfl
      · rw [if_pos b, bp_no a]
        rfl
    rw [key]
    (try simp only [Option.bind_some])
    rw [nI_1, q_add]
    exact ih
theorem m_starts {n c k w g what : Nat} {B : BOOK} {rs rr rd : Nat → Int32} {rules vd crowds : Int32} (hn : RG n) (hc : CR n c k) (hk : k ≠ 0) (hB : BKok B) (hM : BKM rules rs rr rd B) (hw : w < 3) (hg : g < 3) (h5 : what < 2) (hand view up down name crowd isStep isGoal most stands does from_ : Nat → Int32) : ∃ vd' crowds' hand' view' up' down' name' crowd' isStep' isGoal' most' stands' does' from', F_X8_starts (nI w) (nI g) (nI what) (nI n) (nI k) vd rules crowds hand view up down rs rr rd name crowd isStep isGoal most stands does from_ = some (SA n k B w g what, 0, vd', crowds', hand', view', up', down', name', crowd', isStep', isGoal', most', stands', does', from') := by
  have h4 := hc.2.2
  have h1 : 1 ≤ k := by omega
  obtain ⟨g1, g2, g3, g4⟩ := GLok hn h1 h4
  obtain ⟨M, c1, c2, c3, c4, c5, c6, c7, c8, c9, c10, c11, c12, c13, e1, hT, hS, hG, hMo⟩ := m_prove (vd := vd) hn h1 h4 hw hg hB hM hand view up down name crowd isStep isGoal most stands does from_
  have hML := hT.2.2.2.1
  have h60 := hML.2.2
  have hct := st_L9 (N := GL n k) h60 hMo M.length 0 FU (by omega) (by unfold FU; omega)
  unfold F_X8_starts
  rw [(in_lit (a := nI w) (b := 3) (L := 2) (by decide) (by decide)).2 w hw rfl, (in_lit (a := nI g) (b := 3) (L := 2) (by decide) (by decide)).2 g hg rfl, (in_lit (a := nI what) (b := 2) (L := 1) (by decide) (by decide)).2 what h5 rfl]
  (try simp only [Option.bind_some])
  rw [if_neg (by decide), if_neg (by decide), if_neg (by decide), ifE0 (by omega), if_neg hk, e1]
  (try simp only [Option.bind_some])
  rw [show nI (sm (fun j => one (bp (WK (ST n B w) (GP n k g) (M.getD j 0)))) 0) = (0 : Int32) from rfl, show nI 0 = (0 : Int32) from rfl] at hct
  rw [hct]
  (try simp only [Option.bind_some])
  rw [ifE0 (by omega)]
  unfold SA
  by_cases q : what = 0
  · rw [if_pos q, if_pos q]
    have hl : (GL n k).length = M.length := ((List.perm_ext_iff_of_nodup g2 hML.1).mpr hML.2.1).length_eq
    rw [hl]
    exact ⟨_, _, _, _, _, _, _, _, _, _, _, _, _, _, rfl⟩
  · rw [if_neg q, if_neg q, cN_perm g2 hML.1 hML.2.1, cN_sm]
    exact ⟨_, _, _, _, _, _, _, _, _, _, _, _, _, _, rfl⟩
