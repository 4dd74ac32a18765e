/-! the class's rounds -/
theorem BS_and {N : List Nat} {L M : Int64} {P Q : Nat → Prop} (h : BS N L P) (g : BS N M Q) : BS N (L &&& M) (fun y => P y ∧ Q y) := fun i hi => by
  rw [bt_and, Bool.and_eq_true, h i hi, g i hi]
  exact ⟨fun ⟨⟨a, b⟩, _, d⟩ => ⟨a, b, d⟩, fun ⟨a, b, d⟩ => ⟨⟨a, b⟩, a, d⟩⟩
theorem BS_or {N : List Nat} {L M : Int64} {P Q : Nat → Prop} (h : BS N L P) (g : BS N M Q) : BS N (L ||| M) (fun y => P y ∨ Q y) := fun i hi => by
  rw [bt_or, Bool.or_eq_true, h i hi, g i hi]
  constructor
  · rintro (⟨a, b⟩ | ⟨a, b⟩)
    · exact ⟨a, Or.inl b⟩
    · exact ⟨a, Or.inr b⟩
  · rintro ⟨a, b | b⟩
    · exact Or.inl ⟨a, b⟩
    · exact Or.inr ⟨a, b⟩
theorem BS_minus {N : List Nat} {L M : Int64} {P Q : Nat → Prop} (h : BS N L P) (g : BS N M Q) : BS N (L &&& (M ^^^ (-1))) (fun y => P y ∧ ¬ Q y) := fun i hi => by
  rw [bt_and, Bool.and_eq_true, h i hi, bt_not M hi]
  constructor
  · rintro ⟨⟨a, b⟩, d⟩
    refine ⟨a, b, fun q => ?_⟩
    rw [(g i hi).mpr ⟨a, q⟩] at d
    exact absurd d (by decide)
  · rintro ⟨a, b, d⟩
    refine ⟨⟨a, b⟩, ?_⟩
    cases e : bt M i with
    | false => rfl
    | true => exact absurd ((g i hi).mp e).2 d
theorem BS_bit {N : List Nat} {j : Nat} (h60 : N.length ≤ 60) (hd : N.Nodup) (hj : j < N.length) : BS N (jlshl 1 (nI j)) (fun y => y = N.getD j 0) := fun i hi => by
  rw [bt_1 j (by omega) i hi, decide_eq_true_iff]
  constructor
  · intro e
    subst e
    exact ⟨hj, rfl⟩
  · rintro ⟨a, b⟩
    exact nd_inj hd a hj b
theorem BS_emp {N : List Nat} {L : Int64} {P : Nat → Prop} (h60 : N.length ≤ 60) (h : BS N L P) : lg_cmp L 0 = 0 ↔ ∀ y, y ∈ N → ¬ P y := by
  rw [bt_iff]
  constructor
  · intro e y hy hp
    obtain ⟨i, i1, i2⟩ := mem_getD hy
    have := e i (by omega)
    rw [bt_0, (h i (by omega)).mpr ⟨i1, by rw [i2]; exact hp⟩] at this
    exact absurd this (by decide)
  · intro e i hi
    rw [bt_0]
    cases q : bt L i with
    | false => rfl
    | true =>
      obtain ⟨a, b⟩ := (h i hi).mp q
      exact absurd b (e _ (getD_mem a))
theorem BS_eq {N : List Nat} {L M : Int64} {P Q : Nat → Prop} (h60 : N.length ≤ 60) (h : BS N L P) (g : BS N M Q) : lg_cmp L M = 0 ↔ ∀ y, y ∈ N → (P y ↔ Q y) := by
  rw [bt_iff]
  constructor
  · intro e y hy
    obtain ⟨i, i1, i2⟩ := mem_getD hy
    have hi : i < 64 := by omega
    have a := h i hi
    have b := g i hi
    rw [e i hi, b, i2] at a
    exact ⟨fun p => (a.mpr ⟨i1, p⟩).2, fun p => (a.mp ⟨i1, p⟩).2⟩
  · intro e i hi
    have a := h i hi
    have b := g i hi
    cases q : bt M i with
    | false =>
      cases q2 : bt L i with
      | false => rfl
      | true =>
        obtain ⟨c, d⟩ := a.mp q2
        rw [q] at b
        exact absurd (b.mpr ⟨c, (e _ (getD_mem c)).mp d⟩) (by decide)
    | true =>
      obtain ⟨c, d⟩ := b.mp q
      exact a.mpr ⟨c, (e _ (getD_mem c)).mpr d⟩
theorem BS_has {N : List Nat} {L : Int64} {P : Nat → Prop} {j : Nat} (h60 : N.length ≤ 60) (hd : N.Nodup) (hj : j < N.length) (h : BS N L P) : lg_cmp (L &&& jlshl 1 (nI j)) 0 = 0 ↔ ¬ P (N.getD j 0) := by
  rw [BS_emp h60 (BS_and h (BS_bit h60 hd hj))]
  constructor
  · intro e p
    exact e _ (getD_mem hj) ⟨p, rfl⟩
  · rintro e y _ ⟨p, q⟩
    rw [q] at p
    exact e p
/-- the class's tables: names N, links by S, goals by G -/
def TB (N : List Nat) (w : Nat) (links : Nat → Int64) (S : Nat → Nat → Prop) : Prop := N.length ≤ 60 ∧ N.Nodup ∧ CLO N S ∧ ∀ i, i < N.length → BS N (links (w * 64 + i)) (S (N.getD i 0))
theorem safe_L {N : List Nat} {w : Nat} {links : Nat → Int64} {S : Nat → Nat → Prop} {safe : Int64} {P : Nat → Prop} (hw : w < 3) (hT : TB N w links S) (hP : BS N safe P) : ∀ (e i f : Nat) (more : Int64), i + e = N.length → e < f → BS N more (fun y => P y ∨ (y ∈ N.take i ∧ (∃ z, S y z) ∧ ∀ z, S y z → P z)) → ∃ more', F_X6_safeByOne_L1 safe (nI w) (nI N.length) links f more (nI i) = some more' ∧ BS N more' (fun y => P y ∨ ((∃ z, S y z) ∧ ∀ z, S y z → P z))
  | 0, i, f + 1, more, hi, _, hb => by
    obtain ⟨h60, hd, hC, hL⟩ := hT
    rw [F_X6_safeByOne_L1.eq_2, if_pos (nI_le (by omega) (by omega))]
    rw [List.take_of_length_le (by omega)] at hb
    refine ⟨more, rfl, fun j hj => ?_⟩
    rw [hb j hj]
    constructor
    · rintro ⟨a, b | ⟨_, b⟩⟩
      · exact ⟨a, Or.inl b⟩
      · exact ⟨a, Or.inr b⟩
    · rintro ⟨a, b | b⟩
      · exact ⟨a, Or.inl b⟩
      · exact ⟨a, Or.inr ⟨getD_mem a, b⟩⟩
  | e + 1, i, f + 1, more, hi, hf, hb => by
    have hT' := hT
    obtain ⟨h60, hd, hC, hL⟩ := hT'
    have hi2 : i < N.length := by omega
    have hl := hL i hi2
    rw [F_X6_safeByOne_L1.eq_2, if_neg (nI_ge (by omega) (by omega)), x_linksOf hw (by omega)]
    (try simp only [Option.bind_some])
    have c1 : lg_cmp (links (w * 64 + i)) 0 = 0 ↔ ¬ ∃ z, S (N.getD i 0) z := by
      rw [BS_emp h60 hl]
      exact ⟨fun h ⟨z, hz⟩ => h z (hC _ (getD_mem hi2) z hz) hz, fun h z _ hz => h ⟨z, hz⟩⟩
    have c2 : lg_cmp (links (w * 64 + i) &&& (safe ^^^ (-1))) 0 = 0 ↔ ∀ z, S (N.getD i 0) z → P z := by
      rw [BS_emp h60 (BS_minus hl hP)]
      exact ⟨fun h z hz => Classical.byContradiction fun q => h z (hC _ (getD_mem hi2) z hz) ⟨hz, q⟩, fun h z _ hz => hz.2 (h z hz.1)⟩
    have stay : ¬ ((∃ z, S (N.getD i 0) z) ∧ ∀ z, S (N.getD i 0) z → P z) → BS N more (fun y => P y ∨ (y ∈ N.take (i + 1) ∧ (∃ z, S y z) ∧ ∀ z, S y z → P z)) := by
      intro q
      refine BS_congr hb (fun y => ?_)
      rw [take_s hi2, List.mem_append, List.mem_singleton]
      constructor
      · rintro (a | ⟨a, b⟩)
        · exact Or.inl a
        · exact Or.inr ⟨Or.inl a, b⟩
      · rintro (a | ⟨a | a, b⟩)
        · exact Or.inl a
        · exact Or.inr ⟨a, b⟩
        · rw [a] at b
          exact absurd b q
    by_cases q1 : lg_cmp (links (w * 64 + i)) 0 = 0
    · rw [if_pos q1]
      (try simp only [Option.bind_some])
      rw [nI_1]
      exact safe_L hw hT hP e (i + 1) f more (by omega) (by omega) (stay fun q => (c1.mp q1) q.1)
    · rw [if_neg q1]
      by_cases q2 : lg_cmp (links (w * 64 + i) &&& (safe ^^^ (-1))) 0 = 0
      · rw [if_pos q2]
        (try simp only [Option.bind_some])
        rw [nI_1]
        refine safe_L hw hT hP e (i + 1) f _ (by omega) (by omega) (BS_congr (BS_or hb (BS_bit h60 hd hi2)) (fun y => ?_))
        have hc : (∃ z, S (N.getD i 0) z) ∧ ∀ z, S (N.getD i 0) z → P z := ⟨Classical.byContradiction fun z => q1 (c1.mpr z), c2.mp q2⟩
        rw [take_s hi2, List.mem_append, List.mem_singleton]
        constructor
        · rintro ((a | ⟨a, b⟩) | a)
          · exact Or.inl a
          · exact Or.inr ⟨Or.inl a, b⟩
          · exact Or.inr ⟨Or.inr a, by rw [a]; exact hc⟩
        · rintro (a | ⟨a | a, b⟩)
          · exact Or.inl (Or.inl a)
          · exact Or.inl (Or.inr ⟨a, b⟩)
          · exact Or.inr a
      · rw [if_neg q2]
        (try simp only [Option.bind_some])
        rw [nI_1]
        exact safe_L hw hT hP e (i + 1) f more (by omega) (by omega) (stay fun q => q2 (c2.mpr q.2))
theorem x_safe {N : List Nat} {w s : Nat} {links : Nat → Int64} {S : Nat → Nat → Prop} {G : Nat → Prop} {safe : Int64} (hw : w < 3) (hT : TB N w links S) (hP : BS N safe (SF S G s)) : ∃ more', F_X6_safeByOne safe (nI w) (nI N.length) links = some more' ∧ BS N more' (SF S G (s + 1)) := by
  obtain ⟨m, a, b⟩ := safe_L hw hT hP N.length 0 FU safe (by omega) (by have := hT.1; unfold FU; omega) (BS_congr hP (fun y => by simp))
  unfold F_X6_safeByOne
  rw [show nI 0 = (0 : Int32) from rfl] at a
  rw [a]
  exact ⟨m, rfl, b⟩
theorem x_ofGoal {g : Nat} (hg : g < 3) (goals : Nat → Int64) : F_X6_ofGoal (nI g) goals = some (goals g) := by
  unfold F_X6_ofGoal
  rw [show (3 : Int32) = nI 3 from rfl, out_in hg (by omega)]
  (try simp only [Option.bind_some])
  rw [if_pos (by trivial), gdT (inbI (by omega) (by omega)), nI_clamp (by omega)]
/-- what MOST is -/
def MOST (S : Nat → Nat → Prop) (G : Nat → Prop) (x : Nat) (r : Int32) : Prop := (∃ s, s < 2 ^ 10 ∧ SF S G s x ∧ (∀ t, t < s → ¬ SF S G t x) ∧ r = nI s) ∨ (¬ WK S G x ∧ r = -1000000)
theorem most_L {N : List Nat} {w st : Nat} {links : Nat → Int64} {S : Nat → Nat → Prop} {G : Nat → Prop} (hw : w < 3) (hT : TB N w links S) (hst : st < N.length) : ∀ (e s f : Nat) (safe : Int64), s + e = N.length → e < f → BS N safe (SF S G s) → (∀ t, t < s → ¬ SF S G t (N.getD st 0)) → (∃ r, r < N.length ∧ SF S G r (N.getD st 0) ∧ (∀ t, t < r → ¬ SF S G t (N.getD st 0)) ∧ F_X6_mostSteps_L2 (nI st) (nI w) (nI N.length) links f safe (nI s) = some (.inl (nI r))) ∨ ((∀ t, t < N.length → ¬ SF S G t (N.getD st 0)) ∧ F_X6_mostSteps_L2 (nI st) (nI w) (nI N.length) links f safe (nI s) = some (.inr ()))
  | 0, s, f + 1, safe, hs, _, _, hn => by
    obtain ⟨h60, hd, hC, hL⟩ := hT
    right
    rw [F_X6_mostSteps_L2.eq_2, if_pos (nI_le (by omega) (by omega))]
    exact ⟨fun t ht => hn t (by omega), rfl⟩
  | e + 1, s, f + 1, safe, hs, hf, hP, hn => by
    have hT' := hT
    obtain ⟨h60, hd, hC, hL⟩ := hT'
    rw [F_X6_mostSteps_L2.eq_2, if_neg (nI_ge (by omega) (by omega))]
    have c := BS_has h60 hd hst hP
    by_cases q : lg_cmp (safe &&& jlshl 1 (nI st)) 0 = 0
    · rw [if_pos q]
      obtain ⟨m, a, b⟩ := x_safe hw hT hP
      rw [a]
      (try simp only [Option.bind_some])
      rw [nI_1]
      refine most_L hw hT hst e (s + 1) f m (by omega) (by omega) b (fun t ht => ?_)
      by_cases z : t = s
      · rw [z]
        exact c.mp q
      · exact hn t (by omega)
    · rw [if_neg q]
      left
      exact ⟨s, by omega, Classical.byContradiction fun z => q (c.mpr z), hn, rfl⟩
theorem x_most {N : List Nat} {w st g : Nat} {links goals : Nat → Int64} {S : Nat → Nat → Prop} {G : Nat → Prop} (hw : w < 3) (hg : g < 3) (hT : TB N w links S) (hG : BS N (goals g) G) (hst : st < N.length) : ∃ r, F_X6_mostSteps (nI st) (nI w) (nI g) (nI N.length) goals links = some r ∧ MOST S G (N.getD st 0) r := by
  have h60 := hT.1
  have h := most_L (G := G) hw hT hst N.length 0 FU (goals g) (by omega) (by unfold FU; omega) hG (fun t ht => absurd ht (by omega))
  unfold F_X6_mostSteps
  rw [x_ofGoal hg]
  (try simp only [Option.bind_some])
  rw [show nI 0 = (0 : Int32) from rfl] at h
  rcases h with ⟨r, h1, h2, h3, h4⟩ | ⟨h1, h2⟩
  · rw [h4]
    exact ⟨nI r, rfl, Or.inl ⟨r, by omega, h2, h3, rfl⟩⟩
  · rw [h2]
    refine ⟨_, rfl, Or.inr ⟨?_, rfl⟩⟩
    rintro ⟨s, hs⟩
    exact h1 (N.length - 1) (by omega) (SF_rest hT.2.2.1 (getD_mem hst) hs)
theorem work_L {N : List Nat} {w : Nat} {links : Nat → Int64} {S : Nat → Nat → Prop} {G : Nat → Prop} (hw : w < 3) (hT : TB N w links S) : ∀ (e s f : Nat) (safe : Int64), s + e = N.length → e < f → BS N safe (SF S G s) → ∃ r, F_X6_working_L2 (nI w) (nI N.length) links f safe (nI s) = some r ∧ BS N r (WK S G)
  | 0, s, f + 1, safe, hs, _, hP => by
    obtain ⟨h60, hd, hC, hL⟩ := hT
    rw [F_X6_working_L2.eq_2, if_pos (nI_le (by omega) (by omega))]
    refine ⟨safe, rfl, fun i hi => ?_⟩
    rw [hP i hi]
    constructor
    · rintro ⟨a, b⟩
      exact ⟨a, s, b⟩
    · rintro ⟨a, s', b⟩
      exact ⟨a, SF_le (by omega) (SF_rest hC (getD_mem a) b)⟩
  | e + 1, s, f + 1, safe, hs, hf, hP => by
    have hT' := hT
    obtain ⟨h60, hd, hC, hL⟩ := hT'
    rw [F_X6_working_L2.eq_2, if_neg (nI_ge (by omega) (by omega))]
    obtain ⟨m, a, b⟩ := x_safe hw hT hP
    rw [a]
    (try simp only [Option.bind_some])
    by_cases q : lg_cmp m safe = 0
    · rw [if_pos q]
      have q2 := (BS_eq h60 b hP).mp q
      refine ⟨m, rfl, fun i hi => ?_⟩
      rw [b i hi]
      constructor
      · rintro ⟨a, b⟩
        exact ⟨a, s + 1, b⟩
      · rintro ⟨a, s', b⟩
        exact ⟨a, Or.inl (SF_stop hC (fun x hx => (q2 x hx).mp) s' _ (getD_mem a) b)⟩
    · rw [if_neg q, nI_1]
      (try simp only [Option.bind_some])
      exact work_L hw hT e (s + 1) f m (by omega) (by omega) b
theorem x_working {N : List Nat} {w g : Nat} {links goals : Nat → Int64} {S : Nat → Nat → Prop} {G : Nat → Prop} (hw : w < 3) (hg : g < 3) (hT : TB N w links S) (hG : BS N (goals g) G) : ∃ r, F_X6_working (nI w) (nI g) (nI N.length) goals links = some r ∧ BS N r (WK S G) := by
  have h60 := hT.1
  obtain ⟨r, a, b⟩ := work_L (G := G) hw hT N.length 0 FU (goals g) (by omega) (by unfold FU; omega) hG
  unfold F_X6_working
  rw [x_ofGoal hg]
  (try simp only [Option.bind_some])
  rw [show nI 0 = (0 : Int32) from rfl] at a
  rw [a]
  exact ⟨r, rfl, b⟩
/-! reach -/
theorem reach_L4 {N : List Nat} {w g : Nat} {links goals : Nat → Int64} {S : Nat → Nat → Prop} {G : Nat → Prop} {P : Nat → Prop} {before : Int64} (hw : w < 3) (hg : g < 3) (hT : TB N w links S) (hG : BS N (goals g) G) (hP : BS N before P) : ∀ (e i f : Nat) (r : Int64), i + e = N.length → e < f → BS N r (fun y => P y ∨ ∃ x, x ∈ N.take i ∧ P x ∧ ¬ G x ∧ S x y) → ∃ r', F_X6_reachedFrom_L4 (nI w) (nI g) before (nI N.length) goals links f r (nI i) = some r' ∧ BS N r' (fun y => P y ∨ ∃ x, x ∈ N ∧ P x ∧ ¬ G x ∧ S x y)
  | 0, i, f + 1, r, hi, _, hb => by
    obtain ⟨h60, hd, hC, hL⟩ := hT
    rw [F_X6_reachedFrom_L4.eq_2, if_pos (nI_le (by omega) (by omega))]
    rw [List.take_of_length_le (by omega)] at hb
    exact ⟨r, rfl, hb⟩
  | e + 1, i, f + 1, r, hi, hf, hb => by
    have hT' := hT
    obtain ⟨h60, hd, hC, hL⟩ := hT'
    have hi2 : i < N.length := by omega
    rw [F_X6_reachedFrom_L4.eq_2, if_neg (nI_ge (by omega) (by omega)), x_ofGoal hg, x_linksOf hw (by omega)]
    (try simp only [Option.bind_some])
    have c := BS_has h60 hd hi2 (BS_minus hP hG)
    by_cases q : lg_cmp ((before &&& (goals g ^^^ (-1))) &&& jlshl 1 (nI i)) 0 = 0
    · rw [if_pos q]
      (try simp only [Option.bind_some])
      rw [nI_1]
      refine reach_L4 hw hg hT hG hP e (i + 1) f r (by omega) (by omega) (BS_congr hb (fun y => ?_))
      rw [take_s hi2]
      constructor
      · rintro (a | ⟨x, a, b⟩)
        · exact Or.inl a
        · exact Or.inr ⟨x, List.mem_append_left _ a, b⟩
      · rintro (a | ⟨x, a, b, d, z⟩)
        · exact Or.inl a
        · rcases List.mem_append.mp a with a | a
          · exact Or.inr ⟨x, a, b, d, z⟩
          · rw [List.mem_singleton.mp a] at b d
            exact absurd ⟨b, d⟩ (c.mp q)
    · rw [if_neg q]
      (try simp only [Option.bind_some])
      rw [nI_1]
      refine reach_L4 hw hg hT hG hP e (i + 1) f _ (by omega) (by omega) (BS_congr (BS_or hb (hL i hi2)) (fun y => ?_))
      have c2 : P (N.getD i 0) ∧ ¬ G (N.getD i 0) := Classical.byContradiction fun z => q (c.mpr z)
      rw [take_s hi2]
      constructor
      · rintro ((a | ⟨x, a, b⟩) | a)
        · exact Or.inl a
        · exact Or.inr ⟨x, List.mem_append_left _ a, b⟩
        · exact Or.inr ⟨_, List.mem_append_right _ (List.mem_singleton.mpr rfl), c2.1, c2.2, a⟩
      · rintro (a | ⟨x, a, b, d, z⟩)
        · exact Or.inl (Or.inl a)
        · rcases List.mem_append.mp a with a | a
          · exact Or.inl (Or.inr ⟨x, a, b, d, z⟩)
          · rw [List.mem_singleton.mp a] at z
            exact Or.inr z
theorem reach_L2 {N : List Nat} {w g x0 : Nat} {links goals : Nat → Int64} {S : Nat → Nat → Prop} {G : Nat → Prop} (hw : w < 3) (hg : g < 3) (hT : TB N w links S) (hG : BS N (goals g) G) (h0 : x0 ∈ N) : ∀ (e s f : Nat) (r : Int64), s + e = N.length → e < f → BS N r (RCH S G x0 s) → ∃ r', F_X6_reachedFrom_L2 (nI w) (nI g) (nI N.length) goals links f r (nI s) = some r' ∧ BS N r' (RR S G x0)
  | 0, s, f + 1, r, hs, _, hP => by
    obtain ⟨h60, hd, hC, hL⟩ := hT
    rw [F_X6_reachedFrom_L2.eq_2, if_pos (nI_le (by omega) (by omega))]
    refine ⟨r, rfl, BS_congr hP (fun y => ?_)⟩
    exact ⟨fun b => ⟨s, b⟩, fun ⟨s', b⟩ => RCH_le (by omega) (RCH_rest hC h0 b)⟩
  | e + 1, s, f + 1, r, hs, hf, hP => by
    have hT' := hT
    obtain ⟨h60, hd, hC, hL⟩ := hT'
    rw [F_X6_reachedFrom_L2.eq_2, if_neg (nI_ge (by omega) (by omega))]
    obtain ⟨m, a, b⟩ := reach_L4 hw hg hT hG hP N.length 0 FU r (by omega) (by unfold FU; omega) (BS_congr hP (fun y => by simp))
    rw [show nI 0 = (0 : Int32) from rfl] at a
    rw [a]
    (try simp only [Option.bind_some])
    have b2 : BS N m (RCH S G x0 (s + 1)) := BS_congr b (fun y => by
      constructor
      · rintro (p | ⟨x, _, p⟩)
        · exact Or.inl p
        · exact Or.inr ⟨x, p⟩
      · rintro (p | ⟨x, p⟩)
        · exact Or.inl p
        · exact Or.inr ⟨x, RCH_mem hC h0 p.1, p⟩)
    by_cases q : lg_cmp m r = 0
    · rw [if_pos q]
      have q2 := (BS_eq h60 b2 hP).mp q
      refine ⟨m, rfl, BS_congr b2 (fun y => ?_)⟩
      exact ⟨fun b => ⟨_, b⟩, fun ⟨s', b⟩ => Or.inl (RCH_stop (fun x hx => (q2 x (RCH_mem hC h0 hx)).mp hx) s' y b)⟩
    · rw [if_neg q, nI_1]
      (try simp only [Option.bind_some])
      exact reach_L2 hw hg hT hG h0 e (s + 1) f m (by omega) (by omega) b2
theorem x_reach {N : List Nat} {w g st : Nat} {links goals : Nat → Int64} {S : Nat → Nat → Prop} {G : Nat → Prop} (hw : w < 3) (hg : g < 3) (hT : TB N w links S) (hG : BS N (goals g) G) (hst : st < N.length) : ∃ r', F_X6_reachedFrom (nI st) (nI w) (nI g) (nI N.length) goals links = some r' ∧ BS N r' (RR S G (N.getD st 0)) := by
  have h60 := hT.1
  obtain ⟨r, a, b⟩ := reach_L2 hw hg hT hG (getD_mem hst) N.length 0 FU (jlshl 1 (nI st)) (by omega) (by unfold FU; omega) (BS_bit h60 hT.2.1 hst)
  unfold F_X6_reachedFrom
  rw [show nI 0 = (0 : Int32) from rfl] at a
  (try simp only [Option.bind_some])
  rw [a]
  exact ⟨r, rfl, b⟩
theorem stuck_L {N : List Nat} {w g : Nat} {links goals : Nat → Int64} {S : Nat → Nat → Prop} {G P : Nat → Prop} {r : Int64} (hw : w < 3) (hg : g < 3) (hT : TB N w links S) (hG : BS N (goals g) G) (hP : BS N r P) : ∀ (e i f : Nat), i + e = N.length → e < f → F_X6_countReached_L3 r (nI w) (nI g) (nI N.length) goals links f (nI (sm (fun j => one (bp (P (N.getD j 0) ∧ ¬ G (N.getD j 0) ∧ ¬ ∃ z, S (N.getD j 0) z))) i)) (nI i) = some (nI (sm (fun j => one (bp (P (N.getD j 0) ∧ ¬ G (N.getD j 0) ∧ ¬ ∃ z, S (N.getD j 0) z))) N.length))
  | 0, i, f + 1, hi, _ => by
    obtain ⟨h60, hd, hC, hL⟩ := hT
    rw [F_X6_countReached_L3.eq_2, if_pos (nI_le (by omega) (by omega)), show i = N.length by omega]
  | e + 1, i, f + 1, hi, hf => by
    have hT' := hT
    obtain ⟨h60, hd, hC, hL⟩ := hT'
    have hi2 : i < N.length := by omega
    have ih := stuck_L hw hg hT hG hP e (i + 1) f (by omega) (by omega)
    rw [F_X6_countReached_L3.eq_2, if_neg (nI_ge (by omega) (by omega)), x_ofGoal hg, x_linksOf hw (by omega)]
    (try simp only [Option.bind_some])
    have c := BS_has h60 hd hi2 (BS_minus hP hG)
    have c1 : lg_cmp (links (w * 64 + i)) 0 = 0 ↔ ¬ ∃ z, S (N.getD i 0) z := by
      rw [BS_emp h60 (hL i hi2)]
      exact ⟨fun h ⟨z, hz⟩ => h z (hC _ (getD_mem hi2) z hz) hz, fun h z _ hz => h ⟨z, hz⟩⟩
    have es : ∀ b : Bool, bp (P (N.getD i 0) ∧ ¬ G (N.getD i 0) ∧ ¬ ∃ z, S (N.getD i 0) z) = b → sm (fun j => one (bp (P (N.getD j 0) ∧ ¬ G (N.getD j 0) ∧ ¬ ∃ z, S (N.getD j 0) z))) (i + 1) = sm (fun j => one (bp (P (N.getD j 0) ∧ ¬ G (N.getD j 0) ∧ ¬ ∃ z, S (N.getD j 0) z))) i + one b := by
      intro b hb
      rw [← hb]
      rfl
    by_cases q : lg_cmp ((r &&& (goals g ^^^ (-1))) &&& jlshl 1 (nI i)) 0 = 0
    · rw [if_pos q]
      (try simp only [Option.bind_some])
      rw [nI_1]
      rw [es false (bp_no fun z => (c.mp q) ⟨z.1, z.2.1⟩)] at ih
      exact ih
    · have c2 : P (N.getD i 0) ∧ ¬ G (N.getD i 0) := Classical.byContradiction fun z => q (c.mpr z)
      rw [if_neg q]
      by_cases q2 : lg_cmp (links (w * 64 + i)) 0 = 0
      · rw [if_pos q2]
        (try simp only [Option.bind_some])
        rw [nI_1, nI_1]
        rw [es true (bp_iff.mpr ⟨c2.1, c2.2, c1.mp q2⟩)] at ih
        exact ih
      · rw [if_neg q2]
        (try simp only [Option.bind_some])
        rw [nI_1]
        rw [es false (bp_no fun z => q2 (c1.mpr z.2.2))] at ih
        exact ih
/-- what proves counts of those met -/
def CNT (S : Nat → Nat → Prop) (G P : Nat → Prop) (what : Nat) (y : Nat) : Prop := P y ∧ (what = 1 ∨ (what = 2 ∧ G y) ∨ (what = 3 ∧ ¬ G y ∧ ¬ ∃ z, S y z))
theorem x_count {N : List Nat} {w g what : Nat} {links goals : Nat → Int64} {S : Nat → Nat → Prop} {G P : Nat → Prop} {r : Int64} (hw : w < 3) (hg : g < 3) (hT : TB N w links S) (hG : BS N (goals g) G) (hP : BS N r P) (h1 : 1 ≤ what) (h3 : what ≤ 3) : F_X6_countReached r (nI w) (nI g) (nI what) (nI N.length) goals links = some (nI (cN N (CNT S G P what))) := by
  have h60 := hT.1
  unfold F_X6_countReached
  rw [ifE1 (by omega), show (2 : Int32) = nI 2 from rfl, ifEq (by omega) (by omega)]
  by_cases q1 : what = 1
  · rw [if_pos q1, x_bits, BS_cN h60 hP]
    (try simp only [Option.bind_some])
    congr 2
    refine cN_congr (fun y _ => ?_)
    unfold CNT
    exact ⟨fun h => ⟨h, Or.inl q1⟩, fun h => h.1⟩
  · rw [if_neg q1]
    by_cases q2 : what = 2
    · rw [if_pos q2, x_ofGoal hg]
      (try simp only [Option.bind_some])
      rw [x_bits, BS_cN h60 (BS_and hP hG)]
      (try simp only [Option.bind_some])
      congr 2
      refine cN_congr (fun y _ => ?_)
      unfold CNT
      constructor
      · exact fun h => ⟨h.1, Or.inr (Or.inl ⟨q2, h.2⟩)⟩
      · rintro ⟨a, b | b | b⟩
        · exact absurd b q1
        · exact ⟨a, b.2⟩
        · exact absurd b.1 (by omega)
    · rw [if_neg q2]
      have a := stuck_L hw hg hT hG hP N.length 0 FU (by omega) (by unfold FU; omega)
      rw [show nI (sm (fun j => one (bp (P (N.getD j 0) ∧ ¬ G (N.getD j 0) ∧ ¬ ∃ z, S (N.getD j 0) z))) 0) = (0 : Int32) from rfl, show nI 0 = (0 : Int32) from rfl] at a
      rw [a]
      (try simp only [Option.bind_some])
      congr 2
      rw [← cN_sm (P := fun y => P y ∧ ¬ G y ∧ ¬ ∃ z, S y z)]
      refine cN_congr (fun y _ => ?_)
      unfold CNT
      constructor
      · exact fun h => ⟨h.1, Or.inr (Or.inr ⟨by omega, h.2⟩)⟩
      · rintro ⟨a, b | b | b⟩
        · exact absurd b q1
        · exact absurd b.1 q2
        · exact ⟨a, b.2⟩
