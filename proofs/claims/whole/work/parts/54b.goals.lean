/-! markGoals, gatherFor -/
def BS (N : List Nat) (L : Int64) (P : Nat → Prop) : Prop := ∀ i, i < 64 → (bt L i = true ↔ i < N.length ∧ P (N.getD i 0))
theorem mark_L3 {n k g : Nat} {N : List Nat} {names : Nat → Int32} (hn : RG n) (hk : k ≠ 0) (hg : g < 3) (hN : NA names N) (h64 : N.length ≤ 60) (hs : ∀ y, y ∈ N → CR n y k) : ∀ (d i f : Nat) (goals : Nat → Int64), i + d = N.length → d < f → (∀ j, j < 64 → (bt (goals g) j = true ↔ j < i ∧ gl n (N.getD j 0) g k = true)) → ∃ goals', F_X6_markGoals_L3 (nI g) (nI n) (nI N.length) names f (nI i) goals = some goals' ∧ BS N (goals' g) (fun x => gl n x g k = true) ∧ ∀ x, x ≠ g → goals' x = goals x
  | 0, i, f + 1, goals, hi, _, hb => by
    rw [F_X6_markGoals_L3.eq_2, if_pos (nI_le (by omega) (by omega))]
    exact ⟨goals, rfl, fun j hj => by rw [hb j hj, show i = N.length by omega], fun _ _ => rfl⟩
  | d + 1, i, f + 1, goals, hi, hf, hb => by
    rw [F_X6_markGoals_L3.eq_2, if_neg (nI_ge (by omega) (by omega)), show (64 : Int32) = nI 64 from rfl, ifLe (by omega) (by omega), if_neg (by omega), gdT (inbI (by omega) (by omega)), nI_clamp (by omega), hN i (by omega), x_isOfGoal hn (hs _ (getD_mem (by omega))) hk hg]
    (try simp only [Option.bind_some])
    by_cases q : gl n (N.getD i 0) g k = true
    · rw [if_pos q, if_neg (by decide), gdT (inbI (by omega) (by omega)), gdT (inbI (by omega) (by omega)), nI_clamp (by omega)]
      (try simp only [Option.bind_some])
      rw [nI_1]
      obtain ⟨goals', e1, e2, e3⟩ := mark_L3 hn hk hg hN h64 hs d (i + 1) f (vp_updL goals g (goals g ||| jlshl 1 (nI i))) (by omega) (by omega) (fun j hj => by
        rw [pk_uLs, bt_or, bt_1 i (by omega) j hj, Bool.or_eq_true, hb j hj, decide_eq_true_iff]
        constructor
        · rintro (⟨a, b⟩ | rfl)
          · exact ⟨by omega, b⟩
          · exact ⟨by omega, q⟩
        · rintro ⟨a, b⟩
          by_cases z : j = i
          · right; exact z
          · left; exact ⟨by omega, b⟩)
      exact ⟨goals', e1, e2, fun x hx => by rw [e3 x hx, pk_uLn hx]⟩
    · rw [if_neg q, if_pos rfl]
      (try simp only [Option.bind_some])
      rw [nI_1]
      obtain ⟨goals', e1, e2, e3⟩ := mark_L3 hn hk hg hN h64 hs d (i + 1) f goals (by omega) (by omega) (fun j hj => by
        rw [hb j hj]
        constructor
        · rintro ⟨a, b⟩; exact ⟨by omega, b⟩
        · rintro ⟨a, b⟩
          by_cases z : j = i
          · rw [z] at b; exact absurd b q
          · exact ⟨by omega, b⟩)
      exact ⟨goals', e1, e2, e3⟩
theorem mark_1 {n k : Nat} {N : List Nat} {names : Nat → Int32} (hn : RG n) (hk : k ≠ 0) (hN : NA names N) (h64 : N.length ≤ 60) (hs : ∀ y, y ∈ N → CR n y k) : ∀ (d g f : Nat) (goals : Nat → Int64), g + d = 3 → d < f → (∀ x, x < g → BS N (goals x) (fun y => gl n y x k = true)) → ∃ goals', F_X6_markGoals_L1 (nI n) (nI N.length) names f (nI g) goals = some goals' ∧ ∀ x, x < 3 → BS N (goals' x) (fun y => gl n y x k = true)
  | 0, g, f + 1, goals, hg, _, hb => by
    rw [F_X6_markGoals_L1.eq_2, show (3 : Int32) = nI 3 from rfl, ifLe (by omega) (by omega), if_pos (by omega)]
    exact ⟨goals, rfl, fun x hx => hb x (by omega)⟩
  | d + 1, g, f + 1, goals, hg, hf, hb => by
    rw [F_X6_markGoals_L1.eq_2, show (3 : Int32) = nI 3 from rfl, ifLe (by omega) (by omega), if_neg (by omega), gdT (inbI (by omega) (by omega)), nI_clamp (by omega)]
    obtain ⟨goals', e1, e2, e3⟩ := mark_L3 hn hk (show g < 3 by omega) hN h64 hs N.length 0 FU (vp_updL goals g 0) (by omega) (by unfold FU; omega) (fun j hj => by
      rw [pk_uLs, bt_0]
      simp)
    rw [show nI 0 = (0 : Int32) from rfl] at e1
    rw [e1]
    (try simp only [Option.bind_some])
    rw [nI_1]
    apply mark_1 hn hk hN h64 hs d (g + 1) f goals' (by omega) (by omega)
    intro x hx
    by_cases z : x = g
    · rw [z]; exact e2
    · rw [e3 x z, pk_uLn z]; exact hb x (by omega)
/-- what the class has gathered -/
def WG (n k : Nat) (size : Int32) (names : Nat → Int32) (goals : Nat → Int64) : Prop := WN n k size names ∧ ∀ g, g < 3 → BS (GL n k) (goals g) (fun y => gl n y g k = true)
theorem x_gatherNew {n k : Nat} {robots size : Int32} {names linked : Nat → Int32} {goals : Nat → Int64} (hn : RG n) (h1 : 1 ≤ k) (h4 : k ≤ 4) (hr : ¬ robots = nI k) : ∃ names' goals' linked', F_X6_gatherFor (nI k) (nI n) (nI (mskN n)) robots size names goals linked = some (nI k, nI (GL n k).length, names', goals', linked') ∧ WG n k (nI (GL n k).length) names' goals' ∧ ∀ i, i < 3 → linked' i = 0 := by
  obtain ⟨g1, g2, g3, g4⟩ := GLok hn h1 h4
  have h3 := hn.1
  unfold F_X6_gatherFor
  rw [if_neg hr, show F_X3_oneAt 0 (nI n) = some (nI (wt n 0)) from x_oneAt (p := 0) hn (by omega)]
  (try simp only [Option.bind_some])
  have em : F_J9_min_7cf53 (nI k) 4 = some (nI k) := by
    unfold F_J9_min_7cf53
    rw [show (4 : Int32) = nI 4 from rfl, ifLt (by omega) (by omega), if_neg (by omega)]
  rw [em]
  (try simp only [Option.bind_some])
  have c1 : CR n (wt n 0) 1 := by
    have hz : CR n 0 0 := by
      refine ⟨Nat.pow_pos (by decide), ?_, by decide⟩
      have : ∀ m, sm (dg n 0) m = 0 := fun m => by
        induction m with
        | zero => rfl
        | succ m ih =>
          show sm (dg n 0) m + dg n 0 m = 0
          rw [ih]
          unfold dg
          simp
      exact this n
    have := CR_add hz (by decide) (show 0 < n by omega)
    rwa [Nat.zero_add] at this
  have hN0 : NA names [] := fun i hi => absurd hi (by simp)
  have hg := gather_3 (p := 0) (j := k - 1) hn c1 hN0 (by omega) (by omega) (by rw [List.nil_append]; exact g1)
  rw [List.nil_append] at hg
  obtain ⟨names', e1, e2⟩ := hg
  rw [show nI k - 1 = nI (k - 1) from q_sub h1]
  rw [show nI ([] : List Nat).length = (0 : Int32) from rfl, show nI 0 = (0 : Int32) from rfl] at e1
  rw [e1]
  (try simp only [Option.bind_some])
  obtain ⟨goals', m1, m2⟩ := mark_1 hn (show k ≠ 0 by omega) (N := GL n k) e2 g1 (fun y hy => (g3 y hy).1) 3 0 FU goals (by decide) (by decide) (fun x hx => by omega)
  obtain ⟨lk, l1, l2⟩ := x_forget linked
  unfold F_X6_markGoals
  rw [show nI 0 = (0 : Int32) from rfl] at m1
  rw [show gthr n (k - 1) (wt n 0) 0 = GL n k from rfl, m1]
  (try simp only [Option.bind_some])
  rw [l1]
  exact ⟨names', goals', lk, rfl, ⟨⟨rfl, e2⟩, m2⟩, l2⟩
