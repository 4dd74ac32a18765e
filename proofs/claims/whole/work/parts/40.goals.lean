/-! goals -/
def csS (n : Nat) (h : Nat → Nat) (x : Nat) : Nat → Nat → Nat
  | 0, d => d
  | f + 1, d => if 0 < h ((x + d) % n) then d else csS n h x f (d + 1)
/-- how far it is from x to the next place that has robots -/
def gp (n : Nat) (h : Nat → Nat) (x : Nat) : Nat := csS n h x (n - 1) 1
theorem csS_le (n : Nat) (h : Nat → Nat) (x : Nat) : ∀ f d, d ≤ csS n h x f d ∧ csS n h x f d ≤ d + f
  | 0, d => ⟨Nat.le_refl _, Nat.le_refl _⟩
  | f + 1, d => by
    obtain ⟨a, b⟩ := csS_le n h x f (d + 1)
    unfold csS
    split
    · omega
    · omega
theorem gp_le {n : Nat} (hn : RG n) (h : Nat → Nat) (x : Nat) : 1 ≤ gp n h x ∧ gp n h x ≤ n := by
  have := csS_le n h x (n - 1) 1
  have := hn.1
  unfold gp
  omega
theorem x_gap_L {n c x : Nat} (hn : RG n) (hc : c < 2 ^ (3 * n)) : ∀ (d g f : Nat), g + d = n → 1 ≤ g → d < f → (F_X3_gapAbove_L1 (nI c) (nI n) f (nI ((x + (g - 1)) % n)) (nI g) = some (.inl (nI (csS n (dg n c) x d g)))) ∨ (F_X3_gapAbove_L1 (nI c) (nI n) f (nI ((x + (g - 1)) % n)) (nI g) = some (.inr ()) ∧ csS n (dg n c) x d g = n)
  | 0, g, f + 1, hg, h1, _ => by
    have h9 := hn.2
    rw [F_X3_gapAbove_L1.eq_2, if_pos (nI_le (by omega) (by omega))]
    exact Or.inr ⟨rfl, by rw [csS]; omega⟩
  | d + 1, g, f + 1, hg, h1, hf => by
    have h9 := hn.2
    have h0 : 0 < n := by have := hn.1; omega
    have hm := Nat.mod_lt (x + (g - 1)) h0
    have h8 := dg_lt n c ((x + g) % n)
    have e1 : ((x + (g - 1)) % n + 1) % n = (x + g) % n := by
      rw [Nat.mod_add_mod]
      congr 1
      omega
    have e2 : F_X3_gapAbove_L1 (nI c) (nI n) (f + 1) (nI ((x + (g - 1)) % n)) (nI g) = if dg n c ((x + g) % n) ≤ 0 then F_X3_gapAbove_L1 (nI c) (nI n) f (nI ((x + g) % n)) (nI (g + 1)) else some (.inl (nI g)) := by
      rw [F_X3_gapAbove_L1.eq_2, if_neg (nI_ge (by omega) (by omega)), x_up hn hm, e1]
      rw [Option.bind_some, x_manyAt hn hc (Nat.mod_lt _ h0), Option.bind_some, ifL0 (by omega), nI_1, Option.bind_some]
    have ih := x_gap_L (x := x) hn hc d (g + 1) f (by omega) (by omega) (by omega)
    rw [show g + 1 - 1 = g from rfl] at ih
    rw [e2]
    by_cases q : 0 < dg n c ((x + g) % n)
    · rw [if_neg (by omega), csS, if_pos q]
      exact Or.inl rfl
    · rw [if_pos (by omega), csS, if_neg q]
      exact ih
theorem x_gapAbove {n c x : Nat} (hn : RG n) (hc : c < 2 ^ (3 * n)) (hx : x < n) : F_X3_gapAbove (nI c) (nI x) (nI n) = some (nI (gp n (dg n c) x)) := by
  have h3 := hn.1
  have h9 := hn.2
  have h := x_gap_L (x := x) hn hc (n - 1) 1 FU (by omega) (by omega) (by unfold FU; omega)
  rw [show (x + (1 - 1)) % n = x by rw [Nat.sub_self, Nat.add_zero]; exact Nat.mod_eq_of_lt hx, show nI 1 = (1 : Int32) from rfl] at h
  unfold F_X3_gapAbove gp
  rcases h with h | ⟨h, h2⟩
  · rw [h]; rfl
  · rw [h, h2]; rfl
abbrev spP (n : Nat) (h : Nat → Nat) (q : Nat) : Prop := ∀ x, x < n → 0 < h x → gp n h x = q ∨ gp n h x = q + 1
theorem x_spread_L {n c q : Nat} (hn : RG n) (hc : c < 2 ^ (3 * n)) (hq : q ≤ n) : ∀ (d i f : Nat), i + d = n → d < f → ((∀ x, i ≤ x → x < n → 0 < dg n c x → gp n (dg n c) x = q ∨ gp n (dg n c) x = q + 1) → F_X3_isSpread_L1 (nI c) (nI q) (nI n) f (nI i) = some (.inr ())) ∧ (¬ (∀ x, i ≤ x → x < n → 0 < dg n c x → gp n (dg n c) x = q ∨ gp n (dg n c) x = q + 1) → F_X3_isSpread_L1 (nI c) (nI q) (nI n) f (nI i) = some (.inl 0))
  | 0, i, f + 1, hi, _ => by
    have h9 := hn.2
    rw [F_X3_isSpread_L1.eq_2, if_pos (nI_le (by omega) (by omega))]
    exact ⟨fun _ => rfl, fun w => absurd (fun x h1 h2 => by omega) w⟩
  | d + 1, i, f + 1, hi, hf => by
    have h9 := hn.2
    have h8 := dg_lt n c i
    have hg := gp_le hn (dg n c) i
    have ih := x_spread_L hn hc hq d (i + 1) f (by omega) (by omega)
    rw [F_X3_isSpread_L1.eq_2, if_neg (nI_ge (by omega) (by omega)), x_manyAt hn hc (by omega)]
    (try simp only [Option.bind_some])
    rw [ifL0 (by omega), nI_1]
    have more : (0 < dg n c i → gp n (dg n c) i = q ∨ gp n (dg n c) i = q + 1) → ((∀ x, i ≤ x → x < n → 0 < dg n c x → gp n (dg n c) x = q ∨ gp n (dg n c) x = q + 1) → F_X3_isSpread_L1 (nI c) (nI q) (nI n) f (nI (i + 1)) = some (.inr ())) ∧ (¬ (∀ x, i ≤ x → x < n → 0 < dg n c x → gp n (dg n c) x = q ∨ gp n (dg n c) x = q + 1) → F_X3_isSpread_L1 (nI c) (nI q) (nI n) f (nI (i + 1)) = some (.inl 0)) := by
      intro hok
      refine ⟨fun w => ih.1 (fun x h1 => w x (by omega)), fun w => ih.2 (fun w2 => w (fun x h1 h2 h3 => ?_))⟩
      by_cases e : x = i
      · subst e; exact hok h3
      · exact w2 x (by omega) h2 h3
    by_cases c0 : dg n c i ≤ 0
    · rw [if_pos c0]
      exact more (fun w => absurd w (by omega))
    · rw [if_neg c0, x_gapAbove hn hc (show i < n by omega)]
      (try simp only [Option.bind_some])
      rw [ifEq (by omega) (by omega), nI_1, ifEq (by omega) (by omega)]
      by_cases c1 : gp n (dg n c) i = q
      · rw [if_pos c1]
        exact more (fun _ => Or.inl c1)
      · rw [if_neg c1]
        by_cases c2 : gp n (dg n c) i = q + 1
        · rw [if_pos c2]
          exact more (fun _ => Or.inr c2)
        · rw [if_neg c2]
          exact ⟨fun w => absurd (w i (Nat.le_refl i) (by omega) (by omega)) (by rintro (z | z); exact c1 z; exact c2 z), fun _ => rfl⟩
theorem x_isSpread {n c q : Nat} (hn : RG n) (hc : c < 2 ^ (3 * n)) (hq : q ≤ n) : F_X3_isSpread (nI c) (nI q) (nI n) = some (if spP n (dg n c) q then 1 else 0) := by
  have h := x_spread_L hn hc hq n 0 FU (by omega) (by have := hn.2; unfold FU; omega)
  rw [show nI 0 = (0 : Int32) from rfl] at h
  unfold F_X3_isSpread
  by_cases hs : spP n (dg n c) q
  · rw [if_pos hs, h.1 (fun x _ h2 h3 => hs x h2 h3)]
    rfl
  · rw [if_neg hs, h.2 (fun w => hs (fun x h2 h3 => w x (Nat.zero_le x) h2 h3))]
    rfl
/-- ends of what follows one another -/
def ed (n : Nat) (h : Nat → Nat) : Nat → Nat := sm (fun x => if 0 < h x ∧ h ((x + 1) % n) = 0 then 1 else 0)
theorem ed_le (n : Nat) (h : Nat → Nat) : ∀ i, ed n h i ≤ i
  | 0 => Nat.le_refl _
  | i + 1 => by
    have := ed_le n h i
    show ed n h i + (if 0 < h i ∧ h ((i + 1) % n) = 0 then 1 else 0) ≤ i + 1
    split <;> omega
theorem x_side_L {n c : Nat} (hn : RG n) (hc : c < 2 ^ (3 * n)) : ∀ (d i f : Nat), i + d = n → d < f → F_X3_isSideBySide_L1 (nI c) (nI n) f (nI (ed n (dg n c) i)) (nI i) = some (nI (ed n (dg n c) n))
  | 0, i, f + 1, hi, _ => by
    have h9 := hn.2
    rw [F_X3_isSideBySide_L1.eq_2, if_pos (nI_le (by omega) (by omega)), show i = n by omega]
  | d + 1, i, f + 1, hi, hf => by
    have h9 := hn.2
    have h0 : 0 < n := by have := hn.1; omega
    have h8 := dg_lt n c i
    have h82 := dg_lt n c ((i + 1) % n)
    have ih := x_side_L hn hc d (i + 1) f (by omega) (by omega)
    have es : ed n (dg n c) (i + 1) = ed n (dg n c) i + (if 0 < dg n c i ∧ dg n c ((i + 1) % n) = 0 then 1 else 0) := rfl
    rw [F_X3_isSideBySide_L1.eq_2, if_neg (nI_ge (by omega) (by omega)), x_manyAt hn hc (by omega)]
    (try simp only [Option.bind_some])
    rw [ifL0 (by omega), x_up hn (show i < n by omega)]
    (try simp only [Option.bind_some])
    rw [x_manyAt hn hc (Nat.mod_lt _ h0)]
    (try simp only [Option.bind_some])
    rw [ifE0 (by omega), nI_1, nI_1]
    by_cases c0 : dg n c i ≤ 0
    · rw [if_pos c0]
      (try simp only [Option.bind_some])
      rw [es, if_neg (fun w => by omega), Nat.add_zero] at ih
      exact ih
    · rw [if_neg c0]
      by_cases c1 : dg n c ((i + 1) % n) = 0
      · rw [if_pos c1]
        (try simp only [Option.bind_some])
        rw [es, if_pos ⟨by omega, c1⟩] at ih
        exact ih
      · rw [if_neg c1]
        (try simp only [Option.bind_some])
        rw [es, if_neg (fun w => c1 w.2), Nat.add_zero] at ih
        exact ih
theorem x_isSide {n c : Nat} (hn : RG n) (hc : c < 2 ^ (3 * n)) : F_X3_isSideBySide (nI c) (nI n) = some (if ed n (dg n c) n ≤ 1 then 1 else 0) := by
  have h9 := hn.2
  have he := ed_le n (dg n c) n
  have h := x_side_L hn hc n 0 FU (by omega) (by have := hn.2; unfold FU; omega)
  rw [show nI (ed n (dg n c) 0) = (0 : Int32) from rfl, show nI 0 = (0 : Int32) from rfl] at h
  unfold F_X3_isSideBySide
  rw [h]
  (try simp only [Option.bind_some])
  have e : (if 1 < nI (ed n (dg n c) n) then some (0 : Int32) else some 1) = if 1 < ed n (dg n c) n then some 0 else some 1 := ifLt (a := 1) (by decide) (by omega)
  rw [e]
  by_cases q : ed n (dg n c) n ≤ 1
  · rw [if_neg (by omega), if_pos q]
  · rw [if_pos (by omega), if_neg q]
/-- whether the crowd c of k robots is of goal g -/
def gl (n c g k : Nat) : Bool := if g = 0 then decide (tk (dg n c) n = 1) else decide (tk (dg n c) n = k) && (if g = 1 then decide (spP n (dg n c) (n / k)) else decide (ed n (dg n c) n ≤ 1))
theorem tk_le (h : Nat → Nat) : ∀ n, tk h n ≤ n
  | 0 => Nat.le_refl _
  | n + 1 => by
    have := tk_le h n
    show tk h n + (if 0 < h n then 1 else 0) ≤ n + 1
    split <;> omega
theorem x_isOfGoal {n c g k : Nat} (hn : RG n) (hc : CR n c k) (hk : k ≠ 0) (hg : g < 3) : F_X3_isOfGoal (nI c) (nI g) (nI n) = some (if gl n c g k = true then 1 else 0) := by
  have h9 := hn.2
  have h4 := hc.2.2
  have ht := tk_le (dg n c) n
  unfold F_X3_isOfGoal gl
  rw [x_robotsIn hn hc.1, hc.2.1]
  (try simp only [Option.bind_some])
  rw [x_takenIn hn hc.1]
  (try simp only [Option.bind_some])
  rw [ifE0 (by omega), if_neg hk, ifE0 (by omega), ifE1 (by omega), ifEq (by omega) (by omega), ifE1 (by omega)]
  by_cases g0 : g = 0
  · rw [if_pos g0, if_pos g0]
    by_cases h1 : tk (dg n c) n = 1
    · rw [if_pos h1, if_pos (by simp [h1])]
    · rw [if_neg h1, if_neg (by simp [h1])]
  · rw [if_neg g0, if_neg g0]
    by_cases h1 : tk (dg n c) n = k
    · rw [if_pos h1]
      by_cases g1 : g = 1
      · have hdiv : n / k ≤ n := Nat.div_le_self n k
        rw [if_pos g1, gdT (nzI (by omega) (by omega)), pk_div (by omega) (by omega) (by omega), x_isSpread hn hc.1 hdiv]
        (try simp only [Option.bind_some])
        simp [h1, g1]
      · rw [if_neg g1, x_isSide hn hc.1]
        (try simp only [Option.bind_some])
        simp [h1, g1]
    · rw [if_neg h1]
      simp [h1]
/-! the model's -/
theorem m_gap_L {n c x : Nat} {hand : Nat → Int32} (hn : RG n) (hH : HD hand n c) (hx : x < n) (hp : 0 < dg n c x) : ∀ (d g f : Nat), g + d = n → d < f → F_X8_isGoal_L10 (nI x) (nI n) hand f (nI g) = some (nI (csS n (dg n c) x d g))
  | 0, g, f + 1, hg, _ => by
    have h9 := hn.2
    have h8 := dg_lt n c x
    rw [F_X8_isGoal_L10.eq_2, gdT (nzI (by omega) (by omega)), q_add, q_rem (by omega) (by omega) (by omega), show x + g = x + n by omega, Nat.add_mod_right, Nat.mod_eq_of_lt hx, gdT (inbI (by omega) (by omega)), nI_clamp (by omega), hH.at hn hx, ifE0 (by omega), if_neg (by omega)]
    rfl
  | d + 1, g, f + 1, hg, hf => by
    have h9 := hn.2
    have h0 : 0 < n := by omega
    have hm := Nat.mod_lt (x + g) h0
    have h8 := dg_lt n c ((x + g) % n)
    rw [F_X8_isGoal_L10.eq_2, gdT (nzI (by omega) (by omega)), q_add, q_rem (by omega) (by omega) (by omega), gdT (inbI (by omega) (by omega)), nI_clamp (by omega), hH.at hn hm, ifE0 (by omega), csS]
    by_cases q : 0 < dg n c ((x + g) % n)
    · rw [if_neg (by omega), if_pos q]
    · rw [if_pos (by omega), if_neg q, nI_1]
      exact m_gap_L hn hH hx hp d (g + 1) f (by omega) (by omega)
def lsF (n : Nat) (h : Nat → Nat) : Nat → Nat
  | 0 => n + 1
  | i + 1 => if 0 < h i then min (lsF n h i) (gp n h i) else lsF n h i
def msF (n : Nat) (h : Nat → Nat) : Nat → Nat
  | 0 => 0
  | i + 1 => if 0 < h i then max (msF n h i) (gp n h i) else msF n h i
def onF (h : Nat → Nat) : Nat → Nat
  | 0 => 1
  | i + 1 => if 0 < h i then (if onF h i = 0 then 0 else if h i = 1 then 1 else 0) else onF h i
theorem gp_ed {n : Nat} (hn : RG n) (h : Nat → Nat) (x : Nat) : gp n h x ≤ 1 ↔ ¬ h ((x + 1) % n) = 0 := by
  have h3 := hn.1
  unfold gp
  obtain ⟨m, rfl⟩ : ∃ m, n = m + 2 := ⟨n - 2, by omega⟩
  rw [show m + 2 - 1 = m + 1 by omega, csS]
  have := csS_le (m + 2) h x m (1 + 1)
  by_cases q : 0 < h ((x + 1) % (m + 2))
  · rw [if_pos q]
    omega
  · rw [if_neg q]
    omega
theorem ls_le {n : Nat} (hn : RG n) (h : Nat → Nat) : ∀ i, lsF n h i ≤ n + 1 ∧ msF n h i ≤ n ∧ onF h i ≤ 1
  | 0 => ⟨Nat.le_refl _, Nat.zero_le _, Nat.le_refl _⟩
  | i + 1 => by
    obtain ⟨a, b, c⟩ := ls_le hn h i
    have g := gp_le hn h i
    unfold lsF msF onF
    by_cases q : 0 < h i
    · rw [if_pos q, if_pos q, if_pos q]
      refine ⟨by simp only [Nat.min_def]; split <;> omega, by simp only [Nat.max_def]; split <;> omega, ?_⟩
      split
      · omega
      · split <;> omega
    · rw [if_neg q, if_neg q, if_neg q]
      exact ⟨a, b, c⟩
theorem m_goal_L2 {n c : Nat} {hand : Nat → Int32} (hn : RG n) (hH : HD hand n c) : ∀ (d i f : Nat), i + d = n → d < f → F_X8_isGoal_L2 (nI n) hand f (nI (tk (dg n c) i)) (nI (lsF n (dg n c) i)) (nI (msF n (dg n c) i)) (nI (onF (dg n c) i)) (nI (ed n (dg n c) i)) (nI i) = some (nI (tk (dg n c) n), nI (lsF n (dg n c) n), nI (msF n (dg n c) n), nI (onF (dg n c) n), nI (ed n (dg n c) n))
  | 0, i, f + 1, hi, _ => by
    have h9 := hn.2
    rw [F_X8_isGoal_L2.eq_2, if_pos (nI_le (by omega) (by omega)), show i = n by omega]
  | d + 1, i, f + 1, hi, hf => by
    have h9 := hn.2
    have h3 := hn.1
    have h8 := dg_lt n c i
    have g := gp_le hn (dg n c) i
    obtain ⟨b1, b2, b3⟩ := ls_le hn (dg n c) i
    have ih := m_goal_L2 hn hH d (i + 1) f (by omega) (by omega)
    have es : ed n (dg n c) (i + 1) = ed n (dg n c) i + (if 0 < dg n c i ∧ dg n c ((i + 1) % n) = 0 then 1 else 0) := rfl
    have et : tk (dg n c) (i + 1) = tk (dg n c) i + (if 0 < dg n c i then 1 else 0) := rfl
    rw [F_X8_isGoal_L2.eq_2, if_neg (nI_ge (by omega) (by omega)), gdT (inbI (by omega) (by omega)), nI_clamp (by omega), hH.at hn (show i < n by omega), ifL0 (by omega)]
    by_cases c0 : dg n c i ≤ 0
    · rw [if_pos c0]
      (try simp only [Option.bind_some])
      rw [nI_1]
      rw [es, et, lsF, msF, onF, if_neg (fun w => by omega), if_neg (by omega), if_neg (by omega), if_neg (by omega), if_neg (by omega)] at ih
      exact ih
    · have hp : 0 < dg n c i := by omega
      have hgap := m_gap_L hn hH (show i < n by omega) hp (n - 1) 1 FU (by omega) (by unfold FU; omega)
      rw [show nI 1 = (1 : Int32) from rfl, show csS n (dg n c) i (n - 1) 1 = gp n (dg n c) i from rfl] at hgap
      rw [if_neg c0, nI_1, gdT (inbI (by omega) (by omega)), hgap, ifE0 (by omega), ifE1 (by omega)]
      (try simp only [Option.bind_some])
      rw [ifLe (by omega) (by omega), ifLe (by omega) (by omega)]
      have e1 : (if onF (dg n c) i = 0 then some (0 : Int32) else if dg n c i = 1 then some 1 else some 0) = some (nI (if onF (dg n c) i = 0 then 0 else if dg n c i = 1 then 1 else 0)) := by
        split
        · rfl
        · split <;> rfl
      have e2 : (if lsF n (dg n c) i ≤ gp n (dg n c) i then some (nI (lsF n (dg n c) i)) else some (nI (gp n (dg n c) i))) = some (nI (min (lsF n (dg n c) i) (gp n (dg n c) i))) := by
        simp only [Nat.min_def]
        split <;> rfl
      have e3 : (if gp n (dg n c) i ≤ msF n (dg n c) i then some (nI (msF n (dg n c) i)) else some (nI (gp n (dg n c) i))) = some (nI (max (msF n (dg n c) i) (gp n (dg n c) i))) := by
        simp only [Nat.max_def]
        split
        · split
          · congr 2; omega
          · rfl
        · split
          · rfl
          · exfalso; omega
      have e4 : (if nI (gp n (dg n c) i) ≤ 1 then some (0 : Int32) else some 1) = some (nI (if 0 < dg n c i ∧ dg n c ((i + 1) % n) = 0 then 1 else 0)) := by
        have := ifLe (α := Option Int32) (a := gp n (dg n c) i) (b := 1) (by omega) (by decide) (x := some 0) (y := some 1)
        rw [show nI 1 = (1 : Int32) from rfl] at this
        rw [this]
        have hge := gp_ed hn (dg n c) i
        by_cases q : gp n (dg n c) i ≤ 1
        · rw [if_pos q, if_neg (fun w => (hge.mp q) w.2)]
          rfl
        · rw [if_neg q, if_pos ⟨hp, by
            by_cases w : dg n c ((i + 1) % n) = 0
            · exact w
            · exact absurd (hge.mpr w) q⟩]
          rfl
      rw [e1]
      (try simp only [Option.bind_some])
      rw [e2]
      (try simp only [Option.bind_some])
      rw [e3]
      (try simp only [Option.bind_some])
      rw [e4]
      (try simp only [Option.bind_some])
      rw [q_add, nI_1]
      rw [es, et, lsF, msF, onF, if_pos hp, if_pos hp, if_pos hp, if_pos hp] at ih
      exact ih
theorem onF_iff (h : Nat → Nat) : ∀ n, onF h n = 0 ↔ ∃ x, x < n ∧ 1 < h x
  | 0 => ⟨fun q => absurd q (by show ¬ (1 : Nat) = 0; decide), fun ⟨x, hx, _⟩ => absurd hx (by omega)⟩
  | n + 1 => by
    have ih := onF_iff h n
    unfold onF
    by_cases q : 0 < h n
    · rw [if_pos q]
      by_cases w : onF h n = 0
      · rw [if_pos w]
        obtain ⟨x, h1, h2⟩ := ih.mp w
        exact ⟨fun _ => ⟨x, by omega, h2⟩, fun _ => rfl⟩
      · rw [if_neg w]
        by_cases e : h n = 1
        · rw [if_pos e]
          refine ⟨fun z => absurd z (by decide), fun ⟨x, h1, h2⟩ => ?_⟩
          by_cases hx : x = n
          · subst hx; omega
          · exact absurd (ih.mpr ⟨x, by omega, h2⟩) w
        · rw [if_neg e]
          exact ⟨fun _ => ⟨n, by omega, by omega⟩, fun _ => rfl⟩
    · rw [if_neg q, ih]
      exact ⟨fun ⟨x, h1, h2⟩ => ⟨x, by omega, h2⟩, fun ⟨x, h1, h2⟩ => ⟨x, by
        by_cases hx : x = n
        · subst hx; omega
        · omega, h2⟩⟩
theorem tk_iff (h : Nat → Nat) : ∀ n, tk h n ≤ sm h n ∧ (tk h n = sm h n ↔ ∀ x, x < n → h x ≤ 1)
  | 0 => ⟨Nat.le_refl _, fun _ x hx => absurd hx (by omega), fun _ => rfl⟩
  | n + 1 => by
    obtain ⟨a, b⟩ := tk_iff h n
    have e : tk h (n + 1) = tk h n + (if 0 < h n then 1 else 0) := rfl
    have e2 : sm h (n + 1) = sm h n + h n := rfl
    rw [e, e2]
    have hle : (if 0 < h n then 1 else 0) ≤ h n := by split <;> omega
    refine ⟨by omega, fun q x hx => ?_, fun q => ?_⟩
    · have q1 : tk h n = sm h n := by omega
      have q2 : (if 0 < h n then 1 else 0) = h n := by omega
      by_cases w : x = n
      · subst w
        split at q2 <;> omega
      · exact b.mp q1 x (by omega)
    · have q1 := b.mpr (fun x hx => q x (by omega))
      have q2 := q n (by omega)
      split <;> omega
theorem ls_iff {n : Nat} (h : Nat → Nat) (q : Nat) (hq : q ≤ n) : ∀ i, (q ≤ lsF n h i ↔ ∀ x, x < i → 0 < h x → q ≤ gp n h x) ∧ (msF n h i ≤ q + 1 ↔ ∀ x, x < i → 0 < h x → gp n h x ≤ q + 1)
  | 0 => ⟨⟨fun _ x hx => absurd hx (by omega), fun _ => by show q ≤ n + 1; omega⟩, ⟨fun _ x hx => absurd hx (by omega), fun _ => Nat.zero_le _⟩⟩
  | i + 1 => by
    obtain ⟨a, b⟩ := ls_iff h q hq i
    unfold lsF msF
    by_cases w : 0 < h i
    · rw [if_pos w, if_pos w, Nat.le_min, Nat.max_le, a, b]
      refine ⟨⟨fun ⟨z1, z2⟩ x hx hp => ?_, fun z => ⟨fun x hx => z x (by omega), z i (by omega) w⟩⟩, ⟨fun ⟨z1, z2⟩ x hx hp => ?_, fun z => ⟨fun x hx => z x (by omega), z i (by omega) w⟩⟩⟩
      · by_cases e : x = i
        · rw [e]; exact z2
        · exact z1 x (by omega) hp
      · by_cases e : x = i
        · rw [e]; exact z2
        · exact z1 x (by omega) hp
    · rw [if_neg w, if_neg w, a, b]
      refine ⟨⟨fun z x hx hp => z x (by
        by_cases e : x = i
        · subst e; exact absurd hp w
        · omega) hp, fun z x hx => z x (by omega)⟩, ⟨fun z x hx hp => z x (by
        by_cases e : x = i
        · subst e; exact absurd hp w
        · omega) hp, fun z x hx => z x (by omega)⟩⟩
theorem m_isGoal {n c g k : Nat} {hand : Nat → Int32} (hn : RG n) (hc : CR n c k) (hH : HD hand n c) (hk : k ≠ 0) (hg : g < 3) : F_X8_isGoal (nI g) (nI k) (nI n) hand = some (if gl n c g k = true then 1 else 0) := by
  have h9 := hn.2
  have h4 := hc.2.2
  have ht := tk_le (dg n c) n
  have he := ed_le n (dg n c) n
  obtain ⟨b1, b2, b3⟩ := ls_le hn (dg n c) n
  have h := m_goal_L2 hn hH n 0 FU (by omega) (by unfold FU; omega)
  rw [show nI (tk (dg n c) 0) = (0 : Int32) from rfl, show nI (ed n (dg n c) 0) = (0 : Int32) from rfl, show nI (msF n (dg n c) 0) = (0 : Int32) from rfl, show nI (onF (dg n c) 0) = (1 : Int32) from rfl, show nI 0 = (0 : Int32) from rfl, show lsF n (dg n c) 0 = n + 1 from rfl] at h
  unfold F_X8_isGoal gl
  rw [nI_1]
  (try simp only [Option.bind_some])
  rw [h]
  (try simp only [Option.bind_some])
  have hone : (¬ onF (dg n c) n = 0) ↔ tk (dg n c) n = k := by
    rw [← hc.2.1, (tk_iff (dg n c) n).2, onF_iff]
    refine ⟨fun z x hx => ?_, fun z ⟨x, h1, h2⟩ => ?_⟩
    · rcases Nat.lt_or_ge 1 (dg n c x) with w | w
      · exact absurd ⟨x, hx, w⟩ z
      · exact w
    · have := z x h1
      omega
  rw [ifE0 (by omega), ifE1 (by omega), ifE0 (by omega), ifE1 (by omega)]
  by_cases g0 : g = 0
  · rw [if_pos g0, if_pos g0]
    by_cases h1 : tk (dg n c) n = 1
    · rw [if_pos h1, if_pos (by simp [h1])]
    · rw [if_neg h1, if_neg (by simp [h1])]
  · rw [if_neg g0, if_neg g0]
    by_cases h1 : tk (dg n c) n = k
    · rw [if_neg (hone.mpr h1)]
      by_cases g1 : g = 1
      · have hdiv : n / k ≤ n := Nat.div_le_self n k
        obtain ⟨i1, i2⟩ := ls_iff (n := n) (dg n c) (n / k) hdiv n
        rw [if_pos g1, gdT (nzI (by omega) (by omega)), gdT (nzI (by omega) (by omega)), pk_div (by omega) (by omega) (by omega), nI_1, ifLt (by omega) (by omega), ifLt (by omega) (by omega)]
        have hsp : spP n (dg n c) (n / k) ↔ (n / k ≤ lsF n (dg n c) n ∧ msF n (dg n c) n ≤ n / k + 1) := by
          rw [i1, i2]
          refine ⟨fun z => ⟨fun x hx hp => ?_, fun x hx hp => ?_⟩, fun ⟨z1, z2⟩ x hx hp => ?_⟩
          · rcases z x hx hp with w | w <;> omega
          · rcases z x hx hp with w | w <;> omega
          · have a1 := z1 x hx hp
            have a2 := z2 x hx hp
            omega
        by_cases w1 : lsF n (dg n c) n < n / k
        · rw [if_pos w1]
          have : ¬ spP n (dg n c) (n / k) := fun z => by have := (hsp.mp z).1; omega
          simp [h1, g1, this]
        · rw [if_neg w1]
          by_cases w2 : n / k + 1 < msF n (dg n c) n
          · rw [if_pos w2]
            have : ¬ spP n (dg n c) (n / k) := fun z => by have := (hsp.mp z).2; omega
            simp [h1, g1, this]
          · rw [if_neg w2]
            have : spP n (dg n c) (n / k) := hsp.mpr ⟨by omega, by omega⟩
            rw [show (decide (tk (dg n c) n = k) && if g = 1 then decide (spP n (dg n c) (n / k)) else decide (ed n (dg n c) n ≤ 1)) = true by rw [if_pos g1, decide_eq_true h1, decide_eq_true this]; rfl]
            rfl
      · have e : (if 2 ≤ nI (ed n (dg n c) n) then some (0 : Int32) else some 1) = if 2 ≤ ed n (dg n c) n then some 0 else some 1 := ifLe (a := 2) (by decide) (by omega)
        rw [if_neg g1, e]
        by_cases w : ed n (dg n c) n ≤ 1
        · rw [if_neg (by omega)]
          simp [h1, g1, w]
        · rw [if_pos (by omega)]
          simp [h1, g1, w]
    · have : onF (dg n c) n = 0 := by
        by_cases w : onF (dg n c) n = 0
        · exact w
        · exact absurd (hone.mp w) h1
      rw [if_pos this]
      simp [h1]
