/-! the model's step and go -/
def GO (goes : Nat → Int32) (n : Nat) (B : BOOK) (c i : Nat) : Prop := ∀ x, x < i → goes x = if dg n c x = 0 then 0 else mv n B c x
theorem m_step_L3 {n c k : Nat} {B : BOOK} {rs rr rd hand : Nat → Int32} {rules : Int32} (hn : RG n) (hc : CR n c k) (hH : HD hand n c) (hB : BKok B) (hM : BKM rules rs rr rd B) : ∀ (d i f : Nat) (vd : Int32) (view up down goes : Nat → Int32), i + d = n → d < f → GO goes n B c i → ∃ vd' view' up' down' goes', F_X8_step_L3 (nI n) rules hand rs rr rd f (nI i) vd view up down goes = some (vd', view', up', down', goes') ∧ GO goes' n B c n
  | 0, i, f + 1, vd, view, up, down, goes, hi, _, hg => by
    have h9 := hn.2
    have e : i = n := by omega
    subst e
    rw [F_X8_step_L3.eq_2, if_pos (nI_le (by omega) (by omega))]
    exact ⟨vd, view, up, down, goes, rfl, hg⟩
  | d + 1, i, f + 1, vd, view, up, down, goes, hi, hf, hg => by
    have h9 := hn.2
    have h8 := dg_lt n c i
    have hi2 : i < n := by omega
    rw [F_X8_step_L3.eq_2, if_neg (nI_ge (by omega) (by omega)), gdT (inbI (by omega) (by omega)), nI_clamp (by omega), hH.at hn hi2, ifE0 (by omega)]
    obtain ⟨vd1, view1, up1, down1, hd⟩ := m_doing (view := view) (up := up) (down := down) hn hc hH hi2 hB hM
    have step : ∀ (vd' : Int32) (view' up' down' : Nat → Int32) (g : Int32), g = (if dg n c i = 0 then 0 else mv n B c i) → ∃ a1 a2 a3 a4 a5, F_X8_step_L3 (nI n) rules hand rs rr rd f (nI (i + 1)) vd' view' up' down' (upd goes i g) = some (a1, a2, a3, a4, a5) ∧ GO a5 n B c n := by
      intro vd' view' up' down' g hgv
      refine m_step_L3 hn hc hH hB hM d (i + 1) f vd' view' up' down' (upd goes i g) (by omega) (by omega) (fun x hx => ?_)
      by_cases e : x = i
      · subst e; rw [pk_us]; exact hgv
      · rw [pk_un e]; exact hg x (by omega)
    by_cases q : dg n c i = 0
    · rw [if_pos q]
      (try simp only [Option.bind_some])
      rw [gdT (inbI (by omega) (by omega)), nI_1]
      (try simp only [Option.bind_some])
      exact step vd view up down 0 (by rw [if_pos q])
    · rw [if_neg q, hd]
      (try simp only [Option.bind_some])
      rw [gdT (inbI (by omega) (by omega)), nI_1]
      (try simp only [Option.bind_some])
      exact step vd1 view1 up1 down1 _ (by rw [if_neg q])
theorem m_step_L9 {n c k : Nat} {B : BOOK} {hand goes : Nat → Int32} (hn : RG n) (hc : CR n c k) (hH : HD hand n c) (hg : GO goes n B c n) : ∀ (d i f : Nat) (here : Nat → Int32), i + d = n → d < f → HF here n (stp n B c i) → ∃ here', F_X8_step_L9 (nI n) hand goes f (nI (stM n B c i)) (nI i) here = some (nI (stM n B c n), here') ∧ HF here' n (stp n B c n)
  | 0, i, f + 1, here, hi, _, hh => by
    have h9 := hn.2
    have e : i = n := by omega
    subst e
    rw [F_X8_step_L9.eq_2, if_pos (nI_le (by omega) (by omega))]
    exact ⟨here, rfl, hh⟩
  | d + 1, i, f + 1, here, hi, hf, hh => by
    have h9 := hn.2
    have h0 : 0 < n := by have := hn.1; omega
    have h8 := dg_lt n c i
    have hi2 : i < n := by omega
    have es : stM n B c (i + 1) = stM n B c i + (if goesP n B c i = true then dg n c i else 0) := rfl
    have gi := hg i hi2
    have hdl := dst_lt h0 B c i
    rw [F_X8_step_L9.eq_2, if_neg (nI_ge (by omega) (by omega)), gdT (inbI (by omega) (by omega)), nI_clamp (by omega), gi, hH.at hn hi2]
    by_cases hgp : goesP n B c i = true
    · have hg2 := hgp
      unfold goesP at hg2
      simp only [Bool.and_eq_true, decide_eq_true_eq] at hg2
      have e1 : stp n B c (i + 1) = mvF (stp n B c i) i (dst n B c i) (dg n c i) := by rw [stp, if_pos hgp]
      rw [if_neg (show ¬ dg n c i = 0 by omega), if_neg hg2.2]
      rw [gdT (inbI (by omega) (by omega))]
      (try simp only [Option.bind_some])
      rw [gdT (inbI (by omega) (by omega)), gdT (inbI (by omega) (by omega))]
      (try simp only [Option.bind_some])
      rw [gdT (inbI (by omega) (by omega)), gdT (inbI (by omega) (by omega))]
      (try simp only [Option.bind_some])
      have hto : ∀ z : Int32, (if 0 ≤ mv n B c i then some (1 : Int32) else some (nI n - 1)) = some z → jrem (nI i + z) (nI n) = nI (dst n B c i) := by
        intro z hz
        unfold dst
        rcases mv_cases n B c i with h | h | h | h
        · exact absurd h hg2.2
        · rw [h, if_pos (by decide)] at hz
          rw [h, if_neg (by decide), ← Option.some.inj hz, nI_1, q_rem (by omega) (by omega) (by omega)]
        · rw [h, if_pos (by decide)] at hz
          rw [h, if_neg (by decide), ← Option.some.inj hz, nI_1, q_rem (by omega) (by omega) (by omega)]
        · rw [h, if_neg (by decide)] at hz
          rw [h, if_pos rfl, ← Option.some.inj hz, show nI n - 1 = nI (n - 1) from q_sub (b := 1) (by omega), q_add, q_rem (by omega) (by omega) (by omega)]
      obtain ⟨z, hz⟩ : ∃ z, (if 0 ≤ mv n B c i then some (1 : Int32) else some (nI n - 1)) = some z := by
        split
        · exact ⟨_, rfl⟩
        · exact ⟨_, rfl⟩
      rw [hz]
      (try simp only [Option.bind_some])
      rw [gdT (nzI (by omega) (by omega)), hto z hz]
      (try simp only [Option.bind_some])
      rw [gdT (inbI (by omega) (by omega)), gdT (inbI (by omega) (by omega)), nI_clamp (show dst n B c i < 2 ^ 31 by omega)]
      (try simp only [Option.bind_some])
      rw [gdT (inbI (by omega) (by omega)), nI_1, q_add]
      (try simp only [Option.bind_some])
      rw [show stM n B c i + dg n c i = stM n B c (i + 1) by rw [es, if_pos hgp]]
      refine m_step_L9 hn hc hH hg d (i + 1) f _ (by omega) (by omega) ?_
      rw [e1]
      exact HF.mv hn hh hi2 hdl (stp_ge n B c i i (Nat.le_refl i))
    · have e1 : stp n B c (i + 1) = stp n B c i := by rw [stp, if_neg hgp]
      have hz : (if dg n c i = 0 then (0 : Int32) else mv n B c i) = 0 := by
        unfold goesP at hgp
        simp only [Bool.and_eq_true, decide_eq_true_eq, not_and, Decidable.not_not] at hgp
        by_cases q : dg n c i = 0
        · rw [if_pos q]
        · rw [if_neg q, hgp (by omega)]
      rw [hz, if_pos rfl]
      (try simp only [Option.bind_some])
      rw [nI_1, show stM n B c i = stM n B c (i + 1) by rw [es, if_neg hgp]; rfl]
      exact m_step_L9 hn hc hH hg d (i + 1) f here (by omega) (by omega) (by rw [e1]; exact hh)
theorem m_step {n c k : Nat} {B : BOOK} {rs rr rd here hand view up down goes : Nat → Int32} {rules vd : Int32} (hn : RG n) (hc : CR n c k) (hH : HD here n c) (hB : BKok B) (hM : BKM rules rs rr rd B) (hk : k ≠ 0) : ∃ vd' here' hand' view' up' down' goes', F_X8_step (nI n) (nI k) vd rules here hand view up down rs rr rd goes = some (nI (stM n B c n), 0, vd', here', hand', view', up', down', goes') ∧ HD here' n (stC n B c) := by
  have hk4 := hc.2.2
  have hT := hH.take (hand := hand)
  obtain ⟨vd', view', up', down', goes', h1, h2⟩ := m_step_L3 hn hc hT hB hM n 0 FU vd view up down goes (by omega) (by have := hn.2; unfold FU; omega) (fun x hx => absurd hx (by omega))
  obtain ⟨here', h3, h4⟩ := m_step_L9 hn hc hT h2 n 0 FU here (by omega) (by have := hn.2; unfold FU; omega) hH
  refine ⟨vd', here', cpy9 here hand 9, view', up', down', goes', ?_, h4.hd (stp_lt hn hc B (Nat.le_refl n))⟩
  unfold F_X8_step
  rw [ifE0 (by omega), if_neg hk, m_take]
  (try simp only [Option.bind_some])
  rw [show nI 0 = (0 : Int32) from rfl] at h1
  rw [h1]
  (try simp only [Option.bind_some])
  rw [show nI (stM n B c 0) = (0 : Int32) from rfl, show nI 0 = (0 : Int32) from rfl] at h3
  rw [h3]
  rfl
/-! go: one robot -/
/-- where one robot at p goes, asked for way a -/
def goD (n : Nat) (B : BOOK) (c p : Nat) (a : Int32) : Nat := if mv n B c p = -1 ∨ (mv n B c p = 2 ∧ ¬ a = 1) then (p + (n - 1)) % n else (p + 1) % n
def goC (n : Nat) (B : BOOK) (c p : Nat) (a : Int32) : Nat := pkR (mvF (dg n c) p (goD n B c p a) 1) n
theorem goD_lt {n : Nat} (h0 : 0 < n) (B : BOOK) (c p : Nat) (a : Int32) : goD n B c p a < n := by
  unfold goD
  split <;> exact Nat.mod_lt _ h0
theorem go_way {n : Nat} {B : BOOK} {c p : Nat} {a : Int32} (hm : ¬ mv n B c p = 0) : ∃ w z, WI n w z ∧ goD n B c p a = (p + w) % n ∧ (if mv n B c p = 2 then (if a = 1 then some (1 : Int32) else some (-1)) else some (mv n B c p)) = some z := by
  unfold goD
  rcases mv_cases n B c p with h | h | h | h
  · exact absurd h hm
  · refine ⟨1, 1, Or.inl ⟨rfl, rfl⟩, ?_, ?_⟩
    · rw [h, if_neg (by rintro (q | q); exact absurd q (by decide); exact absurd q.1 (by decide))]
    · rw [h, if_neg (by decide)]
  · by_cases ha : a = 1
    · refine ⟨1, 1, Or.inl ⟨rfl, rfl⟩, ?_, ?_⟩
      · rw [h, if_neg (by rintro (q | q); exact absurd q (by decide); exact q.2 ha)]
      · rw [h, if_pos rfl, if_pos ha]
    · refine ⟨n - 1, -1, Or.inr ⟨rfl, rfl⟩, ?_, ?_⟩
      · rw [if_pos (Or.inr ⟨h, ha⟩)]
      · rw [h, if_pos rfl, if_neg ha]
  · refine ⟨n - 1, -1, Or.inr ⟨rfl, rfl⟩, ?_, ?_⟩
    · rw [if_pos (Or.inl h)]
    · rw [h, if_neg (by decide)]
theorem goC_CR {n c k p : Nat} (hn : RG n) (hc : CR n c k) (B : BOOK) (hp : p < n) (h1 : 0 < dg n c p) (a : Int32) : CR n (goC n B c p a) k ∧ ∀ x, x < n → mvF (dg n c) p (goD n B c p a) 1 x < 8 := by
  have h0 : 0 < n := by have := hn.1; omega
  have hs := mvF_sm (h := dg n c) hp (goD_lt h0 B c p a) (show 1 ≤ dg n c p by omega)
  have hlt : ∀ x, x < n → mvF (dg n c) p (goD n B c p a) 1 x < 8 := fun x hx => by
    have a := sm_le (h := mvF (dg n c) p (goD n B c p a) 1) hx
    rw [hs, hc.2.1] at a
    have := hc.2.2
    omega
  refine ⟨⟨pkR_lt hlt, ?_, hc.2.2⟩, hlt⟩
  unfold goC
  rw [sm_congr (fun x hx => dg_pkR hlt hx), hs]
  exact hc.2.1
theorem x_go {n c k p : Nat} {B : BOOK} {rows : Nat → Int64} {acts : Nat → Int32} {size : Int32} (hn : RG n) (hc : CR n c k) (hB : BKok B) (hX : BKX size rows acts B) (hp : p < n) (a : Int32) : F_X7_go (nI p) a (nI c) (nI n) size rows acts = if goesP n B c p = true then some (1, nI (goC n B c p a)) else some (-1000002, nI c) := by
  have h0 : 0 < n := by have := hn.1; omega
  have h8 := dg_lt n c p
  unfold F_X7_go
  rw [noPlace_in hn hp]
  (try simp only [Option.bind_some])
  rw [if_pos (by trivial), x_manyAt hn hc.1 hp]
  (try simp only [Option.bind_some])
  rw [ifE0 (by omega), x_moveAt hn hc hp hB hX]
  (try simp only [Option.bind_some])
  by_cases hg : goesP n B c p = true
  · have hg2 := hg
    unfold goesP at hg2
    simp only [Bool.and_eq_true, decide_eq_true_eq] at hg2
    rw [if_pos hg, if_neg (show ¬ dg n c p = 0 by omega)]
    (try simp only [Option.bind_some])
    rw [if_neg hg2.2]
    obtain ⟨w, z, hw, hd, hz⟩ := go_way (a := a) hg2.2
    have hz2 : (if mv n B c p = 2 then Option.bind (if a = 1 then some (1 : Int32) else some (-1)) fun j10 => some j10 else some (mv n B c p)) = some z := by
      rw [← hz]
      by_cases q : mv n B c p = 2
      · rw [if_pos q, if_pos q]
        split <;> rfl
      · rw [if_neg q, if_neg q]
    rw [hz2]
    (try simp only [Option.bind_some])
    rw [x_shift hn hp hw, ← hd]
    (try simp only [Option.bind_some])
    have e := mvF_I (h := dg n c) (n := n) (a := p) (b := goD n B c p a) (m := 1) hp (goD_lt h0 B c p a) (by omega)
    rw [pkR_dg hc.1, show nI 1 * (nI (wt n (goD n B c p a)) - nI (wt n p)) = nI (wt n (goD n B c p a)) - nI (wt n p) from Int32.one_mul _] at e
    rw [e]
    rfl
  · rw [if_neg hg]
    unfold goesP at hg
    simp only [Bool.and_eq_true, decide_eq_true_eq, not_and, Decidable.not_not] at hg
    have hz : (if dg n c p = 0 then some (0 : Int32) else some (mv n B c p)) = some 0 := by
      by_cases q : dg n c p = 0
      · rw [if_pos q]
      · rw [if_neg q, hg (by omega)]
    rw [hz]
    (try simp only [Option.bind_some])
    rw [if_pos (by trivial)]
theorem m_go {n c k p : Nat} {B : BOOK} {rs rr rd here hand view up down : Nat → Int32} {rules vd : Int32} (hn : RG n) (hc : CR n c k) (hH : HD here n c) (hB : BKok B) (hM : BKM rules rs rr rd B) (hp : p < n) (a : Int32) : ∃ r vd' here' hand' view' up' down', F_X8_go (nI p) a (nI n) vd rules here hand view up down rs rr rd = some (r, 0, vd', here', hand', view', up', down') ∧ ((goesP n B c p = true ∧ r = 1 ∧ HD here' n (goC n B c p a)) ∨ (¬ goesP n B c p = true ∧ r = -1000002 ∧ here' = here)) := by
  have h9 := hn.2
  have h0 : 0 < n := by have := hn.1; omega
  have h8 := dg_lt n c p
  have hT := hH.take (hand := hand)
  obtain ⟨vd1, view1, up1, down1, hd⟩ := m_doing (view := view) (up := up) (down := down) hn hc hT hp hB hM
  unfold F_X8_go
  rw [isPlace_in hn hp]
  (try simp only [Option.bind_some])
  rw [if_neg (by decide), m_take]
  (try simp only [Option.bind_some])
  rw [gdT (inbI (by omega) (by omega)), nI_clamp (by omega), hH.at hn hp, ifE0 (by omega), hd]
  (try simp only [Option.bind_some])
  by_cases hg : goesP n B c p = true
  · have hg2 := hg
    unfold goesP at hg2
    simp only [Bool.and_eq_true, decide_eq_true_eq] at hg2
    rw [if_neg (show ¬ dg n c p = 0 by omega)]
    (try simp only [Option.bind_some])
    rw [if_neg hg2.2]
    obtain ⟨w, z, hw, hgd, hz⟩ := go_way (a := a) hg2.2
    rw [hz]
    (try simp only [Option.bind_some])
    have e1 : jrem (nI p + z + nI n) (nI n) = nI (goD n B c p a) := by
      have := q_pos hn hp hw (k := 1) (by omega)
      rw [show z * nI 1 = z from Int32.mul_one z, show nI n * nI 1 = nI n from Int32.mul_one _] at this
      rw [this, hgd]
      unfold pos
      rw [Nat.mul_one]
    have hgl := goD_lt h0 B c p a
    rw [gdT (inbI (by omega) (by omega))]
    (try simp only [Option.bind_some])
    rw [gdT (inbI (by omega) (by omega)), gdT (nzI (by omega) (by omega)), e1, gdT (inbI (by omega) (by omega)), nI_clamp (show goD n B c p a < 2 ^ 31 by omega)]
    (try simp only [Option.bind_some])
    rw [gdT (inbI (by omega) (by omega))]
    refine ⟨_, _, _, _, _, _, _, rfl, Or.inl ⟨hg, rfl, ?_⟩⟩
    have := HF.mv hn (h := dg n c) hH hp hgl (show 1 ≤ dg n c p by omega)
    rw [hH.at hn hp] at this
    exact this.hd (goC_CR hn hc B hp (by omega) a).2
  · have hg2 := hg
    unfold goesP at hg2
    simp only [Bool.and_eq_true, decide_eq_true_eq, not_and, Decidable.not_not] at hg2
    by_cases q : dg n c p = 0
    · rw [if_pos q]
      (try simp only [Option.bind_some])
      rw [if_pos (by trivial)]
      exact ⟨_, _, _, _, _, _, _, rfl, Or.inr ⟨hg, rfl, rfl⟩⟩
    · rw [if_neg q]
      (try simp only [Option.bind_some])
      rw [if_pos (hg2 (by omega))]
      exact ⟨_, _, _, _, _, _, _, rfl, Or.inr ⟨hg, rfl, rfl⟩⟩
