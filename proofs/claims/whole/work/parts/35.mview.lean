/-! the model: what is at hand, rows, views -/
/-- an array's first places are those of another -/
def cpy9 (a b : Nat → Int32) (i : Nat) : Nat → Int32 := fun x => if x < i then a x else b x
theorem cpy9_upd (a b : Nat → Int32) (i : Nat) : upd (cpy9 a b i) i (a i) = cpy9 a b (i + 1) := by
  funext x
  unfold upd cpy9
  by_cases h : x = i
  · subst h; rw [if_pos rfl, if_pos (by omega)]
  · rw [if_neg h]
    by_cases h2 : x < i
    · rw [if_pos h2, if_pos (by omega)]
    · rw [if_neg h2, if_neg (by omega)]
theorem m_take_L {here hand : Nat → Int32} : ∀ (d i f : Nat), i + d = 9 → d < f → F_X8_take_L1 here f (nI i) (cpy9 here hand i) = some (cpy9 here hand 9)
  | 0, i, f + 1, hi, _ => by
    rw [F_X8_take_L1.eq_2, show (9 : Int32) = nI 9 from rfl, if_pos (nI_le (by omega) (by omega)), show i = 9 by omega]
  | d + 1, i, f + 1, hi, hf => by
    rw [F_X8_take_L1.eq_2, show (9 : Int32) = nI 9 from rfl, if_neg (nI_ge (by omega) (by omega)), gdT (inbI (by omega) (by omega))]
    (try simp only [Option.bind_some])
    rw [gdT (inbI (by omega) (by omega)), show (1 : Int32) = nI 1 from rfl, q_add, nI_clamp (by omega), cpy9_upd]
    exact m_take_L d (i + 1) f (by omega) (by omega)
theorem m_take (here hand : Nat → Int32) : F_X8_take here hand = some (cpy9 here hand 9) := by
  unfold F_X8_take
  have := m_take_L (here := here) (hand := hand) 9 0 FU (by omega) (by unfold FU; omega)
  have e : cpy9 here hand 0 = hand := by
    funext x
    unfold cpy9
    rw [if_neg (by omega)]
  rw [e, show nI 0 = (0 : Int32) from rfl] at this
  rw [this]
  rfl
/-- an array of the model holds the crowd c -/
def HD (hand : Nat → Int32) (n c : Nat) : Prop := ∀ x, x < 9 → hand x = if x < n then nI (dg n c x) else 0
theorem HD.at {hand : Nat → Int32} {n c x : Nat} (h : HD hand n c) (hn : RG n) (hx : x < n) : hand x = nI (dg n c x) := by
  have := hn.2
  rw [h x (by omega), if_pos hx]
theorem HD.take {here hand : Nat → Int32} {n c : Nat} (h : HD here n c) : HD (cpy9 here hand 9) n c := fun x hx => by
  unfold cpy9
  rw [if_pos hx]
  exact h x hx
/-- an array's first places hold a list -/
def RW (r : Nat → Int32) (l : List Nat) : Prop := ∀ j, j < l.length → r j = nI (at0 l j)
theorem RW.app {r : Nat → Int32} {l : List Nat} (h : RW r l) (x : Nat) : RW (upd r l.length (nI x)) (l ++ [x]) := by
  intro j hj
  rw [List.length_append] at hj
  by_cases e : j = l.length
  · subst e; rw [pk_us, at0_end]
  · rw [pk_un e, at0_app (by simp at hj; omega)]
    exact h j (by simp at hj; omega)
theorem q_pos {n p w k : Nat} {z : Int32} (hn : RG n) (hp : p < n) (hw : WI n w z) (hk : k ≤ 9) : jrem ((nI p + z * nI k) + nI n * nI k) (nI n) = nI (pos n p w k) := by
  obtain ⟨h3, h9⟩ := hn
  have hnk : n * k ≤ 81 := Nat.mul_le_mul h9 hk
  rcases hw with ⟨rfl, rfl⟩ | ⟨rfl, rfl⟩
  · rw [show (1 : Int32) = nI 1 from rfl, q_mul, q_mul, q_add, q_add, q_rem (by omega) (by omega) (by omega), Nat.add_mul_mod_self_left]
    rfl
  · have e : nI p + (-1) * nI k + nI n * nI k = nI (p + n * k) - nI k := by
      rw [← q_add, ← q_mul]
      grind
    have hkn : k ≤ n * k := Nat.le_mul_of_pos_left k (by omega)
    rw [e, q_sub (by omega), q_rem (by omega) (by omega) (by omega)]
    unfold pos
    congr 2
    obtain ⟨m, rfl⟩ : ∃ m, n = m + 1 := ⟨n - 1, by omega⟩
    rw [Nat.add_sub_cancel, Nat.add_mul, Nat.one_mul]
    omega
theorem m_rowFrom_L {n c p w k : Nat} {z : Int32} {hand : Nat → Int32} (hn : RG n) (hc : CR n c k) (hH : HD hand n c) (hp : p < n) (hw : WI n w z) : ∀ (d i f : Nat) (row : Nat → Int32) (q : Nat), i + d = n → d < f → (rwS n (dg n c) p w i).1.length = 2 * q → RW row (rwS n (dg n c) p w i).1 → ∃ row', F_X8_rowFrom_u_L1 (nI p) z (nI n) hand f (nI q) (nI (rwS n (dg n c) p w i).2) (nI (i + 1)) row = some (nI (tk (dg n c) n), row') ∧ RW row' (rwL n (dg n c) p w)
  | 0, i, f + 1, row, q, hi, _, hq, hr => by
    have h9 := hn.2
    have e : i = n := by omega
    subst e
    have hl := rwL_len (h := dg i c) hp hw.wy
    unfold rwL at hl
    rw [F_X8_rowFrom_u_L1.eq_2, if_pos (nI_lt (by omega) (by omega))]
    refine ⟨row, ?_, hr⟩
    rw [show q = tk (dg i c) i by omega]
  | d + 1, i, f + 1, row, q, hi, hf, hq, hr => by
    have h9 := hn.2
    have h0 : 0 < n := by have := hn.1; omega
    have hb := dg_lt n c (pos n p w (i + 1))
    have l8 := rwS_len8 (i := i + 1) hp hw.wy hc.2.1 hc.2.2 (by omega)
    have hpl := pos_lt h0 p w (i + 1)
    rw [F_X8_rowFrom_u_L1.eq_2, if_neg (nI_nlt (by omega) (by omega))]
    (try simp only [Option.bind_some])
    rw [gdT (nzI (by omega) (by omega)), q_pos hn hp hw (by omega)]
    (try simp only [Option.bind_some])
    rw [gdT (inbI (by omega) (by omega)), nI_clamp (by omega), hH.at hn hpl, show (0 : Int32) = nI 0 from rfl, ifLe (by omega) (by omega)]
    by_cases hc2 : 0 < dg n c (pos n p w (i + 1))
    · have es : rwS n (dg n c) p w (i + 1) = ((rwS n (dg n c) p w i).1 ++ [(rwS n (dg n c) p w i).2 + 1] ++ [dg n c (pos n p w (i + 1))], 0) := by
        rw [rwS, if_pos hc2]
      have l2 : (rwS n (dg n c) p w i).1.length + 2 ≤ 8 := by
        rw [es] at l8
        simp at l8
        omega
      rw [if_neg (by omega), show (2 : Int32) = nI 2 from rfl, q_mul, show (1 : Int32) = nI 1 from rfl, q_add, gdT (inbI (by omega) (by omega)), gdT (inbI (by omega) (by omega))]
      (try simp only [Option.bind_some])
      rw [q_add, gdT (inbI (by omega) (by omega)), nI_clamp (by omega), nI_clamp (by omega)]
      (try simp only [Option.bind_some])
      rw [q_add, q_add]
      have ih := m_rowFrom_L hn hc hH hp hw d (i + 1) f (upd (upd row (2 * q) (nI ((rwS n (dg n c) p w i).2 + 1))) (2 * q + 1) (nI (dg n c (pos n p w (i + 1))))) (q + 1) (by omega) (by omega) (by rw [es]; simp; omega) (by
        rw [es]
        have r1 := hr.app ((rwS n (dg n c) p w i).2 + 1)
        have r2 := r1.app (dg n c (pos n p w (i + 1)))
        rw [List.length_append] at r2
        rw [hq] at r1 r2
        exact r2)
      rw [es] at ih
      exact ih
    · have es : rwS n (dg n c) p w (i + 1) = ((rwS n (dg n c) p w i).1, (rwS n (dg n c) p w i).2 + 1) := by
        rw [rwS, if_neg hc2]
      rw [if_pos (by omega)]
      (try simp only [Option.bind_some])
      rw [show (1 : Int32) = nI 1 from rfl, q_add, q_add]
      have ih := m_rowFrom_L hn hc hH hp hw d (i + 1) f row q (by omega) (by omega) (by rw [es]; exact hq) (by rw [es]; exact hr)
      rw [es] at ih
      exact ih
theorem m_rowFrom_u {n c p w k : Nat} {z : Int32} {hand : Nat → Int32} (hn : RG n) (hc : CR n c k) (hH : HD hand n c) (hp : p < n) (hw : WI n w z) (row : Nat → Int32) : ∃ row', F_X8_rowFrom_u (nI p) z (nI n) hand row = some (nI (tk (dg n c) n), row') ∧ RW row' (rwL n (dg n c) p w) := by
  obtain ⟨row', h1, h2⟩ := m_rowFrom_L hn hc hH hp hw n 0 FU row 0 (by omega) (by have := hn.2; unfold FU; omega) rfl (fun j hj => absurd hj (by simp [rwS]))
  refine ⟨row', ?_, h2⟩
  unfold F_X8_rowFrom_u
  rw [show nI (0 + 1) = (1 : Int32) from rfl, show nI (rwS n (dg n c) p w 0).2 = (0 : Int32) from rfl, show nI 0 = (0 : Int32) from rfl] at h1
  rw [h1]
  rfl
theorem rowFrom_du (a b n : Int32) (hand : Nat → Int32) : ∀ (f : Nat) (q g i : Int32) (row : Nat → Int32), F_X8_rowFrom_d_L1 a b n hand f q g i row = F_X8_rowFrom_u_L1 a b n hand f q g i row
  | 0, _, _, _, _ => rfl
  | f + 1, q, g, i, row => by
    rw [F_X8_rowFrom_d_L1.eq_2, F_X8_rowFrom_u_L1.eq_2]
    simp only [rowFrom_du a b n hand f]
theorem m_rowFrom_d {n c p w k : Nat} {z : Int32} {hand : Nat → Int32} (hn : RG n) (hc : CR n c k) (hH : HD hand n c) (hp : p < n) (hw : WI n w z) (row : Nat → Int32) : ∃ row', F_X8_rowFrom_d (nI p) z (nI n) hand row = some (nI (tk (dg n c) n), row') ∧ RW row' (rwL n (dg n c) p w) := by
  obtain ⟨row', h1, h2⟩ := m_rowFrom_u hn hc hH hp hw row
  refine ⟨row', ?_, h2⟩
  rw [← h1]
  unfold F_X8_rowFrom_d F_X8_rowFrom_u
  rw [rowFrom_du]
/-- which way the view goes: 1 up, -1 down, 0 either -/
def wayOf (a b : Nat) : Int32 := if a < b then 1 else if b < a then -1 else 0
theorem m_look_L4 {u v : Nat → Int32} {lu lv : List Nat} (hu : RW u lu) (hv : RW v lv) (iu : items lu) (iv : items lv) (hl : lv.length = lu.length) (h8 : lu.length ≤ 8) : ∀ (d i f : Nat), i + d = lu.length → d + 1 < f → (∀ j, j < i → at0 lu j = at0 lv j) → F_X8_look_L4 (nI lu.length) u v f 0 (nI i) = some (wayOf (pk7 lu) (pk7 lv))
  | 0, i, f + 1, hi, _, he => by
    rw [F_X8_look_L4.eq_2, if_pos (nI_le (by omega) (by omega))]
    have e : pk7 lu = pk7 lv := by
      unfold pk7
      rw [hl]
      exact pkB_congr (fun x hx => he x (by omega))
    unfold wayOf
    rw [e, if_neg (by omega), if_neg (by omega)]
  | d + 1, i, f + 1 + 1, hi, hf, he => by
    have a1 := iu i (by omega)
    have a2 := iv i (by omega)
    rw [F_X8_look_L4.eq_2, if_neg (nI_ge (by omega) (by omega)), if_pos rfl, gdT (inbI (by omega) (by omega)), gdT (inbI (by omega) (by omega)), nI_clamp (by omega), hu i (by omega), hv i (by omega), ifLe (by omega) (by omega)]
    have fin : ∀ z : Int32, ¬ z = 0 → F_X8_look_L4 (nI lu.length) u v (f + 1) z (nI (i + 1)) = some z := by
      intro z hz
      rw [F_X8_look_L4.eq_2]
      by_cases hc : nI lu.length ≤ nI (i + 1)
      · rw [if_pos hc]
      · rw [if_neg hc, if_neg hz]
    by_cases c1 : at0 lv i ≤ at0 lu i
    · rw [if_pos c1, gdT (inbI (by omega) (by omega)), gdT (inbI (by omega) (by omega)), ifLe (by omega) (by omega)]
      by_cases c2 : at0 lu i ≤ at0 lv i
      · rw [if_pos c2]
        (try simp only [Option.bind_some])
        rw [show (1 : Int32) = nI 1 from rfl, q_add]
        exact m_look_L4 hu hv iu iv hl h8 d (i + 1) (f + 1) (by omega) (by omega) (fun j hj => by
          by_cases q : j = i
          · subst q; omega
          · exact he j (by omega))
      · rw [if_neg c2]
        (try simp only [Option.bind_some])
        rw [show nI i + 1 = nI (i + 1) from nI_1 i, fin _ (by decide)]
        have : pk7 lv < pk7 lu := by
          unfold pk7
          rw [hl]
          exact pkB_lex (fun x hx => (iv x (by omega)).2) (fun x hx => (iu x (by omega)).2) (j := i) (by omega) (fun x hx => (he x hx).symm) (by omega)
        unfold wayOf
        rw [if_neg (by omega), if_pos this]
    · rw [if_neg c1]
      (try simp only [Option.bind_some])
      rw [show nI i + 1 = nI (i + 1) from nI_1 i, fin _ (by decide)]
      have : pk7 lu < pk7 lv := by
        unfold pk7
        rw [hl]
        exact pkB_lex (fun x hx => (iu x (by omega)).2) (fun x hx => (iv x (by omega)).2) (j := i) (by omega) he (by omega)
      unfold wayOf
      rw [if_pos this]
theorem m_look_L11 {z : Int32} {u v : Nat → Int32} {l : List Nat} (h8 : l.length ≤ 8) (hz : ∀ j, j < l.length → (if 0 ≤ z then u j else v j) = nI (at0 l j)) : ∀ (d i f : Nat) (r : Nat → Int32), i + d = l.length → d < f → (∀ j, j < i → r j = nI (at0 l j)) → ∃ r', F_X8_look_L11 z (nI l.length) u v f (nI i) r = some r' ∧ RW r' l
  | 0, i, f + 1, r, hi, _, hr => by
    rw [F_X8_look_L11.eq_2, if_pos (nI_le (by omega) (by omega))]
    exact ⟨r, rfl, fun j hj => hr j (by omega)⟩
  | d + 1, i, f + 1, r, hi, hf, hr => by
    rw [F_X8_look_L11.eq_2, if_neg (nI_ge (by omega) (by omega)), gdT (inbI (by omega) (by omega)), gdT (inbI (by omega) (by omega)), nI_clamp (by omega)]
    have e := hz i (by omega)
    have e2 : (if 0 ≤ z then some (u i) else some (v i)) = some (nI (at0 l i)) := by
      rw [← e]
      split <;> rfl
    rw [e2]
    (try simp only [Option.bind_some])
    rw [gdT (inbI (by omega) (by omega)), show nI i + 1 = nI (i + 1) from nI_1 i]
    (try simp only [Option.bind_some])
    refine m_look_L11 h8 hz d (i + 1) f _ (by omega) (by omega) (fun j hj => ?_)
    by_cases q : j = i
    · subst q; exact pk_us
    · rw [pk_un q]; exact hr j (by omega)
/-- look: the way, how many items, the view -/
theorem m_look {n c p k : Nat} {hand view up down : Nat → Int32} (hn : RG n) (hc : CR n c k) (hH : HD hand n c) (hp : p < n) : ∃ view' up' down', F_X8_look (nI p) (nI n) hand view up down = some (wayOf (pk7 (rwL n (dg n c) p 1)) (pk7 (rwL n (dg n c) p (n - 1))), nI (VW n (dg n c) p).length, view', up', down') ∧ RW view' (VW n (dg n c) p) := by
  obtain ⟨u, hu, ru⟩ := m_rowFrom_u hn hc hH hp (Or.inl ⟨rfl, rfl⟩) up
  obtain ⟨v, hv, rv⟩ := m_rowFrom_d hn hc hH hp (Or.inr ⟨rfl, rfl⟩) down
  have l1 := rwL_len (h := dg n c) hp (Or.inl (rfl : (1 : Nat) = 1))
  have l2 := rwL_len (n := n) (w := n - 1) (h := dg n c) hp (Or.inr rfl)
  have lv := VW_len (h := dg n c) hp
  have h8 := rwL_len8 hc hp (Or.inl (rfl : (1 : Nat) = 1))
  have i1 := rwL_items hn c p 1
  have i2 := rwL_items hn c p (n - 1)
  unfold F_X8_look
  rw [hu]
  (try simp only [Option.bind_some])
  rw [hv]
  (try simp only [Option.bind_some])
  rw [show (2 : Int32) = nI 2 from rfl, q_mul, ← l1]
  have L4 := m_look_L4 ru rv i1 i2 (by rw [l1, l2]) h8 (rwL n (dg n c) p 1).length 0 FU (by omega) (by unfold FU; omega) (fun j hj => absurd hj (by omega))
  rw [show nI 0 = (0 : Int32) from rfl] at L4
  rw [L4]
  (try simp only [Option.bind_some])
  have key : ∀ j, j < (VW n (dg n c) p).length → (if 0 ≤ wayOf (pk7 (rwL n (dg n c) p 1)) (pk7 (rwL n (dg n c) p (n - 1))) then u j else v j) = nI (at0 (VW n (dg n c) p) j) := by
    intro j hj
    unfold wayOf VW at *
    by_cases c1 : pk7 (rwL n (dg n c) p 1) ≤ pk7 (rwL n (dg n c) p (n - 1))
    · rw [if_pos c1] at hj ⊢
      have : (0 : Int32) ≤ (if pk7 (rwL n (dg n c) p 1) < pk7 (rwL n (dg n c) p (n - 1)) then 1 else if pk7 (rwL n (dg n c) p (n - 1)) < pk7 (rwL n (dg n c) p 1) then -1 else 0) := by
        by_cases c2 : pk7 (rwL n (dg n c) p 1) < pk7 (rwL n (dg n c) p (n - 1))
        · rw [if_pos c2]; decide
        · rw [if_neg c2, if_neg (by omega)]; decide
      rw [if_pos this]
      exact ru j hj
    · rw [if_neg c1] at hj ⊢
      rw [if_neg (show ¬ pk7 (rwL n (dg n c) p 1) < pk7 (rwL n (dg n c) p (n - 1)) by omega), if_pos (show pk7 (rwL n (dg n c) p (n - 1)) < pk7 (rwL n (dg n c) p 1) by omega), if_neg (by decide)]
      exact rv j hj
  obtain ⟨r', hr, rr⟩ := m_look_L11 (by rw [lv, ← l1]; exact h8) key (VW n (dg n c) p).length 0 FU view (by omega) (by rw [lv, ← l1]; unfold FU; omega) (fun j hj => absurd hj (by omega))
  rw [show nI 0 = (0 : Int32) from rfl, lv, ← l1] at hr
  rw [hr]
  (try simp only [Option.bind_some])
  rw [lv, ← l1]
  exact ⟨r', u, v, rfl, rr⟩
