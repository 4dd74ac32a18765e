/-! the model's list of crowds -/
def CM (crowd : Nat → Int32) (n : Nat) (M : List Nat) : Prop := ∀ i, i < M.length → ∀ x, x < 9 → crowd (9 * i + x) = if x < n then nI (dg n (M.getD i 0) x) else 0
theorem dg_ext {n a b : Nat} (ha : a < 2 ^ (3 * n)) (hb : b < 2 ^ (3 * n)) (h : ∀ x, x < n → dg n a x = dg n b x) : a = b := by
  rw [← pkR_dg ha, ← pkR_dg hb]
  exact pkR_congr h
theorem HD_at {hand : Nat → Int32} {n c x : Nat} (h : HD hand n c) (hn : RG n) (hx : x < n) : hand x = nI (dg n c x) := HD.at h hn hx
theorem nn_L3 {n i y : Nat} {M : List Nat} {name crowd : Nat → Int32} (hn : RG n) (hi : i < M.length) (h60 : M.length ≤ 60) (hC : CM crowd n M) (hN : HD name n y) : ∀ (d j f : Nat) (z : Int32), j + d = n → d < f → (z = 0 ∨ z = 1) → ((z = 1 ∧ ∀ x, j ≤ x → x < n → dg n (M.getD i 0) x = dg n y x) → F_X8_numberOfName_L3 (nI i) (nI n) name crowd f z (nI j) = some 1) ∧ (¬ (z = 1 ∧ ∀ x, j ≤ x → x < n → dg n (M.getD i 0) x = dg n y x) → F_X8_numberOfName_L3 (nI i) (nI n) name crowd f z (nI j) = some 0)
  | 0, j, f + 1, z, hj, _, hz => by
    have h9 := hn.2
    rw [F_X8_numberOfName_L3.eq_2, if_pos (nI_le (by omega) (by omega))]
    constructor
    · rintro ⟨a, _⟩
      rw [a]
    · intro q
      rcases hz with hz | hz
      · rw [hz]
      · exact absurd ⟨hz, fun x h1 h2 => by omega⟩ q
  | d + 1, j, f + 1, z, hj, hf, hz => by
    have h9 := hn.2
    have hj2 : j < n := by omega
    have a8 := dg_lt n (M.getD i 0) j
    have b8 := dg_lt n y j
    rw [F_X8_numberOfName_L3.eq_2, if_neg (nI_ge (by omega) (by omega))]
    have key : (if z = 0 then some (0 : Int32) else gd (inb ((9 * nI i) + nI j) 1080) (gd (inb (nI j) 9) (if crowd (Int32.toNatClampNeg ((9 * nI i) + nI j)) = name (Int32.toNatClampNeg (nI j)) then some 1 else some 0))) = some (if z = 1 ∧ dg n (M.getD i 0) j = dg n y j then 1 else 0) := by
      rcases hz with hz | hz
      · rw [if_pos hz, if_neg (by rw [hz]; exact fun q => absurd q.1 (by decide))]
      · rw [if_neg (by rw [hz]; decide), show (9 : Int32) = nI 9 from rfl, q_mul, q_add, gdT (inbI (by omega) (by omega)), gdT (inbI (by omega) (by omega)), nI_clamp (by omega), nI_clamp (by omega), hC i hi j (by omega), if_pos hj2, HD_at hN hn hj2, ifEq (by omega) (by omega)]
        by_cases q : dg n (M.getD i 0) j = dg n y j
        · rw [if_pos q, if_pos ⟨hz, q⟩]
        · rw [if_neg q, if_neg fun z => q z.2]
    rw [key]
    (try simp only [Option.bind_some])
    rw [nI_1]
    obtain ⟨i1, i2⟩ := nn_L3 hn hi h60 hC hN d (j + 1) f (if z = 1 ∧ dg n (M.getD i 0) j = dg n y j then 1 else 0) (by omega) (by omega) (by split; exact Or.inr rfl; exact Or.inl rfl)
    constructor
    · rintro ⟨q1, q2⟩
      apply i1
      exact ⟨by rw [if_pos ⟨q1, q2 j (by omega) hj2⟩], fun x h1 h2 => q2 x (by omega) h2⟩
    · intro q
      apply i2
      rintro ⟨q1, q2⟩
      by_cases z1 : z = 1 ∧ dg n (M.getD i 0) j = dg n y j
      · refine q ⟨z1.1, fun x h1 h2 => ?_⟩
        by_cases e : x = j
        · rw [e]
          exact z1.2
        · exact q2 x (by omega) h2
      · rw [if_neg z1] at q1
        exact absurd q1 (by decide)
theorem nn_is {n i y : Nat} {M : List Nat} {name crowd : Nat → Int32} (hn : RG n) (hi : i < M.length) (h60 : M.length ≤ 60) (hM : ∀ x, x ∈ M → x < 2 ^ (3 * n)) (hy : y < 2 ^ (3 * n)) (hC : CM crowd n M) (hN : HD name n y) : F_X8_numberOfName_L3 (nI i) (nI n) name crowd FU 1 0 = some (if M.getD i 0 = y then 1 else 0) := by
  obtain ⟨a, b⟩ := nn_L3 hn hi h60 hC hN n 0 FU 1 (by omega) (by have := hn.2; unfold FU; omega) (Or.inr rfl)
  rw [show nI 0 = (0 : Int32) from rfl] at a b
  by_cases q : M.getD i 0 = y
  · rw [if_pos q]
    apply a
    rw [q]
    exact ⟨rfl, fun _ _ _ => rfl⟩
  · rw [if_neg q]
    apply b
    rintro ⟨_, h⟩
    exact q (dg_ext (hM _ (getD_mem hi)) hy fun x hx => h x (by omega) hx)
theorem nn_L1 {n y : Nat} {M : List Nat} {name crowd : Nat → Int32} (hn : RG n) (h60 : M.length ≤ 60) (hM : ∀ x, x ∈ M → x < 2 ^ (3 * n)) (hy : y < 2 ^ (3 * n)) (hC : CM crowd n M) (hN : HD name n y) : ∀ (d i f : Nat) (z : Int32), i + d = M.length → d < f → ((∃ r, r < i ∧ M.getD r 0 = y ∧ z = nI r) ∨ ((∀ r, r < i → M.getD r 0 ≠ y) ∧ z = -1000000)) → (∃ r, r < M.length ∧ M.getD r 0 = y ∧ F_X8_numberOfName_L1 (nI n) (nI M.length) name crowd f z (nI i) = some (nI r)) ∨ ((∀ r, r < M.length → M.getD r 0 ≠ y) ∧ F_X8_numberOfName_L1 (nI n) (nI M.length) name crowd f z (nI i) = some (-1000000))
  | 0, i, f + 1, z, hi, _, hz => by
    rw [F_X8_numberOfName_L1.eq_2, if_pos (nI_le (by omega) (by omega))]
    rcases hz with ⟨r, a, b, e⟩ | ⟨a, e⟩
    · exact Or.inl ⟨r, by omega, b, by rw [e]⟩
    · exact Or.inr ⟨fun r hr => a r (by omega), by rw [e]⟩
  | d + 1, i, f + 1, z, hi, hf, hz => by
    have hi2 : i < M.length := by omega
    rw [F_X8_numberOfName_L1.eq_2, if_neg (nI_ge (by omega) (by omega)), nn_is hn hi2 h60 hM hy hC hN]
    (try simp only [Option.bind_some])
    by_cases q : M.getD i 0 = y
    · rw [if_pos q, if_neg (by decide)]
      (try simp only [Option.bind_some])
      rw [nI_1]
      exact nn_L1 hn h60 hM hy hC hN d (i + 1) f (nI i) (by omega) (by omega) (Or.inl ⟨i, by omega, q, rfl⟩)
    · rw [if_neg q, if_pos rfl]
      (try simp only [Option.bind_some])
      rw [nI_1]
      refine nn_L1 hn h60 hM hy hC hN d (i + 1) f z (by omega) (by omega) ?_
      rcases hz with ⟨r, a, b, e⟩ | ⟨a, e⟩
      · exact Or.inl ⟨r, by omega, b, e⟩
      · refine Or.inr ⟨fun r hr => ?_, e⟩
        by_cases z : r = i
        · rw [z]
          exact q
        · exact a r (by omega)
theorem m_number {n y : Nat} {M : List Nat} {name crowd : Nat → Int32} (hn : RG n) (h60 : M.length ≤ 60) (hM : ∀ x, x ∈ M → x < 2 ^ (3 * n)) (hy : y < 2 ^ (3 * n)) (hC : CM crowd n M) (hN : HD name n y) : (∃ r, r < M.length ∧ M.getD r 0 = y ∧ F_X8_numberOfName (nI n) (nI M.length) name crowd = some (nI r)) ∨ (¬ y ∈ M ∧ F_X8_numberOfName (nI n) (nI M.length) name crowd = some (-1000000)) := by
  have h := nn_L1 hn h60 hM hy hC hN M.length 0 FU (-1000000) (by omega) (by unfold FU; omega) (Or.inr ⟨fun r hr => absurd hr (by omega), rfl⟩)
  rw [show nI 0 = (0 : Int32) from rfl] at h
  unfold F_X8_numberOfName
  rcases h with ⟨r, a, b, e⟩ | ⟨a, e⟩
  · exact Or.inl ⟨r, a, b, by rw [e]; rfl⟩
  · refine Or.inr ⟨fun q => ?_, by rw [e]; rfl⟩
    obtain ⟨i, i1, i2⟩ := mem_getD q
    exact a i i1 i2
/-! listCrowds -/
theorem lc_L1 {n k : Nat} (hn : RG n) (h4 : k ≤ 4) : ∀ (d i f : Nat), i + d = k → d < f → F_X8_listCrowds_L1 (nI n) (nI k) f (nI (n ^ i)) (nI i) = some (nI (n ^ k))
  | 0, i, f + 1, hi, _ => by
    rw [F_X8_listCrowds_L1.eq_2, if_pos (nI_le (by omega) (by omega)), show i = k by omega]
  | d + 1, i, f + 1, hi, hf => by
    rw [F_X8_listCrowds_L1.eq_2, if_neg (nI_ge (by omega) (by omega)), q_mul, nI_1, ← Nat.pow_succ]
    (try simp only [Option.bind_some])
    exact lc_L1 hn h4 d (i + 1) f (by omega) (by omega)
theorem lc_L7 {hand : Nat → Int32} : ∀ (d i f : Nat) (hand : Nat → Int32), i + d = 9 → d < f → (∀ x, x < i → hand x = 0) → ∃ hand', F_X8_listCrowds_L7 f (nI i) hand = some hand' ∧ ∀ x, x < 9 → hand' x = 0
  | 0, i, f + 1, hand, hi, _, h => by
    rw [F_X8_listCrowds_L7.eq_2, show (9 : Int32) = nI 9 from rfl, ifLe (by omega) (by omega), if_pos (by omega)]
    exact ⟨hand, rfl, fun x hx => h x (by omega)⟩
  | d + 1, i, f + 1, hand, hi, hf, h => by
    rw [F_X8_listCrowds_L7.eq_2, show (9 : Int32) = nI 9 from rfl, ifLe (by omega) (by omega), if_neg (by omega), gdT (inbI (by omega) (by omega)), nI_clamp (by omega), nI_1]
    (try simp only [Option.bind_some])
    refine lc_L7 (hand := hand) d (i + 1) f _ (by omega) (by omega) (fun x hx => ?_)
    by_cases e : x = i
    · rw [e, pk_us]
    · rw [pk_un e]
      exact h x (by omega)
/-- the crowd that t spells -/
def tc (n t : Nat) : Nat → Nat
  | 0 => 0
  | j + 1 => tc n t j + wt n (t / n ^ j % n)
theorem CR_0 {n : Nat} : CR n 0 0 := by
  refine ⟨Nat.pow_pos (by decide), ?_, by decide⟩
  refine sm_zero (fun i _ => ?_)
  unfold dg
  simp
theorem tc_CR {n : Nat} (hn : RG n) (t : Nat) : ∀ j, j ≤ 4 → CR n (tc n t j) j
  | 0, _ => CR_0
  | j + 1, h => CR_add (tc_CR hn t j (by omega)) (by omega) (Nat.mod_lt _ (by have := hn.1; omega))
theorem dg_add {n c k q : Nat} (hc : CR n c k) (hk : k < 4) (hq : q < n) : ∀ x, x < n → dg n (c + wt n q) x = updN (dg n c) q (dg n c q + 1) x := by
  have e1 := pkR_upd (h := dg n c) (n := n) (x := q) (v := dg n c q + 1) hq
  have e2 := sm_upd (h := dg n c) (n := n) (x := q) (v := dg n c q + 1) hq
  rw [pkR_dg hc.1, Nat.add_mul] at e1
  rw [hc.2.1] at e2
  have hd : ∀ x, x < n → updN (dg n c) q (dg n c q + 1) x < 8 := fun x hx => by
    have h5 : sm (updN (dg n c) q (dg n c q + 1)) n = k + 1 := by omega
    have := sm_le (h := updN (dg n c) q (dg n c q + 1)) hx
    omega
  have e3 : pkR (updN (dg n c) q (dg n c q + 1)) n = c + wt n q := by omega
  intro x hx
  rw [← e3, dg_pkR hd hx]
theorem lc_L10 {n k t : Nat} (hn : RG n) (h4 : k ≤ 4) (ht : t < 2 ^ 20) : ∀ (d j f : Nat) (hand : Nat → Int32), j + d = k → d < f → HD hand n (tc n t j) → ∃ hand', F_X8_listCrowds_L10 (nI n) (nI k) f (nI (t / n ^ j)) (nI j) hand = some hand' ∧ HD hand' n (tc n t k)
  | 0, j, f + 1, hand, hj, _, h => by
    rw [F_X8_listCrowds_L10.eq_2, if_pos (nI_le (by omega) (by omega)), show k = j by omega]
    exact ⟨hand, rfl, h⟩
  | d + 1, j, f + 1, hand, hj, hf, h => by
    have h9 := hn.2
    have h0 : 0 < n := by have := hn.1; omega
    have hlt : t / n ^ j < 2 ^ 20 := Nat.lt_of_le_of_lt (Nat.div_le_self _ _) ht
    have hq : t / n ^ j % n < n := Nat.mod_lt _ h0
    have hc := tc_CR hn t j (by omega)
    have h8 := dg_lt n (tc n t j) (t / n ^ j % n)
    rw [F_X8_listCrowds_L10.eq_2, if_neg (nI_ge (by omega) (by omega)), gdT (nzI h0 (by omega)), q_rem (by omega) h0 (by omega), gdT (inbI (by omega) (by omega)), nI_clamp (by omega), HD_at h hn hq, nI_1]
    (try simp only [Option.bind_some])
    rw [gdT (inbI (by omega) (by omega)), gdT (nzI h0 (by omega)), show nI (t / n ^ j) / nI n = nI (t / n ^ j / n) from pk_div (by omega) h0 (by omega), nI_1]
    (try simp only [Option.bind_some])
    rw [Nat.div_div_eq_div_mul, ← Nat.pow_succ]
    refine lc_L10 hn h4 ht d (j + 1) f _ (by omega) (by omega) ?_
    intro x hx
    show _ = if x < n then nI (dg n (tc n t j + wt n (t / n ^ j % n)) x) else 0
    by_cases e : x < n
    · rw [if_pos e, dg_add hc (by omega) hq x e]
      by_cases e2 : x = t / n ^ j % n
      · rw [e2, pk_us, updN_s]
      · rw [pk_un e2, updN_n e2, HD_at h hn e]
    · rw [if_neg e, pk_un (by omega), h x hx, if_neg e]
theorem lc_L16 {n a b : Nat} {hand name : Nat → Int32} (hn : RG n) (hH : HD hand n a) (hN : HD name n b) : ∀ (d j f : Nat) (z : Int32), j + d = n → d < f → (z = 0 ∨ z = 1) → ((z = 1 ∧ ∀ x, j ≤ x → x < n → dg n b x = dg n a x) → F_X8_listCrowds_L16 (nI n) hand name f z (nI j) = some 1) ∧ (¬ (z = 1 ∧ ∀ x, j ≤ x → x < n → dg n b x = dg n a x) → F_X8_listCrowds_L16 (nI n) hand name f z (nI j) = some 0)
  | 0, j, f + 1, z, hj, _, hz => by
    have h9 := hn.2
    rw [F_X8_listCrowds_L16.eq_2, if_pos (nI_le (by omega) (by omega))]
    constructor
    · rintro ⟨a, _⟩
      rw [a]
    · intro q
      rcases hz with hz | hz
      · rw [hz]
      · exact absurd ⟨hz, fun x h1 h2 => by omega⟩ q
  | d + 1, j, f + 1, z, hj, hf, hz => by
    have h9 := hn.2
    have hj2 : j < n := by omega
    have a8 := dg_lt n a j
    have b8 := dg_lt n b j
    rw [F_X8_listCrowds_L16.eq_2, if_neg (nI_ge (by omega) (by omega))]
    have key : (if z = 0 then some (0 : Int32) else gd (inb (nI j) 9) (gd (inb (nI j) 9) (if name (Int32.toNatClampNeg (nI j)) = hand (Int32.toNatClampNeg (nI j)) then some 1 else some 0))) = some (if z = 1 ∧ dg n b j = dg n a j then 1 else 0) := by
      rcases hz with hz | hz
      · rw [if_pos hz, if_neg (by rw [hz]; exact fun q => absurd q.1 (by decide))]
      · rw [if_neg (by rw [hz]; decide), gdT (inbI (by omega) (by omega)), gdT (inbI (by omega) (by omega)), nI_clamp (by omega), HD_at hH hn hj2, HD_at hN hn hj2, ifEq (by omega) (by omega)]
        by_cases q : dg n b j = dg n a j
        · rw [if_pos q, if_pos ⟨hz, q⟩]
        · rw [if_neg q, if_neg fun z => q z.2]
    rw [key]
    (try simp only [Option.bind_some])
    rw [nI_1]
    obtain ⟨i1, i2⟩ := lc_L16 hn hH hN d (j + 1) f (if z = 1 ∧ dg n b j = dg n a j then 1 else 0) (by omega) (by omega) (by split; exact Or.inr rfl; exact Or.inl rfl)
    constructor
    · rintro ⟨q1, q2⟩
      apply i1
      exact ⟨by rw [if_pos ⟨q1, q2 j (by omega) hj2⟩], fun x h1 h2 => q2 x (by omega) h2⟩
    · intro q
      apply i2
      rintro ⟨q1, q2⟩
      by_cases z1 : z = 1 ∧ dg n b j = dg n a j
      · refine q ⟨z1.1, fun x h1 h2 => ?_⟩
        by_cases e : x = j
        · rw [e]
          exact z1.2
        · exact q2 x (by omega) h2
      · rw [if_neg z1] at q1
        exact absurd q1 (by decide)
theorem lc_own {n a b : Nat} {hand name : Nat → Int32} (hn : RG n) (ha : a < 2 ^ (3 * n)) (hb : b < 2 ^ (3 * n)) (hH : HD hand n a) (hN : HD name n b) : F_X8_listCrowds_L16 (nI n) hand name FU 1 0 = some (if b = a then 1 else 0) := by
  obtain ⟨p, q⟩ := lc_L16 hn hH hN n 0 FU 1 (by omega) (by have := hn.2; unfold FU; omega) (Or.inr rfl)
  rw [show nI 0 = (0 : Int32) from rfl] at p q
  by_cases e : b = a
  · rw [if_pos e]
    apply p
    rw [e]
    exact ⟨rfl, fun _ _ _ => rfl⟩
  · rw [if_neg e]
    apply q
    rintro ⟨_, h⟩
    exact e (dg_ext hb ha fun x hx => h x (by omega) hx)
theorem lc_L26 {n m : Nat} {name : Nat → Int32} (hm : m < 60) : ∀ (d x f : Nat) (crowd : Nat → Int32), x + d = 9 → d < f → ∃ crowd', F_X8_listCrowds_L26 (nI m) name f (nI x) crowd = some crowd' ∧ (∀ y, x ≤ y → y < 9 → crowd' (9 * m + y) = name y) ∧ ∀ j, j < 9 * m + x → crowd' j = crowd j
  | 0, x, f + 1, crowd, hx, _ => by
    rw [F_X8_listCrowds_L26.eq_2, show (9 : Int32) = nI 9 from rfl, ifLe (by omega) (by omega), if_pos (by omega)]
    exact ⟨crowd, rfl, fun y h1 h2 => by omega, fun _ _ => rfl⟩
  | d + 1, x, f + 1, crowd, hx, hf => by
    rw [F_X8_listCrowds_L26.eq_2, show (9 : Int32) = nI 9 from rfl, ifLe (by omega) (by omega), if_neg (by omega), gdT (inbI (by omega) (by omega)), nI_clamp (by omega), q_mul, q_add]
    (try simp only [Option.bind_some])
    rw [gdT (inbI (by omega) (by omega)), nI_clamp (by omega), nI_1]
    (try simp only [Option.bind_some])
    obtain ⟨c', a, b, e⟩ := lc_L26 (n := n) hm d (x + 1) f (upd crowd (9 * m + x) (name x)) (by omega) (by omega)
    refine ⟨c', a, fun y h1 h2 => ?_, fun j hj => ?_⟩
    · by_cases q : y = x
      · rw [q, e _ (by omega), pk_us]
      · exact b y (by omega) h2
    · rw [e j (by omega), pk_un (by omega)]
/-- the list so far -/
def ML (n k : Nat) (M : List Nat) (t : Nat) : Prop := M.Nodup ∧ (∀ y, y ∈ M → CR n y k ∧ NM n y = y) ∧ ∀ t', t' < t → NM n (tc n t' k) = tc n t' k → tc n t' k ∈ M
theorem ML_len {n k t : Nat} {M : List Nat} (hn : RG n) (h1 : 1 ≤ k) (h4 : k ≤ 4) (h : ML n k M t) : M.length ≤ (GL n k).length := by
  obtain ⟨g1, g2, g3, g4⟩ := GLok hn h1 h4
  refine List.Nodup.length_le_of_subset h.1 (fun y hy => ?_)
  obtain ⟨a, b⟩ := h.2.1 y hy
  rw [← b]
  exact g4 y a
theorem nodup_snoc {M : List Nat} {y : Nat} (h : M.Nodup) (hy : ¬ y ∈ M) : (M ++ [y]).Nodup := by
  rw [List.nodup_append]
  refine ⟨h, by simp, fun a ha b hb => ?_⟩
  rw [List.mem_singleton.mp hb]
  intro e
  rw [e] at ha
  exact hy ha
theorem lc_L5 {n k T : Nat} (hn : RG n) (h1 : 1 ≤ k) (h4 : k ≤ 4) (hT : T < 2 ^ 20) : ∀ (d t f : Nat) (M : List Nat) (hand name crowd : Nat → Int32), t + d = T → d < f → ML n k M t → CM crowd n M → ∃ M' hand' name' crowd', F_X8_listCrowds_L5 (nI T) (nI n) (nI k) f (nI t) (nI M.length) hand name crowd = some (nI M'.length, hand', name', crowd') ∧ ML n k M' T ∧ CM crowd' n M'
  | 0, t, f + 1, M, hand, name, crowd, ht, _, hM, hC => by
    rw [F_X8_listCrowds_L5.eq_2, if_pos (nI_le (by omega) (by omega))]
    have e : t = T := by omega
    subst e
    exact ⟨M, hand, name, crowd, rfl, hM, hC⟩
  | d + 1, t, f + 1, M, hand, name, crowd, ht, hf, hM, hC => by
    have hl := ML_len hn h1 h4 hM
    have hcr := tc_CR hn t k h4
    obtain ⟨g1, g2, g3, g4⟩ := GLok hn h1 h4
    obtain ⟨ha, a1, a2⟩ := lc_L7 (hand := hand) 9 0 FU hand (by omega) (by unfold FU; omega) (fun x hx => absurd hx (by omega))
    have a3 : HD ha n (tc n t 0) := fun x hx => by
      rw [a2 x hx]
      split
      · unfold dg tc
        simp
        rfl
      · rfl
    obtain ⟨hb, b1, b2⟩ := lc_L10 hn h4 (show t < 2 ^ 20 by omega) k 0 FU ha (by omega) (by unfold FU; omega) a3
    rw [Nat.pow_zero, Nat.div_one] at b1
    obtain ⟨nm, c1, c2⟩ := m_findName (name := name) hn hcr.1 b2
    rw [F_X8_listCrowds_L5.eq_2, if_neg (nI_ge (by omega) (by omega))]
    rw [show nI 0 = (0 : Int32) from rfl] at a1 b1
    rw [a1]
    (try simp only [Option.bind_some])
    rw [b1]
    (try simp only [Option.bind_some])
    rw [c1]
    (try simp only [Option.bind_some])
    rw [lc_own hn hcr.1 (NM_lt hn _) b2 c2]
    (try simp only [Option.bind_some])
    have keep : (NM n (tc n t k) = tc n t k → tc n t k ∈ M) → ∃ M' hand' name' crowd', F_X8_listCrowds_L5 (nI T) (nI n) (nI k) f (nI (t + 1)) (nI M.length) hb nm crowd = some (nI M'.length, hand', name', crowd') ∧ ML n k M' T ∧ CM crowd' n M' := by
      intro hk
      refine lc_L5 hn h1 h4 hT d (t + 1) f M hb nm crowd (by omega) (by omega) ⟨hM.1, hM.2.1, fun t' ht' e => ?_⟩ hC
      by_cases z : t' = t
      · rw [z] at e ⊢
        exact hk e
      · exact hM.2.2 t' (by omega) e
    by_cases q : NM n (tc n t k) = tc n t k
    · rw [if_pos q, if_neg (by decide)]
      rcases m_number hn (by omega) (fun x hx => (hM.2.1 x hx).1.1) (NM_lt hn _) hC c2 with ⟨r, r1, r2, r3⟩ | ⟨r1, r2⟩
      · rw [r3]
        (try simp only [Option.bind_some])
        rw [if_neg (by
          rw [show (-1000000 : Int32) = nI 4293967296 from rfl]
          intro z
          have := congrArg Int32.toInt z
          rw [nI_toInt (by omega)] at this
          have e2 : (nI 4293967296).toInt = -1000000 := by decide
          omega)]
        (try simp only [Option.bind_some])
        rw [nI_1]
        exact keep fun _ => by
          rw [← q, ← r2]
          exact getD_mem r1
      · rw [r2]
        (try simp only [Option.bind_some])
        rw [if_pos (by trivial)]
        rw [q] at r1 c2
        have hM2 : ML n k (M ++ [tc n t k]) (t + 1) := by
          refine ⟨nodup_snoc hM.1 r1, fun y hy => ?_, fun t' ht' e => ?_⟩
          · rcases List.mem_append.mp hy with hy | hy
            · exact hM.2.1 y hy
            · rw [List.mem_singleton.mp hy]
              exact ⟨hcr, q⟩
          · by_cases z : t' = t
            · rw [z]
              exact List.mem_append_right _ (List.mem_singleton.mpr rfl)
            · exact List.mem_append_left _ (hM.2.2 t' (by omega) e)
        have hl2 := ML_len hn h1 h4 hM2
        rw [List.length_append] at hl2
        have hl3 : [tc n t k].length = 1 := rfl
        obtain ⟨cr, d1, d2, d3⟩ := lc_L26 (n := n) (name := nm) (show M.length < 60 by omega) 9 0 FU crowd (by omega) (by unfold FU; omega)
        rw [show nI 0 = (0 : Int32) from rfl] at d1
        rw [d1]
        (try simp only [Option.bind_some])
        rw [nI_1, nI_1]
        have hC2 : CM cr n (M ++ [tc n t k]) := by
          intro i hi x hx
          rw [List.length_append] at hi
          by_cases z : i < M.length
          · rw [getD_app z, d3 _ (by omega)]
            exact hC i z x hx
          · have e : i = M.length := by omega
            subst e
            rw [d2 x (by omega) hx, c2 x hx]
            simp
        have := lc_L5 hn h1 h4 hT d (t + 1) f (M ++ [tc n t k]) hb nm cr (by omega) (by omega) hM2 hC2
        rw [List.length_append, hl3] at this
        exact this
    · rw [if_neg q, if_pos rfl]
      (try simp only [Option.bind_some])
      rw [nI_1]
      exact keep fun z => absurd z q
theorem tc_hi {n t p : Nat} (h0 : 0 < n) : ∀ {j k : Nat}, j ≤ k → tc n (t + p * n ^ k) j = tc n t j
  | 0, _, _ => rfl
  | j + 1, k, h => by
    unfold tc
    rw [tc_hi h0 (by omega)]
    congr 2
    have e : p * n ^ k = n ^ j * (n * (p * n ^ (k - j - 1))) := by
      have : n ^ k = n ^ j * (n * n ^ (k - j - 1)) := by
        rw [← Nat.pow_succ', ← Nat.pow_add]
        congr 1
        omega
      rw [this]
      simp only [Nat.mul_comm, Nat.mul_left_comm, Nat.mul_assoc]
    rw [e, Nat.add_mul_div_left _ _ (Nat.pow_pos h0), Nat.add_mul_mod_self_left]
theorem tc_all {n : Nat} (hn : RG n) : ∀ {k y : Nat}, CR n y k → ∃ t, t < n ^ k ∧ tc n t k = y
  | 0, y, h => by
    refine ⟨0, by simp, ?_⟩
    exact ((CR_ne h).mpr rfl).symm
  | k + 1, y, h => by
    have h0 : 0 < n := by have := hn.1; omega
    have hp : ∃ p, p < n ∧ 1 ≤ dg n y p := by
      refine Classical.byContradiction fun z => ?_
      have : sm (dg n y) n = 0 := sm_zero fun i hi => by
        refine Classical.byContradiction fun z2 => z ⟨i, hi, by omega⟩
      have := h.2.1
      omega
    obtain ⟨p, p1, p2⟩ := hp
    have h4 := h.2.2
    have e1 := pkR_upd (h := dg n y) (n := n) (x := p) (v := dg n y p - 1) p1
    have e2 := sm_upd (h := dg n y) (n := n) (x := p) (v := dg n y p - 1) p1
    have e3 : dg n y p * wt n p = (dg n y p - 1) * wt n p + wt n p := by
      obtain ⟨m, hm⟩ : ∃ m, dg n y p = m + 1 := ⟨dg n y p - 1, by omega⟩
      rw [hm, Nat.add_sub_cancel, Nat.add_mul, Nat.one_mul]
    rw [pkR_dg h.1] at e1
    rw [h.2.1] at e2
    have hd : ∀ x, x < n → updN (dg n y) p (dg n y p - 1) x < 8 := fun x hx => by
      have h5 : sm (updN (dg n y) p (dg n y p - 1)) n = k := by omega
      have := sm_le (h := updN (dg n y) p (dg n y p - 1)) hx
      omega
    have hc : CR n (pkR (updN (dg n y) p (dg n y p - 1)) n) k := by
      refine ⟨pkR_lt hd, ?_, by omega⟩
      rw [sm_congr (fun x hx => dg_pkR hd hx)]
      show sm (updN (dg n y) p (dg n y p - 1)) n = k
      omega
    obtain ⟨t, t1, t2⟩ := tc_all hn hc
    refine ⟨t + p * n ^ k, ?_, ?_⟩
    · rw [Nat.pow_succ]
      have : (p + 1) * n ^ k ≤ n * n ^ k := Nat.mul_le_mul_right _ (by omega)
      rw [Nat.add_mul] at this
      rw [Nat.mul_comm (n ^ k) n]
      omega
    · unfold tc
      rw [tc_hi h0 (Nat.le_refl k), t2, Nat.add_mul_div_right _ _ (Nat.pow_pos h0), Nat.div_eq_of_lt t1, Nat.zero_add, Nat.mod_eq_of_lt p1]
      omega
/-- the model's list: the same names -/
def MLok (n k : Nat) (M : List Nat) : Prop := M.Nodup ∧ (∀ x, x ∈ GL n k ↔ x ∈ M) ∧ M.length ≤ 60
theorem m_list {n k : Nat} (hn : RG n) (h1 : 1 ≤ k) (h4 : k ≤ 4) (hand name crowd : Nat → Int32) : ∃ M hand' name' crowd', F_X8_listCrowds (nI n) (nI k) hand name crowd = some (nI M.length, hand', name', crowd') ∧ MLok n k M ∧ CM crowd' n M := by
  obtain ⟨g1, g2, g3, g4⟩ := GLok hn h1 h4
  have hp : n ^ k ≤ 9 ^ 4 := Nat.le_trans (Nat.pow_le_pow_left hn.2 k) (Nat.pow_le_pow_right (by decide) h4)
  have hp2 : n ^ k < 2 ^ 20 := Nat.lt_of_le_of_lt hp (by decide)
  have a := lc_L1 hn h4 k 0 FU (by omega) (by unfold FU; omega)
  obtain ⟨M, ha, na, ca, b1, b2, b3⟩ := lc_L5 hn h1 h4 hp2 (n ^ k) 0 FU [] hand name crowd (by omega) (by unfold FU; omega) ⟨by simp, fun y hy => absurd hy (by simp), fun t ht => absurd ht (by omega)⟩ (fun i hi => absurd hi (by simp))
  have hl := ML_len hn h1 h4 b2
  unfold F_X8_listCrowds
  rw [show nI (n ^ 0) = (1 : Int32) from rfl, show nI 0 = (0 : Int32) from rfl] at a
  rw [show nI ([] : List Nat).length = (0 : Int32) from rfl, show nI 0 = (0 : Int32) from rfl] at b1
  rw [a]
  (try simp only [Option.bind_some])
  rw [b1]
  refine ⟨M, ha, na, ca, rfl, ⟨b2.1, fun x => ⟨fun hx => ?_, fun hx => ?_⟩, by omega⟩, b3⟩
  · obtain ⟨c1, c2⟩ := g3 x hx
    obtain ⟨t, t1, t2⟩ := tc_all hn c1
    have := b2.2.2 t t1
    rw [t2] at this
    exact this c2
  · obtain ⟨c1, c2⟩ := b2.2.1 x hx
    rw [← c2]
    exact g4 x c1
