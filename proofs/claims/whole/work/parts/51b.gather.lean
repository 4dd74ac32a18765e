/-! what the class gathers -/
def GOK (n k : Nat) : Prop := (GL n k).length ≤ 60 ∧ (GL n k).Nodup ∧ (∀ x, x ∈ GL n k → CR n x k ∧ NM n x = x) ∧ (∀ c, CR n c k → NM n c ∈ GL n k)
theorem GLok {n k : Nat} (hn : RG n) (h1 : 1 ≤ k) (h4 : k ≤ 4) : GOK n k := by
  have h := okG_all n (by have := hn.2; omega) hn.1 k (by omega) h1
  unfold okG at h
  simp only [Bool.and_eq_true, List.all_eq_true, decide_eq_true_eq, List.contains_iff_mem] at h
  obtain ⟨⟨⟨a, b⟩, c⟩, d⟩ := h
  exact ⟨a, b, fun x hx => ⟨⟨(c x hx).1.1, (c x hx).1.2, h4⟩, (c x hx).2⟩, fun c hc => d c (CR_mem hc)⟩
theorem CR_add {n c k q : Nat} (hc : CR n c k) (hk : k < 4) (hq : q < n) : CR n (c + wt n q) (k + 1) := by
  have e1 := pkR_upd (h := dg n c) (n := n) (x := q) (v := dg n c q + 1) hq
  have e2 := sm_upd (h := dg n c) (n := n) (x := q) (v := dg n c q + 1) hq
  rw [pkR_dg hc.1, Nat.add_mul] at e1
  rw [hc.2.1] at e2
  have hd : ∀ x, x < n → updN (dg n c) q (dg n c q + 1) x < 8 := fun x hx => by
    have h5 : sm (updN (dg n c) q (dg n c q + 1)) n = k + 1 := by omega
    have := sm_le (h := updN (dg n c) q (dg n c q + 1)) hx
    omega
  have e3 : pkR (updN (dg n c) q (dg n c q + 1)) n = c + wt n q := by omega
  refine ⟨?_, ?_, by omega⟩
  · rw [← e3]; exact pkR_lt hd
  · rw [← e3, sm_congr (fun x hx => dg_pkR hd hx)]
    have h5 : sm (updN (dg n c) q (dg n c q + 1)) n = k + 1 := by omega
    exact h5
def NA (names : Nat → Int32) (N : List Nat) : Prop := ∀ i, i < N.length → names i = nI (N.getD i 0)
theorem NA.app {names : Nat → Int32} {N : List Nat} (h : NA names N) (x : Nat) : NA (upd names N.length (nI x)) (N ++ [x]) := fun i hi => by
  rw [List.length_append] at hi
  by_cases q : i < N.length
  · rw [pk_un (by omega), List.getD_eq_getElem?_getD, List.getElem?_append_left q, ← List.getD_eq_getElem?_getD]
    exact h i q
  · have e : i = N.length := by simp at hi; omega
    subst e
    rw [pk_us]
    simp
/-- a level's answer -/
def GA (F : Option (Int32 × (Nat → Int32))) (N : List Nat) : Prop := ∃ names', F = some (nI N.length, names') ∧ NA names' N
theorem gather_leaf {n c k : Nat} {N : List Nat} {names : Nat → Int32} (hn : RG n) (hc : CR n c k) (hN : NA names N) (p : Nat) (h64 : (N ++ gthr n 0 c p).length ≤ 60) :
    GA (if 64 ≤ nI N.length then some (nI N.length, names) else Option.bind (F_X3_nameOf (nI c) (nI n) (nI (mskN n))) fun p8 => (if p8 = nI c then gd (inb (nI N.length) 64) (Option.bind (some (nI N.length + 1)) fun v10 => some (v10, (upd names (Int32.toNatClampNeg (nI N.length)) (nI c)))) else some (nI N.length, names))) (N ++ gthr n 0 c p) := by
  have hl := hc.lt hn
  have h27 := hn.p27
  have hm := NM_lt hn c
  rw [List.length_append] at h64
  rw [show (64 : Int32) = nI 64 from rfl, ifLe (by omega) (by omega), if_neg (by omega), x_nameOf hn hc.1]
  (try simp only [Option.bind_some])
  rw [ifEq (by omega) (by omega)]
  unfold gthr
  by_cases q : NM n c = c
  · rw [if_pos q, if_pos q, gdT (inbI (by omega) (by omega)), nI_clamp (by omega), nI_1]
    exact ⟨_, by rw [List.length_append]; rfl, hN.app c⟩
  · rw [if_neg q, if_neg q, List.append_nil]
    exact ⟨_, rfl, hN⟩
theorem gather_0 {n c k p : Nat} {N : List Nat} {names : Nat → Int32} (hn : RG n) (hc : CR n c k) (hN : NA names N) (h64 : (N ++ gthr n 0 c p).length ≤ 60) : GA (F_X6_gather_d0 (nI c) (nI p) (nI 0) (nI n) (nI (mskN n)) (nI N.length) names) (N ++ gthr n 0 c p) := by
  unfold F_X6_gather_d0
  rw [if_neg (by decide)]
  exact gather_leaf hn hc hN p h64
def gthL (n j c p d : Nat) : List Nat := (List.range' p d).flatMap (fun q => gthr n j (c + wt n q) q)
theorem gthL_s (n j c p d : Nat) : gthL n j c p (d + 1) = gthr n j (c + wt n p) p ++ gthL n j c (p + 1) d := by
  unfold gthL
  rw [List.range'_succ, List.flatMap_cons]
theorem gather_L1 {n c k j : Nat} (hn : RG n) (hc : CR n c k) (hk : k < 4) (hj : j ≤ 0) (hkj : k + 1 + j ≤ 4) : ∀ (d p f : Nat) (N : List Nat) (names : Nat → Int32), p + d = n → d < f → NA names N → (N ++ gthL n j c p d).length ≤ 60 → GA (F_X6_gather_d1_L2 (nI c) (nI (j + 1)) (nI n) (nI (mskN n)) f (nI p) (nI N.length) names) (N ++ gthL n j c p d)
  | 0, p, f + 1, N, names, hp, _, hN, h64 => by
    have h9 := hn.2
    rw [F_X6_gather_d1_L2.eq_2, if_pos (nI_le (by omega) (by omega))]
    have : gthL n j c p 0 = [] := rfl
    rw [this, List.append_nil]
    exact ⟨_, rfl, hN⟩
  | d + 1, p, f + 1, N, names, hp, hf, hN, h64 => by
    have h9 := hn.2
    have hlt := (CR_add hc hk (show p < n by omega)).lt hn
    rw [F_X6_gather_d1_L2.eq_2, if_neg (nI_ge (by omega) (by omega)), x_oneAt hn (by omega)]
    (try simp only [Option.bind_some])
    rw [gthL_s, ← List.append_assoc] at h64
    have h64' : (N ++ gthr n j (c + wt n p) p).length ≤ 60 := by
      rw [List.length_append] at h64; omega
    obtain ⟨names', e1, e2⟩ := gather_0 (p := p) hn (CR_add hc hk (show p < n by omega)) hN (by have e : j = 0 := (by omega); subst e; exact h64')
    rw [show nI c + nI (2 ^ (3 * (n - 1 - p))) = nI (c + wt n p) from q_add _ _, show nI (j + 1) - 1 = nI j from (q_sub (a := j + 1) (b := 1) (by omega)).trans (by rw [Nat.add_sub_cancel])]
    have ej : j = 0 := by omega
    subst ej
    rw [e1]
    (try simp only [Option.bind_some])
    rw [nI_1, gthL_s, ← List.append_assoc]
    exact gather_L1 hn hc hk hj hkj d (p + 1) f _ names' (by omega) (by omega) e2 h64
theorem gather_1 {n c k p j : Nat} {N : List Nat} {names : Nat → Int32} (hn : RG n) (hc : CR n c k) (hN : NA names N) (hj : j ≤ 1) (hkj : k + j ≤ 4) (h64 : (N ++ gthr n j c p).length ≤ 60) (hp : p ≤ n := by omega) : GA (F_X6_gather_d1 (nI c) (nI p) (nI j) (nI n) (nI (mskN n)) (nI N.length) names) (N ++ gthr n j c p) := by
  have h9 := hn.2
  unfold F_X6_gather_d1
  cases j with
  | zero =>
    rw [if_neg (by decide)]
    exact gather_leaf hn hc hN p h64
  | succ j =>
    rw [show (0 : Int32) = nI 0 from rfl, ifLt (by omega) (by omega), if_pos (by omega)]
    obtain ⟨names', e1, e2⟩ := gather_L1 hn hc (by omega) (by omega) (by omega) (n - p) p FU N names (by omega) (by unfold FU; omega) hN h64
    rw [e1]
    exact ⟨names', rfl, e2⟩
theorem gather_L2 {n c k j : Nat} (hn : RG n) (hc : CR n c k) (hk : k < 4) (hj : j ≤ 1) (hkj : k + 1 + j ≤ 4) : ∀ (d p f : Nat) (N : List Nat) (names : Nat → Int32), p + d = n → d < f → NA names N → (N ++ gthL n j c p d).length ≤ 60 → GA (F_X6_gather_d2_L2 (nI c) (nI (j + 1)) (nI n) (nI (mskN n)) f (nI p) (nI N.length) names) (N ++ gthL n j c p d)
  | 0, p, f + 1, N, names, hp, _, hN, h64 => by
    have h9 := hn.2
    rw [F_X6_gather_d2_L2.eq_2, if_pos (nI_le (by omega) (by omega))]
    have : gthL n j c p 0 = [] := rfl
    rw [this, List.append_nil]
    exact ⟨_, rfl, hN⟩
  | d + 1, p, f + 1, N, names, hp, hf, hN, h64 => by
    have h9 := hn.2
    have hlt := (CR_add hc hk (show p < n by omega)).lt hn
    rw [F_X6_gather_d2_L2.eq_2, if_neg (nI_ge (by omega) (by omega)), x_oneAt hn (by omega)]
    (try simp only [Option.bind_some])
    rw [gthL_s, ← List.append_assoc] at h64
    have h64' : (N ++ gthr n j (c + wt n p) p).length ≤ 60 := by
      rw [List.length_append] at h64; omega
    obtain ⟨names', e1, e2⟩ := gather_1 (p := p) (j := j) hn (CR_add hc hk (show p < n by omega)) hN hj hkj h64'
    rw [show nI c + nI (2 ^ (3 * (n - 1 - p))) = nI (c + wt n p) from q_add _ _, show nI (j + 1) - 1 = nI j from (q_sub (a := j + 1) (b := 1) (by omega)).trans (by rw [Nat.add_sub_cancel])]
    skip
    skip
    rw [e1]
    (try simp only [Option.bind_some])
    rw [nI_1, gthL_s, ← List.append_assoc]
    exact gather_L2 hn hc hk hj hkj d (p + 1) f _ names' (by omega) (by omega) e2 h64
theorem gather_2 {n c k p j : Nat} {N : List Nat} {names : Nat → Int32} (hn : RG n) (hc : CR n c k) (hN : NA names N) (hj : j ≤ 2) (hkj : k + j ≤ 4) (h64 : (N ++ gthr n j c p).length ≤ 60) (hp : p ≤ n := by omega) : GA (F_X6_gather_d2 (nI c) (nI p) (nI j) (nI n) (nI (mskN n)) (nI N.length) names) (N ++ gthr n j c p) := by
  have h9 := hn.2
  unfold F_X6_gather_d2
  cases j with
  | zero =>
    rw [if_neg (by decide)]
    exact gather_leaf hn hc hN p h64
  | succ j =>
    rw [show (0 : Int32) = nI 0 from rfl, ifLt (by omega) (by omega), if_pos (by omega)]
    obtain ⟨names', e1, e2⟩ := gather_L2 hn hc (by omega) (by omega) (by omega) (n - p) p FU N names (by omega) (by unfold FU; omega) hN h64
    rw [e1]
    exact ⟨names', rfl, e2⟩
theorem gather_L3 {n c k j : Nat} (hn : RG n) (hc : CR n c k) (hk : k < 4) (hj : j ≤ 2) (hkj : k + 1 + j ≤ 4) : ∀ (d p f : Nat) (N : List Nat) (names : Nat → Int32), p + d = n → d < f → NA names N → (N ++ gthL n j c p d).length ≤ 60 → GA (F_X6_gather_d3_L2 (nI c) (nI (j + 1)) (nI n) (nI (mskN n)) f (nI p) (nI N.length) names) (N ++ gthL n j c p d)
  | 0, p, f + 1, N, names, hp, _, hN, h64 => by
    have h9 := hn.2
    rw [F_X6_gather_d3_L2.eq_2, if_pos (nI_le (by omega) (by omega))]
    have : gthL n j c p 0 = [] := rfl
    rw [this, List.append_nil]
    exact ⟨_, rfl, hN⟩
  | d + 1, p, f + 1, N, names, hp, hf, hN, h64 => by
    have h9 := hn.2
    have hlt := (CR_add hc hk (show p < n by omega)).lt hn
    rw [F_X6_gather_d3_L2.eq_2, if_neg (nI_ge (by omega) (by omega)), x_oneAt hn (by omega)]
    (try simp only [Option.bind_some])
    rw [gthL_s, ← List.append_assoc] at h64
    have h64' : (N ++ gthr n j (c + wt n p) p).length ≤ 60 := by
      rw [List.length_append] at h64; omega
    obtain ⟨names', e1, e2⟩ := gather_2 (p := p) (j := j) hn (CR_add hc hk (show p < n by omega)) hN hj hkj h64'
    rw [show nI c + nI (2 ^ (3 * (n - 1 - p))) = nI (c + wt n p) from q_add _ _, show nI (j + 1) - 1 = nI j from (q_sub (a := j + 1) (b := 1) (by omega)).trans (by rw [Nat.add_sub_cancel])]
    skip
    skip
    rw [e1]
    (try simp only [Option.bind_some])
    rw [nI_1, gthL_s, ← List.append_assoc]
    exact gather_L3 hn hc hk hj hkj d (p + 1) f _ names' (by omega) (by omega) e2 h64
theorem gather_3 {n c k p j : Nat} {N : List Nat} {names : Nat → Int32} (hn : RG n) (hc : CR n c k) (hN : NA names N) (hj : j ≤ 3) (hkj : k + j ≤ 4) (h64 : (N ++ gthr n j c p).length ≤ 60) (hp : p ≤ n := by omega) : GA (F_X6_gather_d3 (nI c) (nI p) (nI j) (nI n) (nI (mskN n)) (nI N.length) names) (N ++ gthr n j c p) := by
  have h9 := hn.2
  unfold F_X6_gather_d3
  cases j with
  | zero =>
    rw [if_neg (by decide)]
    exact gather_leaf hn hc hN p h64
  | succ j =>
    rw [show (0 : Int32) = nI 0 from rfl, ifLt (by omega) (by omega), if_pos (by omega)]
    obtain ⟨names', e1, e2⟩ := gather_L3 hn hc (by omega) (by omega) (by omega) (n - p) p FU N names (by omega) (by unfold FU; omega) hN h64
    rw [e1]
    exact ⟨names', rfl, e2⟩
