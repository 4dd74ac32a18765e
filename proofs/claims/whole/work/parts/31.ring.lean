/-! the class's ring: what its methods answer -/
theorem x_oneAt {n p : Nat} (hn : RG n) (hp : p < n) : F_X3_oneAt (nI p) (nI n) = some (nI (2 ^ (3 * (n - 1 - p)))) := by
  obtain ⟨h3, h9⟩ := hn
  unfold F_X3_oneAt
  rw [show (1 : Int32) = nI 1 from rfl, show (3 : Int32) = nI 3 from rfl, q_sub (by omega), q_sub (by omega), q_mul, q_shl (by omega) (by
    rw [Nat.one_mul]
    exact Nat.pow_lt_pow_right (by decide) (by omega)), Nat.one_mul]
theorem x_manyAt {n c p : Nat} (hn : RG n) (hc : c < 2 ^ (3 * n)) (hp : p < n) : F_X3_manyAt (nI c) (nI p) (nI n) = some (nI (dg n c p)) := by
  have hc2 := Nat.lt_of_lt_of_le hc hn.p27
  obtain ⟨h3, h9⟩ := hn
  unfold F_X3_manyAt
  rw [show (1 : Int32) = nI 1 from rfl, show (3 : Int32) = nI 3 from rfl, show (7 : Int32) = nI (2 ^ 3 - 1) from rfl, q_sub (by omega), q_sub (by omega), q_mul, q_ushr (by omega) (by omega), q_and, Nat.and_two_pow_sub_one_eq_mod]
  rfl
def bs (n p w : Nat) : Nat := (p + w) % n
theorem x_up {n p : Nat} (hn : RG n) (hp : p < n) : F_X3_beside (nI p) 1 (nI n) = some (nI ((p + 1) % n)) := by
  obtain ⟨h3, h9⟩ := hn
  unfold F_X3_beside
  rw [show (1 : Int32) = nI 1 from rfl, q_add]
  simp only [Option.bind_some, ltI (show p + 1 < 2 ^ 31 by omega) (show n < 2 ^ 31 by omega), show (0 : Int32) = nI 0 from rfl, leI (show 0 < 2 ^ 31 by omega) (show p + 1 < 2 ^ 31 by omega)]
  by_cases h : p + 1 < n
  · rw [if_pos h, if_pos (by omega), Nat.mod_eq_of_lt h]
  · rw [if_neg h, show p + 1 = n by omega, Nat.mod_self]
theorem m1lt : (-1 : Int32) < nI 0 := by decide
theorem x_down {n p : Nat} (hn : RG n) (hp : p < n) : F_X3_beside (nI p) (-1) (nI n) = some (nI ((p + n - 1) % n)) := by
  obtain ⟨h3, h9⟩ := hn
  unfold F_X3_beside
  by_cases h : p = 0
  · subst h
    have e : nI 0 + (-1) = (-1 : Int32) := by decide
    rw [e]
    have h1 : (-1 : Int32) < nI n := by
      apply Int32.lt_iff_toInt_lt.mpr
      rw [nI_toInt (by omega)]
      have : (-1 : Int32).toInt = -1 := by decide
      omega
    simp only [Option.bind_some]
    rw [if_pos h1, if_neg (by decide), show (1 : Int32) = nI 1 from rfl, q_sub (by omega), show (0 + n - 1) % n = n - 1 by rw [Nat.zero_add]; exact Nat.mod_eq_of_lt (by omega)]
  · obtain ⟨k, rfl⟩ : ∃ k, p = k + 1 := ⟨p - 1, by omega⟩
    rw [pk_m1]
    simp only [Option.bind_some]
    rw [if_pos ((nI_ltI (by omega) (by omega)).mpr (by omega)), if_pos (nI_pos' (by omega))]
    rw [show k + 1 + n - 1 = k + n by omega, Nat.add_mod_right, Nat.mod_eq_of_lt (by omega)]
theorem x_robotsIn_L {n c : Nat} (hn : RG n) (hc : c < 2 ^ (3 * n)) : ∀ (d i f : Nat), i + d = n → d < f → F_X3_robotsIn_L1 (nI c) (nI n) f (nI (sm (dg n c) i)) (nI i) = some (nI (sm (dg n c) n))
  | 0, i, f + 1, hi, _ => by
    have h9 := hn.2
    rw [F_X3_robotsIn_L1.eq_2, if_pos (nI_le (by omega) (by omega)), show i = n by omega]
  | d + 1, i, f + 1, hi, hf => by
    have h9 := hn.2
    rw [F_X3_robotsIn_L1.eq_2, if_neg (nI_ge (by omega) (by omega)), x_manyAt hn hc (by omega)]
    simp only [Option.bind_some]
    rw [q_add, show (1 : Int32) = nI 1 from rfl, q_add]
    exact x_robotsIn_L hn hc d (i + 1) f (by omega) (by omega)
theorem x_robotsIn {n c : Nat} (hn : RG n) (hc : c < 2 ^ (3 * n)) : F_X3_robotsIn (nI c) (nI n) = some (nI (sm (dg n c) n)) := by
  unfold F_X3_robotsIn
  rw [show (0 : Int32) = nI (sm (dg n c) 0) from rfl]
  have := x_robotsIn_L hn hc n 0 FU (by omega) (by have := hn.2; unfold FU; omega)
  rw [show nI (sm (dg n c) 0) = nI 0 from rfl] at this ⊢
  rw [this]
  rfl
/-- how many places are taken -/
def tk (h : Nat → Nat) : Nat → Nat := sm (fun x => if 0 < h x then 1 else 0)
theorem x_takenIn_L {n c : Nat} (hn : RG n) (hc : c < 2 ^ (3 * n)) : ∀ (d i f : Nat), i + d = n → d < f → F_X3_takenIn_L1 (nI c) (nI n) f (nI (tk (dg n c) i)) (nI i) = some (nI (tk (dg n c) n))
  | 0, i, f + 1, hi, _ => by
    have h9 := hn.2
    rw [F_X3_takenIn_L1.eq_2, if_pos (nI_le (by omega) (by omega)), show i = n by omega]
  | d + 1, i, f + 1, hi, hf => by
    have h9 := hn.2
    have h8 := dg_lt n c i
    rw [F_X3_takenIn_L1.eq_2, if_neg (nI_ge (by omega) (by omega)), x_manyAt hn hc (by omega)]
    have e : tk (dg n c) (i + 1) = tk (dg n c) i + (if 0 < dg n c i then 1 else 0) := rfl
    have ih := x_takenIn_L hn hc d (i + 1) f (by omega) (by omega)
    simp only [Option.bind_some, show (0 : Int32) = nI 0 from rfl, leI (show dg n c i < 2 ^ 31 by omega) (show 0 < 2 ^ 31 by omega), show (1 : Int32) = nI 1 from rfl, q_add]
    by_cases h : dg n c i ≤ 0
    · rw [if_pos h, Option.bind_some]
      rw [e, if_neg (by omega), Nat.add_zero] at ih
      exact ih
    · rw [if_neg h, Option.bind_some]
      rw [e, if_pos (by omega)] at ih
      exact ih
theorem x_takenIn {n c : Nat} (hn : RG n) (hc : c < 2 ^ (3 * n)) : F_X3_takenIn (nI c) (nI n) = some (nI (tk (dg n c) n)) := by
  unfold F_X3_takenIn
  have := x_takenIn_L hn hc n 0 FU (by omega) (by have := hn.2; unfold FU; omega)
  rw [show nI (tk (dg n c) 0) = nI 0 from rfl] at this
  rw [show (0 : Int32) = nI 0 from rfl, this]
  rfl
/-- turned by one: place x has what was at x + 1 -/
def rot (n : Nat) (h : Nat → Nat) (t : Nat) : Nat → Nat := fun x => h ((x + t) % n)
theorem or_add {a b k : Nat} (hb : b < 2 ^ k) : a * 2 ^ k ||| b = a * 2 ^ k + b := by
  rw [Nat.mul_comm]
  exact (Nat.two_pow_add_eq_or_of_lt hb a).symm
theorem x_turned {n : Nat} {h : Nat → Nat} (hn : RG n) (hh : ∀ x, x < n → h x < 8) : F_X3_turned (nI (pkR h n)) (nI n) (nI (mskN n)) = some (nI (pkR (rot n h 1) n)) := by
  have hc := pkR_lt hh
  have hp := hn.p27
  obtain ⟨h3, h9⟩ := hn
  obtain ⟨m, rfl⟩ : ∃ m, n = m + 1 := ⟨n - 1, by omega⟩
  unfold F_X3_turned mskN
  rw [show (1 : Int32) = nI 1 from rfl, show (3 : Int32) = nI 3 from rfl, q_sub (by omega), q_mul, q_ushr (by omega) (by omega), q_shl (by omega) (by omega), q_and, q_or, Nat.and_two_pow_sub_one_eq_mod, show m + 1 - 1 = m by omega]
  have hs : ∀ x, x < m → (fun x => h (x + 1)) x < 8 := fun x hx => hh (x + 1) (by omega)
  have hlt := pkR_lt hs
  have h0 := hh 0 (by omega)
  have e0 := pkR_head h m
  have e1 : 2 ^ (3 * (m + 1)) = 2 ^ (3 * m) * 8 := by rw [Nat.mul_add, Nat.pow_add]
  have hpos : 0 < 2 ^ (3 * m) := Nat.pow_pos (by decide)
  have d1 : pkR h (m + 1) / 2 ^ (3 * m) = h 0 := by
    rw [e0, Nat.mul_comm, Nat.mul_add_div hpos, Nat.div_eq_of_lt hlt, Nat.add_zero]
  have d2 : pkR h (m + 1) * 2 ^ 3 % 2 ^ (3 * (m + 1)) = pkR (fun x => h (x + 1)) m * 2 ^ 3 := by
    rw [e0, e1, show (2 : Nat) ^ 3 = 8 from rfl, Nat.mul_mod_mul_right, Nat.mul_comm (h 0), Nat.mul_add_mod, Nat.mod_eq_of_lt hlt]
  rw [d1, d2, or_add (by omega)]
  have e2 : pkR (rot (m + 1) h 1) (m + 1) = pkR (fun x => h (x + 1)) m * 8 + h 0 := by
    show pkR (rot (m + 1) h 1) m * 8 + rot (m + 1) h 1 m = _
    have e3 : pkR (rot (m + 1) h 1) m = pkR (fun x => h (x + 1)) m := pkR_congr (fun x hx => by
      show h ((x + 1) % (m + 1)) = h (x + 1)
      rw [Nat.mod_eq_of_lt (by omega)])
    rw [e3]
    show _ + h ((m + 1) % (m + 1)) = _
    rw [Nat.mod_self]
  rw [e2]
theorem rot_lt {n : Nat} {h : Nat → Nat} (h0 : 0 < n) (hh : ∀ x, x < n → h x < 8) (t : Nat) : ∀ x, x < n → rot n h t x < 8 := fun x _ => hh _ (Nat.mod_lt _ h0)
theorem rot_rot {n : Nat} (h : Nat → Nat) (t : Nat) {x : Nat} : rot n (rot n h t) 1 x = rot n h (t + 1) x := by
  show h (((x + 1) % n + t) % n) = h ((x + (t + 1)) % n)
  rw [Nat.add_mod, Nat.mod_mod, ← Nat.add_mod]
  congr 2
  omega
theorem rot_0 {n : Nat} (h : Nat → Nat) {x : Nat} (hx : x < n) : rot n h 0 x = h x := by
  show h ((x + 0) % n) = h x
  rw [Nat.add_zero, Nat.mod_eq_of_lt hx]
/-- in the mirror that reverses the row -/
def rev (n : Nat) (h : Nat → Nat) : Nat → Nat := fun x => h (n - 1 - x)
theorem x_mirrored_L {n c : Nat} (hn : RG n) (hc : c < 2 ^ (3 * n)) : ∀ (d i f : Nat), i + d = n → d < f → ∀ z : Int32, z = nI d - 1 → F_X3_mirrored_L2 (nI c) (nI n) f (nI (pkR (rev n (dg n c)) i)) z = some (nI (pkR (rev n (dg n c)) n))
  | 0, i, f + 1, hi, _, z, hz => by
    have h9 := hn.2
    rw [F_X3_mirrored_L2.eq_2]
    subst hz
    rw [show i = n by omega]
    first | rw [if_neg (by decide)] | rw [if_pos (by decide)]
  | d + 1, i, f + 1, hi, hf, z, hz => by
    have h9 := hn.2
    have hr : ∀ x, x < i → rev n (dg n c) x < 8 := fun x _ => dg_lt _ _ _
    have hlt := pkR_lt (n := i) hr
    have hle : 2 ^ (3 * i) ≤ 2 ^ 24 := Nat.pow_le_pow_right (by decide) (by omega)
    rw [nI_pred] at hz
    subst hz
    have e : pkR (rev n (dg n c)) (i + 1) = pkR (rev n (dg n c)) i * 2 ^ 3 + dg n c d := by
      show pkR (rev n (dg n c)) i * 8 + dg n c (n - 1 - i) = _
      rw [show n - 1 - i = d by omega]
    have ih := x_mirrored_L hn hc d (i + 1) f (by omega) (by omega) _ rfl
    rw [e] at ih
    rw [F_X3_mirrored_L2.eq_2, x_manyAt hn hc (by omega)]
    simp only [Option.bind_some]
    have hcond : ¬ nI d < (0 : Int32) := nI_pos (by omega)
    have hcond2 : (0 : Int32) ≤ nI d := nI_pos' (by omega)
    first
      | rw [if_neg hcond]
      | rw [if_pos hcond2]
    rw [show (3 : Int32) = nI 3 from rfl, q_shl (by omega) (by omega), q_or, or_add (by have := dg_lt n c d; omega)]
    have e2 : nI d + (-1) = nI d - 1 := by
      apply Int32.toBitVec_inj.mp
      show (nI d).toBitVec + (-1 : Int32).toBitVec = (nI d).toBitVec - (1 : Int32).toBitVec
      have : (-1 : Int32).toBitVec = - (1 : Int32).toBitVec := by decide
      rw [this, BitVec.sub_eq_add_neg]
    rw [e2]
    exact ih
