theorem x_mirrored {n c : Nat} (hn : RG n) (hc : c < 2 ^ (3 * n)) : F_X3_mirrored (nI c) (nI n) = some (nI (pkR (rev n (dg n c)) n)) := by
  unfold F_X3_mirrored
  have := x_mirrored_L hn hc n 0 FU (by omega) (by have := hn.2; unfold FU; omega) _ rfl
  rw [show nI (pkR (rev n (dg n c)) 0) = (0 : Int32) from rfl] at this
  simp only [Option.bind_some]
  rw [this]
  rfl
theorem x_max {a b : Nat} (ha : a < 2 ^ 31) (hb : b < 2 ^ 31) : F_J9_max_7cf53 (nI a) (nI b) = some (nI (max a b)) := by
  unfold F_J9_max_7cf53
  rw [ifLt ha hb]
  by_cases h : a < b
  · rw [if_pos h, Nat.max_eq_right (by omega)]
  · rw [if_neg h, Nat.max_eq_left (by omega)]
theorem rev_lt {n : Nat} {h : Nat → Nat} (h0 : 0 < n) (hh : ∀ x, x < n → h x < 8) : ∀ x, x < n → rev n h x < 8 := fun x _ => hh _ (by omega)
/-- the greatest of the images so far -/
def gmx (n : Nat) (h : Nat → Nat) : Nat → Nat
  | 0 => pkR h n
  | i + 1 => max (gmx n h i) (max (pkR (rot n h i) n) (pkR (rot n (rev n h) i) n))
def NM (n c : Nat) : Nat := gmx n (dg n c) n
theorem gmx_lt {n : Nat} {h : Nat → Nat} (h0 : 0 < n) (hh : ∀ x, x < n → h x < 8) : ∀ i, gmx n h i < 2 ^ (3 * n)
  | 0 => pkR_lt hh
  | i + 1 => by
    show max (gmx n h i) (max (pkR (rot n h i) n) (pkR (rot n (rev n h) i) n)) < _
    have a := gmx_lt h0 hh i
    have b := pkR_lt (rot_lt h0 hh i)
    have c := pkR_lt (rot_lt h0 (rev_lt h0 hh) i)
    simp only [Nat.max_def]
    split <;> split <;> omega
theorem x_turnR {n : Nat} {h : Nat → Nat} (hn : RG n) (hh : ∀ x, x < n → h x < 8) (i : Nat) : F_X3_turned (nI (pkR (rot n h i) n)) (nI n) (nI (mskN n)) = some (nI (pkR (rot n h (i + 1)) n)) := by
  have h0 : 0 < n := by have := hn.1; omega
  rw [x_turned hn (rot_lt h0 hh i), pkR_congr (fun x _ => rot_rot h i)]
theorem x_nameOf_L {n : Nat} {h : Nat → Nat} (hn : RG n) (hh : ∀ x, x < n → h x < 8) : ∀ (d i f : Nat), i + d = n → d < f → F_X3_nameOf_L2 (nI n) (nI (mskN n)) f (nI (gmx n h i)) (nI (pkR (rot n h i) n)) (nI (pkR (rot n (rev n h) i) n)) (nI i) = some (nI (gmx n h n))
  | 0, i, f + 1, hi, _ => by
    have h9 := hn.2
    rw [F_X3_nameOf_L2.eq_2, if_pos (nI_le (by omega) (by omega)), show i = n by omega]
  | d + 1, i, f + 1, hi, hf => by
    have h9 := hn.2
    have h0 : 0 < n := by have := hn.1; omega
    have hp := hn.p27
    have a := gmx_lt h0 hh i
    have b := pkR_lt (rot_lt h0 hh i)
    have c := pkR_lt (rot_lt h0 (rev_lt h0 hh) i)
    rw [F_X3_nameOf_L2.eq_2, if_neg (nI_ge (by omega) (by omega)), x_max (by omega) (by omega)]
    simp only [Option.bind_some]
    rw [x_max (by omega) (by simp only [Nat.max_def]; split <;> omega)]
    simp only [Option.bind_some]
    rw [x_turnR hn hh i]
    simp only [Option.bind_some]
    rw [x_turnR hn (rev_lt h0 hh) i]
    simp only [Option.bind_some]
    rw [show (1 : Int32) = nI 1 from rfl, q_add]
    exact x_nameOf_L hn hh d (i + 1) f (by omega) (by omega)
theorem x_nameOf {n c : Nat} (hn : RG n) (hc : c < 2 ^ (3 * n)) : F_X3_nameOf (nI c) (nI n) (nI (mskN n)) = some (nI (NM n c)) := by
  unfold F_X3_nameOf
  rw [x_mirrored hn hc]
  simp only [Option.bind_some]
  have hh : ∀ x, x < n → dg n c x < 8 := fun x _ => dg_lt _ _ _
  have := x_nameOf_L hn hh n 0 FU (by omega) (by have := hn.2; unfold FU; omega)
  have e1 : gmx n (dg n c) 0 = c := pkR_dg hc
  have e2 : pkR (rot n (dg n c) 0) n = c := by rw [pkR_congr (fun x hx => rot_0 (dg n c) hx)]; exact pkR_dg hc
  have e3 : pkR (rot n (rev n (dg n c)) 0) n = pkR (rev n (dg n c)) n := pkR_congr (fun x hx => rot_0 _ hx)
  rw [e1, e2, e3, show nI 0 = (0 : Int32) from rfl] at this
  rw [this]
  rfl
theorem NM_lt {n : Nat} (hn : RG n) (c : Nat) : NM n c < 2 ^ (3 * n) := gmx_lt (by have := hn.1; omega) (fun x _ => dg_lt _ _ _) n
/-- how many turns of h are the crowd t -/
def tb (n : Nat) (h : Nat → Nat) (t : Nat) : Nat → Nat := sm (fun i => if pkR (rot n h i) n = t then 1 else 0)
theorem x_tb_L {n t : Nat} {h : Nat → Nat} (hn : RG n) (hh : ∀ x, x < n → h x < 8) (ht : t < 2 ^ (3 * n)) : ∀ (d i f : Nat), i + d = n → d < f → F_X3_turnsBetween_L1 (nI t) (nI n) (nI (mskN n)) f (nI (tb n h t i)) (nI (pkR (rot n h i) n)) (nI i) = some (nI (tb n h t n))
  | 0, i, f + 1, hi, _ => by
    have h9 := hn.2
    rw [F_X3_turnsBetween_L1.eq_2, if_pos (nI_le (by omega) (by omega)), show i = n by omega]
  | d + 1, i, f + 1, hi, hf => by
    have h9 := hn.2
    have h0 : 0 < n := by have := hn.1; omega
    have hp := hn.p27
    have b := pkR_lt (rot_lt h0 hh i)
    have ih := x_tb_L hn hh ht d (i + 1) f (by omega) (by omega)
    have e : tb n h t (i + 1) = tb n h t i + (if pkR (rot n h i) n = t then 1 else 0) := rfl
    rw [F_X3_turnsBetween_L1.eq_2, if_neg (nI_ge (by omega) (by omega)), x_turnR hn hh i, ifEq (by omega) (by omega), show (1 : Int32) = nI 1 from rfl]
    by_cases hc : pkR (rot n h i) n = t
    · rw [if_pos hc]
      simp only [Option.bind_some]
      rw [q_add, q_add]
      rw [e, if_pos hc] at ih
      exact ih
    · rw [if_neg hc]
      simp only [Option.bind_some]
      rw [q_add]
      rw [e, if_neg hc] at ih
      exact ih
theorem x_turnsBetween {n t : Nat} {h : Nat → Nat} (hn : RG n) (hh : ∀ x, x < n → h x < 8) (ht : t < 2 ^ (3 * n)) : F_X3_turnsBetween (nI (pkR h n)) (nI t) (nI n) (nI (mskN n)) = some (nI (tb n h t n)) := by
  unfold F_X3_turnsBetween
  have := x_tb_L hn hh ht n 0 FU (by omega) (by have := hn.2; unfold FU; omega)
  rw [pkR_congr (fun x hx => rot_0 h hx), show nI (tb n h t 0) = (0 : Int32) from rfl, show nI 0 = (0 : Int32) from rfl] at this
  rw [this]
  rfl
def trn (n c : Nat) : Nat := tb n (dg n c) c n
def mir (n c : Nat) : Nat := tb n (rev n (dg n c)) c n
theorem x_turnsOf {n c : Nat} (hn : RG n) (hc : c < 2 ^ (3 * n)) : F_X3_turnsOf (nI c) (nI n) (nI (mskN n)) = some (nI (trn n c)) := by
  unfold F_X3_turnsOf
  have := x_turnsBetween hn (h := dg n c) (fun x _ => dg_lt _ _ _) hc
  rw [pkR_dg hc] at this
  rw [this]
  rfl
theorem x_mirrorsOf {n c : Nat} (hn : RG n) (hc : c < 2 ^ (3 * n)) : F_X3_mirrorsOf (nI c) (nI n) (nI (mskN n)) = some (nI (mir n c)) := by
  unfold F_X3_mirrorsOf
  rw [x_mirrored hn hc]
  simp only [Option.bind_some]
  rw [x_turnsBetween hn (rev_lt (by have := hn.1; omega) (fun x _ => dg_lt _ _ _)) hc]
  rfl
theorem tb_le (n : Nat) (h : Nat → Nat) (t : Nat) : ∀ i, tb n h t i ≤ i
  | 0 => Nat.le_refl _
  | i + 1 => by
    have := tb_le n h t i
    show tb n h t i + (if pkR (rot n h i) n = t then 1 else 0) ≤ i + 1
    split <;> omega
/-- the kind, as it is told -/
def knd (n c : Nat) : Nat := if trn n c ≤ 1 then (if mir n c ≤ 0 then 3 else 1) else 2
theorem x_kindOf {n c : Nat} (hn : RG n) (hc : c < 2 ^ (3 * n)) : F_X3_kindOf (nI c) (nI n) (nI (mskN n)) = some (nI (knd n c)) := by
  have h9 := hn.2
  have a1 := tb_le n (dg n c) c n
  have a2 := tb_le n (rev n (dg n c)) c n
  unfold F_X3_kindOf knd
  rw [x_turnsOf hn hc]
  simp only [Option.bind_some]
  rw [show (1 : Int32) = nI 1 from rfl, ifLe (by unfold trn; omega) (by omega)]
  by_cases h : trn n c ≤ 1
  · rw [if_pos h, if_pos h, x_mirrorsOf hn hc]
    simp only [Option.bind_some]
    rw [show (0 : Int32) = nI 0 from rfl, ifLe (by unfold mir; omega) (by omega)]
    by_cases h2 : mir n c ≤ 0
    · rw [if_pos h2, if_pos h2]; rfl
    · rw [if_neg h2, if_neg h2]
  · rw [if_neg h, if_neg h]; rfl
/-! sums under turns and mirrors -/
theorem sm_head (h : Nat → Nat) : ∀ m : Nat, sm h (m + 1) = h 0 + sm (fun x => h (x + 1)) m
  | 0 => by simp [sm]
  | m + 1 => by
    show sm h (m + 1) + h (m + 1) = _
    rw [sm_head h m]
    show _ = h 0 + (sm (fun x => h (x + 1)) m + h (m + 1))
    omega
theorem sm_rot1 {n : Nat} (h : Nat → Nat) (h0 : 0 < n) : sm (rot n h 1) n = sm h n := by
  obtain ⟨m, rfl⟩ : ∃ m, n = m + 1 := ⟨n - 1, by omega⟩
  show sm (rot (m + 1) h 1) m + rot (m + 1) h 1 m = _
  rw [sm_head h m, sm_congr (k := fun x => h (x + 1)) (fun x hx => by
    show h ((x + 1) % (m + 1)) = h (x + 1)
    rw [Nat.mod_eq_of_lt (by omega)])]
  show _ + h ((m + 1) % (m + 1)) = _
  rw [Nat.mod_self]
  omega
theorem sm_rot {n : Nat} (h : Nat → Nat) (h0 : 0 < n) : ∀ t, sm (rot n h t) n = sm h n
  | 0 => sm_congr (fun x hx => rot_0 h hx)
  | t + 1 => by
    rw [← sm_rot h h0 t, ← sm_rot1 (rot n h t) h0]
    exact (sm_congr (fun x _ => rot_rot h t)).symm
theorem sm_rev : ∀ (n : Nat) (h : Nat → Nat), sm (rev n h) n = sm h n
  | 0, _ => rfl
  | n + 1, h => by
    rw [sm_head (rev (n + 1) h) n]
    show h (n + 1 - 1 - 0) + _ = sm h n + h n
    rw [show n + 1 - 1 - 0 = n by omega, sm_congr (k := rev n h) (fun x hx => by
      show h (n + 1 - 1 - (x + 1)) = h (n - 1 - x)
      congr 1
      omega), sm_rev n h]
    omega
