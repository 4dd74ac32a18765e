/-! numbers -/
theorem q_sm : ∀ n, n < 32 → ((nI n &&& 31).toBitVec.smod 32).toNat = n := by decide +kernel
theorem q_um : ∀ n, n < 32 → (((nI n).toUInt32 &&& Int32.toUInt32 31).toBitVec % 32).toNat = n := by decide +kernel
theorem q_shl {a k : Nat} (hk : k < 32) (h : a * 2 ^ k < 2 ^ 32) : jshl (nI a) (nI k) = nI (a * 2 ^ k) := pk_shlN _ k (q_sm k hk) h
theorem q_ushr {a k : Nat} (ha : a < 2 ^ 32) (hk : k < 32) : jushr (nI a) (nI k) = nI (a / 2 ^ k) := pk_ushrN ha _ k (q_um k hk)
theorem q_lit (n : Nat) : (OfNat.ofNat n : Int32) = nI n := rfl
theorem q_sub {a b : Nat} (h : b ≤ a) : nI a - nI b = nI (a - b) := pk_sub h
theorem q_mul (a b : Nat) : nI a * nI b = nI (a * b) := pk_mul a b
theorem q_add (a b : Nat) : nI a + nI b = nI (a + b) := nI_add a b
theorem q_and (a b : Nat) : nI a &&& nI b = nI (a &&& b) := by
  apply Int32.toBitVec_inj.mp
  show BitVec.ofNat 32 a &&& BitVec.ofNat 32 b = BitVec.ofNat 32 (a &&& b)
  apply BitVec.eq_of_toNat_eq
  simp [BitVec.toNat_and, Nat.and_mod_two_pow]
theorem q_or (a b : Nat) : nI a ||| nI b = nI (a ||| b) := by
  apply Int32.toBitVec_inj.mp
  show BitVec.ofNat 32 a ||| BitVec.ofNat 32 b = BitVec.ofNat 32 (a ||| b)
  apply BitVec.eq_of_toNat_eq
  simp [BitVec.toNat_or, Nat.or_mod_two_pow]
theorem q_rem {a d : Nat} (ha : a < 2 ^ 31) (h0 : 0 < d) (hd : d < 2 ^ 31) : jrem (nI a) (nI d) = nI (a % d) := pk_rem ha h0 hd
theorem inbI {k N : Nat} (h : k < N) (hN : N < 2 ^ 31) : inb (nI k) N = true := by
  unfold inb
  exact decide_eq_true (vp_in_nI h hN)
theorem nzI {k : Nat} (h : 0 < k) (hk : k < 2 ^ 31) : nz (nI k) = true := by
  unfold nz
  exact decide_eq_true (nI_ne0 h hk)
theorem gdT {α : Type} {b : Bool} (h : b = true) (e : Option α) : gd b e = e := by rw [h]; rfl
theorem ltI {a b : Nat} (ha : a < 2 ^ 31) (hb : b < 2 ^ 31) : (nI a < nI b) = (a < b) := propext (nI_ltI ha hb)
theorem leI {a b : Nat} (ha : a < 2 ^ 31) (hb : b < 2 ^ 31) : (nI a ≤ nI b) = (a ≤ b) := propext (nI_leI ha hb)
theorem eqI {a b : Nat} (ha : a < 2 ^ 31) (hb : b < 2 ^ 31) : (nI a = nI b) = (a = b) := propext (nI_eq ha hb)
theorem ifLt {α : Type} {a b : Nat} (ha : a < 2 ^ 31) (hb : b < 2 ^ 31) {x y : α} : (if nI a < nI b then x else y) = if a < b then x else y := by
  by_cases h : a < b
  · rw [if_pos h, if_pos ((nI_ltI ha hb).mpr h)]
  · rw [if_neg h, if_neg (fun z => h ((nI_ltI ha hb).mp z))]
theorem ifLe {α : Type} {a b : Nat} (ha : a < 2 ^ 31) (hb : b < 2 ^ 31) {x y : α} : (if nI a ≤ nI b then x else y) = if a ≤ b then x else y := by
  by_cases h : a ≤ b
  · rw [if_pos h, if_pos ((nI_leI ha hb).mpr h)]
  · rw [if_neg h, if_neg (fun z => h ((nI_leI ha hb).mp z))]
theorem ifEq {α : Type} {a b : Nat} (ha : a < 2 ^ 31) (hb : b < 2 ^ 31) {x y : α} : (if nI a = nI b then x else y) = if a = b then x else y := by
  by_cases h : a = b
  · rw [if_pos h, if_pos ((nI_eq ha hb).mpr h)]
  · rw [if_neg h, if_neg (fun z => h ((nI_eq ha hb).mp z))]
theorem ifE0 {α : Type} {a : Nat} (ha : a < 2 ^ 31) {x y : α} : (if nI a = 0 then x else y) = if a = 0 then x else y := ifEq ha (by decide)
theorem ifE1 {α : Type} {a : Nat} (ha : a < 2 ^ 31) {x y : α} : (if nI a = 1 then x else y) = if a = 1 then x else y := ifEq ha (by decide)
theorem ifL0 {α : Type} {a : Nat} (ha : a < 2 ^ 31) {x y : α} : (if nI a ≤ 0 then x else y) = if a ≤ 0 then x else y := ifLe ha (by decide)
/-! packed digits: three bits a place, place 0 highest -/
def pkR (h : Nat → Nat) : Nat → Nat
  | 0 => 0
  | m + 1 => pkR h m * 8 + h m
def dg (n c p : Nat) : Nat := c / 2 ^ (3 * (n - 1 - p)) % 8
theorem pkR_lt {h : Nat → Nat} : ∀ {n : Nat}, (∀ x, x < n → h x < 8) → pkR h n < 2 ^ (3 * n)
  | 0, _ => by
    show (0 : Nat) < 2 ^ (3 * 0)
    decide
  | n + 1, hh => by
    have h1 := pkR_lt (h := h) (n := n) (fun x hx => hh x (by omega))
    have h2 := hh n (by omega)
    have e : 2 ^ (3 * (n + 1)) = 2 ^ (3 * n) * 8 := by rw [Nat.mul_add, Nat.pow_add]
    rw [e]
    show pkR h n * 8 + h n < _
    omega
theorem pkR_congr {h k : Nat → Nat} : ∀ {n : Nat}, (∀ x, x < n → h x = k x) → pkR h n = pkR k n
  | 0, _ => rfl
  | n + 1, hh => by
    show pkR h n * 8 + h n = pkR k n * 8 + k n
    rw [pkR_congr (fun x hx => hh x (by omega)), hh n (by omega)]
theorem dg_lt (n c p : Nat) : dg n c p < 8 := Nat.mod_lt _ (by decide)
theorem dg_pkR {h : Nat → Nat} : ∀ {n p : Nat}, (∀ x, x < n → h x < 8) → p < n → dg n (pkR h n) p = h p
  | 0, p, _, hp => absurd hp (by omega)
  | n + 1, p, hh, hp => by
    unfold dg
    show (pkR h n * 8 + h n) / 2 ^ (3 * (n + 1 - 1 - p)) % 8 = h p
    have h2 := hh n (by omega)
    by_cases e : p = n
    · subst e
      rw [show 3 * (p + 1 - 1 - p) = 0 by omega]
      simp
      omega
    · have ih := dg_pkR (h := h) (n := n) (p := p) (fun x hx => hh x (by omega)) (by omega)
      unfold dg at ih
      rw [show 3 * (n + 1 - 1 - p) = 3 + 3 * (n - 1 - p) by omega, Nat.pow_add, ← Nat.div_div_eq_div_mul]
      rw [show (pkR h n * 8 + h n) / 2 ^ 3 = pkR h n by omega]
      exact ih
theorem pkR_dg : ∀ {n c : Nat}, c < 2 ^ (3 * n) → pkR (dg n c) n = c
  | 0, c, hc => by
    have : c = 0 := by simpa using hc
    subst this
    rfl
  | n + 1, c, hc => by
    show pkR (dg (n + 1) c) n * 8 + dg (n + 1) c n = c
    have e1 : pkR (dg (n + 1) c) n = pkR (dg n (c / 8)) n := pkR_congr (fun x hx => by
      unfold dg
      rw [show 3 * (n + 1 - 1 - x) = 3 + 3 * (n - 1 - x) by omega, Nat.pow_add, ← Nat.div_div_eq_div_mul])
    have hc' : c / 8 < 2 ^ (3 * n) := by
      have e : 2 ^ (3 * (n + 1)) = 2 ^ (3 * n) * 8 := by rw [Nat.mul_add, Nat.pow_add]
      rw [e] at hc
      omega
    rw [e1, pkR_dg hc']
    unfold dg
    rw [show 3 * (n + 1 - 1 - n) = 0 by omega]
    simp
    omega
theorem pkR_inj {h k : Nat → Nat} {n : Nat} (hh : ∀ x, x < n → h x < 8) (hk : ∀ x, x < n → k x < 8) (e : pkR h n = pkR k n) : ∀ x, x < n → h x = k x := by
  intro x hx
  rw [← dg_pkR hh hx, ← dg_pkR hk hx, e]
/-- the first place that differs decides -/
theorem pkR_lex {h k : Nat → Nat} : ∀ {n j : Nat}, (∀ x, x < n → h x < 8) → (∀ x, x < n → k x < 8) → j < n → (∀ x, x < j → h x = k x) → h j < k j → pkR h n < pkR k n
  | 0, j, _, _, hj, _, _ => absurd hj (by omega)
  | n + 1, j, hh, hk, hj, he, hl => by
    show pkR h n * 8 + h n < pkR k n * 8 + k n
    have a1 := hh n (by omega)
    have a2 := hk n (by omega)
    by_cases e : j = n
    · subst e
      rw [pkR_congr he]
      omega
    · have := pkR_lex (n := n) (j := j) (fun x hx => hh x (by omega)) (fun x hx => hk x (by omega)) (by omega) he hl
      omega
theorem pkR_head (h : Nat → Nat) : ∀ m : Nat, pkR h (m + 1) = h 0 * 2 ^ (3 * m) + pkR (fun x => h (x + 1)) m
  | 0 => by simp [pkR]
  | m + 1 => by
    show pkR h (m + 1) * 8 + h (m + 1) = _
    rw [pkR_head h m]
    show _ = h 0 * 2 ^ (3 * (m + 1)) + (pkR (fun x => h (x + 1)) m * 8 + h (m + 1))
    rw [Nat.mul_add 3 m 1, Nat.pow_add, Nat.add_mul, Nat.mul_assoc, show 2 ^ (3 * 1) = 8 from rfl]
    omega
/-! sums over places -/
def sm (h : Nat → Nat) : Nat → Nat
  | 0 => 0
  | m + 1 => sm h m + h m
theorem sm_congr {h k : Nat → Nat} : ∀ {n : Nat}, (∀ x, x < n → h x = k x) → sm h n = sm k n
  | 0, _ => rfl
  | n + 1, hh => by
    show sm h n + h n = sm k n + k n
    rw [sm_congr (fun x hx => hh x (by omega)), hh n (by omega)]
theorem sm_le {h : Nat → Nat} : ∀ {n x : Nat}, x < n → h x ≤ sm h n
  | 0, _, hx => absurd hx (by omega)
  | n + 1, x, hx => by
    show h x ≤ sm h n + h n
    by_cases e : x = n
    · subst e; omega
    · have := sm_le (h := h) (n := n) (x := x) (by omega)
      omega
theorem sm_mono {h : Nat → Nat} {m : Nat} : ∀ {n : Nat}, m ≤ n → sm h m ≤ sm h n
  | 0, hm => by rw [show m = 0 by omega]; exact Nat.le_refl _
  | n + 1, hm => by
    by_cases e : m = n + 1
    · rw [e]; exact Nat.le_refl _
    · exact Nat.le_trans (sm_mono (n := n) (by omega)) (Nat.le_add_right _ _)
/-- a ring of n places, a crowd c of k robots -/
def RG (n : Nat) : Prop := 3 ≤ n ∧ n ≤ 9
def CR (n c k : Nat) : Prop := c < 2 ^ (3 * n) ∧ sm (dg n c) n = k ∧ k ≤ 4
def mskN (n : Nat) : Nat := 2 ^ (3 * n) - 1
theorem RG.p27 {n : Nat} (h : RG n) : 2 ^ (3 * n) ≤ 2 ^ 27 := Nat.pow_le_pow_right (by decide) (by have := h.2; omega)
theorem CR.lt {n c k : Nat} (hn : RG n) (h : CR n c k) : c < 2 ^ 27 := Nat.lt_of_lt_of_le h.1 hn.p27
