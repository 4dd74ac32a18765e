/-! the bits of a long -/
def bt (L : Int64) (i : Nat) : Bool := L.toBitVec.getLsbD i
theorem bt_or (L M : Int64) (i : Nat) : bt (L ||| M) i = (bt L i || bt M i) := by
  unfold bt; rw [Int64.toBitVec_or, BitVec.getLsbD_or]
theorem bt_and (L M : Int64) (i : Nat) : bt (L &&& M) i = (bt L i && bt M i) := by
  unfold bt; rw [Int64.toBitVec_and, BitVec.getLsbD_and]
theorem bt_m1 : ∀ i, i < 64 → bt (-1) i = true := by decide +kernel
theorem bt_not (L : Int64) {i : Nat} (hi : i < 64) : bt (L ^^^ (-1)) i = !bt L i := by
  have := bt_m1 i hi
  unfold bt at *
  rw [Int64.toBitVec_xor, BitVec.getLsbD_xor, this, Bool.xor_true]
theorem bt_1 : ∀ j, j < 64 → ∀ i, i < 64 → bt (jlshl 1 (nI j)) i = decide (i = j) := by decide +kernel
theorem bt_0 (i : Nat) : bt 0 i = false := by
  show (0#64).getLsbD i = false
  exact BitVec.getLsbD_zero
theorem bt_ext {L M : Int64} (h : ∀ i, i < 64 → bt L i = bt M i) : L = M := wb_inj (BitVec.eq_of_getLsbD_eq (fun i hi => h i hi))
theorem bt_iff {L M : Int64} : lg_cmp L M = 0 ↔ ∀ i, i < 64 → bt L i = bt M i := by
  rw [lge]
  exact ⟨fun h i _ => by rw [h], bt_ext⟩
theorem bt_lN {n : Nat} (h : n < 2 ^ 64) (i : Nat) : bt (lN n) i = n.testBit i := by
  unfold bt
  rw [← BitVec.testBit_toNat, wb_tn h]
/-! how many -/
theorem sm_add (h : Nat → Nat) (a : Nat) : ∀ b, sm h (a + b) = sm h a + sm (fun i => h (a + i)) b
  | 0 => rfl
  | b + 1 => by
    show sm h (a + b) + h (a + b) = sm h a + (sm (fun i => h (a + i)) b + h (a + b))
    rw [sm_add h a b, Nat.add_assoc]
def one (b : Bool) : Nat := if b = true then 1 else 0
def pcB (m n : Nat) : Nat := sm (fun i => one (n.testBit i)) (8 * m)
theorem pcB_s (m n : Nat) : pcB (m + 1) n = pcB 1 (n % 256) + pcB m (n / 256) := by
  unfold pcB
  rw [show 8 * (m + 1) = 8 * 1 + 8 * m by omega, sm_add]
  congr 1
  · apply sm_congr
    intro i hi
    rw [show n % 256 = n % 2 ^ 8 from rfl, Nat.testBit_mod_two_pow]
    simp [show i < 8 by omega]
  · apply sm_congr
    intro i hi
    show one (n.testBit (8 * 1 + i)) = _
    rw [show n / 256 = n / 2 ^ 8 from rfl, Nat.testBit_div_two_pow, Nat.add_comm]
def rep (x : Nat) : Nat → Nat
  | 0 => 0
  | m + 1 => x + 256 * rep x m
theorem and_byte {a b x M : Nat} (ha : a < 256) (hx : x < 256) : (a + 256 * b) &&& (x + 256 * M) = (a &&& x) + 256 * (b &&& M) := by
  have h1 : ((a + 256 * b) &&& (x + 256 * M)) % 2 ^ 8 = a &&& x := by
    rw [Nat.and_mod_two_pow]
    congr 1 <;> omega
  have h2 : ((a + 256 * b) &&& (x + 256 * M)) / 2 ^ 8 = b &&& M := by
    rw [Nat.and_div_two_pow]
    congr 1 <;> omega
  omega
theorem b55 : ∀ b, b < 256 → ∀ e, e < 2 → (b / 2 + 128 * e) &&& 85 = (b / 2) &&& 85 := by decide +kernel
theorem b33 : ∀ b, b < 256 → ∀ e, e < 4 → (b / 4 + 64 * e) &&& 51 = (b / 4) &&& 51 := by decide +kernel
theorem b15 : ∀ b, b < 256 → b &&& 15 = b % 16 := by decide +kernel
def f1 (m n : Nat) : Nat := n - ((n / 2) &&& rep 85 m)
def f2 (m n : Nat) : Nat := (n &&& rep 51 m) + ((n / 4) &&& rep 51 m)
def f3 (m n : Nat) : Nat := (n + n / 16) &&& rep 15 m
theorem f1_s (m n : Nat) : f1 (m + 1) n = f1 1 (n % 256) + 256 * f1 m (n / 256) := by
  unfold f1
  have hb := b55 (n % 256) (by omega) (n / 256 % 2) (by omega)
  have e : n / 2 = (n % 256 / 2 + 128 * (n / 256 % 2)) + 256 * (n / 256 / 2) := by omega
  show n - (n / 2 &&& (85 + 256 * rep 85 m)) = (n % 256 - (n % 256 / 2 &&& 85)) + 256 * (n / 256 - (n / 256 / 2 &&& rep 85 m))
  have c1 : n / 2 &&& (85 + 256 * rep 85 m) = (n % 256 / 2 &&& 85) + 256 * (n / 256 / 2 &&& rep 85 m) := by
    rw [← hb, ← and_byte (by omega) (by omega), ← e]
  have c2 : n % 256 / 2 &&& 85 ≤ n % 256 / 2 := Nat.and_le_left
  have c3 : n / 256 / 2 &&& rep 85 m ≤ n / 256 / 2 := Nat.and_le_left
  omega
theorem f2_s (m n : Nat) : f2 (m + 1) n = f2 1 (n % 256) + 256 * f2 m (n / 256) := by
  unfold f2
  have hb := b33 (n % 256) (by omega) (n / 256 % 4) (by omega)
  have e : n / 4 = (n % 256 / 4 + 64 * (n / 256 % 4)) + 256 * (n / 256 / 4) := by omega
  have e0 : n = n % 256 + 256 * (n / 256) := by omega
  show (n &&& (51 + 256 * rep 51 m)) + (n / 4 &&& (51 + 256 * rep 51 m)) = ((n % 256 &&& 51) + (n % 256 / 4 &&& 51)) + 256 * ((n / 256 &&& rep 51 m) + (n / 256 / 4 &&& rep 51 m))
  have c1 : n / 4 &&& (51 + 256 * rep 51 m) = (n % 256 / 4 &&& 51) + 256 * (n / 256 / 4 &&& rep 51 m) := by
    rw [← hb, ← and_byte (by omega) (by omega), ← e]
  have c2 : n &&& (51 + 256 * rep 51 m) = (n % 256 &&& 51) + 256 * (n / 256 &&& rep 51 m) := by
    rw [← and_byte (by omega) (by omega), ← e0]
  omega
/-- every half byte at most four -/
def nib : Nat → Nat → Prop
  | 0, _ => True
  | m + 1, n => n % 256 % 16 ≤ 4 ∧ n % 256 / 16 ≤ 4 ∧ nib m (n / 256)
theorem f3_s {m n : Nat} (h : nib (m + 1) n) (hy : n / 256 % 16 ≤ 4) : f3 (m + 1) n = (n % 256 % 16 + n % 256 / 16) + 256 * f3 m (n / 256) := by
  obtain ⟨h1, h2, h3⟩ := h
  unfold f3
  have e : n + n / 16 = (n % 256 + n % 256 / 16 + 16 * (n / 256 % 16)) + 256 * (n / 256 + n / 256 / 16) := by omega
  show (n + n / 16) &&& (15 + 256 * rep 15 m) = _
  rw [e, and_byte (by omega) (by omega), b15 _ (by omega)]
  congr 1
  omega
theorem fb : ∀ b, b < 256 → f2 1 (f1 1 b) < 256 ∧ f1 1 b < 256 ∧ f2 1 (f1 1 b) % 16 ≤ 4 ∧ f2 1 (f1 1 b) / 16 ≤ 4 ∧ f2 1 (f1 1 b) % 16 + f2 1 (f1 1 b) / 16 = pcB 1 b ∧ pcB 1 b ≤ 8 := by decide +kernel
theorem f21_s (m n : Nat) : f2 (m + 1) (f1 (m + 1) n) % 256 = f2 1 (f1 1 (n % 256)) ∧ f2 (m + 1) (f1 (m + 1) n) / 256 = f2 m (f1 m (n / 256)) := by
  obtain ⟨a1, a2, -⟩ := fb (n % 256) (by omega)
  have e : f1 (m + 1) n % 256 = f1 1 (n % 256) ∧ f1 (m + 1) n / 256 = f1 m (n / 256) := by
    rw [f1_s]; omega
  rw [f2_s, e.1, e.2]
  omega
theorem f21_0 (n : Nat) : f2 0 (f1 0 n) = 0 := by
  unfold f2 rep
  simp
theorem f21_nib : ∀ m n, nib m (f2 m (f1 m n)) ∧ f2 m (f1 m n) % 16 ≤ 4
  | 0, n => ⟨trivial, by rw [f21_0]; decide⟩
  | m + 1, n => by
    obtain ⟨h1, h2⟩ := f21_s m n
    obtain ⟨a1, a2, a3, a4, -⟩ := fb (n % 256) (by omega)
    refine ⟨⟨by rw [h1]; exact a3, by rw [h1]; exact a4, by rw [h2]; exact (f21_nib m (n / 256)).1⟩, ?_⟩
    rw [← h1] at a3
    omega
theorem f321 (m n : Nat) : f3 (m + 1) (f2 (m + 1) (f1 (m + 1) n)) = pcB 1 (n % 256) + 256 * f3 m (f2 m (f1 m (n / 256))) := by
  obtain ⟨h1, h2⟩ := f21_s m n
  obtain ⟨a1, a2, a3, a4, a5, -⟩ := fb (n % 256) (by omega)
  rw [f3_s (f21_nib (m + 1) n).1 (by rw [h2]; exact (f21_nib m _).2), h1, h2, a5]
theorem f321_0 (n : Nat) : f3 0 n = 0 := by
  unfold f3 rep
  simp
