/-! the names that the class gathers -/
def gthr (n : Nat) : Nat → Nat → Nat → List Nat
  | 0, c, _ => if NM n c = c then [c] else []
  | j + 1, c, p => (List.range' p (n - p)).flatMap (fun q => gthr n j (c + wt n q) q)
def GL (n k : Nat) : List Nat := gthr n (k - 1) (wt n 0) 0
def allC : Nat → Nat → List Nat
  | 0, 0 => [0]
  | 0, _ + 1 => []
  | m + 1, k => (List.range (k + 1)).flatMap (fun d => (allC m (k - d)).map (fun c => c * 8 + d))
theorem allC_mem (h : Nat → Nat) : ∀ n, pkR h n ∈ allC n (sm h n)
  | 0 => by simp [pkR, sm, allC]
  | n + 1 => by
    have e : sm h (n + 1) = sm h n + h n := rfl
    show pkR h n * 8 + h n ∈ allC (n + 1) (sm h (n + 1))
    rw [e]
    unfold allC
    rw [List.mem_flatMap]
    refine ⟨h n, List.mem_range.mpr (by omega), ?_⟩
    rw [Nat.add_sub_cancel]
    exact List.mem_map.mpr ⟨_, allC_mem h n, rfl⟩
theorem CR_mem {n c k : Nat} (hc : CR n c k) : c ∈ allC n k := by
  have := allC_mem (dg n c) n
  rw [pkR_dg hc.1, hc.2.1] at this
  exact this
def okG (n k : Nat) : Bool := decide ((GL n k).length ≤ 60) && decide ((GL n k).Nodup) && (GL n k).all (fun x => decide (x < 2 ^ (3 * n)) && decide (sm (dg n x) n = k) && decide (NM n x = x)) && (allC n k).all (fun c => (GL n k).contains (NM n c))
theorem okG_all : ∀ n, n < 10 → 3 ≤ n → ∀ k, k < 5 → 1 ≤ k → okG n k = true := by decide +kernel
