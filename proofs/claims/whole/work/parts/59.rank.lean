/-! sets of names, rounds -/
noncomputable def bp (P : Prop) : Bool := @decide P (Classical.propDecidable P)
theorem bp_iff {P : Prop} : bp P = true ↔ P := by
  unfold bp
  exact @decide_eq_true_iff P (Classical.propDecidable P)
theorem bp_no {P : Prop} (h : ¬ P) : bp P = false := by
  cases e : bp P with
  | false => rfl
  | true => exact absurd (bp_iff.mp e) h
noncomputable def cN (N : List Nat) (P : Nat → Prop) : Nat := N.countP (fun x => bp (P x))
theorem cN_le (N : List Nat) (P : Nat → Prop) : cN N P ≤ N.length := List.countP_le_length
theorem cN_cons (a : Nat) (N : List Nat) (P : Nat → Prop) : cN (a :: N) P = cN N P + one (bp (P a)) := by
  unfold cN one
  rw [List.countP_cons]
theorem cN_mono {P Q : Nat → Prop} : ∀ {N : List Nat}, (∀ x, x ∈ N → P x → Q x) → cN N P ≤ cN N Q
  | [], _ => Nat.le_refl _
  | a :: N, h => by
    have := cN_mono (N := N) (fun x hx => h x (List.mem_cons_of_mem _ hx))
    rw [cN_cons, cN_cons]
    by_cases q : P a
    · have q2 := h a (List.mem_cons_self ..) q
      rw [bp_iff.mpr q, bp_iff.mpr q2]
      omega
    · rw [bp_no q, show one false = 0 from rfl]
      omega
theorem cN_lt {P Q : Nat → Prop} : ∀ {N : List Nat} {a : Nat}, (∀ x, x ∈ N → P x → Q x) → a ∈ N → Q a → ¬ P a → cN N P < cN N Q
  | [], _, _, ha, _, _ => absurd ha (by simp)
  | b :: N, a, h, ha, hq, hp => by
    have hm := cN_mono (N := N) (fun x hx => h x (List.mem_cons_of_mem _ hx))
    rw [cN_cons, cN_cons]
    rcases List.mem_cons.mp ha with e | e
    · subst e
      rw [bp_no hp, bp_iff.mpr hq]
      unfold one
      simp
      omega
    · have ih := cN_lt (N := N) (fun x hx => h x (List.mem_cons_of_mem _ hx)) e hq hp
      by_cases q : P b
      · have q2 := h b (List.mem_cons_self ..) q
        rw [bp_iff.mpr q, bp_iff.mpr q2]
        omega
      · rw [bp_no q, show one false = 0 from rfl]
        omega
theorem cN_pos {P : Nat → Prop} {N : List Nat} {a : Nat} (ha : a ∈ N) (h : P a) : 0 < cN N P := by
  unfold cN
  exact List.countP_pos_iff.mpr ⟨a, ha, bp_iff.mpr h⟩
theorem cN_congr {P Q : Nat → Prop} {N : List Nat} (h : ∀ x, x ∈ N → (P x ↔ Q x)) : cN N P = cN N Q :=
  Nat.le_antisymm (cN_mono fun x hx => (h x hx).mp) (cN_mono fun x hx => (h x hx).mpr)
theorem cN_perm {P : Nat → Prop} {N M : List Nat} (hN : N.Nodup) (hM : M.Nodup) (h : ∀ x, x ∈ N ↔ x ∈ M) : cN N P = cN M P := by
  unfold cN
  exact ((List.perm_ext_iff_of_nodup hN hM).mpr h).countP_eq _
theorem cN_sm {P : Nat → Prop} : ∀ N : List Nat, cN N P = sm (fun i => one (bp (P (N.getD i 0)))) N.length
  | [] => rfl
  | a :: N => by
    rw [cN_cons, cN_sm N, List.length_cons, sm_head, Nat.add_comm]
    rfl
theorem sm_zero {h : Nat → Nat} : ∀ {m : Nat}, (∀ i, i < m → h i = 0) → sm h m = 0
  | 0, _ => rfl
  | m + 1, hh => by
    show sm h m + h m = 0
    rw [sm_zero (fun i hi => hh i (by omega)), hh m (by omega)]
theorem BS_cN {N : List Nat} {L : Int64} {P : Nat → Prop} (h60 : N.length ≤ 60) (h : BS N L P) : sm (fun i => one (bt L i)) 64 = cN N P := by
  rw [cN_sm, show (64 : Nat) = N.length + (64 - N.length) by omega, sm_add, sm_zero (m := 64 - N.length) (fun i hi => ?_), Nat.add_zero]
  · apply sm_congr
    intro i hi
    congr 1
    by_cases q : P (N.getD i 0)
    · rw [(h i (by omega)).mpr ⟨hi, q⟩, bp_iff.mpr q]
    · rw [bp_no q]
      cases e : bt L i with
      | false => rfl
      | true => exact absurd ((h i (by omega)).mp e).2 q
  · show one (bt L (N.length + i)) = 0
    cases e : bt L (N.length + i) with
    | false => rfl
    | true =>
      have := ((h (N.length + i) (by omega)).mp e).1
      omega
/-- rounds come to rest -/
theorem rounds {N : List Nat} {P : Nat → Nat → Prop} (mono : ∀ i x, P i x → P (i + 1) x) (prop : ∀ i, (∀ x, x ∈ N → P (i + 1) x → P i x) → ∀ x, x ∈ N → P (i + 2) x → P (i + 1) x) (h0 : (∃ x, x ∈ N ∧ P 0 x) ∨ ∀ x, x ∈ N → P 1 x → P 0 x) {s x : Nat} (hx : x ∈ N) (hs : P s x) : P (N.length - 1) x := by
  have mono2 : ∀ j i x, P i x → P (i + j) x := by
    intro j
    induction j with
    | zero => exact fun i x h => h
    | succ j ih => exact fun i x h => mono _ _ (ih i x h)
  have stay : ∀ i, (∀ x, x ∈ N → P (i + 1) x → P i x) → ∀ j x, x ∈ N → P (i + j) x → P i x := by
    intro i hi j
    have all : ∀ j x, x ∈ N → P (i + j + 1) x → P (i + j) x := by
      intro j
      induction j with
      | zero => exact hi
      | succ j ih => exact prop _ ih
    induction j with
    | zero => exact fun x _ h => h
    | succ j ih => exact fun x hx h => ih x hx (all j x hx h)
  have grow : ∀ i, (∃ j, j < i ∧ ∀ x, x ∈ N → P (j + 1) x → P j x) ∨ i + 1 ≤ cN N (P i) ∨ (i = 0 ∧ ∀ x, x ∈ N → P 1 x → P 0 x) := by
    intro i
    induction i with
    | zero =>
      rcases h0 with ⟨x, hx, h⟩ | h
      · right; left
        have := cN_pos hx h
        omega
      · right; right
        exact ⟨rfl, h⟩
    | succ i ih =>
      rcases ih with ⟨j, hj, h⟩ | h | ⟨e, h⟩
      · left
        exact ⟨j, by omega, h⟩
      · by_cases q : ∀ x, x ∈ N → P (i + 1) x → P i x
        · left
          exact ⟨i, by omega, q⟩
        · right; left
          have : ∃ x, x ∈ N ∧ P (i + 1) x ∧ ¬ P i x := by
            refine Classical.byContradiction fun z => q fun x hx hp => Classical.byContradiction fun z2 => z ⟨x, hx, hp, z2⟩
          obtain ⟨y, y1, y2, y3⟩ := this
          have := cN_lt (N := N) (fun x _ h => mono i x h) y1 y2 y3
          omega
      · left
        subst e
        exact ⟨0, by omega, h⟩
  have hl : 0 < N.length := List.length_pos_of_mem hx
  have fin : ∃ j, j < N.length ∧ ∀ x, x ∈ N → P (j + 1) x → P j x := by
    rcases grow N.length with h | h | ⟨e, h⟩
    · exact h
    · have := cN_le N (P N.length)
      omega
    · omega
  obtain ⟨j, j1, j2⟩ := fin
  have a : P j x := by
    by_cases q : s ≤ j
    · have := mono2 (j - s) s x hs
      rwa [show s + (j - s) = j by omega] at this
    · apply stay j j2 (s - j) x hx
      rwa [show j + (s - j) = s by omega]
  have := mono2 (N.length - 1 - j) j x a
  rwa [show j + (N.length - 1 - j) = N.length - 1 by omega] at this
def SF (S : Nat → Nat → Prop) (G : Nat → Prop) : Nat → Nat → Prop
  | 0, x => G x
  | i + 1, x => SF S G i x ∨ ((∃ y, S x y) ∧ ∀ y, S x y → SF S G i y)
def RCH (S : Nat → Nat → Prop) (G : Nat → Prop) (x0 : Nat) : Nat → Nat → Prop
  | 0, y => y = x0
  | i + 1, y => RCH S G x0 i y ∨ ∃ x, RCH S G x0 i x ∧ ¬ G x ∧ S x y
/-- steps stay among the names -/
def CLO (N : List Nat) (S : Nat → Nat → Prop) : Prop := ∀ x, x ∈ N → ∀ y, S x y → y ∈ N
theorem SF_rest {N : List Nat} {S : Nat → Nat → Prop} {G : Nat → Prop} (hC : CLO N S) {s x : Nat} (hx : x ∈ N) (hs : SF S G s x) : SF S G (N.length - 1) x := by
  refine rounds (P := SF S G) (fun i x h => Or.inl h) (fun i hi x hx h => ?_) ?_ hx hs
  · rcases h with h | ⟨h1, h2⟩
    · exact h
    · exact Or.inr ⟨h1, fun y hy => hi y (hC x hx y hy) (h2 y hy)⟩
  · by_cases q : ∃ x, x ∈ N ∧ SF S G 0 x
    · exact Or.inl q
    · right
      rintro x hx (h | ⟨⟨y, hy⟩, h⟩)
      · exact h
      · exact absurd ⟨y, hC x hx y hy, h y hy⟩ q
theorem RCH_mem {N : List Nat} {S : Nat → Nat → Prop} {G : Nat → Prop} {x0 : Nat} (hC : CLO N S) (h0 : x0 ∈ N) : ∀ {i y : Nat}, RCH S G x0 i y → y ∈ N
  | 0, y, h => by
    have : y = x0 := h
    rw [this]
    exact h0
  | i + 1, y, h => by
    rcases h with h | ⟨x, h1, _, h3⟩
    · exact RCH_mem hC h0 h
    · exact hC x (RCH_mem hC h0 h1) y h3
theorem RCH_rest {N : List Nat} {S : Nat → Nat → Prop} {G : Nat → Prop} {x0 : Nat} (hC : CLO N S) (h0 : x0 ∈ N) {s x : Nat} (hs : RCH S G x0 s x) : RCH S G x0 (N.length - 1) x := by
  refine rounds (P := RCH S G x0) (fun i x h => Or.inl h) (fun i hi x hx h => ?_) (Or.inl ⟨x0, h0, rfl⟩) (RCH_mem hC h0 hs) hs
  rcases h with h | ⟨z, h1, h2, h3⟩
  · exact h
  · exact Or.inr ⟨z, hi z (RCH_mem hC h0 h1) h1, h2, h3⟩
theorem SF_mono {S : Nat → Nat → Prop} {G : Nat → Prop} (j : Nat) : ∀ {i x : Nat}, SF S G i x → SF S G (i + j) x := by
  induction j with
  | zero => exact fun h => h
  | succ j ih => exact fun h => Or.inl (ih h)
theorem SF_le {S : Nat → Nat → Prop} {G : Nat → Prop} {i j x : Nat} (h : i ≤ j) (hs : SF S G i x) : SF S G j x := by
  have := SF_mono (j - i) hs
  rwa [show i + (j - i) = j by omega] at this
theorem RCH_le {S : Nat → Nat → Prop} {G : Nat → Prop} {x0 : Nat} : ∀ {j i x : Nat}, i ≤ j → RCH S G x0 i x → RCH S G x0 j x
  | 0, i, x, h, hs => by
    rw [show i = 0 by omega] at hs
    exact hs
  | j + 1, i, x, h, hs => by
    by_cases q : i = j + 1
    · rw [q] at hs
      exact hs
    · exact Or.inl (RCH_le (by omega) hs)
def WK (S : Nat → Nat → Prop) (G : Nat → Prop) (x : Nat) : Prop := ∃ s, SF S G s x
def RR (S : Nat → Nat → Prop) (G : Nat → Prop) (x0 y : Nat) : Prop := ∃ s, RCH S G x0 s y
/-- at rest: no round adds -/
theorem SF_stop {N : List Nat} {S : Nat → Nat → Prop} {G : Nat → Prop} (hC : CLO N S) {m : Nat} (h : ∀ x, x ∈ N → SF S G (m + 1) x → SF S G m x) : ∀ s x, x ∈ N → SF S G s x → SF S G m x
  | 0, x, _, hs => SF_le (by omega) hs
  | s + 1, x, hx, hs => by
    rcases hs with hs | ⟨h1, h2⟩
    · exact SF_stop hC h s x hx hs
    · exact h x hx (Or.inr ⟨h1, fun y hy => SF_stop hC h s y (hC x hx y hy) (h2 y hy)⟩)
theorem RCH_stop {S : Nat → Nat → Prop} {G : Nat → Prop} {x0 m : Nat} (h : ∀ x, RCH S G x0 (m + 1) x → RCH S G x0 m x) : ∀ s x, RCH S G x0 s x → RCH S G x0 m x
  | 0, x, hs => RCH_le (by omega) hs
  | s + 1, x, hs => by
    rcases hs with hs | ⟨z, h1, h2, h3⟩
    · exact RCH_stop h s x hs
    · exact h x (Or.inr ⟨z, RCH_stop h s z h1, h2, h3⟩)
