/-! findMoves, wakeSome, wakeOne, numbersOfNext, linkBy -/
theorem goes_D3 {n : Nat} {B : BOOK} {c x : Nat} (h : goesP n B c x = true) : D3 (mv n B c x) ∧ 0 < dg n c x := by
  unfold goesP at h
  simp only [Bool.and_eq_true, decide_eq_true_eq] at h
  refine ⟨?_, h.1⟩
  unfold D3
  rcases mv_cases n B c x with q | q | q | q
  · exact absurd q h.2
  · exact Or.inl q
  · exact Or.inr (Or.inl q)
  · exact Or.inr (Or.inr q)
def UPn (n : Nat) (B : BOOK) (c x : Nat) : Int32 := if goesP n B c x = true then upV n x (mv n B c x) else 0
def DNn (n : Nat) (B : BOOK) (c x : Nat) : Int32 := if goesP n B c x = true then dnV n x (mv n B c x) else 0
theorem findM_L {n c k : Nat} {B : BOOK} {rows : Nat → Int64} {acts : Nat → Int32} {size : Int32} (hn : RG n) (hc : CR n c k) (hB : BKok B) (hX : BKX size rows acts B) : ∀ (e i f : Nat) (ups downs : Nat → Int32), i + e = n → e < f → (∀ x, x < i → ups x = UPn n B c x ∧ downs x = DNn n B c x) → ∃ ups' downs', F_X6_findMoves_L1 (nI c) (nI n) size rows acts f (nI i) ups downs = some (ups', downs') ∧ ∀ x, x < n → ups' x = UPn n B c x ∧ downs' x = DNn n B c x
  | 0, i, f + 1, ups, downs, hi, _, h => by
    have h9 := hn.2
    rw [F_X6_findMoves_L1.eq_2, if_pos (nI_le (by omega) (by omega))]
    exact ⟨ups, downs, rfl, fun x hx => h x (by omega)⟩
  | e + 1, i, f + 1, ups, downs, hi, hf, h => by
    have h9 := hn.2
    have h8 := dg_lt n c i
    have hi2 : i < n := by omega
    rw [F_X6_findMoves_L1.eq_2, if_neg (nI_ge (by omega) (by omega)), show (9 : Int32) = nI 9 from rfl, ifLe (by omega) (by omega), if_neg (by omega), x_manyAt hn hc.1 hi2]
    (try simp only [Option.bind_some])
    rw [ifE0 (by omega), x_moveAt hn hc hi2 hB hX]
    (try simp only [Option.bind_some])
    have s1 : F_X3_shift (nI i) 1 (nI n) = some (SH n i 1) := x_shift hn hi2 (Or.inl ⟨rfl, rfl⟩)
    have s2 : F_X3_shift (nI i) (-1) (nI n) = some (SH n i (n - 1)) := x_shift hn hi2 (Or.inr ⟨rfl, rfl⟩)
    have go : ∀ a b : Int32, a = UPn n B c i → b = DNn n B c i → ∃ ups' downs', F_X6_findMoves_L1 (nI c) (nI n) size rows acts f (nI (i + 1)) (upd ups i a) (upd downs i b) = some (ups', downs') ∧ ∀ x, x < n → ups' x = UPn n B c x ∧ downs' x = DNn n B c x := by
      intro a b ha hb
      refine findM_L hn hc hB hX e (i + 1) f _ _ (by omega) (by omega) (fun x hx => ?_)
      by_cases q : x = i
      · subst q
        rw [pk_us, pk_us]
        exact ⟨ha, hb⟩
      · rw [pk_un q, pk_un q]
        exact h x (by omega)
    rw [s1, s2]
    (try simp only [Option.bind_some])
    by_cases hg : goesP n B c i = true
    · have hg2 := (goes_D3 hg).2
      have hU : UPn n B c i = upV n i (mv n B c i) := by unfold UPn; rw [if_pos hg]
      have hD : DNn n B c i = dnV n i (mv n B c i) := by unfold DNn; rw [if_pos hg]
      rw [if_neg (show ¬ dg n c i = 0 by omega)]
      (try simp only [Option.bind_some])
      rcases (goes_D3 hg).1 with q | q | q
      · rw [q] at hU hD ⊢
        rw [if_pos rfl, if_neg (by decide), if_neg (by decide)]
        (try simp only [Option.bind_some])
        rw [gdT (inbI (by omega) (by omega)), gdT (inbI (by omega) (by omega)), nI_clamp (by omega), nI_1]
        exact go _ _ (by rw [hU]; rfl) (by rw [hD]; rfl)
      · rw [q] at hU hD ⊢
        rw [if_neg (by decide), if_pos rfl, if_neg (by decide), if_pos rfl]
        (try simp only [Option.bind_some])
        rw [gdT (inbI (by omega) (by omega)), gdT (inbI (by omega) (by omega)), nI_clamp (by omega), nI_1]
        exact go _ _ (by rw [hU]; rfl) (by rw [hD]; rfl)
      · rw [q] at hU hD ⊢
        rw [if_neg (by decide), if_neg (by decide), if_pos rfl]
        (try simp only [Option.bind_some])
        rw [gdT (inbI (by omega) (by omega)), gdT (inbI (by omega) (by omega)), nI_clamp (by omega), nI_1]
        exact go _ _ (by rw [hU]; rfl) (by rw [hD]; rfl)
    · have hU : UPn n B c i = 0 := by unfold UPn; rw [if_neg hg]
      have hD : DNn n B c i = 0 := by unfold DNn; rw [if_neg hg]
      unfold goesP at hg
      simp only [Bool.and_eq_true, decide_eq_true_eq, not_and, Decidable.not_not] at hg
      have hz : (if dg n c i = 0 then some (0 : Int32) else some (mv n B c i)) = some 0 := by
        by_cases q : dg n c i = 0
        · rw [if_pos q]
        · rw [if_neg q, hg (by omega)]
      rw [hz]
      (try simp only [Option.bind_some])
      rw [if_neg (by decide), if_neg (by decide), if_neg (by decide), if_neg (by decide)]
      (try simp only [Option.bind_some])
      rw [gdT (inbI (by omega) (by omega)), gdT (inbI (by omega) (by omega)), nI_clamp (by omega), nI_1]
      exact go _ _ hU.symm hD.symm
theorem x_findMoves {n c k : Nat} {B : BOOK} {rows : Nat → Int64} {acts : Nat → Int32} {size : Int32} (hn : RG n) (hc : CR n c k) (hB : BKok B) (hX : BKX size rows acts B) (ups downs : Nat → Int32) : ∃ ups' downs', F_X6_findMoves (nI c) (nI n) size ups downs rows acts = some (ups', downs') ∧ ∀ x, x < n → ups' x = UPn n B c x ∧ downs' x = DNn n B c x := by
  obtain ⟨u, d, h1, h2⟩ := findM_L hn hc hB hX n 0 FU ups downs (by omega) (by have := hn.2; unfold FU; omega) (fun x hx => absurd hx (by omega))
  unfold F_X6_findMoves
  rw [show nI 0 = (0 : Int32) from rfl] at h1
  rw [h1]
  exact ⟨u, d, rfl, h2⟩
/-- the robots from place i on -/
def RBs (n : Nat) (B : BOOK) (c : Nat) : Nat → Nat → List (Nat × Int32)
  | _, 0 => []
  | i, e + 1 => blk n B c i ++ RBs n B c (i + 1) e
theorem RBs_p (n : Nat) (B : BOOK) (c : Nat) : ∀ e i, RBp n B c i ++ RBs n B c i e = RBp n B c (i + e)
  | 0, i => by
    unfold RBs
    rw [List.append_nil]
    rfl
  | e + 1, i => by
    unfold RBs
    rw [← List.append_assoc]
    have := RBs_p n B c e (i + 1)
    rw [show i + 1 + e = i + (e + 1) by omega] at this
    exact this
theorem RBs_0 (n : Nat) (B : BOOK) (c : Nat) : RBs n B c 0 n = RB n B c := by
  have := RBs_p n B c n 0
  rw [Nat.zero_add] at this
  exact this
theorem goes_z {n : Nat} {B : BOOK} {c x : Nat} {ups downs : Nat → Int32} (hn : RG n) (hx : x < n) (hu : ups x = UPn n B c x) (hd : downs x = DNn n B c x) : (if ups x = 0 then (if downs x = 0 then some (0 : Int32) else some 1) else some 1) = some (if goesP n B c x = true then 1 else 0) := by
  obtain ⟨s1, s2⟩ := SH_ne hn hx
  rw [hu, hd]
  unfold UPn DNn
  by_cases hg : goesP n B c x = true
  · rw [if_pos hg, if_pos hg, if_pos hg]
    rcases (goes_D3 hg).1 with q | q | q
    · rw [q, show upV n x 1 = SH n x 1 from rfl, if_neg s1]
    · rw [q, show upV n x 2 = SH n x 1 from rfl, if_neg s1]
    · rw [q, show upV n x (-1) = 0 from rfl, if_pos rfl, show dnV n x (-1) = SH n x (n - 1) from rfl, if_neg s2]
  · rw [if_neg hg, if_neg hg, if_neg hg, if_pos rfl, if_pos rfl]
theorem wakeS_L2 {n k c : Nat} {B : BOOK} {ups downs : Nat → Int32} (all : Bool) (hn : RG n) (hc : CR n c k) (hu : ∀ x, x < n → ups x = UPn n B c x ∧ downs x = DNn n B c x) : ∀ (e i f : Nat) (z : Int32) (L : List Nat) (next : Nat → Int32), i + e = n → e < f → NA next L → (∀ y, y ∈ L → OKc n k (RBs n B c i e) y) → 3 ^ (RBs n B c i e).length * L.length ≤ 81 → ∃ next', F_X6_wakeSome_L2 (nI c) (zz all) (nI n) ups downs f z (nI i) (nI L.length) next = some (if RBs n B c i e = [] then z else 1, nI ((RBs n B c i e).foldl (stp1 n all) L).length, next') ∧ NA next' ((RBs n B c i e).foldl (stp1 n all) L)
  | 0, i, f + 1, z, L, next, hi, _, hN, hO, _ => by
    have h9 := hn.2
    rw [F_X6_wakeSome_L2.eq_2, if_pos (nI_le (by omega) (by omega))]
    exact ⟨next, rfl, hN⟩
  | e + 1, i, f + 1, z, L, next, hi, hf, hN, hO, h81 => by
    have h9 := hn.2
    have h8 := dg_lt n c i
    have hi2 : i < n := by omega
    obtain ⟨u1, u2⟩ := hu i hi2
    rw [F_X6_wakeSome_L2.eq_2, if_neg (nI_ge (by omega) (by omega)), show (9 : Int32) = nI 9 from rfl, ifLe (by omega) (by omega), if_neg (by omega), gdT (inbI (by omega) (by omega)), gdT (inbI (by omega) (by omega)), nI_clamp (by omega), goes_z hn hi2 u1 u2, x_manyAt hn hc.1 hi2]
    (try simp only [Option.bind_some])
    have er : RBs n B c i (e + 1) = blk n B c i ++ RBs n B c (i + 1) e := rfl
    rw [er] at hO h81 ⊢
    by_cases hg : goesP n B c i = true
    · obtain ⟨d3, d0⟩ := goes_D3 hg
      have eb : blk n B c i = List.replicate (dg n c i) (i, mv n B c i) := by unfold blk; rw [if_pos hg]
      rw [eb] at hO h81 ⊢
      rw [if_pos hg, if_neg (by decide)]
      (try simp only [Option.bind_some])
      rw [List.length_append, List.length_replicate, Nat.pow_add, Nat.mul_assoc] at h81
      have hp1 : 0 < 3 ^ (RBs n B c (i + 1) e).length := Nat.pow_pos (by decide)
      have h81a : 3 ^ dg n c i * L.length ≤ 81 := by
        refine Nat.le_trans (Nat.mul_le_mul_left _ ?_) h81
        exact Nat.le_mul_of_pos_left _ hp1
      obtain ⟨next', a1, a2, a3⟩ := wakeS_L11 (ups := ups) (downs := downs) all hn d3 hi2 (show dg n c i < 8 by omega) (by rw [u1]; unfold UPn; rw [if_pos hg]) (by rw [u2]; unfold DNn; rw [if_pos hg]) (RBs n B c (i + 1) e) (dg n c i) 0 FU z L next (by omega) (by unfold FU; omega) hN hO h81a
      rw [show nI 0 = (0 : Int32) from rfl] at a1
      rw [a1]
      (try simp only [Option.bind_some])
      rw [nI_1, if_neg (show ¬ dg n c i = 0 by omega)]
      have hlen := fold_len n all (List.replicate (dg n c i) (i, mv n B c i)) L
      rw [List.length_replicate] at hlen
      have h81b : 3 ^ (RBs n B c (i + 1) e).length * ((List.replicate (dg n c i) (i, mv n B c i)).foldl (stp1 n all) L).length ≤ 81 := by
        refine Nat.le_trans (Nat.mul_le_mul_left _ hlen) ?_
        rw [Nat.mul_left_comm]
        exact h81
      obtain ⟨n2, b1, b2⟩ := wakeS_L2 all hn hc hu e (i + 1) f 1 _ next' (by omega) (by omega) a2 a3 h81b
      rw [b1, List.foldl_append]
      refine ⟨n2, ?_, b2⟩
      have en : ¬ List.replicate (dg n c i) (i, mv n B c i) ++ RBs n B c (i + 1) e = [] := by
        intro q
        have := congrArg List.length q
        rw [List.length_append, List.length_replicate, List.length_nil] at this
        omega
      rw [if_neg en]
      split <;> rfl
    · have eb : blk n B c i = [] := by unfold blk; rw [if_neg hg]
      rw [eb, List.nil_append] at hO h81 ⊢
      rw [if_neg hg, if_pos rfl]
      (try simp only [Option.bind_some])
      rw [show FU = 999999 + 1 from rfl, F_X6_wakeSome_L11.eq_2, if_pos (by decide)]
      (try simp only [Option.bind_some])
      rw [nI_1]
      exact wakeS_L2 all hn hc hu e (i + 1) f z L next (by omega) (by omega) hN hO h81
def WL (n : Nat) (all : Bool) (R : List (Nat × Int32)) (c : Nat) : List Nat := if all = true ∧ R ≠ [] then R.foldl (stp1 n all) [c] else (R.foldl (stp1 n all) [c]).drop 1
theorem x_wakeSome {n k c : Nat} {B : BOOK} {ups downs next : Nat → Int32} (all : Bool) (hn : RG n) (hc : CR n c k) (hu : ∀ x, x < n → ups x = UPn n B c x ∧ downs x = DNn n B c x) : ∃ next', F_X6_wakeSome (nI c) (zz all) (nI n) 0 ups downs next = some (nI (WL n all (RB n B c) c).length, next') ∧ NA next' (WL n all (RB n B c) c) ∧ (WL n all (RB n B c) c).length ≤ 81 := by
  have h9 := hn.2
  have hR4 := RB_len hc B
  have hN0 : NA next [] := fun i hi => absurd hi (by simp)
  obtain ⟨n1, a1, a2⟩ := x_addNext hN0 (by decide) c
  rw [List.nil_append] at a1 a2
  have hp : 3 ^ (RBs n B c 0 n).length * [c].length ≤ 81 := by
    rw [RBs_0, List.length_singleton, Nat.mul_one]
    exact Nat.le_trans (Nat.pow_le_pow_right (by decide) hR4) (by decide)
  obtain ⟨n2, b1, b2⟩ := wakeS_L2 all hn hc hu n 0 FU 0 [c] n1 (by omega) (by unfold FU; omega) a2 (fun y hy => by
    rw [RBs_0]
    rw [List.mem_singleton.mp hy]
    exact RB_ok hc B) hp
  have hl := fold_len n all (RBs n B c 0 n) [c]
  rw [RBs_0] at b1 b2 hp hl
  unfold F_X6_wakeSome
  rw [show nI ([] : List Nat).length = (0 : Int32) from rfl] at a1
  rw [a1]
  (try simp only [Option.bind_some])
  rw [show nI 0 = (0 : Int32) from rfl] at b1
  rw [b1]
  (try simp only [Option.bind_some])
  have hl1 : 1 ≤ ((RB n B c).foldl (stp1 n all) [c]).length ∨ (all = true ∧ RB n B c ≠ []) := by
    cases all with
    | false =>
      left
      obtain ⟨T', e1, _⟩ := foldS hn (R := RB n B c) (T := []) (c := c) (y := 0)
      rw [e1]
      simp
    | true =>
      by_cases q : RB n B c = []
      · left
        rw [q]
        simp
      · right
        exact ⟨rfl, q⟩
  by_cases q : all = true ∧ RB n B c ≠ []
  · have eW : WL n all (RB n B c) c = (RB n B c).foldl (stp1 n all) [c] := by unfold WL; rw [if_pos q]
    rw [eW, if_neg q.2, if_neg (by rw [q.1]; decide), if_neg (by decide)]
    exact ⟨n2, rfl, b2, by omega⟩
  · have eW : WL n all (RB n B c) c = ((RB n B c).foldl (stp1 n all) [c]).drop 1 := by unfold WL; rw [if_neg q]
    have hl2 : 1 ≤ ((RB n B c).foldl (stp1 n all) [c]).length := by
      rcases hl1 with h | h
      · exact h
      · exact absurd h q
    obtain ⟨n3, d1, d2⟩ := x_drop (a := 1) (by omega) hl2 b2
    rw [show nI 1 = (1 : Int32) from rfl] at d1
    rw [eW, d1]
    (try simp only [Option.bind_some])
    refine ⟨n3, ?_, d2, by rw [List.length_drop]; omega⟩
    cases all with
    | false => rw [if_pos (by rfl)]
    | true =>
      have q2 : RB n B c = [] := by
        by_cases q3 : RB n B c = []
        · exact q3
        · exact absurd ⟨rfl, q3⟩ q
      rw [if_neg (by decide), if_pos q2, if_pos rfl]
theorem WL_NX {n c y : Nat} {R : List (Nat × Int32)} (hn : RG n) (all : Bool) : y ∈ WL n all R c ↔ NX n R (if all = true then 0 else 2) c y := by
  cases all with
  | false =>
    rw [if_neg (by decide)]
    unfold WL NX
    rw [if_neg (by simp), if_neg (by decide), if_neg (by decide)]
    exact foldT hn
  | true =>
    rw [if_pos rfl]
    unfold WL NX
    rw [if_pos rfl]
    by_cases q : R = []
    · subst q
      rw [if_neg (by simp)]
      simp
    · rw [if_pos ⟨rfl, q⟩, foldA hn]
      constructor
      · rintro ⟨c0, h1, g, h2, h3⟩
        rw [List.mem_singleton.mp h1] at h3
        exact ⟨q, g, h2, h3⟩
      · rintro ⟨_, g, h2, h3⟩
        exact ⟨c, List.mem_singleton.mpr rfl, g, h2, h3⟩
/-! one -/
def WO (n : Nat) (B : BOOK) (c : Nat) : Nat → List Nat
  | 0 => []
  | i + 1 => WO n B c i ++ (if goesP n B c i = true then fs n (i, mv n B c i) c else [])
theorem WO_len (n : Nat) (B : BOOK) (c : Nat) : ∀ i, (WO n B c i).length ≤ 2 * i
  | 0 => by simp [WO]
  | i + 1 => by
    have := WO_len n B c i
    unfold WO
    rw [List.length_append]
    split
    · unfold fs
      rw [List.length_map]
      have := opts_len n (i, mv n B c i).2
      omega
    · simp
      omega
theorem WO_mem {n : Nat} {B : BOOK} {c y : Nat} : ∀ {i : Nat}, y ∈ WO n B c i ↔ ∃ x, x < i ∧ goesP n B c x = true ∧ ∃ v, v ∈ opts n (mv n B c x) ∧ y = mv1 n c x v
  | 0 => by simp [WO]
  | i + 1 => by
    unfold WO
    rw [List.mem_append, WO_mem (i := i)]
    constructor
    · rintro (⟨x, h1, h2⟩ | h)
      · exact ⟨x, by omega, h2⟩
      · split at h
        · rename_i hg
          unfold fs at h
          obtain ⟨v, h1, h2⟩ := List.mem_map.mp h
          exact ⟨i, by omega, hg, v, h1, h2.symm⟩
        · exact absurd h (by simp)
    · rintro ⟨x, h1, h2, v, h3, h4⟩
      by_cases e : x = i
      · subst e
        right
        rw [if_pos h2]
        unfold fs
        exact List.mem_map.mpr ⟨v, h3, h4.symm⟩
      · left
        exact ⟨x, by omega, h2, v, h3, h4⟩
theorem wakeO_L {n k c : Nat} {B : BOOK} {ups downs : Nat → Int32} (hn : RG n) (hc : CR n c k) (hu : ∀ x, x < n → ups x = UPn n B c x ∧ downs x = DNn n B c x) : ∀ (e i f : Nat) (next : Nat → Int32), i + e = n → e < f → NA next (WO n B c i) → ∃ next', F_X6_wakeOne_L1 (nI c) (nI n) ups downs f (nI i) (nI (WO n B c i).length) next = some (nI (WO n B c n).length, next') ∧ NA next' (WO n B c n)
  | 0, i, f + 1, next, hi, _, hN => by
    have h9 := hn.2
    rw [F_X6_wakeOne_L1.eq_2, if_pos (nI_le (by omega) (by omega))]
    have e : i = n := by omega
    subst e
    exact ⟨next, rfl, hN⟩
  | e + 1, i, f + 1, next, hi, hf, hN => by
    have h9 := hn.2
    have hi2 : i < n := by omega
    have hl := WO_len n B c (i + 1)
    obtain ⟨u1, u2⟩ := hu i hi2
    rw [F_X6_wakeOne_L1.eq_2, if_neg (nI_ge (by omega) (by omega)), show (9 : Int32) = nI 9 from rfl, ifLe (by omega) (by omega), if_neg (by omega), gdT (inbI (by omega) (by omega)), gdT (inbI (by omega) (by omega)), nI_clamp (by omega), u1, u2]
    have er : WO n B c (i + 1) = WO n B c i ++ (if goesP n B c i = true then fs n (i, mv n B c i) c else []) := rfl
    by_cases hg : goesP n B c i = true
    · obtain ⟨d3, d0⟩ := goes_D3 hg
      rw [if_pos hg] at er
      unfold UPn DNn
      rw [if_pos hg, if_pos hg]
      obtain ⟨n1, a1, a2⟩ := x_addMoved hn hc hi2 (by omega) d3 hN (by rw [← er]; omega)
      rw [a1]
      (try simp only [Option.bind_some])
      rw [nI_1]
      rw [← er] at a2 ⊢
      exact wakeO_L hn hc hu e (i + 1) f n1 (by omega) (by omega) a2
    · rw [if_neg hg, List.append_nil] at er
      unfold UPn DNn
      rw [if_neg hg, if_neg hg]
      unfold F_X6_addMoved
      rw [if_pos rfl]
      (try simp only [Option.bind_some])
      rw [if_pos (by trivial)]
      (try simp only [Option.bind_some])
      rw [nI_1]
      rw [← er] at hN ⊢
      exact wakeO_L hn hc hu e (i + 1) f next (by omega) (by omega) hN
theorem x_wakeOne {n k c : Nat} {B : BOOK} {ups downs next : Nat → Int32} (hn : RG n) (hc : CR n c k) (hu : ∀ x, x < n → ups x = UPn n B c x ∧ downs x = DNn n B c x) : ∃ next', F_X6_wakeOne (nI c) (nI n) 0 ups downs next = some (nI (WO n B c n).length, next') ∧ NA next' (WO n B c n) ∧ (WO n B c n).length ≤ 81 := by
  have h9 := hn.2
  have hl := WO_len n B c n
  obtain ⟨n1, a1, a2⟩ := wakeO_L hn hc hu n 0 FU next (by omega) (by unfold FU; omega) (fun i hi => absurd hi (by simp [WO]))
  unfold F_X6_wakeOne
  rw [show nI (WO n B c 0).length = (0 : Int32) from rfl, show nI 0 = (0 : Int32) from rfl] at a1
  rw [a1]
  exact ⟨n1, rfl, a2, by omega⟩
theorem WO_NX {n c y : Nat} {B : BOOK} : y ∈ WO n B c n ↔ NX n (RB n B c) 1 c y := by
  unfold NX
  rw [if_neg (by decide), if_pos rfl, WO_mem]
  constructor
  · rintro ⟨x, h1, h2, v, h3, h4⟩
    exact ⟨(x, mv n B c x), RBp_has h2 h1, v, h3, h4⟩
  · rintro ⟨r, hr, v, h3, h4⟩
    obtain ⟨a, b, d⟩ := RBp_mem hr
    rw [d] at h3
    exact ⟨r.1, a, b, v, h3, h4⟩
