/-! robots that go, one by one -/
def mv1 (n c p w : Nat) : Nat := pkR (mvF (dg n c) p ((p + w) % n) 1) n
def opts (n : Nat) (d : Int32) : List Nat := if d = 2 then [1, n - 1] else if d = -1 then [n - 1] else [1]
def cnt (R : List (Nat × Int32)) (x : Nat) : Nat := R.countP (fun r => r.1 == x)
def OKc (n k : Nat) (R : List (Nat × Int32)) (c : Nat) : Prop := CR n c k ∧ (∀ r, r ∈ R → r.1 < n) ∧ ∀ x, x < n → cnt R x ≤ dg n c x
theorem mv1_CR {n c k p : Nat} (hn : RG n) (hc : CR n c k) (hp : p < n) (h1 : 1 ≤ dg n c p) (w : Nat) : CR n (mv1 n c p w) k ∧ ∀ x, x < n → mvF (dg n c) p ((p + w) % n) 1 x < 8 := by
  have h0 : 0 < n := by have := hn.1; omega
  have hs := mvF_sm (h := dg n c) hp (Nat.mod_lt (p + w) h0) (show 1 ≤ dg n c p by omega)
  have hlt : ∀ x, x < n → mvF (dg n c) p ((p + w) % n) 1 x < 8 := fun x hx => by
    have a := sm_le (h := mvF (dg n c) p ((p + w) % n) 1) hx
    rw [hs, hc.2.1] at a
    have := hc.2.2
    omega
  refine ⟨⟨pkR_lt hlt, ?_, hc.2.2⟩, hlt⟩
  unfold mv1
  rw [sm_congr (fun x hx => dg_pkR hlt hx), hs]
  exact hc.2.1
def SH (n p w : Nat) : Int32 := nI (wt n ((p + w) % n)) - nI (wt n p)
theorem mv1_I {n c k p : Nat} (hn : RG n) (hc : CR n c k) (hp : p < n) (h1 : 1 ≤ dg n c p) (w : Nat) : nI c + SH n p w = nI (mv1 n c p w) := by
  have h0 : 0 < n := by have := hn.1; omega
  have e := mvF_I (h := dg n c) (n := n) (a := p) (b := (p + w) % n) (m := 1) hp (Nat.mod_lt _ h0) h1
  rw [pkR_dg hc.1, show nI 1 * (nI (wt n ((p + w) % n)) - nI (wt n p)) = nI (wt n ((p + w) % n)) - nI (wt n p) from Int32.one_mul _] at e
  exact e
theorem cnt_cons (r : Nat × Int32) (R : List (Nat × Int32)) (x : Nat) : cnt (r :: R) x = cnt R x + (if r.1 = x then 1 else 0) := by
  unfold cnt
  rw [List.countP_cons]
  simp only [beq_iff_eq]
theorem OKc.tail {n k c : Nat} {r : Nat × Int32} {R : List (Nat × Int32)} (h : OKc n k (r :: R) c) : OKc n k R c := by
  refine ⟨h.1, fun q hq => h.2.1 q (List.mem_cons_of_mem _ hq), fun x hx => ?_⟩
  have := h.2.2 x hx
  rw [cnt_cons] at this
  omega
theorem OKc.hd {n k c : Nat} {r : Nat × Int32} {R : List (Nat × Int32)} (h : OKc n k (r :: R) c) : r.1 < n ∧ 1 ≤ dg n c r.1 := by
  have h1 := h.2.1 r (List.mem_cons_self ..)
  have := h.2.2 r.1 h1
  rw [cnt_cons, if_pos rfl] at this
  exact ⟨h1, by omega⟩
theorem OKc.go {n k c : Nat} {r : Nat × Int32} {R : List (Nat × Int32)} (hn : RG n) (h : OKc n k (r :: R) c) (w : Nat) : OKc n k R (mv1 n c r.1 w) := by
  obtain ⟨hp, h1⟩ := h.hd
  obtain ⟨a1, a2⟩ := mv1_CR hn h.1 hp h1 w
  refine ⟨a1, h.tail.2.1, fun x hx => ?_⟩
  have hh := h.2.2 x hx
  rw [cnt_cons] at hh
  unfold mv1
  rw [dg_pkR a2 hx]
  by_cases e : x = r.1
  · rw [if_pos e.symm] at hh
    subst e
    unfold mvF
    by_cases q : r.1 = (r.1 + w) % n
    · rw [← q, updN_s, updN_s]
      omega
    · rw [updN_n q, updN_s]
      omega
  · have := mvF_ge (h := dg n c) (a := r.1) (b := (r.1 + w) % n) (m := 1) e
    omega
/-- choices of the robots, in their order: 0 stays -/
def ap1 (n c : Nat) (r : Nat × Int32) (v : Nat) : Nat := if v = 0 then c else mv1 n c r.1 v
def ap (n : Nat) : List (Nat × Int32) → List Nat → Nat → Nat
  | r :: R, v :: g, c => ap n R g (ap1 n c r v)
  | _, _, c => c
def val (n : Nat) (all : Bool) : List (Nat × Int32) → List Nat → Prop
  | [], [] => True
  | r :: R, v :: g => (v ∈ opts n r.2 ∨ (all = false ∧ v = 0)) ∧ val n all R g
  | _, _ => False
theorem OKc_ap1 {n k c : Nat} {r : Nat × Int32} {R : List (Nat × Int32)} (hn : RG n) (h : OKc n k (r :: R) c) (v : Nat) : OKc n k R (ap1 n c r v) := by
  unfold ap1
  split
  · exact h.tail
  · exact h.go hn v
theorem ap_CR {n k : Nat} (hn : RG n) : ∀ {R : List (Nat × Int32)} {g : List Nat} {c : Nat}, OKc n k R c → CR n (ap n R g c) k
  | [], _, _, h => by unfold ap; exact h.1
  | _ :: _, [], _, h => by unfold ap; exact h.1
  | r :: R, v :: g, c, h => by
    unfold ap
    exact ap_CR hn (OKc_ap1 hn h v)
theorem opts_ne {n v : Nat} {d : Int32} (hn : RG n) (h : v ∈ opts n d) : v ≠ 0 ∧ WY n v := by
  have := hn.1
  unfold opts at h
  unfold WY
  repeat' split at h
  all_goals simp at h
  · rcases h with h | h <;> omega
  · omega
  · omega
theorem opts_len (n : Nat) (d : Int32) : (opts n d).length ≤ 2 := by
  unfold opts
  repeat' split
  all_goals simp
/-- one robot more: what the class makes of its list -/
def fs (n : Nat) (r : Nat × Int32) (c : Nat) : List Nat := (opts n r.2).map (mv1 n c r.1)
def stp1 (n : Nat) (all : Bool) (L : List Nat) (r : Nat × Int32) : List Nat := (if all = true then [] else L) ++ L.flatMap (fs n r)
theorem fs_mem {n c y : Nat} {r : Nat × Int32} (hn : RG n) : y ∈ fs n r c ↔ ∃ v, v ∈ opts n r.2 ∧ y = ap1 n c r v := by
  unfold fs
  rw [List.mem_map]
  constructor
  · rintro ⟨v, h1, h2⟩
    exact ⟨v, h1, by unfold ap1; rw [if_neg (opts_ne hn h1).1, h2]⟩
  · rintro ⟨v, h1, h2⟩
    exact ⟨v, h1, by unfold ap1 at h2; rw [if_neg (opts_ne hn h1).1] at h2; exact h2.symm⟩
theorem stp1_mem {n y : Nat} {all : Bool} {L : List Nat} {r : Nat × Int32} (hn : RG n) : y ∈ stp1 n all L r ↔ ∃ c, c ∈ L ∧ ∃ v, (v ∈ opts n r.2 ∨ (all = false ∧ v = 0)) ∧ y = ap1 n c r v := by
  unfold stp1
  rw [List.mem_append, List.mem_flatMap]
  constructor
  · rintro (h | ⟨c, h1, h2⟩)
    · cases all with
      | true => simp at h
      | false =>
        refine ⟨y, by simpa using h, 0, Or.inr ⟨rfl, rfl⟩, ?_⟩
        unfold ap1
        rw [if_pos rfl]
    · obtain ⟨v, h3, h4⟩ := (fs_mem hn).mp h2
      exact ⟨c, h1, v, Or.inl h3, h4⟩
  · rintro ⟨c, h1, v, h2 | ⟨h2, h3⟩, h4⟩
    · exact Or.inr ⟨c, h1, (fs_mem hn).mpr ⟨v, h2, h4⟩⟩
    · left
      subst h3
      unfold ap1 at h4
      rw [if_pos rfl] at h4
      rw [h2, h4]
      simpa using h1
theorem foldA {n : Nat} {all : Bool} (hn : RG n) : ∀ {R : List (Nat × Int32)} {L : List Nat} {y : Nat}, y ∈ R.foldl (stp1 n all) L ↔ ∃ c, c ∈ L ∧ ∃ g, val n all R g ∧ y = ap n R g c
  | [], L, y => by
    constructor
    · intro h
      exact ⟨y, h, [], trivial, rfl⟩
    · rintro ⟨c, h, g, h1, h2⟩
      unfold ap at h2
      rw [h2]
      exact h
  | r :: R, L, y => by
    rw [List.foldl_cons, foldA hn (R := R)]
    constructor
    · rintro ⟨c, h1, g, h2, h3⟩
      obtain ⟨c0, h4, v, h5, h6⟩ := (stp1_mem hn).mp h1
      refine ⟨c0, h4, v :: g, ⟨h5, h2⟩, ?_⟩
      unfold ap
      rw [← h6]
      exact h3
    · rintro ⟨c, h1, g, h2, h3⟩
      cases g with
      | nil => exact absurd h2 (by unfold val; exact id)
      | cons v g =>
        unfold val at h2
        unfold ap at h3
        exact ⟨_, (stp1_mem hn).mpr ⟨c, h1, v, h2.1, rfl⟩, g, h2.2, h3⟩
theorem foldS {n : Nat} (hn : RG n) : ∀ {R : List (Nat × Int32)} {T : List Nat} {c y : Nat}, ∃ T', R.foldl (stp1 n false) (c :: T) = c :: T' ∧ (y ∈ T' ↔ (∃ g, val n false R g ∧ (∃ v, v ∈ g ∧ v ≠ 0) ∧ y = ap n R g c) ∨ ∃ c0, c0 ∈ T ∧ ∃ g, val n false R g ∧ y = ap n R g c0)
  | [], T, c, y => by
    refine ⟨T, rfl, ?_⟩
    constructor
    · intro h
      exact Or.inr ⟨y, h, [], trivial, rfl⟩
    · rintro (⟨g, h1, ⟨v, h2, h3⟩, h4⟩ | ⟨c0, h, g, h1, h2⟩)
      · cases g with
        | nil => exact absurd h2 (by simp)
        | cons v g => exact absurd h1 (by unfold val; exact id)
      · unfold ap at h2
        rw [h2]
        exact h
  | r :: R, T, c, y => by
    obtain ⟨T', e1, e2⟩ := foldS hn (R := R) (T := T ++ (c :: T).flatMap (fs n r)) (c := c) (y := y)
    refine ⟨T', ?_, ?_⟩
    · rw [List.foldl_cons, ← e1]
      rfl
    · rw [e2]
      constructor
      · rintro (⟨g, h1, ⟨v, h2, h3⟩, h4⟩ | ⟨c0, h, g, h1, h2⟩)
        · left
          refine ⟨0 :: g, ⟨Or.inr ⟨rfl, rfl⟩, h1⟩, ⟨v, List.mem_cons_of_mem _ h2, h3⟩, ?_⟩
          unfold ap ap1
          rw [if_pos rfl]
          exact h4
        · rcases List.mem_append.mp h with h | h
          · right
            refine ⟨c0, h, 0 :: g, ⟨Or.inr ⟨rfl, rfl⟩, h1⟩, ?_⟩
            unfold ap ap1
            rw [if_pos rfl]
            exact h2
          · obtain ⟨c1, h3, h4⟩ := List.mem_flatMap.mp h
            obtain ⟨v, h5, h6⟩ := (fs_mem hn).mp h4
            have hy : y = ap n (r :: R) (v :: g) c1 := by
              unfold ap
              rw [← h6]
              exact h2
            rcases List.mem_cons.mp h3 with h3 | h3
            · left
              subst h3
              exact ⟨v :: g, ⟨Or.inl h5, h1⟩, ⟨v, List.mem_cons_self .., (opts_ne hn h5).1⟩, hy⟩
            · right
              exact ⟨c1, h3, v :: g, ⟨Or.inl h5, h1⟩, hy⟩
      · rintro (⟨g, h1, ⟨v, h2, h3⟩, h4⟩ | ⟨c0, h, g, h1, h2⟩)
        · cases g with
          | nil => exact absurd h2 (by simp)
          | cons u g =>
            unfold val at h1
            unfold ap at h4
            rcases h1.1 with q | ⟨_, q⟩
            · right
              exact ⟨_, List.mem_append_right _ (List.mem_flatMap.mpr ⟨c, List.mem_cons_self .., (fs_mem hn).mpr ⟨u, q, rfl⟩⟩), g, h1.2, h4⟩
            · left
              subst q
              unfold ap1 at h4
              rw [if_pos rfl] at h4
              rcases List.mem_cons.mp h2 with h2 | h2
              · exact absurd h2 h3
              · exact ⟨g, h1.2, ⟨v, h2, h3⟩, h4⟩
        · right
          cases g with
          | nil => exact absurd h1 (by unfold val; exact id)
          | cons u g =>
            unfold val at h1
            unfold ap at h2
            rcases h1.1 with q | ⟨_, q⟩
            · exact ⟨_, List.mem_append_right _ (List.mem_flatMap.mpr ⟨c0, List.mem_cons_of_mem _ h, (fs_mem hn).mpr ⟨u, q, rfl⟩⟩), g, h1.2, h2⟩
            · subst q
              unfold ap1 at h2
              rw [if_pos rfl] at h2
              exact ⟨c0, List.mem_append_left _ h, g, h1.2, h2⟩
theorem stp1_len (n : Nat) (all : Bool) (L : List Nat) (r : Nat × Int32) : (stp1 n all L r).length ≤ 3 * L.length := by
  have h : ∀ L : List Nat, (L.flatMap (fs n r)).length ≤ 2 * L.length := by
    intro L
    induction L with
    | nil => simp
    | cons c L ih =>
      rw [List.flatMap_cons, List.length_append, List.length_cons]
      have : (fs n r c).length ≤ 2 := by
        unfold fs
        rw [List.length_map]
        exact opts_len n r.2
      omega
  unfold stp1
  rw [List.length_append]
  have := h L
  cases all with
  | true => rw [if_pos rfl, List.length_nil]; omega
  | false => rw [if_neg (by decide)]; omega
theorem fold_len (n : Nat) (all : Bool) : ∀ (R : List (Nat × Int32)) (L : List Nat), (R.foldl (stp1 n all) L).length ≤ 3 ^ R.length * L.length
  | [], L => by simp
  | r :: R, L => by
    rw [List.foldl_cons, List.length_cons]
    have a := fold_len n all R (stp1 n all L r)
    have b := stp1_len n all L r
    have c := Nat.mul_le_mul_left (3 ^ R.length) b
    rw [Nat.pow_succ, Nat.mul_assoc]
    omega
/-- the robots of a crowd that go -/
def blk (n : Nat) (B : BOOK) (c x : Nat) : List (Nat × Int32) := if goesP n B c x = true then List.replicate (dg n c x) (x, mv n B c x) else []
def RBp (n : Nat) (B : BOOK) (c : Nat) : Nat → List (Nat × Int32)
  | 0 => []
  | i + 1 => RBp n B c i ++ blk n B c i
def RB (n : Nat) (B : BOOK) (c : Nat) : List (Nat × Int32) := RBp n B c n
theorem cnt_app (R S : List (Nat × Int32)) (x : Nat) : cnt (R ++ S) x = cnt R x + cnt S x := by
  unfold cnt
  rw [List.countP_append]
theorem blk_cnt (n : Nat) (B : BOOK) (c x y : Nat) : cnt (blk n B c x) y ≤ if x = y then dg n c y else 0 := by
  unfold blk
  split
  · unfold cnt
    rw [List.countP_replicate]
    by_cases e : x = y
    · subst e; simp
    · simp [e]
  · simp [cnt]
theorem blk_len (n : Nat) (B : BOOK) (c x : Nat) : (blk n B c x).length ≤ dg n c x := by
  unfold blk
  split
  · simp
  · simp
theorem RBp_cnt (n : Nat) (B : BOOK) (c : Nat) : ∀ i x, cnt (RBp n B c i) x ≤ if x < i then dg n c x else 0
  | 0, x => by simp [RBp, cnt]
  | i + 1, x => by
    have a := RBp_cnt n B c i x
    have b := blk_cnt n B c i x
    unfold RBp
    rw [cnt_app]
    by_cases e : i = x
    · subst e
      rw [if_neg (by omega)] at a
      rw [if_pos rfl] at b
      rw [if_pos (by omega)]
      omega
    · rw [if_neg e] at b
      by_cases q : x < i
      · rw [if_pos q] at a
        rw [if_pos (by omega)]
        omega
      · rw [if_neg q] at a
        omega
theorem RBp_mem {n : Nat} {B : BOOK} {c : Nat} : ∀ {i : Nat} {r : Nat × Int32}, r ∈ RBp n B c i → r.1 < i ∧ goesP n B c r.1 = true ∧ r.2 = mv n B c r.1
  | 0, r, h => absurd h (by simp [RBp])
  | i + 1, r, h => by
    unfold RBp at h
    rcases List.mem_append.mp h with h | h
    · obtain ⟨a, b, d⟩ := RBp_mem h
      exact ⟨by omega, b, d⟩
    · unfold blk at h
      split at h
      · rename_i q
        have := (List.mem_replicate.mp h).2
        subst this
        exact ⟨by omega, q, rfl⟩
      · exact absurd h (by simp)
theorem RBp_has {n : Nat} {B : BOOK} {c x : Nat} (hg : goesP n B c x = true) : ∀ {i : Nat}, x < i → (x, mv n B c x) ∈ RBp n B c i
  | 0, h => absurd h (by omega)
  | i + 1, h => by
    unfold RBp
    by_cases e : x = i
    · subst e
      apply List.mem_append_right
      unfold blk
      rw [if_pos hg]
      unfold goesP at hg
      simp only [Bool.and_eq_true, decide_eq_true_eq] at hg
      exact List.mem_replicate.mpr ⟨by omega, rfl⟩
    · exact List.mem_append_left _ (RBp_has hg (by omega))
theorem RBp_len (n : Nat) (B : BOOK) (c : Nat) : ∀ i, (RBp n B c i).length ≤ sm (dg n c) i
  | 0 => by simp [RBp]
  | i + 1 => by
    have a := RBp_len n B c i
    have b := blk_len n B c i
    unfold RBp
    rw [List.length_append]
    show _ ≤ sm (dg n c) i + dg n c i
    omega
theorem RB_len {n c k : Nat} (hc : CR n c k) (B : BOOK) : (RB n B c).length ≤ 4 := by
  have := RBp_len n B c n
  rw [hc.2.1] at this
  have := hc.2.2
  unfold RB
  omega
theorem RB_ok {n c k : Nat} (hc : CR n c k) (B : BOOK) : OKc n k (RB n B c) c := by
  refine ⟨hc, fun r hr => (RBp_mem hr).1, fun x hx => ?_⟩
  have := RBp_cnt n B c n x
  rw [if_pos hx] at this
  exact this
/-- the steps -/
def NX (n : Nat) (R : List (Nat × Int32)) (w c y : Nat) : Prop :=
  if w = 0 then R ≠ [] ∧ ∃ g, val n true R g ∧ y = ap n R g c
  else if w = 1 then ∃ r, r ∈ R ∧ ∃ v, v ∈ opts n r.2 ∧ y = mv1 n c r.1 v
  else ∃ g, val n false R g ∧ (∃ v, v ∈ g ∧ v ≠ 0) ∧ y = ap n R g c
theorem NX_CR {n k w c y : Nat} {R : List (Nat × Int32)} (hn : RG n) (h : OKc n k R c) (hx : NX n R w c y) : CR n y k := by
  unfold NX at hx
  split at hx
  · obtain ⟨_, g, _, e⟩ := hx
    rw [e]
    exact ap_CR hn h
  · split at hx
    · obtain ⟨r, hr, v, _, e⟩ := hx
      rw [e]
      have h1 := h.2.1 r hr
      refine (mv1_CR hn h.1 h1 ?_ v).1
      have h2 := h.2.2 r.1 h1
      have : 0 < cnt R r.1 := by
        unfold cnt
        exact List.countP_pos_iff.mpr ⟨r, hr, by simp⟩
      omega
    · obtain ⟨g, _, _, e⟩ := hx
      rw [e]
      exact ap_CR hn h
def ST (n : Nat) (B : BOOK) (w x y : Nat) : Prop := ∃ c, NX n (RB n B x) w x c ∧ y = NM n c
theorem foldT {n : Nat} (hn : RG n) {R : List (Nat × Int32)} {c y : Nat} : y ∈ (R.foldl (stp1 n false) [c]).drop 1 ↔ ∃ g, val n false R g ∧ (∃ v, v ∈ g ∧ v ≠ 0) ∧ y = ap n R g c := by
  obtain ⟨T', e1, e2⟩ := foldS hn (R := R) (T := []) (c := c) (y := y)
  rw [e1]
  show y ∈ T' ↔ _
  rw [e2]
  constructor
  · rintro (h | ⟨c0, h, _⟩)
    · exact h
    · exact absurd h (by simp)
  · exact Or.inl
