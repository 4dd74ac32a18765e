/-! the class's lists of next crowds -/
def upV (n p : Nat) (d : Int32) : Int32 := if d = -1 then 0 else SH n p 1
def dnV (n p : Nat) (d : Int32) : Int32 := if d = 1 then 0 else SH n p (n - 1)
def D3 (d : Int32) : Prop := d = 1 ∨ d = 2 ∨ d = -1
theorem SH_all : ∀ n, n < 10 → 3 ≤ n → ∀ p, p < n → ¬ SH n p 1 = 0 ∧ ¬ SH n p (n - 1) = 0 := by decide +kernel
theorem SH_ne {n p : Nat} (hn : RG n) (hp : p < n) : ¬ SH n p 1 = 0 ∧ ¬ SH n p (n - 1) = 0 := SH_all n (by have := hn.2; omega) hn.1 p hp
theorem x_addNext {L : List Nat} {next : Nat → Int32} (hN : NA next L) (h : L.length < 81) (y : Nat) : ∃ next', F_X6_addNext (nI y) (nI L.length) next = some (nI (L ++ [y]).length, next') ∧ NA next' (L ++ [y]) := by
  unfold F_X6_addNext
  rw [show (81 : Int32) = nI 81 from rfl, ifLe (by omega) (by omega), if_neg (by omega), gdT (inbI (by omega) (by omega)), nI_clamp (by omega), nI_1]
  (try simp only [Option.bind_some])
  refine ⟨_, ?_, hN.app y⟩
  rw [List.length_append]
  rfl
theorem x_addMoved {n c k p : Nat} {L : List Nat} {next : Nat → Int32} {d : Int32} (hn : RG n) (hc : CR n c k) (hp : p < n) (h1 : 1 ≤ dg n c p) (hd : D3 d) (hN : NA next L) (hl : (L ++ fs n (p, d) c).length ≤ 81) : ∃ next', F_X6_addMoved (nI c) (upV n p d) (dnV n p d) (nI L.length) next = some (nI (L ++ fs n (p, d) c).length, next') ∧ NA next' (L ++ fs n (p, d) c) := by
  obtain ⟨s1, s2⟩ := SH_ne hn hp
  have i1 := mv1_I hn hc hp h1 1
  have i2 := mv1_I hn hc hp h1 (n - 1)
  unfold F_X6_addMoved
  rw [List.length_append] at hl
  rcases hd with hd | hd | hd
  · have ef : fs n (p, d) c = [mv1 n c p 1] := by subst hd; rfl
    have e1 : upV n p d = SH n p 1 := by subst hd; rfl
    have e2 : dnV n p d = 0 := by subst hd; rfl
    rw [ef] at hl ⊢
    obtain ⟨next', a1, a2⟩ := x_addNext hN (by simp at hl; omega) (mv1 n c p 1)
    rw [e1, e2, if_neg s1, i1, a1]
    (try simp only [Option.bind_some])
    rw [if_pos (by trivial)]
    exact ⟨next', rfl, a2⟩
  · have ef : fs n (p, d) c = [mv1 n c p 1, mv1 n c p (n - 1)] := by subst hd; rfl
    have e1 : upV n p d = SH n p 1 := by subst hd; rfl
    have e2 : dnV n p d = SH n p (n - 1) := by subst hd; rfl
    rw [ef] at hl ⊢
    simp at hl
    obtain ⟨next', a1, a2⟩ := x_addNext hN (by omega) (mv1 n c p 1)
    obtain ⟨next2, b1, b2⟩ := x_addNext a2 (by simp; omega) (mv1 n c p (n - 1))
    rw [e1, e2, if_neg s1, i1, a1]
    (try simp only [Option.bind_some])
    rw [if_neg s2, i2, b1]
    (try simp only [Option.bind_some])
    rw [List.append_assoc] at b2 ⊢
    exact ⟨next2, rfl, b2⟩
  · have ef : fs n (p, d) c = [mv1 n c p (n - 1)] := by subst hd; rfl
    have e1 : upV n p d = 0 := by subst hd; rfl
    have e2 : dnV n p d = SH n p (n - 1) := by subst hd; rfl
    rw [ef] at hl ⊢
    simp at hl
    obtain ⟨next', a1, a2⟩ := x_addNext hN (by omega) (mv1 n c p (n - 1))
    rw [e1, e2, if_pos (by trivial)]
    (try simp only [Option.bind_some])
    rw [if_neg s2, i2, a1]
    (try simp only [Option.bind_some])
    exact ⟨next', rfl, a2⟩
theorem take_s {L : List Nat} {i : Nat} (h : i < L.length) : L.take (i + 1) = L.take i ++ [L.getD i 0] := by
  rw [List.take_succ, List.getD_eq_getElem?_getD, List.getElem?_eq_getElem h]
  rfl
theorem getD_app {L M : List Nat} {i : Nat} (h : i < L.length) : (L ++ M).getD i 0 = L.getD i 0 := by
  rw [List.getD_eq_getElem?_getD, List.getElem?_append_left h, ← List.getD_eq_getElem?_getD]
theorem wakeAg_L {n k p : Nat} {d : Int32} {L : List Nat} (hn : RG n) (hd : D3 d) (hp : p < n) (hL : ∀ c, c ∈ L → CR n c k ∧ 1 ≤ dg n c p) (h81 : (L ++ L.flatMap (fs n (p, d))).length ≤ 81) : ∀ (e i f : Nat) (next : Nat → Int32), i + e = L.length → e < f → NA next (L ++ (L.take i).flatMap (fs n (p, d))) → ∃ next', F_X6_wakeAgain_L1 (upV n p d) (dnV n p d) (nI L.length) f (nI i) (nI (L ++ (L.take i).flatMap (fs n (p, d))).length) next = some (nI (L ++ L.flatMap (fs n (p, d))).length, next') ∧ NA next' (L ++ L.flatMap (fs n (p, d)))
  | 0, i, f + 1, next, hi, _, hN => by
    have hll : L.length ≤ 81 := by rw [List.length_append] at h81; omega
    have ei : L.take i = L := List.take_of_length_le (by omega)
    rw [ei] at hN ⊢
    rw [F_X6_wakeAgain_L1.eq_2, if_pos (nI_le (by omega) (by omega))]
    exact ⟨next, rfl, hN⟩
  | e + 1, i, f + 1, next, hi, hf, hN => by
    have hll : L.length ≤ 81 := by rw [List.length_append] at h81; omega
    have hi2 : i < L.length := by omega
    obtain ⟨c1, c2⟩ := hL _ (getD_mem hi2)
    have hlen : (L ++ (L.take i).flatMap (fs n (p, d)) ++ fs n (p, d) (L.getD i 0)).length ≤ 81 := by
      have e1 : L.take (i + 1) ++ L.drop (i + 1) = L := List.take_append_drop _ _
      have e2 : (L.take (i + 1)).flatMap (fs n (p, d)) ++ (L.drop (i + 1)).flatMap (fs n (p, d)) = L.flatMap (fs n (p, d)) := by rw [← List.flatMap_append, e1]
      rw [take_s hi2, List.flatMap_append] at e2
      have e3 := congrArg List.length e2
      simp only [List.length_append, List.flatMap_cons, List.flatMap_nil, List.append_nil] at e3 h81 ⊢
      omega
    rw [F_X6_wakeAgain_L1.eq_2, if_neg (nI_ge (by omega) (by omega)), show (81 : Int32) = nI 81 from rfl, ifLe (by omega) (by omega), if_neg (by omega), gdT (inbI (by omega) (by omega)), nI_clamp (by omega), hN i (by rw [List.length_append]; omega), getD_app hi2]
    obtain ⟨next', a1, a2⟩ := x_addMoved hn c1 hp c2 hd hN hlen
    rw [a1]
    (try simp only [Option.bind_some])
    rw [nI_1]
    have es : L ++ (L.take (i + 1)).flatMap (fs n (p, d)) = L ++ (L.take i).flatMap (fs n (p, d)) ++ fs n (p, d) (L.getD i 0) := by
      rw [take_s hi2, List.flatMap_append, List.append_assoc]
      simp
    rw [← es] at a2 ⊢
    exact wakeAg_L hn hd hp hL h81 e (i + 1) f next' (by omega) (by omega) a2
theorem x_drop_L {L : List Nat} {a : Nat} (h81 : L.length ≤ 81) : ∀ (e i f : Nat) (next : Nat → Int32), i + e = L.length → a ≤ i → e < f → (∀ j, j + a < i → next j = nI (L.getD (j + a) 0)) → (∀ j, i ≤ j → j < L.length → next j = nI (L.getD j 0)) → ∃ next', F_X6_dropFirst_L1 (nI a) (nI L.length) f (nI i) next = some next' ∧ ∀ j, j + a < L.length → next' j = nI (L.getD (j + a) 0)
  | 0, i, f + 1, next, hi, _, _, h1, _ => by
    rw [F_X6_dropFirst_L1.eq_2, if_pos (nI_le (by omega) (by omega))]
    exact ⟨next, rfl, fun j hj => h1 j (by omega)⟩
  | e + 1, i, f + 1, next, hi, ha, hf, h1, h2 => by
    rw [F_X6_dropFirst_L1.eq_2, if_neg (nI_ge (by omega) (by omega)), show (81 : Int32) = nI 81 from rfl, ifLe (by omega) (by omega), if_neg (by omega), gdT (inbI (by omega) (by omega)), nI_clamp (by omega)]
    (try simp only [Option.bind_some])
    rw [q_sub ha, gdT (inbI (by omega) (by omega)), nI_clamp (by omega), nI_1]
    (try simp only [Option.bind_some])
    refine x_drop_L h81 e (i + 1) f _ (by omega) (by omega) (by omega) (fun j hj => ?_) (fun j hj hj2 => ?_)
    · by_cases q : j = i - a
      · subst q
        rw [pk_us, h2 i (by omega) (by omega)]
        congr 2
        omega
      · rw [pk_un q]
        exact h1 j (by omega)
    · rw [pk_un (by omega)]
      exact h2 j (by omega) hj2
theorem x_drop {L : List Nat} {a : Nat} {next : Nat → Int32} (h81 : L.length ≤ 81) (ha : a ≤ L.length) (hN : NA next L) : ∃ next', F_X6_dropFirst (nI a) (nI L.length) next = some (nI (L.drop a).length, next') ∧ NA next' (L.drop a) := by
  obtain ⟨next', a1, a2⟩ := x_drop_L (a := a) h81 (L.length - a) a FU next (by omega) (by omega) (by unfold FU; omega) (fun j hj => absurd hj (by omega)) (fun j _ hj => hN j hj)
  unfold F_X6_dropFirst
  rw [a1]
  (try simp only [Option.bind_some])
  rw [q_sub ha]
  refine ⟨next', by rw [List.length_drop], fun j hj => ?_⟩
  rw [List.length_drop] at hj
  rw [a2 j (by omega), List.getD_eq_getElem?_getD, List.getD_eq_getElem?_getD, List.getElem?_drop, Nat.add_comm]
def zz (all : Bool) : Int32 := if all = true then 1 else 0
theorem x_wakeAgain {n k p : Nat} {d : Int32} {L : List Nat} {next : Nat → Int32} (all : Bool) (hn : RG n) (hd : D3 d) (hp : p < n) (hL : ∀ c, c ∈ L → CR n c k ∧ 1 ≤ dg n c p) (h81 : 3 * L.length ≤ 81) (hN : NA next L) : ∃ next', F_X6_wakeAgain (upV n p d) (dnV n p d) (zz all) (nI L.length) next = some (nI (stp1 n all L (p, d)).length, next') ∧ NA next' (stp1 n all L (p, d)) := by
  have hl := stp1_len n false L (p, d)
  have e0 : stp1 n false L (p, d) = L ++ L.flatMap (fs n (p, d)) := rfl
  rw [e0] at hl
  have hN0 : NA next (L ++ (L.take 0).flatMap (fs n (p, d))) := by simpa using hN
  obtain ⟨next', a1, a2⟩ := wakeAg_L hn hd hp hL (by omega) L.length 0 FU next (by omega) (by unfold FU; omega) hN0
  rw [show L ++ (L.take 0).flatMap (fs n (p, d)) = L by simp, show nI 0 = (0 : Int32) from rfl] at a1
  unfold F_X6_wakeAgain
  rw [a1]
  (try simp only [Option.bind_some])
  cases all with
  | false =>
    rw [if_pos (by rfl)]
    exact ⟨next', rfl, a2⟩
  | true =>
    rw [if_neg (by decide)]
    obtain ⟨next2, b1, b2⟩ := x_drop (a := L.length) (by omega) (by rw [List.length_append]; omega) a2
    rw [List.drop_left] at b1 b2
    rw [b1]
    exact ⟨next2, rfl, b2⟩
theorem wakeS_L11 {n k x : Nat} {d : Int32} {ups downs : Nat → Int32} {m : Nat} (all : Bool) (hn : RG n) (hd : D3 d) (hx : x < n) (hm : m < 8) (hu : ups x = upV n x d) (hw : downs x = dnV n x d) (R' : List (Nat × Int32)) : ∀ (e i f : Nat) (z : Int32) (L : List Nat) (next : Nat → Int32), i + e = m → e < f → NA next L → (∀ c, c ∈ L → OKc n k (List.replicate e (x, d) ++ R') c) → 3 ^ e * L.length ≤ 81 → ∃ next', F_X6_wakeSome_L11 (zz all) (nI x) (nI m) ups downs f z (nI i) (nI L.length) next = some (if e = 0 then z else 1, nI ((List.replicate e (x, d)).foldl (stp1 n all) L).length, next') ∧ NA next' ((List.replicate e (x, d)).foldl (stp1 n all) L) ∧ ∀ c, c ∈ (List.replicate e (x, d)).foldl (stp1 n all) L → OKc n k R' c
  | 0, i, f + 1, z, L, next, hi, _, hN, hO, _ => by
    rw [F_X6_wakeSome_L11.eq_2, if_pos (nI_le (by omega) (by omega)), if_pos rfl]
    exact ⟨next, rfl, hN, hO⟩
  | e + 1, i, f + 1, z, L, next, hi, hf, hN, hO, h81 => by
    have h9 := hn.2
    have hp3 : 0 < 3 ^ e := Nat.pow_pos (by decide)
    rw [Nat.pow_succ, Nat.mul_assoc] at h81
    have h81' : 3 * L.length ≤ 81 := Nat.le_trans (Nat.le_mul_of_pos_left _ hp3) h81
    rw [List.replicate_succ] at hO ⊢
    rw [F_X6_wakeSome_L11.eq_2, if_neg (nI_ge (by omega) (by omega)), gdT (inbI (by omega) (by omega)), gdT (inbI (by omega) (by omega)), nI_clamp (by omega), hu, hw]
    obtain ⟨next', a1, a2⟩ := x_wakeAgain all hn hd hx (fun c hc => ⟨(hO c hc).1, (hO c hc).hd.2⟩) h81' hN
    rw [a1]
    (try simp only [Option.bind_some])
    rw [nI_1, List.foldl_cons, if_neg (by omega)]
    have hO2 : ∀ c, c ∈ stp1 n all L (x, d) → OKc n k (List.replicate e (x, d) ++ R') c := by
      intro c hc
      obtain ⟨c0, h1, v, _, h3⟩ := (stp1_mem hn).mp hc
      rw [h3]
      exact OKc_ap1 hn (hO c0 h1) v
    have hl := stp1_len n all L (x, d)
    obtain ⟨n2, b1, b2, b3⟩ := wakeS_L11 all hn hd hx hm hu hw R' e (i + 1) f 1 (stp1 n all L (x, d)) next' (by omega) (by omega) a2 hO2 (Nat.le_trans (Nat.mul_le_mul_left _ hl) h81)
    rw [b1]
    refine ⟨n2, ?_, b2, b3⟩
    split <;> rfl
