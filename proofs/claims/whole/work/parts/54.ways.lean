/-! numberOf, markGoals, gatherFor -/
theorem getD_mem {N : List Nat} {i : Nat} (h : i < N.length) : N.getD i 0 ∈ N := by
  rw [List.getD_eq_getElem?_getD, List.getElem?_eq_getElem h, Option.getD_some]
  exact List.getElem_mem h
theorem mem_getD {N : List Nat} {x : Nat} (h : x ∈ N) : ∃ i, i < N.length ∧ N.getD i 0 = x := by
  obtain ⟨i, hi, e⟩ := List.getElem_of_mem h
  exact ⟨i, hi, by rw [List.getD_eq_getElem?_getD, List.getElem?_eq_getElem hi, Option.getD_some, e]⟩
theorem nd_inj {N : List Nat} (h : N.Nodup) {i j : Nat} (hi : i < N.length) (hj : j < N.length) (e : N.getD i 0 = N.getD j 0) : i = j := by
  rw [List.getD_eq_getElem?_getD, List.getElem?_eq_getElem hi, Option.getD_some, List.getD_eq_getElem?_getD, List.getElem?_eq_getElem hj, Option.getD_some] at e
  have hp := List.pairwise_iff_getElem.mp h
  rcases Nat.lt_trichotomy i j with q | q | q
  · exact absurd e (hp i j hi hj q)
  · exact q
  · exact absurd e.symm (hp j i hj hi q)
theorem numberOf_L {N : List Nat} {names : Nat → Int32} {x j : Nat} (hN : NA names N) (h64 : N.length ≤ 60) (hs : ∀ y, y ∈ N → y < 2 ^ 27) (hx : x < 2 ^ 27) (hj : j < N.length) (hj2 : N.getD j 0 = x) : ∀ (d i f : Nat), i + d = j → d < f → (∀ m, m < j → N.getD m 0 ≠ x) → F_X6_numberOf_L2 (nI x) (nI N.length) names f (nI i) = some (.inl (nI j))
  | 0, i, f + 1, hi, _, _ => by
    have e : i = j := by omega
    subst e
    rw [F_X6_numberOf_L2.eq_2, if_neg (nI_ge (by omega) (by omega)), show (64 : Int32) = nI 64 from rfl, ifLe (by omega) (by omega), if_neg (by omega), gdT (inbI (by omega) (by omega)), nI_clamp (by omega), hN i hj, hj2, if_pos rfl]
  | d + 1, i, f + 1, hi, hf, hm => by
    rw [F_X6_numberOf_L2.eq_2, if_neg (nI_ge (by omega) (by omega)), show (64 : Int32) = nI 64 from rfl, ifLe (by omega) (by omega), if_neg (by omega), gdT (inbI (by omega) (by omega)), nI_clamp (by omega), hN i (by omega)]
    have := hs _ (getD_mem (show i < N.length by omega))
    rw [ifEq (by omega) (by omega), if_neg (hm i (by omega))]
    (try simp only [Option.bind_some])
    rw [nI_1]
    exact numberOf_L hN h64 hs hx hj hj2 d (i + 1) f (by omega) (by omega) hm
/-- the class's names stand -/
def WN (n k : Nat) (size : Int32) (names : Nat → Int32) : Prop := size = nI (GL n k).length ∧ NA names (GL n k)
theorem x_numberOf {n k c : Nat} {size : Int32} {names : Nat → Int32} (hn : RG n) (h1 : 1 ≤ k) (h4 : k ≤ 4) (hW : WN n k size names) (hc : CR n c k) : ∃ j, j < (GL n k).length ∧ (GL n k).getD j 0 = NM n c ∧ F_X6_numberOf (nI c) (nI n) (nI (mskN n)) size names = some (nI j) := by
  obtain ⟨g1, g2, g3, g4⟩ := GLok hn h1 h4
  obtain ⟨j, j1, j2⟩ := mem_getD (g4 c hc)
  have h27 := hn.p27
  have hm := NM_lt hn c
  refine ⟨j, j1, j2, ?_⟩
  unfold F_X6_numberOf
  rw [x_nameOf hn hc.1]
  (try simp only [Option.bind_some])
  have h := numberOf_L hW.2 g1 (fun y hy => (g3 y hy).1.lt hn) (by omega) j1 j2 j 0 FU (by omega) (by unfold FU; omega) (fun m hm' e => by
    have := nd_inj g2 (show m < (GL n k).length by omega) j1 (e.trans j2.symm)
    omega)
  rw [show nI 0 = (0 : Int32) from rfl] at h
  rw [hW.1, h]
  rfl
