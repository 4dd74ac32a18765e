/-! the new worlds -/
def XN (g : GG) (h0 : Nat) (u : Nat → Nat) (pl mk : Int32) : va_W := [(h0, .inr (6, [.ref (u 0), .ref (u 1), .ref (u 9), .ref (u 11), .ref (u 13), .ref (u 14), .ref (u 17), .int 0, .int 0])), ((u 0), .inr (3, [.int pl, .int mk])), ((u 1), .inr (5, [.ref (u 0), .ref (u 2), .ref (u 3), .ref (u 4), .ref (u 5), .ref (u 6), .ref (u 7), .ref (u 8), .int 0, .int 0, .int 0])), ((u 2), .inl (g.2.1.1, 64, .inl (fun _ => 0))), ((u 3), .inl (g.2.1.2.1, 3, .inr (.inl (fun _ => 0)))), ((u 4), .inl (g.2.1.2.1, 192, .inr (.inl (fun _ => 0)))), ((u 5), .inl (g.2.1.2.2, 3, .inl (fun _ => 0))), ((u 6), .inl (g.2.1.1, 9, .inl (fun _ => 0))), ((u 7), .inl (g.2.1.1, 9, .inl (fun _ => 0))), ((u 8), .inl (g.2.1.1, 81, .inl (fun _ => 0))), ((u 9), .inr (0, [.ref (u 0), .ref (u 10), .int 0])), ((u 10), .inl (g.2.1.1, 16, .inl (fun _ => 0))), ((u 11), .inr (4, [.ref (u 12), .int 0, .int 0, .int 0, .int 0, .int 0])), ((u 12), .inl (g.2.1.1, 400, .inl (fun _ => 0))), ((u 13), .inr (2, [.ref (u 11), .int 0, .int 0, .int 0, .long 0])), ((u 14), .inr (1, [.ref (u 15), .ref (u 16), .int 0])), ((u 15), .inl (g.2.1.2.1, 30, .inr (.inl (fun _ => 0)))), ((u 16), .inl (g.2.1.1, 30, .inl (fun _ => 0))), ((u 17), .inr (1, [.ref (u 18), .ref (u 19), .int 0])), ((u 18), .inl (g.2.1.2.1, 30, .inr (.inl (fun _ => 0)))), ((u 19), .inl (g.2.1.1, 30, .inl (fun _ => 0)))]
def MN (g : GG) (h0 : Nat) (u : Nat → Nat) (pl : Int32) : va_W := [(h0, .inr (7, [.int 0, .int pl, .int 0, .ref (u 0), .ref (u 1), .int 0, .ref (u 2), .ref (u 3), .ref (u 4), .int 0, .ref (u 5), .ref (u 6), .ref (u 7), .ref (u 8), .ref (u 9), .ref (u 10), .int 0, .int 0, .int 0, .int 0, .int 0, .int 0, .int 0, .int 0, .int 0, .int 0, .ref (u 11), .ref (u 12), .ref (u 13), .ref (u 14), .int 0, .ref (u 15), .ref (u 16), .ref (u 17), .ref (u 18), .ref (u 19), .ref (u 20), .ref (u 21), .ref (u 22), .ref (u 23), .int 0])), ((u 0), .inl (g.2.1.1, 9, .inl (fun _ => 0))), ((u 1), .inl (g.2.1.1, 9, .inl (fun _ => 0))), ((u 2), .inl (g.2.1.1, 8, .inl (fun _ => 0))), ((u 3), .inl (g.2.1.1, 8, .inl (fun _ => 0))), ((u 4), .inl (g.2.1.1, 8, .inl (fun _ => 0))), ((u 5), .inl (g.2.1.1, 30, .inl (fun _ => 0))), ((u 6), .inl (g.2.1.1, 240, .inl (fun _ => 0))), ((u 7), .inl (g.2.1.1, 30, .inl (fun _ => 0))), ((u 8), .inl (g.2.1.1, 9, .inl (fun _ => 0))), ((u 9), .inl (g.2.1.1, 9, .inl (fun _ => 0))), ((u 10), .inl (g.2.1.1, 400, .inl (fun _ => 0))), ((u 11), .inl (g.2.1.1, 30, .inl (fun _ => 0))), ((u 12), .inl (g.2.1.1, 240, .inl (fun _ => 0))), ((u 13), .inl (g.2.1.1, 30, .inl (fun _ => 0))), ((u 14), .inl (g.2.1.1, 8, .inl (fun _ => 0))), ((u 15), .inl (g.2.1.1, 1080, .inl (fun _ => 0))), ((u 16), .inl (g.2.1.2.2, 14400, .inl (fun _ => 0))), ((u 17), .inl (g.2.1.2.2, 120, .inl (fun _ => 0))), ((u 18), .inl (g.2.1.2.2, 120, .inl (fun _ => 0))), ((u 19), .inl (g.2.1.1, 120, .inl (fun _ => 0))), ((u 20), .inl (g.2.1.1, 4, .inl (fun _ => 0))), ((u 21), .inl (g.2.1.1, 4, .inl (fun _ => 0))), ((u 22), .inl (g.2.1.1, 9, .inl (fun _ => 0))), ((u 23), .inl (g.2.1.1, 16, .inl (fun _ => 0)))]
def qX (h0 : Nat) (u : Nat → Nat) : Nat → Nat := fun k => [h0, u 0, u 1, u 9, u 11, u 13, u 14, u 17, u 2, u 3, u 4, u 5, u 6, u 7, u 8, u 10, u 12, u 15, u 16, u 18, u 19].getD k 0
def qM (h0 : Nat) (u : Nat → Nat) : Nat → Nat := fun k => [h0, u 0, u 1, u 2, u 3, u 4, u 5, u 6, u 7, u 8, u 9, u 10, u 11, u 12, u 13, u 14, u 15, u 16, u 17, u 18, u 19, u 20, u 21, u 22, u 23].getD k 0
def XI (g : GG) (h0 : Nat) (u : Nat → Nat) (n : Nat) : va_W := XW g (qX h0 u) (nI 0) 0 (nI n) (nI (mskN n)) 0 0 0 (nI 0) (nI 0) 0 0 0 0 0 0 0 0 0 0 (fun _ => 0) (fun _ => 0) (fun _ => 0) (fun _ => 0) (fun _ => 0) (fun _ => 0) (fun _ => 0) (fun _ => 0) (fun _ => 0) (fun _ => 0) (fun _ => 0) (fun _ => 0) (fun _ => 0)
def MI0 (g : GG) (h0 : Nat) (u : Nat → Nat) (n : Nat) : va_W := MW g (qM h0 u) 0 (nI n) (nI 0) 0 0 (nI 0) 0 0 0 0 0 0 0 0 0 0 (nI 0) (fun _ => 0) (fun _ => 0) (fun _ => 0) (fun _ => 0) (fun _ => 0) (fun _ => 0) (fun _ => 0) (fun _ => 0) (fun _ => 0) (fun _ => 0) (fun _ => 0) (fun _ => 0) (fun _ => 0) (fun _ => 0) (fun _ => 0) (fun _ => 0) (fun _ => 0) (fun _ => 0) (fun _ => 0) (fun _ => 0) (fun _ => 0) (fun _ => 0) (fun _ => 0) (fun _ => 0)
theorem xn_f (g : GG) (h0 : Nat) (u : Nat → Nat) (n : Nat) : ([0, 1, 2, 10, 12, 14, 15, 18, 3, 4, 5, 6, 7, 8, 9, 11, 13, 16, 17, 19, 20] : List Nat).filterMap (fun i => (XN g h0 u (nI n) (nI (mskN n)))[i]?) = XI g h0 u n := rfl
theorem xn_m (g : GG) (h0 : Nat) (u : Nat → Nat) (n : Nat) : ([0, 1, 2, 10, 12, 14, 15, 18, 3, 4, 5, 6, 7, 8, 9, 11, 13, 16, 17, 19, 20] : List Nat).map (fun i => (XN g h0 u (nI n) (nI (mskN n)))[i]?) = (XI g h0 u n).map some := rfl
theorem mn_f (g : GG) (h0 : Nat) (u : Nat → Nat) (n : Nat) : MN g h0 u (nI n) = MI0 g h0 u n := rfl
theorem bk0 : BKok [] := ⟨by simp, fun r hr => absurd hr (by simp), fun r r' hr => absurd hr (by simp)⟩
theorem REL_0 {g : GG} {h0 h1 : Nat} {u v : Nat → Nat} {n : Nat} (hn : RG n) : REL g h0 h1 (XI g h0 u n) (MI0 g h1 v n) := REL_mk (qX h0 u) (qM h1 v) n 0 0 [] 0 (fun _ => 0) 0 0 hn CR_0 (HD_0 (fun _ _ => rfl)) bk0 ⟨rfl, fun r hr => absurd hr (by simp)⟩ ⟨rfl, fun r hr => absurd hr (by simp)⟩ (Nat.zero_le _) (fun i hi => absurd hi (by omega)) (Nat.zero_le _) (fun i hi => absurd hi (by omega)) (Or.inl ⟨rfl, fun _ _ => rfl⟩)
theorem msk_all : ∀ n, n < 10 → 3 ≤ n → (jshl 1 (3 * nI n)) - 1 = nI (mskN n) := by decide +kernel
theorem cl_all : ∀ j, j < 9 → (if 3 < (if nI j < 9 then nI j else 9) then (if nI j < 9 then nI j else 9) else 3) = nI (if 3 < j then j else 3) ∧ cl8 (nI j) = nI (if 3 < j then j else 3) := by decide +kernel
theorem clamp_n (a0 : Int32) : ∃ n, RG n ∧ (if 3 < (if a0 < 9 then a0 else 9) then (if a0 < 9 then a0 else 9) else 3) = nI n ∧ cl8 a0 = nI n ∧ (jshl 1 (3 * nI n)) - 1 = nI (mskN n) := by
  rcases ix3 a0 (b := 9) (by decide) with (q | q) | ⟨j, hj, rfl⟩
  · have q0 := Int32.lt_iff_toInt_lt.mp q
    have e0 : (0 : Int32).toInt = 0 := by decide
    have e3 : (3 : Int32).toInt = 3 := by decide
    have e9 : (9 : Int32).toInt = 9 := by decide
    have h9 : a0 < 9 := Int32.lt_iff_toInt_lt.mpr (by omega)
    have h3 : ¬ 3 < a0 := fun z => by have := Int32.lt_iff_toInt_lt.mp z; omega
    have h3' : ¬ 3 ≤ a0 := fun z => by have := Int32.le_iff_toInt_le.mp z; omega
    refine ⟨3, ⟨by decide, by decide⟩, ?_, ?_, msk_all 3 (by decide) (by decide)⟩
    · rw [if_pos h9, if_neg h3]
      rfl
    · unfold cl8
      rw [if_neg h3']
      rfl
  · have q0 := Int32.le_iff_toInt_le.mp q
    have e3 : (3 : Int32).toInt = 3 := by decide
    have e9 : (9 : Int32).toInt = 9 := by decide
    have e9' : (nI 9).toInt = 9 := by decide
    have h9 : ¬ a0 < 9 := fun z => by have := Int32.lt_iff_toInt_lt.mp z; omega
    have h3' : 3 ≤ a0 := Int32.le_iff_toInt_le.mpr (by omega)
    refine ⟨9, ⟨by decide, by decide⟩, ?_, ?_, msk_all 9 (by decide) (by decide)⟩
    · rw [if_neg h9]
      rfl
    · unfold cl8
      rw [if_pos h3']
      by_cases z : a0 ≤ 9
      · rw [if_pos z]
        have := Int32.le_iff_toInt_le.mp z
        exact Int32.toInt_inj.mp (by omega)
      · rw [if_neg z]
        rfl
  · obtain ⟨a, b⟩ := cl_all j hj
    have hr : 3 ≤ (if 3 < j then j else 3) ∧ (if 3 < j then j else 3) ≤ 9 := by split <;> omega
    exact ⟨_, hr, a, b, msk_all _ (by omega) hr.1⟩
theorem VJ.split {g : GG} {A : Nat → Prop} {H0 : Heap} {a b : va_W} {H : Heap} {locs : List Loc} (J : VJ g A H0 (a ++ b) H locs) : DJ g A H0 a b H locs := by
  obtain ⟨hP, hD, hS⟩ := J
  have l1 : ∀ (i : Nat) (p : Nat × va_E), a[i]? = some p → (a ++ b)[i]? = some p ∧ i < a.length := fun i p h => by
    have hlt := (List.getElem?_eq_some_iff.mp h).1
    exact ⟨by rw [List.getElem?_append_left hlt]; exact h, hlt⟩
  have l2 : ∀ (i : Nat) (p : Nat × va_E), b[i]? = some p → (a ++ b)[a.length + i]? = some p := fun i p h => by
    rw [List.getElem?_append_right (by omega), Nat.add_sub_cancel_left]
    exact h
  refine ⟨fun k q h => hP k q (l1 k q h).1, fun k q h => hP _ q (l2 k q h), ⟨fun i j p q hp hq e => hD.1 i j p q (l1 i p hp).1 (l1 j q hq).1 e, fun k q h => hD.2 k q (l1 k q h).1⟩, ⟨fun i j p q hp hq e => ?_, fun k q h => hD.2 _ q (l2 k q h)⟩, fun i j p q hp hq e => ?_, hS⟩
  · have := hD.1 _ _ p q (l2 i p hp) (l2 j q hq) e
    omega
  · have := hD.1 _ _ p q (l1 i p hp).1 (l2 j q hq) e
    have := (l1 i p hp).2
    omega
theorem DJ.perm {g : GG} {A : Nat → Prop} {H0 : Heap} {a a' o : va_W} {H : Heap} {locs : List Loc} (J : DJ g A H0 a o H locs) (is : List Nat) (h1 : is.filterMap (fun i => a[i]?) = a') (hnd : va_nd is = true) (h2 : is.map (fun i => a[i]?) = a'.map some) : DJ g A H0 a' o H locs := by
  refine ⟨J.1.sub is h1, J.2.1, J.2.2.1.sub is hnd h2, J.2.2.2.1, fun k j p q hp hq => ?_, J.2.2.2.2.2⟩
  have h3 : (is.map (fun i => a[i]?))[k]? = some (some p) := by rw [h2, List.getElem?_map, hp]; rfl
  rw [List.getElem?_map] at h3
  cases hi : is[k]? with
  | none => rw [hi] at h3; cases h3
  | some i => rw [hi] at h3; exact J.2.2.2.2.1 i j p q (Option.some.inj h3) hq
