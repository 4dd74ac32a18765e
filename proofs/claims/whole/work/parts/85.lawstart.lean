/-! the start: what stands around -/
def tmS (i : Nat) : Term := .string RX5 (sIx i)
theorem big_hts {p : Program} {s : State} {m : MethodId} {meth : Method} {c : Code} {b L : Nat} {xs : Nat → Int32} (C0 : lw_At p s m meth c b L xs) : ∀ w ∈ BIG, w.before #[Value.ref b] s = true := fun w hw => C0.2.2.2.2.2.1 w (List.mem_filter.mp hw).1
theorem lt4 {P : Nat → Prop} (h0 : P 0) (h1 : P 1) (h2 : P 2) (h3 : P 3) : ∀ i, i < 4 → P i := fun i hi => by
  rcases (show i = 0 ∨ i = 1 ∨ i = 2 ∨ i = 3 by omega) with rfl | rfl | rfl | rfl
  · exact h0
  · exact h1
  · exact h2
  · exact h3
theorem lt3' {P : Nat → Prop} (h0 : P 0) (h1 : P 1) (h2 : P 2) : ∀ i, i < 3 → P i := fun i hi => by
  rcases (show i = 0 ∨ i = 1 ∨ i = 2 by omega) with rfl | rfl | rfl
  · exact h0
  · exact h1
  · exact h2
theorem ev_start {p : Program} {s : State} {m : MethodId} {meth : Method} {c : Code} {b L : Nat} {xs : Nat → Int32} (C0 : lw_At p s m meth c b L xs) : ∃ g : GG, EV g (fun q => s.heap.size ≤ q) s := by
  have hB := big_hts C0
  obtain ⟨hx, hb, hr, hml, hown, hts, hX, hbl, hlocks, hgv⟩ := C0
  have hs := flat_of_before _ hgv
  have hA : ∀ a : Nat, a < s.heap.size → ¬ s.heap.size ≤ a := fun a h => Nat.not_le.mpr h
  obtain ⟨cI, cL, cZ, k1, k2, k3⟩ := arrK (hB _ ac_int) (hB _ ac_long) (hB _ ac_boolean)
  obtain ⟨d0, i0, u0⟩ := u_known hB uX0 (hB _ in_X0)
  obtain ⟨d1, i1, u1⟩ := u_known hB uX1 (hB _ in_X1)
  obtain ⟨d2, i2, u2⟩ := u_known hB uX2 (hB _ in_X2)
  obtain ⟨d3, i3, u3⟩ := u_known hB uX3 (hB _ in_X3)
  obtain ⟨d4, i4, u4⟩ := u_known hB uX5 (hB _ in_X5)
  obtain ⟨d5, i5, u5⟩ := u_known hB uX6 (hB _ in_X6)
  obtain ⟨d6, i6, u6⟩ := u_known hB uX7 (hB _ in_X7)
  obtain ⟨d7, i7, u7⟩ := u_known hB uX8 (hB _ in_X8)
  obtain ⟨adK, adV, hS, hR⟩ := vk_Sof (args := #[Value.ref b]) (s := s) (N := 4) (tm := tmS) (len := sLens) (byt := sByts) (A := fun q => s.heap.size ≤ q)
    (lt4 (by decide) (by decide) (by decide) (by decide))
    (lt4 (hs _ (by decide +kernel)) (hs _ (by decide +kernel)) (hs _ (by decide +kernel)) (hs _ (by decide +kernel)))
    (lt4 (hs _ (by decide +kernel)) (hs _ (by decide +kernel)) (hs _ (by decide +kernel)) (hs _ (by decide +kernel)))
    (lt4 (hs _ (by decide +kernel)) (hs _ (by decide +kernel)) (hs _ (by decide +kernel)) (hs _ (by decide +kernel)))
    (lt4 (hs _ (by decide +kernel)) (hs _ (by decide +kernel)) (hs _ (by decide +kernel)) (hs _ (by decide +kernel)))
    (lt4 (lt3' (hs _ (by decide +kernel)) (hs _ (by decide +kernel)) (hs _ (by decide +kernel))) (lt4 (hs _ (by decide +kernel)) (hs _ (by decide +kernel)) (hs _ (by decide +kernel)) (hs _ (by decide +kernel))) (lt3' (hs _ (by decide +kernel)) (hs _ (by decide +kernel)) (hs _ (by decide +kernel))) (lt4 (hs _ (by decide +kernel)) (hs _ (by decide +kernel)) (hs _ (by decide +kernel)) (hs _ (by decide +kernel))))
    (fun i j hi hj hij => by
      rcases (show i = 0 ∨ i = 1 ∨ i = 2 ∨ i = 3 by omega) with rfl | rfl | rfl | rfl <;> rcases (show j = 0 ∨ j = 1 ∨ j = 2 ∨ j = 3 by omega) with rfl | rfl | rfl | rfl <;> first | exact absurd rfl hij | exact Or.inl (hs _ (by decide +kernel)) | exact Or.inr (hs _ (by decide +kernel)))
    hA
  refine ⟨((fun i => [d0, d1, d2, d3, d4, d5, d6, d7].getD i d0, fun i => [i0, i1, i2, i3, i4, i5, i6, i7].getD i i0), (cI, cL, cZ), adK, adV), ⟨fun cn q hq => ?_, fun k q hk => ?_⟩, ⟨fun a ha => va_Nw.of rfl (hts _ (nf_mem a ha)), fun a ha => va_Nw.of rfl (hts _ (nm_mem a ha))⟩, hS, ?_, ?_, ?_⟩
  · have hl : cn < 8 := (List.getElem?_eq_some_iff.mp hq).1
    rcases (show cn = 0 ∨ cn = 1 ∨ cn = 2 ∨ cn = 3 ∨ cn = 4 ∨ cn = 5 ∨ cn = 6 ∨ cn = 7 by omega) with rfl | rfl | rfl | rfl | rfl | rfl | rfl | rfl
    · cases hq; exact u0
    · cases hq; exact u1
    · cases hq; exact u2
    · cases hq; exact u3
    · cases hq; exact u4
    · cases hq; exact u5
    · cases hq; exact u6
    · cases hq; exact u7
  · have hl : k < 3 := (List.getElem?_eq_some_iff.mp hk).1
    rcases (show k = 0 ∨ k = 1 ∨ k = 2 by omega) with rfl | rfl | rfl
    · cases hk; exact k1
    · cases hk; exact k2
    · cases hk; exact k3
  · refine lt4 ?_ ?_ ?_ ?_
    · exact vk_R.of (hts _ sr_mem0) (hR 0 (by decide))
    · exact vk_R.of (hts _ sr_mem1) (hR 1 (by decide))
    · exact vk_R.of (hts _ sr_mem2) (hR 2 (by decide))
    · exact vk_R.of (hts _ sr_mem3) (hR 3 (by decide))
  · exact va_Zof (hts _ ls_mem0) (hts _ li_mem0) (va_eqt (hs (Cond.eq (.static RJ0 "COMPACT_STRINGS" "Z") (.int 1)) (by decide +kernel))) hA
  · exact va_Zqof (hts _ ls_mem1) (hts _ li_mem1) (hs (Cond.isRef (.static RJ3 "SIOOBE_FORMATTER" "Ljava/util/function/BiFunction;")) (by decide +kernel)) hA
