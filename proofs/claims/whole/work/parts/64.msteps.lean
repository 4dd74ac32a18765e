/-! the model's findSteps -/
theorem fst_L1 {i : Nat} {crowd : Nat → Int32} (hi : i < 60) : ∀ (d j f : Nat) (hand from_ : Nat → Int32), j + d = 9 → d < f → (∀ x, x < j → hand x = crowd (9 * i + x) ∧ from_ x = crowd (9 * i + x)) → ∃ hand' from', F_X8_findSteps_L1 (nI i) crowd f (nI j) hand from_ = some (hand', from') ∧ ∀ x, x < 9 → hand' x = crowd (9 * i + x) ∧ from' x = crowd (9 * i + x)
  | 0, j, f + 1, hand, from_, hj, _, h => by
    rw [F_X8_findSteps_L1.eq_2, show (9 : Int32) = nI 9 from rfl, ifLe (by omega) (by omega), if_pos (by omega)]
    exact ⟨hand, from_, rfl, fun x hx => h x (by omega)⟩
  | d + 1, j, f + 1, hand, from_, hj, hf, h => by
    rw [F_X8_findSteps_L1.eq_2, show (9 : Int32) = nI 9 from rfl, ifLe (by omega) (by omega), if_neg (by omega), q_mul, q_add, gdT (inbI (by omega) (by omega)), nI_clamp (by omega), nI_clamp (by omega)]
    (try simp only [Option.bind_some])
    rw [gdT (inbI (by omega) (by omega)), gdT (inbI (by omega) (by omega)), pk_us]
    (try simp only [Option.bind_some])
    rw [gdT (inbI (by omega) (by omega)), nI_1]
    refine fst_L1 hi d (j + 1) f _ _ (by omega) (by omega) (fun x hx => ?_)
    by_cases e : x = j
    · rw [e, pk_us, pk_us]
      exact ⟨rfl, rfl⟩
    · rw [pk_un e, pk_un e]
      exact h x (by omega)
def RA (stands does : Nat → Int32) (R : List (Nat × Int32)) : Prop := ∀ j, j < R.length → stands j = nI (rg R j).1 ∧ does j = (rg R j).2
theorem RA.app {stands does : Nat → Int32} {R : List (Nat × Int32)} (h : RA stands does R) (r : Nat × Int32) : RA (upd stands R.length (nI r.1)) (upd does R.length r.2) (R ++ [r]) := by
  intro j hj
  rw [List.length_append] at hj
  unfold rg
  by_cases q : j < R.length
  · rw [pk_un (by omega), pk_un (by omega), List.getD_eq_getElem?_getD, List.getElem?_append_left q, ← List.getD_eq_getElem?_getD]
    exact h j q
  · have e : j = R.length := by simp at hj; omega
    subst e
    rw [pk_us, pk_us]
    simp
theorem fst_L11 {n c x : Nat} {d : Int32} {from_ : Nat → Int32} (hn : RG n) (hF : HD from_ n c) (hx : x < n) (hd : ¬ d = 0) : ∀ (e i f : Nat) (R : List (Nat × Int32)) (stands does : Nat → Int32), i + e = dg n c x → e < f → RA stands does R → R.length + e ≤ 4 → ∃ stands' does', F_X8_findSteps_L11 (nI x) d from_ f (nI R.length) (nI i) stands does = some (nI (R ++ List.replicate e (x, d)).length, stands', does') ∧ RA stands' does' (R ++ List.replicate e (x, d))
  | 0, i, f + 1, R, stands, does, hi, _, h, _ => by
    have h9 := hn.2
    have h8 := dg_lt n c x
    rw [F_X8_findSteps_L11.eq_2, gdT (inbI (by omega) (by omega)), nI_clamp (by omega), HD_at hF hn hx, if_pos (nI_le (by omega) (by omega)), List.replicate_zero, List.append_nil]
    exact ⟨stands, does, rfl, h⟩
  | e + 1, i, f + 1, R, stands, does, hi, hf, h, h4 => by
    have h9 := hn.2
    have h8 := dg_lt n c x
    rw [F_X8_findSteps_L11.eq_2, gdT (inbI (by omega) (by omega)), nI_clamp (by omega), HD_at hF hn hx, if_neg (nI_ge (by omega) (by omega)), if_neg hd, gdT (inbI (by omega) (by omega)), gdT (inbI (by omega) (by omega)), nI_clamp (by omega), nI_1, nI_1]
    (try simp only [Option.bind_some])
    have := fst_L11 hn hF hx hd e (i + 1) f (R ++ [(x, d)]) _ _ (by omega) (by omega) (h.app (x, d)) (by rw [List.length_append]; simp; omega)
    rw [List.length_append, show [(x, d)].length = 1 from rfl, List.append_assoc, show [(x, d)] ++ List.replicate e (x, d) = List.replicate (e + 1) (x, d) from rfl] at this
    exact this
theorem fst_L6 {n c k : Nat} {B : BOOK} {rs rr rd hand from_ : Nat → Int32} {rules : Int32} (hn : RG n) (hc : CR n c k) (hH : HD hand n c) (hF : HD from_ n c) (hB : BKok B) (hM : BKM rules rs rr rd B) : ∀ (d i f : Nat) (vd : Int32) (view up down stands does : Nat → Int32), i + d = n → d < f → RA stands does (RBp n B c i) → ∃ vd' view' up' down' stands' does', F_X8_findSteps_L6 (nI n) rules hand rs rr rd from_ f (nI (RBp n B c i).length) (nI i) vd view up down stands does = some (nI (RB n B c).length, vd', view', up', down', stands', does') ∧ RA stands' does' (RB n B c)
  | 0, i, f + 1, vd, view, up, down, stands, does, hi, _, h => by
    have h9 := hn.2
    have e : i = n := by omega
    subst e
    rw [F_X8_findSteps_L6.eq_2, if_pos (nI_le (by omega) (by omega))]
    exact ⟨vd, view, up, down, stands, does, rfl, h⟩
  | d + 1, i, f + 1, vd, view, up, down, stands, does, hi, hf, h => by
    have h9 := hn.2
    have h8 := dg_lt n c i
    have hi2 : i < n := by omega
    have hl := RBp_len n B c (i + 1)
    have hl2 := sm_mono (h := dg n c) (m := i + 1) (n := n) (by omega)
    rw [hc.2.1] at hl2
    have hk4 := hc.2.2
    have er : RBp n B c (i + 1) = RBp n B c i ++ blk n B c i := rfl
    rw [F_X8_findSteps_L6.eq_2, if_neg (nI_ge (by omega) (by omega)), gdT (inbI (by omega) (by omega)), nI_clamp (by omega), HD_at hF hn hi2, ifE0 (by omega)]
    obtain ⟨vd1, view1, up1, down1, hd⟩ := m_doing (view := view) (up := up) (down := down) hn hc hH hi2 hB hM
    have go : ∀ (R' : List (Nat × Int32)) (vd' : Int32) (view' up' down' st' do' : Nat → Int32), R' = RBp n B c (i + 1) → RA st' do' R' → ∃ a1 a2 a3 a4 a5 a6, F_X8_findSteps_L6 (nI n) rules hand rs rr rd from_ f (nI R'.length) (nI i + 1) vd' view' up' down' st' do' = some (nI (RB n B c).length, a1, a2, a3, a4, a5, a6) ∧ RA a5 a6 (RB n B c) := by
      intro R' vd' view' up' down' st' do' hR hA
      subst hR
      rw [nI_1]
      exact fst_L6 hn hc hH hF hB hM d (i + 1) f vd' view' up' down' st' do' (by omega) (by omega) hA
    by_cases q : dg n c i = 0
    · rw [if_pos q]
      (try simp only [Option.bind_some])
      have hg : ¬ goesP n B c i = true := by
        unfold goesP
        rw [q]
        simp
      rw [show FU = 999999 + 1 from rfl, F_X8_findSteps_L11.eq_2, gdT (inbI (by omega) (by omega)), nI_clamp (by omega), HD_at hF hn hi2, q, if_pos (by decide)]
      (try simp only [Option.bind_some])
      exact go _ _ _ _ _ _ _ (by rw [er]; unfold blk; rw [if_neg hg, List.append_nil]) h
    · rw [if_neg q, hd]
      (try simp only [Option.bind_some])
      by_cases z : mv n B c i = 0
      · have hg : ¬ goesP n B c i = true := by
          unfold goesP
          rw [z]
          simp
        rw [show FU = 999999 + 1 from rfl, F_X8_findSteps_L11.eq_2, gdT (inbI (by omega) (by omega)), nI_clamp (by omega), HD_at hF hn hi2, ifL0 (by omega), if_neg (by omega), if_pos z]
        (try simp only [Option.bind_some])
        exact go _ _ _ _ _ _ _ (by rw [er]; unfold blk; rw [if_neg hg, List.append_nil]) h
      · have hg : goesP n B c i = true := by
          unfold goesP
          simp only [Bool.and_eq_true, decide_eq_true_eq]
          exact ⟨by omega, z⟩
        have eb : blk n B c i = List.replicate (dg n c i) (i, mv n B c i) := by unfold blk; rw [if_pos hg]
        rw [eb] at er
        rw [er, List.length_append, List.length_replicate] at hl
        obtain ⟨st, dn, a1, a2⟩ := fst_L11 hn hF hi2 z (dg n c i) 0 FU (RBp n B c i) stands does (by omega) (by unfold FU; omega) h (by omega)
        rw [show nI 0 = (0 : Int32) from rfl] at a1
        rw [a1]
        (try simp only [Option.bind_some])
        rw [← er] at a2 ⊢
        exact go _ _ _ _ _ _ _ rfl a2
theorem fst_L30 {from_ : Nat → Int32} : ∀ (d i f : Nat) (hand : Nat → Int32), i + d = 9 → d < f → (∀ x, x < i → hand x = from_ x) → ∃ hand', F_X8_findSteps_L30 from_ f (nI i) hand = some hand' ∧ ∀ x, x < 9 → hand' x = from_ x
  | 0, i, f + 1, hand, hi, _, h => by
    rw [F_X8_findSteps_L30.eq_2, show (9 : Int32) = nI 9 from rfl, ifLe (by omega) (by omega), if_pos (by omega)]
    exact ⟨hand, rfl, fun x hx => h x (by omega)⟩
  | d + 1, i, f + 1, hand, hi, hf, h => by
    rw [F_X8_findSteps_L30.eq_2, show (9 : Int32) = nI 9 from rfl, ifLe (by omega) (by omega), if_neg (by omega), gdT (inbI (by omega) (by omega)), nI_clamp (by omega)]
    (try simp only [Option.bind_some])
    rw [gdT (inbI (by omega) (by omega)), nI_1]
    refine fst_L30 d (i + 1) f _ (by omega) (by omega) (fun x hx => ?_)
    by_cases e : x = i
    · rw [e, pk_us]
    · rw [pk_un e]
      exact h x (by omega)
theorem bit_i : ∀ a, a < 16 → ∀ k, k < 4 → (((jshr (nI a) (nI k)) &&& 1) = 1 ↔ a.testBit k = true) := by decide +kernel
theorem drop_c {R : List (Nat × Int32)} {i : Nat} (h : i < R.length) : R.drop i = rg R i :: R.drop (i + 1) := by
  unfold rg
  rw [List.drop_eq_getElem_cons h, List.getD_eq_getElem?_getD, List.getElem?_eq_getElem h, Option.getD_some]
theorem fst_L34 {n k a b : Nat} {R : List (Nat × Int32)} {stands does : Nat → Int32} (hn : RG n) (h4 : R.length ≤ 4) (hD : RD R) (hA : RA stands does R) (ha : a < 16) (hb : b < 16) : ∀ (d i f : Nat) (hand : Nat → Int32) (c : Nat), i + d = R.length → d < f → HD hand n c → OKc n k (R.drop i) c → ∃ hand', F_X8_findSteps_L34 (nI R.length) (nI a) (nI b) (nI n) stands does f (nI i) hand = some hand' ∧ HD hand' n (ap n (R.drop i) (gs (cw R n a b) i d) c)
  | 0, i, f + 1, hand, c, hi, _, hH, hO => by
    rw [F_X8_findSteps_L34.eq_2, if_pos (nI_le (by omega) (by omega)), List.drop_of_length_le (by omega)]
    exact ⟨hand, rfl, hH⟩
  | d + 1, i, f + 1, hand, c, hi, hf, hH, hO => by
    have h9 := hn.2
    have h0 : 0 < n := by have := hn.1; omega
    have hi2 : i < R.length := by omega
    rw [drop_c hi2] at hO ⊢
    obtain ⟨hp, h1⟩ := hO.hd
    obtain ⟨s1, s2⟩ := hA i hi2
    rw [F_X8_findSteps_L34.eq_2, if_neg (nI_ge (by omega) (by omega)), gs_s]
    unfold ap
    by_cases q : a.testBit i = true
    · rw [if_pos ((bit_i a ha i (by omega)).mpr q), gdT (inbI (by omega) (by omega)), nI_clamp (by omega), s2, gdT (inbI (by omega) (by omega))]
      have hz : ∃ w z, WI n w z ∧ cw R n a b i = w ∧ (if (rg R i).2 = 2 then (if ((jshr (nI b) (nI i)) &&& 1) = 1 then some (1 : Int32) else some (-1)) else some (rg R i).2) = some z := by
        unfold cw
        rw [if_pos q]
        rcases hD _ (rg_mem hi2) with e | e | e
        · rw [e, if_neg (by decide), if_neg (by decide), if_neg (by decide)]
          exact ⟨1, 1, Or.inl ⟨rfl, rfl⟩, rfl, rfl⟩
        · rw [e, if_pos rfl, if_pos rfl]
          by_cases z : b.testBit i = true
          · rw [if_pos z, if_pos ((bit_i b hb i (by omega)).mpr z)]
            exact ⟨1, 1, Or.inl ⟨rfl, rfl⟩, rfl, rfl⟩
          · rw [if_neg z, if_neg fun y => z ((bit_i b hb i (by omega)).mp y)]
            exact ⟨n - 1, -1, Or.inr ⟨rfl, rfl⟩, rfl, rfl⟩
        · rw [e, if_neg (by decide), if_pos rfl, if_neg (by decide)]
          exact ⟨n - 1, -1, Or.inr ⟨rfl, rfl⟩, rfl, rfl⟩
      obtain ⟨w, z, hw, hcw, hz⟩ := hz
      rw [hz, hcw]
      (try simp only [Option.bind_some])
      have hm := Nat.mod_lt ((rg R i).1 + w) h0
      have e1 : jrem (nI (rg R i).1 + z + nI n) (nI n) = nI (((rg R i).1 + w) % n) := by
        have := q_pos hn hp hw (k := 1) (by omega)
        rw [show z * nI 1 = z from Int32.mul_one z, show nI n * nI 1 = nI n from Int32.mul_one _] at this
        rw [this]
        unfold pos
        rw [Nat.mul_one]
      rw [gdT (inbI (by omega) (by omega)), s1, gdT (inbI (by omega) (by omega)), nI_clamp (by omega)]
      (try simp only [Option.bind_some])
      rw [gdT (inbI (by omega) (by omega)), gdT (inbI (by omega) (by omega)), gdT (nzI h0 (by omega)), e1, gdT (inbI (by omega) (by omega)), nI_clamp (by omega)]
      (try simp only [Option.bind_some])
      rw [gdT (inbI (by omega) (by omega)), nI_1]
      (try simp only [Option.bind_some])
      have hw0 : w ≠ 0 := by
        have := hn.1
        rcases hw with ⟨a, _⟩ | ⟨a, _⟩ <;> omega
      have hap : ap1 n c (rg R i) w = mv1 n c (rg R i).1 w := by
        unfold ap1
        rw [if_neg hw0]
      have hmv := HF.mv hn (h := dg n c) hH hp hm h1
      have hH2 : HD _ n (mv1 n c (rg R i).1 w) := hmv.hd (mv1_CR hn hO.1 hp h1 w).2
      rw [hap]
      exact fst_L34 hn h4 hD hA ha hb d (i + 1) f _ _ (by omega) (by omega) hH2 (hO.go hn w)
    · rw [if_neg fun y => q ((bit_i a ha i (by omega)).mp y)]
      (try simp only [Option.bind_some])
      rw [nI_1, cw_off q]
      have hap : ap1 n c (rg R i) 0 = c := by
        unfold ap1
        rw [if_pos rfl]
      rw [hap]
      exact fst_L34 hn h4 hD hA ha hb d (i + 1) f hand c (by omega) (by omega) hH hO.tail
