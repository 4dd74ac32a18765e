/-! robots that go -/
def updN (h : Nat → Nat) (k v : Nat) : Nat → Nat := fun j => if j = k then v else h j
theorem updN_s {h : Nat → Nat} {k v : Nat} : updN h k v k = v := if_pos rfl
theorem updN_n {h : Nat → Nat} {k v j : Nat} (q : j ≠ k) : updN h k v j = h j := if_neg q
def wt (n x : Nat) : Nat := 2 ^ (3 * (n - 1 - x))
theorem pkR_upd {h : Nat → Nat} : ∀ {n x v : Nat}, x < n → pkR (updN h x v) n + h x * wt n x = pkR h n + v * wt n x
  | 0, x, v, hx => absurd hx (by omega)
  | n + 1, x, v, hx => by
    show pkR (updN h x v) n * 8 + updN h x v n + h x * wt (n + 1) x = pkR h n * 8 + h n + v * wt (n + 1) x
    by_cases e : x = n
    · subst e
      have e1 : pkR (updN h x v) x = pkR h x := pkR_congr (fun y hy => updN_n (by omega))
      have e2 : wt (x + 1) x = 1 := by
        unfold wt
        rw [show 3 * (x + 1 - 1 - x) = 0 by omega]
      rw [e1, updN_s, e2]
      omega
    · have ih := pkR_upd (h := h) (n := n) (x := x) (v := v) (by omega)
      have e2 : wt (n + 1) x = wt n x * 8 := by
        unfold wt
        rw [show 3 * (n + 1 - 1 - x) = 3 * (n - 1 - x) + 3 by omega, Nat.pow_add]
      rw [e2, updN_n (fun q => e q.symm), ← Nat.mul_assoc, ← Nat.mul_assoc]
      omega
theorem sm_upd {h : Nat → Nat} : ∀ {n x v : Nat}, x < n → sm (updN h x v) n + h x = sm h n + v
  | 0, x, v, hx => absurd hx (by omega)
  | n + 1, x, v, hx => by
    show sm (updN h x v) n + updN h x v n + h x = sm h n + h n + v
    by_cases e : x = n
    · subst e
      rw [sm_congr (k := h) (fun y hy => updN_n (by omega)), updN_s]
      omega
    · have ih := sm_upd (h := h) (n := n) (x := x) (v := v) (by omega)
      rw [updN_n (fun q => e q.symm)]
      omega
/-- m robots go from a to b -/
def mvF (h : Nat → Nat) (a b m : Nat) : Nat → Nat := updN (updN h a (h a - m)) b (updN h a (h a - m) b + m)
theorem mvF_pk {h : Nat → Nat} {n a b m : Nat} (ha : a < n) (hb : b < n) (hm : m ≤ h a) : pkR (mvF h a b m) n + m * wt n a = pkR h n + m * wt n b := by
  have e1 := pkR_upd (h := h) (n := n) (x := a) (v := h a - m) ha
  have e2 := pkR_upd (h := updN h a (h a - m)) (n := n) (x := b) (v := updN h a (h a - m) b + m) hb
  have e3 : h a * wt n a = (h a - m) * wt n a + m * wt n a := by rw [← Nat.add_mul]; congr 1; omega
  rw [Nat.add_mul (updN h a (h a - m) b) m] at e2
  unfold mvF
  omega
theorem mvF_sm {h : Nat → Nat} {n a b m : Nat} (ha : a < n) (hb : b < n) (hm : m ≤ h a) : sm (mvF h a b m) n = sm h n := by
  have e1 := sm_upd (h := h) (n := n) (x := a) (v := h a - m) ha
  have e2 := sm_upd (h := updN h a (h a - m)) (n := n) (x := b) (v := updN h a (h a - m) b + m) hb
  unfold mvF
  omega
theorem mvF_ge {h : Nat → Nat} {a b m x : Nat} (hx : x ≠ a) : h x ≤ mvF h a b m x := by
  unfold mvF
  by_cases e : x = b
  · subst e
    rw [updN_s, updN_n hx]
    omega
  · rw [updN_n e, updN_n hx]
    exact Nat.le_refl _
theorem mvF_I {h : Nat → Nat} {n a b m : Nat} (ha : a < n) (hb : b < n) (hm : m ≤ h a) : nI (pkR h n) + nI m * (nI (wt n b) - nI (wt n a)) = nI (pkR (mvF h a b m) n) := by
  have e := congrArg nI (mvF_pk ha hb hm)
  rw [← q_add, ← q_add, ← q_mul, ← q_mul] at e
  grind
theorem x_shift {n p w : Nat} {z : Int32} (hn : RG n) (hp : p < n) (hw : WI n w z) : F_X3_shift (nI p) z (nI n) = some (nI (wt n ((p + w) % n)) - nI (wt n p)) := by
  have h0 : 0 < n := by have := hn.1; omega
  unfold F_X3_shift
  rw [x_beside hn hp hw]
  (try simp only [Option.bind_some])
  rw [x_oneAt hn (Nat.mod_lt _ h0)]
  (try simp only [Option.bind_some])
  rw [x_oneAt hn hp]
  rfl
/-- an array of the model holds the row h -/
def HF (hand : Nat → Int32) (n : Nat) (h : Nat → Nat) : Prop := ∀ x, x < 9 → hand x = if x < n then nI (h x) else 0
theorem HF.hd {hand : Nat → Int32} {n : Nat} {h : Nat → Nat} (H : HF hand n h) (hh : ∀ x, x < n → h x < 8) : HD hand n (pkR h n) := fun x hx => by
  rw [H x hx]
  by_cases q : x < n
  · rw [if_pos q, if_pos q, dg_pkR hh q]
  · rw [if_neg q, if_neg q]
theorem HF.at {hand : Nat → Int32} {n x : Nat} {h : Nat → Nat} (H : HF hand n h) (hn : RG n) (hx : x < n) : hand x = nI (h x) := by
  have := hn.2
  rw [H x (by omega), if_pos hx]
theorem HF.upd {hand : Nat → Int32} {n x v : Nat} {h : Nat → Nat} (H : HF hand n h) (hx : x < n) : HF (upd hand x (nI v)) n (updN h x v) := fun y hy => by
  by_cases e : y = x
  · subst e
    rw [pk_us, if_pos hx, updN_s]
  · rw [pk_un e, H y hy, updN_n e]
theorem HF.mv {hand : Nat → Int32} {n a b m : Nat} {h : Nat → Nat} (hn : RG n) (H : HF hand n h) (ha : a < n) (hb : b < n) (hm : m ≤ h a) : HF (Jvm.Pilot.@@N@@.upd (Jvm.Pilot.@@N@@.upd hand a (hand a - nI m)) b (Jvm.Pilot.@@N@@.upd hand a (hand a - nI m) b + nI m)) n (mvF h a b m) := by
  have e1 : hand a - nI m = nI (h a - m) := by rw [H.at hn ha, q_sub hm]
  rw [e1]
  have H1 := H.upd (v := h a - m) ha
  rw [H1.at hn hb, q_add]
  exact H1.upd hb
/-! step -/
def dst (n : Nat) (B : BOOK) (c x : Nat) : Nat := if mv n B c x = -1 then (x + (n - 1)) % n else (x + 1) % n
def goesP (n : Nat) (B : BOOK) (c x : Nat) : Bool := decide (0 < dg n c x) && decide (¬ mv n B c x = 0)
def stp (n : Nat) (B : BOOK) (c : Nat) : Nat → Nat → Nat
  | 0 => dg n c
  | i + 1 => if goesP n B c i = true then mvF (stp n B c i) i (dst n B c i) (dg n c i) else stp n B c i
def stM (n : Nat) (B : BOOK) (c : Nat) : Nat → Nat := sm (fun x => if goesP n B c x = true then dg n c x else 0)
theorem dst_lt {n : Nat} (h0 : 0 < n) (B : BOOK) (c x : Nat) : dst n B c x < n := by
  unfold dst
  split <;> exact Nat.mod_lt _ h0
theorem stp_ge (n : Nat) (B : BOOK) (c : Nat) : ∀ i x, i ≤ x → dg n c x ≤ stp n B c i x
  | 0, _, _ => Nat.le_refl _
  | i + 1, x, hx => by
    have ih := stp_ge n B c i x (by omega)
    unfold stp
    split
    · exact Nat.le_trans ih (mvF_ge (by omega))
    · exact ih
theorem stp_sm {n : Nat} (B : BOOK) (c : Nat) (h0 : 0 < n) : ∀ i, i ≤ n → sm (stp n B c i) n = sm (dg n c) n
  | 0, _ => rfl
  | i + 1, hi => by
    have ih := stp_sm B c h0 i (by omega)
    unfold stp
    split
    · rw [mvF_sm (by omega) (dst_lt h0 B c i) (stp_ge n B c i i (Nat.le_refl i))]
      exact ih
    · exact ih
theorem mv_cases (n : Nat) (B : BOOK) (c p : Nat) : mv n B c p = 0 ∨ mv n B c p = 1 ∨ mv n B c p = 2 ∨ mv n B c p = -1 := by
  unfold mv
  repeat' split
  all_goals simp
theorem x_step_L {n c k : Nat} {B : BOOK} {rows : Nat → Int64} {acts : Nat → Int32} {size : Int32} (hn : RG n) (hc : CR n c k) (hB : BKok B) (hX : BKX size rows acts B) : ∀ (d i f : Nat), i + d = n → d < f → F_X7_step_L2 (nI c) (nI n) size rows acts f (nI (pkR (stp n B c i) n)) (nI (stM n B c i)) (nI i) = some (nI (pkR (stp n B c n) n), nI (stM n B c n))
  | 0, i, f + 1, hi, _ => by
    have h9 := hn.2
    rw [F_X7_step_L2.eq_2, if_pos (nI_le (by omega) (by omega)), show i = n by omega]
  | d + 1, i, f + 1, hi, hf => by
    have h9 := hn.2
    have h0 : 0 < n := by have := hn.1; omega
    have h8 := dg_lt n c i
    have ih := x_step_L hn hc hB hX d (i + 1) f (by omega) (by omega)
    have es : stM n B c (i + 1) = stM n B c i + (if goesP n B c i = true then dg n c i else 0) := rfl
    rw [F_X7_step_L2.eq_2, if_neg (nI_ge (by omega) (by omega)), x_manyAt hn hc.1 (by omega)]
    (try simp only [Option.bind_some])
    rw [ifE0 (by omega), x_moveAt hn hc (by omega) hB hX]
    (try simp only [Option.bind_some])
    by_cases hg : goesP n B c i = true
    · have hg2 := hg
      unfold goesP at hg2
      simp only [Bool.and_eq_true, decide_eq_true_eq] at hg2
      have e1 : stp n B c (i + 1) = mvF (stp n B c i) i (dst n B c i) (dg n c i) := by rw [stp, if_pos hg]
      rw [e1, es, if_pos hg] at ih
      rw [if_neg (by omega)]
      (try simp only [Option.bind_some])
      rw [if_neg hg2.2]
      have key : ∀ (w : Nat) (z : Int32), WI n w z → dst n B c i = (i + w) % n → (Option.bind (F_X3_shift (nI i) z (nI n)) fun p12 => Option.bind (some (nI (pkR (stp n B c i) n) + (nI (dg n c i) * p12))) fun v13 => Option.bind (some (nI (stM n B c i) + nI (dg n c i))) fun v14 => some (v13, v14)) = some (nI (pkR (mvF (stp n B c i) i (dst n B c i) (dg n c i)) n), nI (stM n B c i + dg n c i)) := by
        intro w z hw hd
        rw [x_shift hn (by omega) hw, ← hd]
        (try simp only [Option.bind_some])
        rw [mvF_I (by omega) (dst_lt h0 B c i) (stp_ge n B c i i (Nat.le_refl i)), q_add]
      by_cases hm : mv n B c i = -1
      · rw [if_pos hm]
        simp only [Option.bind_some]
        have := key (n - 1) (-1) (Or.inr ⟨rfl, rfl⟩) (by unfold dst; rw [if_pos hm])
        simp only [Option.bind_some] at this
        rw [this]
        (try simp only [Option.bind_some])
        rw [nI_1]
        exact ih
      · rw [if_neg hm]
        simp only [Option.bind_some]
        have := key 1 1 (Or.inl ⟨rfl, rfl⟩) (by unfold dst; rw [if_neg hm])
        simp only [Option.bind_some] at this
        rw [this]
        (try simp only [Option.bind_some])
        rw [nI_1]
        exact ih
    · have e1 : stp n B c (i + 1) = stp n B c i := by rw [stp, if_neg hg]
      rw [e1, es, if_neg hg] at ih
      unfold goesP at hg
      simp only [Bool.and_eq_true, decide_eq_true_eq, not_and, Decidable.not_not] at hg
      have hz : (if dg n c i = 0 then some (0 : Int32) else some (mv n B c i)) = some 0 := by
        by_cases q : dg n c i = 0
        · rw [if_pos q]
        · rw [if_neg q, hg (by omega)]
      rw [hz]
      (try simp only [Option.bind_some])
      rw [if_pos (by trivial)]
      (try simp only [Option.bind_some])
      rw [nI_1]
      exact ih
/-- the crowd behind a step -/
def stC (n : Nat) (B : BOOK) (c : Nat) : Nat := pkR (stp n B c n) n
theorem stp_lt {n c k : Nat} (hn : RG n) (hc : CR n c k) (B : BOOK) {i : Nat} (hi : i ≤ n) : ∀ x, x < n → stp n B c i x < 8 := fun x hx => by
  have a := sm_le (h := stp n B c i) hx
  rw [stp_sm B c (by have := hn.1; omega) i hi, hc.2.1] at a
  have := hc.2.2
  omega
theorem stC_CR {n c k : Nat} (hn : RG n) (hc : CR n c k) (B : BOOK) : CR n (stC n B c) k := by
  have hlt := stp_lt hn hc B (Nat.le_refl n)
  refine ⟨pkR_lt hlt, ?_, hc.2.2⟩
  unfold stC
  rw [sm_congr (fun x hx => dg_pkR hlt hx), stp_sm B c (by have := hn.1; omega) n (Nat.le_refl n)]
  exact hc.2.1
theorem x_step {n c k : Nat} {B : BOOK} {rows : Nat → Int64} {acts : Nat → Int32} {size : Int32} (hn : RG n) (hc : CR n c k) (hB : BKok B) (hX : BKX size rows acts B) (h0 : c ≠ 0) : F_X7_step (nI c) (nI n) size rows acts = some (nI (stM n B c n), nI (stC n B c)) := by
  have hlt := hc.lt hn
  unfold F_X7_step
  rw [ifE0 (by omega), if_neg h0]
  have := x_step_L hn hc hB hX n 0 FU (by omega) (by have := hn.2; unfold FU; omega)
  rw [show stp n B c 0 = dg n c from rfl, pkR_dg hc.1, show nI (stM n B c 0) = (0 : Int32) from rfl, show nI 0 = (0 : Int32) from rfl] at this
  rw [this]
  rfl
