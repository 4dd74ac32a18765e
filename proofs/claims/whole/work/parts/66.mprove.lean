/-! the model's prove -/
def SG (S : Nat → Nat → Prop) (G : Nat → Prop) (x y : Nat) : Prop := ¬ G x ∧ S x y
theorem SF_SG {S : Nat → Nat → Prop} {G : Nat → Prop} : ∀ {i x : Nat}, SF (SG S G) G i x ↔ SF S G i x
  | 0, _ => Iff.rfl
  | i + 1, x => by
    constructor
    · rintro (h | ⟨⟨y, h1, h2⟩, h⟩)
      · exact Or.inl (SF_SG.mp h)
      · exact Or.inr ⟨⟨y, h2⟩, fun z hz => SF_SG.mp (h z ⟨h1, hz⟩)⟩
    · rintro (h | ⟨⟨y, h1⟩, h⟩)
      · exact Or.inl (SF_SG.mpr h)
      · by_cases q : G x
        · exact SF_le (i := 0) (by omega) q
        · exact Or.inr ⟨⟨y, q, h1⟩, fun z hz => SF_SG.mpr (h z hz.2)⟩
theorem RCH_SG {S : Nat → Nat → Prop} {G : Nat → Prop} {x0 : Nat} : ∀ {i y : Nat}, RCH (SG S G) G x0 i y ↔ RCH S G x0 i y
  | 0, _ => Iff.rfl
  | i + 1, y => by
    constructor
    · rintro (h | ⟨x, h1, h2, h3⟩)
      · exact Or.inl (RCH_SG.mp h)
      · exact Or.inr ⟨x, RCH_SG.mp h1, h2, h3.2⟩
    · rintro (h | ⟨x, h1, h2, h3⟩)
      · exact Or.inl (RCH_SG.mpr h)
      · exact Or.inr ⟨x, RCH_SG.mpr h1, h2, h2, h3⟩
theorem MOST_SG {S : Nat → Nat → Prop} {G : Nat → Prop} {x : Nat} {r : Int32} (h : MOST (SG S G) G x r) : MOST S G x r := by
  rcases h with ⟨s, a, b, d, e⟩ | ⟨a, e⟩
  · exact Or.inl ⟨s, a, SF_SG.mp b, fun t ht z => d t ht (SF_SG.mpr z), e⟩
  · exact Or.inr ⟨fun ⟨s, z⟩ => a ⟨s, SF_SG.mpr z⟩, e⟩
theorem SF_min {N : List Nat} {S : Nat → Nat → Prop} {G : Nat → Prop} (hC : CLO N S) {s x : Nat} (hx : x ∈ N) (hs : SF S G s x) (hm : ∀ t, t < s → ¬ SF S G t x) : s < N.length := by
  have hl : 0 < N.length := List.length_pos_of_mem hx
  refine Classical.byContradiction fun z => hm (N.length - 1) (by omega) (SF_rest hC hx hs)
theorem SF_step {S : Nat → Nat → Prop} {G : Nat → Prop} {x F : Nat} (hG : ¬ G x) (h1 : ∃ y, S x y ∧ ∀ t, t < F → ¬ SF S G t y) (h2 : ∀ y, S x y → ∃ s, s ≤ F ∧ SF S G s y) : SF S G (F + 1) x ∧ ∀ t, t < F + 1 → ¬ SF S G t x := by
  obtain ⟨y, y1, y2⟩ := h1
  refine ⟨Or.inr ⟨⟨y, y1⟩, fun z hz => ?_⟩, fun t => ?_⟩
  · obtain ⟨s, a, b⟩ := h2 z hz
    exact SF_le a b
  · induction t with
    | zero => exact fun _ h => hG h
    | succ t ih =>
      intro ht h
      rcases h with h | ⟨_, h⟩
      · exact ih (by omega) h
      · exact y2 t (by omega) (h y y1)
theorem pr_L2 : ∀ (d i f : Nat) (s : Nat → Int32), i + d = 14400 → d < f → (∀ q, q < i → s q = 0) → ∃ s', F_X8_prove_L2 f (nI i) s = some s' ∧ ∀ q, q < 14400 → s' q = 0
  | 0, i, f + 1, s, hi, _, h => by
    rw [F_X8_prove_L2.eq_2, show (14400 : Int32) = nI 14400 from rfl, ifLe (by omega) (by omega), if_pos (by omega)]
    exact ⟨s, rfl, fun x hx => h x (by omega)⟩
  | d + 1, i, f + 1, s, hi, hf, h => by
    rw [F_X8_prove_L2.eq_2, show (14400 : Int32) = nI 14400 from rfl, ifLe (by omega) (by omega), if_neg (by omega), gdT (inbI (by omega) (by omega)), nI_clamp (by omega), nI_1, nar0]
    (try simp only [Option.bind_some])
    refine pr_L2 d (i + 1) f _ (by omega) (by omega) (fun x hx => ?_)
    by_cases e : x = i
    · rw [e, pk_us]
    · rw [pk_un e]
      exact h x (by omega)
theorem pr_L7 {i : Nat} {crowd : Nat → Int32} (hi : i < 60) : ∀ (d j f : Nat) (hand : Nat → Int32), j + d = 9 → d < f → (∀ x, x < j → hand x = crowd (9 * i + x)) → ∃ hand', F_X8_prove_L7 (nI i) crowd f (nI j) hand = some hand' ∧ ∀ x, x < 9 → hand' x = crowd (9 * i + x)
  | 0, j, f + 1, hand, hj, _, h => by
    rw [F_X8_prove_L7.eq_2, show (9 : Int32) = nI 9 from rfl, ifLe (by omega) (by omega), if_pos (by omega)]
    exact ⟨hand, rfl, fun x hx => h x (by omega)⟩
  | d + 1, j, f + 1, hand, hj, hf, h => by
    rw [F_X8_prove_L7.eq_2, show (9 : Int32) = nI 9 from rfl, ifLe (by omega) (by omega), if_neg (by omega), q_mul, q_add, gdT (inbI (by omega) (by omega)), nI_clamp (by omega), nI_clamp (by omega)]
    (try simp only [Option.bind_some])
    rw [gdT (inbI (by omega) (by omega)), nI_1]
    refine pr_L7 hi d (j + 1) f _ (by omega) (by omega) (fun x hx => ?_)
    by_cases e : x = j
    · rw [e, pk_us]
    · rw [pk_un e]
      exact h x (by omega)
/-- the tables so far -/
def PTI (M : List Nat) (S : Nat → Nat → Prop) (G : Nat → Prop) (m : Nat) (isStep isGoal most : Nat → Int32) : Prop := ∀ i, i < M.length → (i < m → (isGoal i = 0 ↔ ¬ G (M.getD i 0)) ∧ ((G (M.getD i 0) ∧ most i = 0) ∨ (¬ G (M.getD i 0) ∧ most i = -1000000)) ∧ SRW isStep i M (SG S G (M.getD i 0))) ∧ (m ≤ i → SRW isStep i M (fun _ => False))
theorem SRW_out {i i' : Nat} {M : List Nat} {P : Nat → Prop} {s s' : Nat → Int32} (h60 : M.length ≤ 60) (he : i' ≠ i) (ho : OUT i s s') (h : SRW s i' M P) : SRW s' i' M P := fun j hj => by
  rw [ho _ (fun q hq => by omega)]
  exact h j hj
theorem SRW_congr {i : Nat} {M : List Nat} {P Q : Nat → Prop} {s : Nat → Int32} (h : SRW s i M P) (e : ∀ y, P y ↔ Q y) : SRW s i M Q := fun j hj => by rw [h j hj, e]
theorem pr_L5 {n k w g : Nat} {B : BOOK} {rs rr rd crowd : Nat → Int32} {rules : Int32} {M : List Nat} (hT : MT n k crowd M) (hw : w < 3) (hg : g < 3) (hB : BKok B) (hM : BKM rules rs rr rd B) : ∀ (d i f : Nat) (vd : Int32) (hand view up down name isStep isGoal most stands does from_ : Nat → Int32), i + d = M.length → d < f → PTI M (ST n B w) (GP n k g) i isStep isGoal most → ∃ vd' hand' view' up' down' name' isStep' isGoal' most' stands' does' from', F_X8_prove_L5 (nI w) (nI g) (nI n) (nI k) rules (nI M.length) rs rr rd crowd f (nI i) vd hand view up down name isStep isGoal most stands does from_ = some (vd', hand', view', up', down', name', isStep', isGoal', most', stands', does', from') ∧ PTI M (ST n B w) (GP n k g) M.length isStep' isGoal' most'
  | 0, i, f + 1, vd, hand, view, up, down, name, isStep, isGoal, most, stands, does, from_, hi, _, h => by
    have h60 := hT.2.2.2.1.2.2
    rw [F_X8_prove_L5.eq_2, if_pos (nI_le (by omega) (by omega))]
    have e : i = M.length := by omega
    subst e
    exact ⟨_, _, _, _, _, _, _, _, _, _, _, _, rfl, h⟩
  | d + 1, i, f + 1, vd, hand, view, up, down, name, isStep, isGoal, most, stands, does, from_, hi, hf, h => by
    have hT' := hT
    obtain ⟨hn, h1, hk4, hML, hC⟩ := hT'
    have h60 := hML.2.2
    have hi2 : i < M.length := by omega
    obtain ⟨hc, _, _⟩ := hT.get hi2
    obtain ⟨ha, a1, a2⟩ := pr_L7 (crowd := crowd) (show i < 60 by omega) 9 0 FU hand (by omega) (by unfold FU; omega) (fun x hx => absurd hx (by omega))
    have hH : HD ha n (M.getD i 0) := fun x hx => by rw [a2 x hx]; exact hC i hi2 x hx
    rw [F_X8_prove_L5.eq_2, if_neg (nI_ge (by omega) (by omega))]
    rw [show nI 0 = (0 : Int32) from rfl] at a1
    rw [a1]
    (try simp only [Option.bind_some])
    rw [m_isGoal hn hc hH (by omega) hg]
    (try simp only [Option.bind_some])
    rw [gdT (inbI (by omega) (by omega)), gdT (inbI (by omega) (by omega)), nI_clamp (by omega), pk_us]
    (try simp only [Option.bind_some])
    have next : ∀ (v m : Int32) (s' : Nat → Int32), (v = 0 ↔ ¬ GP n k g (M.getD i 0)) → ((GP n k g (M.getD i 0) ∧ m = 0) ∨ (¬ GP n k g (M.getD i 0) ∧ m = -1000000)) → SRW s' i M (SG (ST n B w) (GP n k g) (M.getD i 0)) → OUT i isStep s' → PTI M (ST n B w) (GP n k g) (i + 1) s' (upd isGoal i v) (upd most i m) := by
      intro v m s' hv hm hs ho j hj
      by_cases e : j = i
      · subst e
        rw [pk_us, pk_us]
        exact ⟨fun _ => ⟨hv, hm, hs⟩, fun q => by omega⟩
      · rw [pk_un e, pk_un e]
        obtain ⟨p1, p2⟩ := h j hj
        exact ⟨fun q => ⟨(p1 (by omega)).1, (p1 (by omega)).2.1, SRW_out h60 e ho (p1 (by omega)).2.2⟩, fun q => SRW_out h60 e ho (p2 (by omega))⟩
    have hF := (h i hi2).2 (Nat.le_refl i)
    by_cases q : gl n (M.getD i 0) g k = true
    · have hG : GP n k g (M.getD i 0) := q
      rw [if_pos q, nar1, if_neg (by decide)]
      (try simp only [Option.bind_some])
      rw [gdT (inbI (by omega) (by omega)), gdT (inbI (by omega) (by omega)), if_neg (by decide)]
      (try simp only [Option.bind_some])
      rw [nI_1]
      exact pr_L5 hT hw hg hB hM d (i + 1) f _ _ _ _ _ _ _ _ _ _ _ _ (by omega) (by omega) (next 1 0 isStep ⟨fun z => absurd z (by decide), fun z => absurd hG z⟩ (Or.inl ⟨hG, rfl⟩) (SRW_congr hF fun y => ⟨fun z => absurd z id, fun z => z.1 hG⟩) (fun _ _ => rfl))
    · have hG : ¬ GP n k g (M.getD i 0) := q
      rw [if_neg q, nar0, if_pos (by trivial)]
      (try simp only [Option.bind_some])
      rw [gdT (inbI (by omega) (by omega)), gdT (inbI (by omega) (by omega)), if_pos (by trivial)]
      obtain ⟨b1, b2, b3, b4, b5, b6, b7, b8, b9, b10, e1, e2, e3⟩ := m_findSteps (hand := ha) (view := view) (up := up) (down := down) (name := name) (stands := stands) (does := does) (from_ := from_) (vd := vd) hT hi2 hw hB hM hF
      rw [e1]
      (try simp only [Option.bind_some])
      rw [nI_1]
      exact pr_L5 hT hw hg hB hM d (i + 1) f _ _ _ _ _ _ _ _ _ _ _ _ (by omega) (by omega) (next 0 (-1000000) b7 ⟨fun _ => hG, fun _ => rfl⟩ (Or.inr ⟨hG, rfl⟩) (SRW_congr e2 fun y => ⟨fun z => ⟨hG, z⟩, fun z => z.2⟩) e3)
/-! the rounds -/
theorem nNone {s : Nat} (h : s < 2 ^ 20) : ¬ nI s = -1000000 := by
  intro z
  have := congrArg Int32.toInt z
  rw [nI_toInt (by omega)] at this
  have e2 : (-1000000 : Int32).toInt = -1000000 := by decide
  omega
theorem nNone2 {s : Nat} (h : s < 2 ^ 20) : ¬ nI s ≤ -1000000 := by
  intro z
  have := Int32.le_iff_toInt_le.mp z
  rw [nI_toInt (by omega)] at this
  have e2 : (-1000000 : Int32).toInt = -1000000 := by decide
  omega
def MI (M : List Nat) (S : Nat → Nat → Prop) (G : Nat → Prop) (most : Nat → Int32) : Prop := ∀ i, i < M.length → (most i = -1000000 ∨ ∃ s, s < 2 ^ 10 ∧ most i = nI s ∧ SF S G s (M.getD i 0) ∧ ∀ t, t < s → ¬ SF S G t (M.getD i 0)) ∧ (G (M.getD i 0) → most i = 0)
/-- what L24 finds: far -/
def FAR (isStep most : Nat → Int32) (i d : Nat) (far : Int32) : Prop := (far = -1000000 ∧ ∀ j, j < d → isStep (120 * i + j) = 0) ∨ ∃ F, F < 2 ^ 10 ∧ far = nI F ∧ (∃ j, j < d ∧ ¬ isStep (120 * i + j) = 0 ∧ most j = nI F) ∧ ∀ j, j < d → ¬ isStep (120 * i + j) = 0 → ∃ s, s ≤ F ∧ most j = nI s
theorem pr_L24 {M : List Nat} {S : Nat → Nat → Prop} {G : Nat → Prop} {isStep most : Nat → Int32} {i : Nat} (h60 : M.length ≤ 60) (hi : i < M.length) (hI : MI M S G most) : ∀ (e d f : Nat) (far z : Int32), d + e = M.length → e < f → ((z = 0 ∧ ∃ j, j < M.length ∧ ¬ isStep (120 * i + j) = 0 ∧ most j = -1000000) ∨ (z = 1 ∧ (∀ j, j < d → ¬ isStep (120 * i + j) = 0 → ¬ most j = -1000000) ∧ FAR isStep most i d far)) → ∃ far' z', F_X8_prove_L24 (nI i) (nI M.length) isStep most f far z (nI d) = some (far', z') ∧ ((z' = 0 ∧ ∃ j, j < M.length ∧ ¬ isStep (120 * i + j) = 0 ∧ most j = -1000000) ∨ (z' = 1 ∧ (∀ j, j < M.length → ¬ isStep (120 * i + j) = 0 → ¬ most j = -1000000) ∧ FAR isStep most i M.length far'))
  | 0, d, f + 1, far, z, hd, _, h => by
    rw [F_X8_prove_L24.eq_2, if_pos (nI_le (by omega) (by omega))]
    rw [show d = M.length by omega] at h
    exact ⟨far, z, rfl, h⟩
  | e + 1, d, f + 1, far, z, hd, hf, h => by
    have hd2 : d < M.length := by omega
    rw [F_X8_prove_L24.eq_2, if_neg (nI_ge (by omega) (by omega))]
    rcases h with ⟨z0, hz⟩ | ⟨z1, hall, hfar⟩
    · rw [if_pos z0]
      exact ⟨far, z, rfl, Or.inl ⟨z0, hz⟩⟩
    · rw [if_neg (by rw [z1]; decide), show (120 : Int32) = nI 120 from rfl, q_mul, q_add, gdT (inbI (by omega) (by omega)), nI_clamp (by omega)]
      by_cases q : isStep (120 * i + d) = 0
      · rw [if_pos q]
        (try simp only [Option.bind_some])
        rw [nI_1]
        refine pr_L24 h60 hi hI e (d + 1) f far z (by omega) (by omega) (Or.inr ⟨z1, fun j hj hs => ?_, ?_⟩)
        · by_cases y : j = d
          · subst y
            exact absurd q hs
          · exact hall j (by omega) hs
        · rcases hfar with ⟨a, b⟩ | ⟨F, f1, f2, ⟨j0, j1, j2, j3⟩, f4⟩
          · refine Or.inl ⟨a, fun j hj => ?_⟩
            by_cases y : j = d
            · rw [y]
              exact q
            · exact b j (by omega)
          · refine Or.inr ⟨F, f1, f2, ⟨j0, by omega, j2, j3⟩, fun j hj hs => ?_⟩
            by_cases y : j = d
            · subst y
              exact absurd q hs
            · exact f4 j (by omega) hs
      · rw [if_neg q, gdT (inbI (by omega) (by omega)), nI_clamp (by omega), gdT (inbI (by omega) (by omega))]
        rcases (hI d hd2).1 with m0 | ⟨s, s1, s2, s3, s4⟩
        · rw [if_pos m0]
          (try simp only [Option.bind_some])
          rw [gdT (inbI (by omega) (by omega))]
          obtain ⟨y, hy⟩ : ∃ y, (if most d ≤ far then some far else some (most d)) = some y := by
            split
            · exact ⟨_, rfl⟩
            · exact ⟨_, rfl⟩
          rw [hy]
          (try simp only [Option.bind_some])
          rw [nI_1]
          exact pr_L24 h60 hi hI e (d + 1) f y 0 (by omega) (by omega) (Or.inl ⟨rfl, d, hd2, q, m0⟩)
        · rw [if_neg (by rw [s2]; exact nNone (by omega)), s2]
          (try simp only [Option.bind_some])
          rw [gdT (inbI (by omega) (by omega))]
          have hall2 : ∀ j, j < d + 1 → ¬ isStep (120 * i + j) = 0 → ¬ most j = -1000000 := fun j hj hs => by
            by_cases y : j = d
            · rw [y, s2]
              exact nNone (by omega)
            · exact hall j (by omega) hs
          rcases hfar with ⟨a, b⟩ | ⟨F, f1, f2, ⟨j0, j1, j2, j3⟩, f4⟩
          · rw [a, if_neg (nNone2 (by omega))]
            (try simp only [Option.bind_some])
            rw [nI_1]
            refine pr_L24 h60 hi hI e (d + 1) f (nI s) 1 (by omega) (by omega) (Or.inr ⟨rfl, hall2, Or.inr ⟨s, s1, rfl, ⟨d, by omega, q, s2⟩, fun j hj hs => ?_⟩⟩)
            by_cases y : j = d
            · exact ⟨s, Nat.le_refl s, by rw [y]; exact s2⟩
            · exact absurd (b j (by omega)) hs
          · rw [f2, ifLe (by omega) (by omega)]
            by_cases y : s ≤ F
            · rw [if_pos y]
              (try simp only [Option.bind_some])
              rw [nI_1]
              refine pr_L24 h60 hi hI e (d + 1) f (nI F) 1 (by omega) (by omega) (Or.inr ⟨rfl, hall2, Or.inr ⟨F, f1, rfl, ⟨j0, by omega, j2, j3⟩, fun j hj hs => ?_⟩⟩)
              by_cases y2 : j = d
              · exact ⟨s, y, by rw [y2]; exact s2⟩
              · exact f4 j (by omega) hs
            · rw [if_neg y]
              (try simp only [Option.bind_some])
              rw [nI_1]
              refine pr_L24 h60 hi hI e (d + 1) f (nI s) 1 (by omega) (by omega) (Or.inr ⟨rfl, hall2, Or.inr ⟨s, s1, rfl, ⟨d, by omega, q, s2⟩, fun j hj hs => ?_⟩⟩)
              by_cases y2 : j = d
              · exact ⟨s, Nat.le_refl s, by rw [y2]; exact s2⟩
              · obtain ⟨t, t1, t2⟩ := f4 j (by omega) hs
                exact ⟨t, by omega, t2⟩
/-- could still be told -/
def CHG (isStep most : Nat → Int32) (m i : Nat) : Prop := most i = -1000000 ∧ (∀ j, j < m → ¬ isStep (120 * i + j) = 0 → ¬ most j = -1000000) ∧ ∃ j, j < m ∧ ¬ isStep (120 * i + j) = 0
def nn (most : Nat → Int32) (m : Nat) : Nat := sm (fun i => if most i = -1000000 then 1 else 0) m
theorem nn_upd {most : Nat → Int32} {m i : Nat} {v : Int32} (hi : i < m) (h : most i = -1000000) (hv : ¬ v = -1000000) : nn (upd most i v) m + 1 = nn most m := by
  have e := sm_upd (h := fun j => if most j = -1000000 then 1 else 0) (n := m) (x := i) (v := 0) hi
  have e2 : nn (upd most i v) m = sm (updN (fun j => if most j = -1000000 then 1 else 0) i 0) m := by
    unfold nn
    refine sm_congr (fun j hj => ?_)
    by_cases q : j = i
    · rw [q, pk_us, updN_s, if_neg hv]
    · rw [pk_un q, updN_n q]
  rw [e2]
  unfold nn
  show _ + 1 = sm (fun j => if most j = -1000000 then 1 else 0) m
  have e3 : (if most i = -1000000 then 1 else 0) = 1 := if_pos h
  have e4 : sm (updN (fun j => if most j = -1000000 then 1 else 0) i 0) m + (if most i = -1000000 then 1 else 0) = sm (fun j => if most j = -1000000 then 1 else 0) m + 0 := e
  rw [e3] at e4
  omega
theorem pr_L20 {N M : List Nat} {S : Nat → Nat → Prop} {G : Nat → Prop} {isStep : Nat → Int32} (h60 : M.length ≤ 60) (hN60 : N.length ≤ 60) (hNM : ∀ x, x ∈ N ↔ x ∈ M) (hC : CLO N S) (hS : ∀ i, i < M.length → SRW isStep i M (S (M.getD i 0))) : ∀ (e i f : Nat) (z : Int32) (most : Nat → Int32), i + e = M.length → e < f → MI M S G most → ∃ z' most', F_X8_prove_L20 (nI M.length) isStep f z (nI i) most = some (z', most') ∧ MI M S G most' ∧ ((z' = z ∧ most' = most ∧ ∀ j, i ≤ j → j < M.length → ¬ CHG isStep most M.length j) ∨ (z' = 1 ∧ nn most' M.length < nn most M.length))
  | 0, i, f + 1, z, most, hi, _, hI => by
    rw [F_X8_prove_L20.eq_2, if_pos (nI_le (by omega) (by omega))]
    exact ⟨z, most, rfl, hI, Or.inl ⟨rfl, rfl, fun j h1 h2 => by omega⟩⟩
  | e + 1, i, f + 1, z, most, hi, hf, hI => by
    have hi2 : i < M.length := by omega
    rw [F_X8_prove_L20.eq_2, if_neg (nI_ge (by omega) (by omega)), gdT (inbI (by omega) (by omega)), nI_clamp (by omega)]
    have stay : ¬ CHG isStep most M.length i → ∃ z' most', F_X8_prove_L20 (nI M.length) isStep f z (nI (i + 1)) most = some (z', most') ∧ MI M S G most' ∧ ((z' = z ∧ most' = most ∧ ∀ j, i ≤ j → j < M.length → ¬ CHG isStep most M.length j) ∨ (z' = 1 ∧ nn most' M.length < nn most M.length)) := by
      intro hn
      obtain ⟨z', m', a, b, c⟩ := pr_L20 h60 hN60 hNM hC hS e (i + 1) f z most (by omega) (by omega) hI
      refine ⟨z', m', a, b, ?_⟩
      rcases c with ⟨c1, c2, c3⟩ | c
      · refine Or.inl ⟨c1, c2, fun j h1 h2 => ?_⟩
        by_cases y : j = i
        · rw [y]
          exact hn
        · exact c3 j (by omega) h2
      · exact Or.inr c
    by_cases q : most i = -1000000
    · rw [if_pos q]
      (try simp only [Option.bind_some])
      obtain ⟨far, z', a, b⟩ := pr_L24 (isStep := isStep) h60 hi2 hI M.length 0 FU (-1000000) 1 (by omega) (by unfold FU; omega) (Or.inr ⟨rfl, fun j hj => absurd hj (by omega), Or.inl ⟨rfl, fun j hj => absurd hj (by omega)⟩⟩)
      rw [show nI 0 = (0 : Int32) from rfl] at a
      rw [a]
      (try simp only [Option.bind_some])
      rcases b with ⟨z0, j, j1, j2, j3⟩ | ⟨z1, hall, hfar⟩
      · rw [if_pos z0]
        (try simp only [Option.bind_some])
        rw [nI_1]
        exact stay fun y => y.2.1 j j1 j2 j3
      · rw [if_neg (by rw [z1]; decide)]
        rcases hfar with ⟨f1, f2⟩ | ⟨F, f1, f2, ⟨j0, j1, j2, j3⟩, f4⟩
        · rw [if_pos f1]
          (try simp only [Option.bind_some])
          rw [nI_1]
          exact stay fun y => by
            obtain ⟨j, y1, y2⟩ := y.2.2
            exact y2 (f2 j y1)
        · rw [f2, if_neg (nNone (by omega)), nI_1, nI_1, gdT (inbI (by omega) (by omega))]
          (try simp only [Option.bind_some])
          have hx : M.getD i 0 ∈ N := (hNM _).mpr (getD_mem hi2)
          have hG : ¬ G (M.getD i 0) := fun y => by
            have := (hI i hi2).2 y
            rw [q] at this
            exact absurd this (by decide)
          have hrank : ∀ j, j < M.length → ∀ s, s < 2 ^ 10 → most j = nI s → SF S G s (M.getD j 0) ∧ ∀ t, t < s → ¬ SF S G t (M.getD j 0) := by
            intro j hj s hs hm
            rcases (hI j hj).1 with m0 | ⟨s', s1, s2, s3, s4⟩
            · rw [hm] at m0
              exact absurd m0 (nNone (by omega))
            · have : s' = s := (nI_eq (by omega) (by omega)).mp (s2.symm.trans hm)
              subst this
              exact ⟨s3, s4⟩
          have hst := SF_step (S := S) (G := G) (x := M.getD i 0) (F := F) hG ⟨M.getD j0 0, (hS i hi2 j0 j1).mp j2, (hrank j0 j1 F f1 j3).2⟩ (fun y hy => by
            obtain ⟨j, k1, k2⟩ := mem_getD ((hNM y).mp (hC _ hx y hy))
            obtain ⟨s, s1, s2⟩ := f4 j k1 ((hS i hi2 j k1).mpr (by rw [k2]; exact hy))
            refine ⟨s, s1, ?_⟩
            have := (hrank j k1 s (by omega) s2).1
            rwa [k2] at this)
          have hlt := SF_min hC hx hst.1 hst.2
          have hI2 : MI M S G (upd most i (nI (F + 1))) := by
            intro j hj
            by_cases y : j = i
            · subst y
              rw [pk_us]
              exact ⟨Or.inr ⟨F + 1, by omega, rfl, hst.1, hst.2⟩, fun y => absurd y hG⟩
            · rw [pk_un y]
              exact hI j hj
          have hnn := nn_upd (v := nI (F + 1)) hi2 q (nNone (by omega))
          obtain ⟨z2, m2, a2, b2, c2⟩ := pr_L20 h60 hN60 hNM hC hS e (i + 1) f 1 _ (by omega) (by omega) hI2
          refine ⟨z2, m2, a2, b2, Or.inr ?_⟩
          rcases c2 with ⟨c3, c4, c5⟩ | ⟨c3, c4⟩
          · refine ⟨c3, ?_⟩
            rw [c4]
            omega
          · exact ⟨c3, by omega⟩
    · rw [if_neg q]
      (try simp only [Option.bind_some])
      have hx : F_X8_prove_L24 (nI i) (nI M.length) isStep most FU (-1000000) 0 0 = some (-1000000, 0) := by
        rw [show FU = 999999 + 1 from rfl, F_X8_prove_L24.eq_2]
        split
        · rfl
        · rw [if_pos rfl]
      rw [hx]
      (try simp only [Option.bind_some])
      rw [if_pos (by trivial)]
      (try simp only [Option.bind_some])
      rw [nI_1]
      exact stay fun y => q y.1
theorem pr_L18 {N M : List Nat} {S : Nat → Nat → Prop} {G : Nat → Prop} {isStep : Nat → Int32} (h60 : M.length ≤ 60) (hN60 : N.length ≤ 60) (hNM : ∀ x, x ∈ N ↔ x ∈ M) (hC : CLO N S) (hS : ∀ i, i < M.length → SRW isStep i M (S (M.getD i 0))) : ∀ (m f : Nat) (most : Nat → Int32), nn most M.length ≤ m → m + 1 < f → MI M S G most → ∃ most', F_X8_prove_L18 (nI M.length) isStep f 1 most = some most' ∧ MI M S G most' ∧ ∀ j, j < M.length → ¬ CHG isStep most' M.length j
  | m, f + 2, most, hm, hf, hI => by
    rw [F_X8_prove_L18.eq_2, if_neg (by decide)]
    obtain ⟨z', m', a, b, c⟩ := pr_L20 h60 hN60 hNM hC hS M.length 0 FU 0 most (by omega) (by unfold FU; omega) hI
    rw [show nI 0 = (0 : Int32) from rfl] at a
    rw [a]
    (try simp only [Option.bind_some])
    rcases c with ⟨c1, c2, c3⟩ | ⟨c1, c2⟩
    · rw [c1, F_X8_prove_L18.eq_2, if_pos rfl]
      subst c2
      exact ⟨m', rfl, hI, fun j hj => c3 j (by omega) hj⟩
    · rw [c1]
      cases m with
      | zero => omega
      | succ m => exact pr_L18 h60 hN60 hNM hC hS m (f + 1) m' (by omega) (by omega) b
  | m, 0, _, _, hf, _ => by omega
  | m, 1, _, _, hf, _ => by omega
theorem most_end {N M : List Nat} {S : Nat → Nat → Prop} {G : Nat → Prop} {isStep most : Nat → Int32} (hNM : ∀ x, x ∈ N ↔ x ∈ M) (hC : CLO N S) (hS : ∀ i, i < M.length → SRW isStep i M (S (M.getD i 0))) (hI : MI M S G most) (hE : ∀ j, j < M.length → ¬ CHG isStep most M.length j) : ∀ i, i < M.length → MOST S G (M.getD i 0) (most i) := by
  have key : ∀ s i, i < M.length → SF S G s (M.getD i 0) → ¬ most i = -1000000 := by
    intro s
    induction s with
    | zero =>
      intro i hi h
      rw [(hI i hi).2 h]
      decide
    | succ s ih =>
      intro i hi h
      rcases h with h | ⟨⟨y, hy⟩, h⟩
      · exact ih i hi h
      · intro q
        have hx : M.getD i 0 ∈ N := (hNM _).mpr (getD_mem hi)
        refine hE i hi ⟨q, fun j hj hs => ih j hj (h _ ((hS i hi j hj).mp hs)), ?_⟩
        obtain ⟨j, k1, k2⟩ := mem_getD ((hNM y).mp (hC _ hx y hy))
        exact ⟨j, k1, (hS i hi j k1).mpr (by rw [k2]; exact hy)⟩
  intro i hi
  rcases (hI i hi).1 with m0 | ⟨s, s1, s2, s3, s4⟩
  · exact Or.inr ⟨fun ⟨s, hs⟩ => key s i hi hs m0, m0⟩
  · exact Or.inl ⟨s, s1, s3, s4, s2⟩
/-- what stands behind prove -/
def PV (n k : Nat) (B : BOOK) (w g : Nat) (M : List Nat) (crowd isStep isGoal most : Nat → Int32) : Prop := MT n k crowd M ∧ (∀ i, i < M.length → SRW isStep i M (SG (ST n B w) (GP n k g) (M.getD i 0))) ∧ (∀ i, i < M.length → (isGoal i = 0 ↔ ¬ GP n k g (M.getD i 0))) ∧ ∀ i, i < M.length → MOST (ST n B w) (GP n k g) (M.getD i 0) (most i)
theorem SG_clo {N : List Nat} {S : Nat → Nat → Prop} {G : Nat → Prop} (h : CLO N S) : CLO N (SG S G) := fun x hx y hy => h x hx y hy.2
theorem m_prove {n k w g : Nat} {B : BOOK} {rs rr rd : Nat → Int32} {rules vd : Int32} (hn : RG n) (h1 : 1 ≤ k) (h4 : k ≤ 4) (hw : w < 3) (hg : g < 3) (hB : BKok B) (hM : BKM rules rs rr rd B) (hand view up down name crowd isStep isGoal most stands does from_ : Nat → Int32) : ∃ M vd' hand' view' up' down' name' crowd' isStep' isGoal' most' stands' does' from', F_X8_prove (nI w) (nI g) (nI n) (nI k) vd rules hand view up down rs rr rd name crowd isStep isGoal most stands does from_ = some (vd', nI M.length, hand', view', up', down', name', crowd', isStep', isGoal', most', stands', does', from') ∧ PV n k B w g M crowd' isStep' isGoal' most' := by
  obtain ⟨M, ha, na, ca, a1, a2, a3⟩ := m_list hn h1 h4 hand name crowd
  have hT : MT n k ca M := ⟨hn, h1, h4, a2, a3⟩
  obtain ⟨g1, g2, g3, g4⟩ := GLok hn h1 h4
  obtain ⟨st, b1, b2⟩ := pr_L2 14400 0 FU isStep (by omega) (by unfold FU; omega) (fun q hq => absurd hq (by omega))
  have h60 := a2.2.2
  have hP0 : PTI M (ST n B w) (GP n k g) 0 st isGoal most := fun i hi => ⟨fun q => absurd q (by omega), fun _ j hj => by
    rw [b2 _ (by omega)]
    exact ⟨fun q => absurd rfl q, fun q => absurd q id⟩⟩
  obtain ⟨c1, c2, c3, c4, c5, c6, c7, c8, c9, c10, c11, c12, d1, d2⟩ := pr_L5 hT hw hg hB hM M.length 0 FU vd ha view up down na st isGoal most stands does from_ (by omega) (by unfold FU; omega) hP0
  have hS : ∀ i, i < M.length → SRW c7 i M (SG (ST n B w) (GP n k g) (M.getD i 0)) := fun i hi => ((d2 i hi).1 hi).2.2
  have hI : MI M (SG (ST n B w) (GP n k g)) (GP n k g) c9 := fun i hi => by
    rcases ((d2 i hi).1 hi).2.1 with ⟨q1, q2⟩ | ⟨q1, q2⟩
    · exact ⟨Or.inr ⟨0, by decide, q2, q1, fun t ht => absurd ht (by omega)⟩, fun _ => q2⟩
    · exact ⟨Or.inl q2, fun z => absurd z q1⟩
  have hC := SG_clo (G := GP n k g) (ST_clo (w := w) (B := B) hn h1 h4)
  have hnn : nn c9 M.length ≤ M.length := by
    unfold nn
    have : ∀ m, sm (fun i => if c9 i = -1000000 then 1 else 0) m ≤ m := fun m => by
      induction m with
      | zero => exact Nat.le_refl _
      | succ m ih =>
        show sm (fun i => if c9 i = -1000000 then 1 else 0) m + (if c9 m = -1000000 then 1 else 0) ≤ m + 1
        split <;> omega
    exact this _
  obtain ⟨mo, e1, e2, e3⟩ := pr_L18 h60 g1 a2.2.1 hC hS M.length FU c9 hnn (by unfold FU; omega) hI
  have hend := most_end a2.2.1 hC hS e2 e3
  unfold F_X8_prove
  rw [a1]
  (try simp only [Option.bind_some])
  rw [show nI 0 = (0 : Int32) from rfl] at b1 d1
  rw [b1]
  (try simp only [Option.bind_some])
  rw [d1]
  (try simp only [Option.bind_some])
  rw [e1]
  (try simp only [Option.bind_some])
  exact ⟨M, _, _, _, _, _, _, _, _, _, _, _, _, _, rfl, hT, hS, fun i hi => ((d2 i hi).1 hi).1, fun i hi => MOST_SG (hend i hi)⟩
