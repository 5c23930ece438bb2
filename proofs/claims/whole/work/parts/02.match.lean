/-! column sets that some matching of the first k rows covers exactly -/
def dm_cn (E : Nat → Nat) : Nat → Nat → Prop
  | 0, T => T = 0
  | k + 1, T => dm_cn E k T ∨ ∃ c, c < 7 ∧ (E k).testBit c = true ∧ T.testBit c = true ∧ dm_cn E k (dm_x T c)
theorem dm_cn_lt {E : Nat → Nat} : ∀ {k T : Nat}, dm_cn E k T → T < 128 := by
  intro k
  induction k with
  | zero =>
    intro T h
    have h0 : T = 0 := h
    omega
  | succ k ih =>
    intro T h
    rcases h with h | ⟨c, hc, _, _, h⟩
    · exact ih h
    · have h2 := dm_x_lt (ih h) hc
      rw [dm_x_x] at h2
      exact h2
theorem dm_cn_congr {E E' : Nat → Nat} : ∀ k, (∀ j, j < k → ∀ c, c < 7 → (E j).testBit c = (E' j).testBit c) → ∀ T, dm_cn E k T → dm_cn E' k T := by
  intro k
  induction k with
  | zero => exact fun _ T h => h
  | succ k ih =>
    intro he T h
    have ih' := ih (fun j hj => he j (by omega))
    rcases h with h | ⟨c, hc, h1, h2, h3⟩
    · exact Or.inl (ih' T h)
    · exact Or.inr ⟨c, hc, by rw [← he k (by omega) c hc]; exact h1, h2, ih' _ h3⟩
/-! the component's table -/
def dm_row (e : Nat) (t : Nat → Nat) (S : Nat) : Nat → Nat
  | 0 => t S
  | c + 1 => if (e.testBit c = true ∧ S.testBit c = true) ∧ dm_row e t S c ≤ t (dm_x S c) then t (dm_x S c) + 1 else dm_row e t S c
def dm_f (E : Nat → Nat) : Nat → Nat → Nat
  | 0 => fun _ => 0
  | k + 1 => fun S => dm_row (E k) (dm_f E k) S 7
theorem dm_row_s (e : Nat) (t : Nat → Nat) (S c : Nat) : dm_row e t S (c + 1) = if (e.testBit c = true ∧ S.testBit c = true) ∧ dm_row e t S c ≤ t (dm_x S c) then t (dm_x S c) + 1 else dm_row e t S c := rfl
theorem dm_row_ge (e : Nat) (t : Nat → Nat) (S : Nat) : ∀ c, t S ≤ dm_row e t S c ∧ ∀ d, d < c → e.testBit d = true → S.testBit d = true → t (dm_x S d) + 1 ≤ dm_row e t S c := by
  intro c
  induction c with
  | zero => exact ⟨Nat.le_refl _, fun d hd => absurd hd (by omega)⟩
  | succ c ih =>
    by_cases h : (e.testBit c = true ∧ S.testBit c = true) ∧ dm_row e t S c ≤ t (dm_x S c)
    · rw [dm_row_s, if_pos h]
      refine ⟨by have := ih.1; have := h.2; omega, fun d hd h1 h2 => ?_⟩
      by_cases hdc : d = c
      · subst hdc
        exact Nat.le_refl _
      · have h3 := ih.2 d (by omega) h1 h2
        have h4 := h.2
        omega
    · rw [dm_row_s, if_neg h]
      refine ⟨ih.1, fun d hd h1 h2 => ?_⟩
      by_cases hdc : d = c
      · subst hdc
        have h3 : ¬ dm_row e t S d ≤ t (dm_x S d) := fun hh => h ⟨⟨h1, h2⟩, hh⟩
        omega
      · exact ih.2 d (by omega) h1 h2
theorem dm_row_at (e : Nat) (t : Nat → Nat) (S : Nat) : ∀ c, dm_row e t S c = t S ∨ ∃ d, d < c ∧ e.testBit d = true ∧ S.testBit d = true ∧ dm_row e t S c = t (dm_x S d) + 1 := by
  intro c
  induction c with
  | zero => exact Or.inl rfl
  | succ c ih =>
    by_cases h : (e.testBit c = true ∧ S.testBit c = true) ∧ dm_row e t S c ≤ t (dm_x S c)
    · rw [dm_row_s, if_pos h]
      exact Or.inr ⟨c, by omega, h.1.1, h.1.2, rfl⟩
    · rw [dm_row_s, if_neg h]
      rcases ih with ih | ⟨d, hd, h1, h2, h3⟩
      · exact Or.inl ih
      · exact Or.inr ⟨d, by omega, h1, h2, h3⟩
theorem dm_row_0 (t : Nat → Nat) (S : Nat) : ∀ c, dm_row 0 t S c = t S := by
  intro c
  induction c with
  | zero => rfl
  | succ c ih =>
    rw [dm_row_s, if_neg, ih]
    intro h
    have h1 := h.1.1
    rw [Nat.zero_testBit] at h1
    exact absurd h1 (by decide)
theorem dm_f_le (E : Nat → Nat) : ∀ k S T, dm_sub T S → dm_cn E k T → dm_ct T ≤ dm_f E k S := by
  intro k
  induction k with
  | zero =>
    intro S T _ h
    have h0 : T = 0 := h
    subst h0
    show dm_ct 0 ≤ 0
    decide
  | succ k ih =>
    intro S T hs h
    have hr := dm_row_ge (E k) (dm_f E k) S 7
    have hT := dm_cn_lt h
    show dm_ct T ≤ dm_row (E k) (dm_f E k) S 7
    rcases h with h | ⟨c, hc, h1, h2, h3⟩
    · exact Nat.le_trans (ih S T hs h) hr.1
    · have hsub : dm_sub (dm_x T c) (dm_x S c) := by
        intro d hd
        by_cases hcd : c = d
        · subst hcd
          rw [dm_x_self, h2] at hd
          exact absurd hd (by decide)
        · rw [dm_x_ne hcd] at hd ⊢
          exact hs d hd
      have h4 := ih (dm_x S c) (dm_x T c) hsub h3
      have h5 := hr.2 c hc h1 (hs c h2)
      have h6 := dm_ct_x T hT c hc h2
      omega
theorem dm_f_at (E : Nat → Nat) : ∀ k S, ∃ T, dm_sub T S ∧ dm_cn E k T ∧ dm_ct T = dm_f E k S := by
  intro k
  induction k with
  | zero =>
    intro S
    refine ⟨0, fun c hc => ?_, rfl, rfl⟩
    rw [Nat.zero_testBit] at hc
    exact absurd hc (by decide)
  | succ k ih =>
    intro S
    rcases dm_row_at (E k) (dm_f E k) S 7 with h | ⟨c, hc, h1, h2, h3⟩
    · obtain ⟨T, a, b, e⟩ := ih S
      exact ⟨T, a, Or.inl b, e.trans h.symm⟩
    · obtain ⟨T, a, b, e⟩ := ih (dm_x S c)
      have hcT : T.testBit c = false := by
        cases hh : T.testBit c with
        | false => rfl
        | true =>
          have h4 := a c hh
          rw [dm_x_self, h2] at h4
          exact absurd h4 (by decide)
      have hb : (dm_x T c).testBit c = true := by
        rw [dm_x_self, hcT]
        rfl
      refine ⟨dm_x T c, fun d hd => ?_, Or.inr ⟨c, hc, h1, hb, ?_⟩, ?_⟩
      · by_cases hcd : c = d
        · subst hcd
          exact h2
        · rw [dm_x_ne hcd] at hd
          have h4 := a d hd
          rw [dm_x_ne hcd] at h4
          exact h4
      · rw [dm_x_x]
        exact b
      · have h4 := dm_ct_x (dm_x T c) (dm_x_lt (dm_cn_lt b) hc) c hc hb
        rw [dm_x_x] at h4
        show dm_ct (dm_x T c) = dm_row (E k) (dm_f E k) S 7
        omega
theorem dm_f_7 (E : Nat → Nat) (k S : Nat) : dm_f E k S ≤ 7 := by
  obtain ⟨T, _, _, e⟩ := dm_f_at E k S
  rw [← e]
  exact dm_ct_7 T
/-! the size of a largest matching -/
def dm_nu (E : Nat → Nat) : Nat := dm_f E 7 127
theorem dm_nu_le {E : Nat → Nat} {T : Nat} (h : dm_cn E 7 T) : dm_ct T ≤ dm_nu E := dm_f_le E 7 127 T (dm_127 (dm_cn_lt h)) h
theorem dm_nu_at (E : Nat → Nat) : ∃ T, dm_cn E 7 T ∧ dm_ct T = dm_nu E := by
  obtain ⟨T, _, b, e⟩ := dm_f_at E 7 127
  exact ⟨T, b, e⟩
theorem dm_nu_7 (E : Nat → Nat) : dm_nu E ≤ 7 := dm_f_7 E 7 127
theorem dm_nu_eq {E : Nat → Nat} {v : Nat} (h1 : ∃ T, dm_cn E 7 T ∧ dm_ct T = v) (h2 : ∀ T, dm_cn E 7 T → dm_ct T ≤ v) : v = dm_nu E := by
  obtain ⟨T, a, e⟩ := h1
  obtain ⟨T', a', e'⟩ := dm_nu_at E
  have h3 := dm_nu_le a
  have h4 := h2 T' a'
  omega
theorem dm_nu_congr {E E' : Nat → Nat} (h : ∀ j, j < 7 → ∀ c, c < 7 → (E j).testBit c = (E' j).testBit c) : dm_nu E = dm_nu E' := by
  apply dm_nu_eq
  · obtain ⟨T, a, e⟩ := dm_nu_at E
    exact ⟨T, dm_cn_congr 7 h T a, e⟩
  · intro T a
    exact dm_nu_le (dm_cn_congr 7 (fun j hj c hc => (h j hj c hc).symm) T a)
/-! without a column -/
theorem dm_col {E E' : Nat → Nat} {c : Nat} (hE : ∀ k d, d < 7 → (E' k).testBit d = ((E k).testBit d && decide (c ≠ d))) : ∀ k T, dm_cn E' k T ↔ (dm_cn E k T ∧ T.testBit c = false) := by
  intro k
  induction k with
  | zero =>
    intro T
    constructor
    · intro h
      have h0 : T = 0 := h
      subst h0
      exact ⟨rfl, Nat.zero_testBit c⟩
    · exact fun h => h.1
  | succ k ih =>
    intro T
    constructor
    · rintro (h | ⟨d, hd, h1, h2, h3⟩)
      · exact ⟨Or.inl ((ih T).1 h).1, ((ih T).1 h).2⟩
      · rw [hE k d hd, Bool.and_eq_true, decide_eq_true_eq] at h1
        obtain ⟨a, b⟩ := (ih _).1 h3
        rw [dm_x_ne (Ne.symm h1.2)] at b
        exact ⟨Or.inr ⟨d, hd, h1.1, h2, a⟩, b⟩
    · rintro ⟨h | ⟨d, hd, h1, h2, h3⟩, hc⟩
      · exact Or.inl ((ih T).2 ⟨h, hc⟩)
      · have hcd : c ≠ d := by
          intro e
          subst e
          rw [hc] at h2
          exact absurd h2 (by decide)
        refine Or.inr ⟨d, hd, ?_, h2, (ih _).2 ⟨h3, ?_⟩⟩
        · rw [hE k d hd, h1, decide_eq_true hcd]
          rfl
        · rw [dm_x_ne (Ne.symm hcd)]
          exact hc
theorem dm_colf {E E' : Nat → Nat} {c : Nat} (hc : c < 7) (hE : ∀ k d, d < 7 → (E' k).testBit d = ((E k).testBit d && decide (c ≠ d))) : dm_f E 7 (dm_x 127 c) = dm_nu E' := by
  apply dm_nu_eq
  · obtain ⟨T, a, b, e⟩ := dm_f_at E 7 (dm_x 127 c)
    refine ⟨T, (dm_col hE 7 T).2 ⟨b, ?_⟩, e⟩
    cases hh : T.testBit c with
    | false => rfl
    | true =>
      have h4 := a c hh
      rw [dm_x_self, dm_b127 c hc] at h4
      exact absurd h4 (by decide)
  · intro T h
    obtain ⟨a, b⟩ := (dm_col hE 7 T).1 h
    refine dm_f_le E 7 _ T (fun d hd => ?_) a
    have hcd : c ≠ d := by
      intro e
      subst e
      rw [b] at hd
      exact absurd hd (by decide)
    rw [dm_x_ne hcd]
    exact dm_127 (dm_cn_lt a) d hd
/-! by what a row does -/
theorem dm_dec {E E0 : Nat → Nat} {r : Nat} (hne : ∀ k, k ≠ r → ∀ d, d < 7 → (E0 k).testBit d = (E k).testBit d) (h0 : ∀ d, d < 7 → (E0 r).testBit d = false) :
    ∀ k T, dm_cn E k T ↔ (dm_cn E0 k T ∨ (r < k ∧ ∃ c, c < 7 ∧ (E r).testBit c = true ∧ T.testBit c = true ∧ dm_cn E0 k (dm_x T c))) := by
  intro k
  induction k with
  | zero => exact fun T => ⟨fun h => Or.inl h, fun h => h.elim id (fun h => absurd h.1 (by omega))⟩
  | succ k ih =>
    intro T
    constructor
    · rintro (h | ⟨d, hd, h1, h2, h3⟩)
      · rcases (ih T).1 h with h | ⟨hr, c, hc, a1, a2, a3⟩
        · exact Or.inl (Or.inl h)
        · exact Or.inr ⟨by omega, c, hc, a1, a2, Or.inl a3⟩
      · by_cases hkr : k = r
        · rcases (ih (dm_x T d)).1 h3 with h | ⟨hr, _⟩
          · rw [hkr] at h1
            exact Or.inr ⟨by omega, d, hd, h1, h2, Or.inl h⟩
          · exact absurd hr (by omega)
        · have h1' : (E0 k).testBit d = true := by
            rw [hne k hkr d hd]
            exact h1
          rcases (ih (dm_x T d)).1 h3 with h | ⟨hr, c, hc, a1, a2, a3⟩
          · exact Or.inl (Or.inr ⟨d, hd, h1', h2, h⟩)
          · have hdc : d ≠ c := by
              intro e
              subst e
              rw [dm_x_self, h2] at a2
              exact absurd a2 (by decide)
            rw [dm_x_ne hdc] at a2
            rw [dm_x_comm] at a3
            refine Or.inr ⟨by omega, c, hc, a1, a2, Or.inr ⟨d, hd, h1', ?_, a3⟩⟩
            rw [dm_x_ne (Ne.symm hdc)]
            exact h2
    · rintro ((h | ⟨d, hd, h1, h2, h3⟩) | ⟨hr, c, hc, a1, a2, a3⟩)
      · exact Or.inl ((ih T).2 (Or.inl h))
      · have hkr : k ≠ r := by
          intro e
          rw [e, h0 d hd] at h1
          exact absurd h1 (by decide)
        exact Or.inr ⟨d, hd, by rw [← hne k hkr d hd]; exact h1, h2, (ih _).2 (Or.inl h3)⟩
      · rcases a3 with a3 | ⟨d, hd, h1, h2, h3⟩
        · by_cases hkr : k = r
          · refine Or.inr ⟨c, hc, ?_, a2, (ih _).2 (Or.inl a3)⟩
            rw [hkr]
            exact a1
          · exact Or.inl ((ih T).2 (Or.inr ⟨by omega, c, hc, a1, a2, a3⟩))
        · have hkr : k ≠ r := by
            intro e
            rw [e, h0 d hd] at h1
            exact absurd h1 (by decide)
          have hcd : c ≠ d := by
            intro e
            subst e
            rw [dm_x_self, a2] at h2
            exact absurd h2 (by decide)
          rw [dm_x_ne hcd] at h2
          refine Or.inr ⟨d, hd, by rw [← hne k hkr d hd]; exact h1, h2, (ih _).2 (Or.inr ⟨by omega, c, hc, a1, ?_, ?_⟩)⟩
          · rw [dm_x_ne (Ne.symm hcd)]
            exact a2
          · rw [dm_x_comm]
            exact h3
theorem dm_up {E E0 : Nat → Nat} {r : Nat} (hne : ∀ k, k ≠ r → ∀ d, d < 7 → (E0 k).testBit d = (E k).testBit d) (h0 : ∀ d, d < 7 → (E0 r).testBit d = false) : dm_nu E0 ≤ dm_nu E := by
  obtain ⟨T, a, e⟩ := dm_nu_at E0
  rw [← e]
  exact dm_nu_le ((dm_dec hne h0 7 T).2 (Or.inl a))
theorem dm_up1 {E E0 Ec : Nat → Nat} {r c : Nat} (hr : r < 7) (hc : c < 7) (hne : ∀ k, k ≠ r → ∀ d, d < 7 → (E0 k).testBit d = (E k).testBit d) (h0 : ∀ d, d < 7 → (E0 r).testBit d = false) (hE : ∀ k d, d < 7 → (Ec k).testBit d = ((E0 k).testBit d && decide (c ≠ d))) (hb : (E r).testBit c = true) : dm_nu Ec + 1 ≤ dm_nu E := by
  obtain ⟨T, a, e⟩ := dm_nu_at Ec
  obtain ⟨a1, a2⟩ := (dm_col hE 7 T).1 a
  have hb' : (dm_x T c).testBit c = true := by
    rw [dm_x_self, a2]
    rfl
  have h1 := dm_ct_x (dm_x T c) (dm_x_lt (dm_cn_lt a1) hc) c hc hb'
  rw [dm_x_x] at h1
  have h2 : dm_cn E 7 (dm_x T c) := (dm_dec hne h0 7 _).2 (Or.inr ⟨hr, c, hc, hb, hb', by rw [dm_x_x]; exact a1⟩)
  have h3 := dm_nu_le h2
  omega
theorem dm_down {E E0 : Nat → Nat} {Ec : Nat → Nat → Nat} {r : Nat} (hr : r < 7) (hne : ∀ k, k ≠ r → ∀ d, d < 7 → (E0 k).testBit d = (E k).testBit d) (h0 : ∀ d, d < 7 → (E0 r).testBit d = false) (hE : ∀ c, c < 7 → ∀ k d, d < 7 → (Ec c k).testBit d = ((E0 k).testBit d && decide (c ≠ d))) :
    dm_nu E = dm_nu E0 ∨ ∃ c, c < 7 ∧ (E r).testBit c = true ∧ dm_nu E = dm_nu (Ec c) + 1 := by
  obtain ⟨T, a, e⟩ := dm_nu_at E
  rcases (dm_dec hne h0 7 T).1 a with h | ⟨_, c, hc, h1, h2, h3⟩
  · have h4 := dm_nu_le h
    have h5 := dm_up hne h0
    exact Or.inl (by omega)
  · refine Or.inr ⟨c, hc, h1, ?_⟩
    have h4 := dm_up1 hr hc hne h0 (hE c hc) h1
    have h5 := dm_ct_x T (dm_cn_lt a) c hc h2
    have h6 : dm_cn (Ec c) 7 (dm_x T c) := (dm_col (hE c hc) 7 _).2 ⟨h3, by rw [dm_x_self, h2]; rfl⟩
    have h7 := dm_nu_le h6
    omega
