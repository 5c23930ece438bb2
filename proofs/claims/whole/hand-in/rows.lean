section
/-! sets of at most seven members as numbers below 128 -/
def dm_x (s c : Nat) : Nat := s ^^^ 2 ^ c
def dm_ct (s : Nat) : Nat := s % 2 + s / 2 % 2 + s / 4 % 2 + s / 8 % 2 + s / 16 % 2 + s / 32 % 2 + s / 64 % 2
def dm_sub (T S : Nat) : Prop := ∀ c, T.testBit c = true → S.testBit c = true
theorem dm_x_bit (s c d : Nat) : (dm_x s c).testBit d = (s.testBit d ^^ decide (c = d)) := by
  unfold dm_x
  rw [Nat.testBit_xor, Nat.testBit_two_pow]
theorem dm_x_self (s c : Nat) : (dm_x s c).testBit c = !s.testBit c := by
  rw [dm_x_bit]
  simp
theorem dm_x_ne {s c d : Nat} (h : c ≠ d) : (dm_x s c).testBit d = s.testBit d := by
  rw [dm_x_bit]
  simp [h]
theorem dm_x_x (s c : Nat) : dm_x (dm_x s c) c = s := by
  unfold dm_x
  rw [Nat.xor_assoc, Nat.xor_self, Nat.xor_zero]
theorem dm_x_comm (s c d : Nat) : dm_x (dm_x s c) d = dm_x (dm_x s d) c := by
  unfold dm_x
  rw [Nat.xor_assoc, Nat.xor_assoc, Nat.xor_comm (2 ^ c)]
theorem dm_p2 {c : Nat} (hc : c < 7) : 2 ^ c < 128 := Nat.pow_lt_pow_right (a := 2) (by decide) hc
theorem dm_x_lt {s c : Nat} (hs : s < 128) (hc : c < 7) : dm_x s c < 128 := Nat.xor_lt_two_pow (n := 7) hs (dm_p2 hc)
theorem dm_or_lt {s t : Nat} (hs : s < 128) (ht : t < 128) : s ||| t < 128 := Nat.or_lt_two_pow (n := 7) hs ht
theorem dm_and_lt {s : Nat} (t : Nat) (hs : s < 128) : t &&& s < 128 := Nat.and_lt_two_pow (n := 7) t hs
theorem dm_hi {s c : Nat} (hs : s < 128) (hc : 7 ≤ c) : s.testBit c = false :=
  Nat.testBit_lt_two_pow (Nat.lt_of_lt_of_le hs (Nat.pow_le_pow_right (n := 2) (by decide) hc))
theorem dm_bit_lt {s c : Nat} (hs : s < 128) (h : s.testBit c = true) : c < 7 := by
  apply Classical.byContradiction
  intro hc
  rw [dm_hi hs (by omega)] at h
  exact absurd h (by decide)
theorem dm_ext {s t : Nat} (hs : s < 128) (ht : t < 128) (h : ∀ d, d < 7 → s.testBit d = t.testBit d) : s = t := by
  apply Nat.eq_of_testBit_eq
  intro d
  by_cases hd : d < 7
  · exact h d hd
  · rw [dm_hi hs (by omega), dm_hi ht (by omega)]
theorem dm_ct_x : ∀ s, s < 128 → ∀ c, c < 7 → s.testBit c = true → dm_ct (dm_x s c) + 1 = dm_ct s := by decide +kernel
theorem dm_b127 : ∀ c, c < 7 → (127 : Nat).testBit c = true := by decide
theorem dm_127 {T : Nat} (h : T < 128) : dm_sub T 127 := fun c hc => dm_b127 c (dm_bit_lt h hc)
theorem dm_ct_7 (s : Nat) : dm_ct s ≤ 7 := by
  unfold dm_ct
  omega
theorem dm_full : ∀ s, s < 128 → 7 ≤ dm_ct s → s = 127 := by decide +kernel
theorem dm_one : ∀ s, s < 128 → dm_ct s = 1 → ∃ u, u < 7 ∧ s = 2 ^ u := by decide +kernel
theorem dm_ct_p : ∀ u, u < 7 → dm_ct (2 ^ u) = 1 := by decide +kernel
theorem dm_antis {s t : Nat} (h1 : dm_sub s t) (h2 : dm_sub t s) : s = t := by
  apply Nat.eq_of_testBit_eq
  intro d
  have a := h1 d
  have b := h2 d
  cases hs : s.testBit d <;> cases ht : t.testBit d <;> simp_all
theorem dm_sub_r (s : Nat) : dm_sub s s := fun _ h => h
theorem dm_sub_t {s t u : Nat} (h1 : dm_sub s t) (h2 : dm_sub t u) : dm_sub s u := fun c h => h2 c (h1 c h)
theorem dm_bit_div (s i : Nat) : s.testBit i = true ↔ s / 2 ^ i % 2 = 1 := by
  rw [Nat.testBit_eq_decide_div_mod_eq, decide_eq_true_eq]
theorem dm_ct_mono {s t : Nat} (h : dm_sub s t) : dm_ct s ≤ dm_ct t := by
  have e : ∀ i, s / 2 ^ i % 2 ≤ t / 2 ^ i % 2 := by
    intro i
    have a := h i
    rw [dm_bit_div, dm_bit_div] at a
    omega
  have e0 := e 0
  have e1 := e 1
  have e2 := e 2
  have e3 := e 3
  have e4 := e 4
  have e5 := e 5
  have e6 := e 6
  simp only [Nat.reducePow, Nat.div_one] at e0 e1 e2 e3 e4 e5 e6
  unfold dm_ct
  omega
theorem dm_ct_lt {s t : Nat} (ht : t < 128) (h : dm_sub s t) (hn : s ≠ t) : dm_ct s + 1 ≤ dm_ct t := by
  have hb : ∃ b, t.testBit b = true ∧ s.testBit b = false := by
    apply Classical.byContradiction
    intro hne
    apply hn
    apply dm_antis h
    intro c hc
    cases hs : s.testBit c with
    | true => rfl
    | false => exact absurd ⟨c, hc, hs⟩ hne
  obtain ⟨b, h1, h2⟩ := hb
  have h3 := dm_ct_x t ht b (dm_bit_lt ht h1) h1
  have h4 : dm_sub s (dm_x t b) := by
    intro c hc
    have hbc : b ≠ c := by
      intro e
      subst e
      rw [h2] at hc
      exact absurd hc (by decide)
    rw [dm_x_ne hbc]
    exact h c hc
  have := dm_ct_mono h4
  omega
/-! a set without one member: c may be 7, and then nothing is taken -/
def dm_an (s c : Nat) : Nat := s &&& (255 ^^^ 2 ^ c)
theorem dm_an_bit {s c d : Nat} (hd : d < 7) : (dm_an s c).testBit d = (s.testBit d && decide (c ≠ d)) := by
  unfold dm_an
  rw [Nat.testBit_and, Nat.testBit_xor, Nat.testBit_two_pow, (by decide : ∀ d, d < 7 → (255 : Nat).testBit d = true) d hd]
  by_cases h : c = d <;> simp [h]
theorem dm_an_lt {s c : Nat} (hs : s < 128) : dm_an s c < 128 := by
  unfold dm_an
  exact Nat.lt_of_le_of_lt Nat.and_le_left hs
/-! the set of those below n of which p speaks -/
def dm_bs (p : Nat → Bool) : Nat → Nat
  | 0 => 0
  | c + 1 => if p c = true then dm_bs p c ||| 2 ^ c else dm_bs p c
theorem dm_bs_bit (p : Nat → Bool) (d : Nat) : ∀ n, (dm_bs p n).testBit d = (decide (d < n) && p d) := by
  intro n
  induction n with
  | zero => simp [dm_bs]
  | succ n ih =>
    have hu : dm_bs p (n + 1) = if p n = true then dm_bs p n ||| 2 ^ n else dm_bs p n := rfl
    by_cases h : p n = true
    · rw [hu, if_pos h, Nat.testBit_or, ih, Nat.testBit_two_pow]
      by_cases hd : n = d
      · subst hd
        simp [h]
      · have e : (d < n + 1) ↔ (d < n) := by omega
        simp [hd, e]
    · rw [hu, if_neg h, ih]
      by_cases hd : n = d
      · subst hd
        simp [h]
      · have e : (d < n + 1) ↔ (d < n) := by omega
        simp [e]
theorem dm_bs_lt (p : Nat → Bool) : ∀ n, n ≤ 7 → dm_bs p n < 128 := by
  intro n
  induction n with
  | zero => exact fun _ => (by decide : (0 : Nat) < 128)
  | succ n ih =>
    intro hn
    have hu : dm_bs p (n + 1) = if p n = true then dm_bs p n ||| 2 ^ n else dm_bs p n := rfl
    by_cases h : p n = true
    · rw [hu, if_pos h]
      exact dm_or_lt (ih (by omega)) (dm_p2 (by omega))
    · rw [hu, if_neg h]
      exact ih (by omega)
theorem dm_bs_congr {p q : Nat → Bool} : ∀ n, (∀ i, i < n → p i = q i) → dm_bs p n = dm_bs q n := by
  intro n
  induction n with
  | zero => intro _; rfl
  | succ n ih =>
    intro h
    have hu : dm_bs p (n + 1) = if p n = true then dm_bs p n ||| 2 ^ n else dm_bs p n := rfl
    have hv : dm_bs q (n + 1) = if q n = true then dm_bs q n ||| 2 ^ n else dm_bs q n := rfl
    rw [hu, hv, ih (fun i hi => h i (by omega)), h n (by omega)]
/-! how many below n -/
def dm_nb (p : Nat → Bool) : Nat → Nat
  | 0 => 0
  | c + 1 => if p c = true then dm_nb p c + 1 else dm_nb p c
theorem dm_nb_le (p : Nat → Bool) : ∀ n, dm_nb p n ≤ n := by
  intro n
  induction n with
  | zero => exact Nat.le_refl _
  | succ n ih =>
    have hu : dm_nb p (n + 1) = if p n = true then dm_nb p n + 1 else dm_nb p n := rfl
    by_cases h : p n = true
    · rw [hu, if_pos h]
      omega
    · rw [hu, if_neg h]
      omega
theorem dm_nb_congr {p q : Nat → Bool} : ∀ n, (∀ i, i < n → p i = q i) → dm_nb p n = dm_nb q n := by
  intro n
  induction n with
  | zero => intro _; rfl
  | succ n ih =>
    intro h
    have hu : dm_nb p (n + 1) = if p n = true then dm_nb p n + 1 else dm_nb p n := rfl
    have hv : dm_nb q (n + 1) = if q n = true then dm_nb q n + 1 else dm_nb q n := rfl
    rw [hu, hv, ih (fun i hi => h i (by omega)), h n (by omega)]
theorem dm_nb_ct : ∀ s, s < 128 → dm_nb (fun i => s.testBit i) 7 = dm_ct s := by decide +kernel
end
section
/-! column sets that some matching of the first k rows covers exactly -/
def dm_cn (E : Nat → Nat) : Nat → Nat → Prop
  | 0, T => T = 0
  | k + 1, T => dm_cn E k T ∨ ∃ c, c < 7 ∧ (E k).testBit c = true ∧ T.testBit c = true ∧ dm_cn E k (dm_x T c)
theorem dm_cn_lt {E : Nat → Nat} : ∀ {k T : Nat}, dm_cn E k T → T < 128 := by
  intro k
  induction k with
  | zero =>
    intro T h
    have h0 : T = 0 := h
    omega
  | succ k ih =>
    intro T h
    rcases h with h | ⟨c, hc, _, _, h⟩
    · exact ih h
    · have h2 := dm_x_lt (ih h) hc
      rw [dm_x_x] at h2
      exact h2
theorem dm_cn_congr {E E' : Nat → Nat} : ∀ k, (∀ j, j < k → ∀ c, c < 7 → (E j).testBit c = (E' j).testBit c) → ∀ T, dm_cn E k T → dm_cn E' k T := by
  intro k
  induction k with
  | zero => exact fun _ T h => h
  | succ k ih =>
    intro he T h
    have ih' := ih (fun j hj => he j (by omega))
    rcases h with h | ⟨c, hc, h1, h2, h3⟩
    · exact Or.inl (ih' T h)
    · exact Or.inr ⟨c, hc, by rw [← he k (by omega) c hc]; exact h1, h2, ih' _ h3⟩
/-! the component's table -/
def dm_row (e : Nat) (t : Nat → Nat) (S : Nat) : Nat → Nat
  | 0 => t S
  | c + 1 => if (e.testBit c = true ∧ S.testBit c = true) ∧ dm_row e t S c ≤ t (dm_x S c) then t (dm_x S c) + 1 else dm_row e t S c
def dm_f (E : Nat → Nat) : Nat → Nat → Nat
  | 0 => fun _ => 0
  | k + 1 => fun S => dm_row (E k) (dm_f E k) S 7
theorem dm_row_s (e : Nat) (t : Nat → Nat) (S c : Nat) : dm_row e t S (c + 1) = if (e.testBit c = true ∧ S.testBit c = true) ∧ dm_row e t S c ≤ t (dm_x S c) then t (dm_x S c) + 1 else dm_row e t S c := rfl
theorem dm_row_ge (e : Nat) (t : Nat → Nat) (S : Nat) : ∀ c, t S ≤ dm_row e t S c ∧ ∀ d, d < c → e.testBit d = true → S.testBit d = true → t (dm_x S d) + 1 ≤ dm_row e t S c := by
  intro c
  induction c with
  | zero => exact ⟨Nat.le_refl _, fun d hd => absurd hd (by omega)⟩
  | succ c ih =>
    by_cases h : (e.testBit c = true ∧ S.testBit c = true) ∧ dm_row e t S c ≤ t (dm_x S c)
    · rw [dm_row_s, if_pos h]
      refine ⟨by have := ih.1; have := h.2; omega, fun d hd h1 h2 => ?_⟩
      by_cases hdc : d = c
      · subst hdc
        exact Nat.le_refl _
      · have h3 := ih.2 d (by omega) h1 h2
        have h4 := h.2
        omega
    · rw [dm_row_s, if_neg h]
      refine ⟨ih.1, fun d hd h1 h2 => ?_⟩
      by_cases hdc : d = c
      · subst hdc
        have h3 : ¬ dm_row e t S d ≤ t (dm_x S d) := fun hh => h ⟨⟨h1, h2⟩, hh⟩
        omega
      · exact ih.2 d (by omega) h1 h2
theorem dm_row_at (e : Nat) (t : Nat → Nat) (S : Nat) : ∀ c, dm_row e t S c = t S ∨ ∃ d, d < c ∧ e.testBit d = true ∧ S.testBit d = true ∧ dm_row e t S c = t (dm_x S d) + 1 := by
  intro c
  induction c with
  | zero => exact Or.inl rfl
  | succ c ih =>
    by_cases h : (e.testBit c = true ∧ S.testBit c = true) ∧ dm_row e t S c ≤ t (dm_x S c)
    · rw [dm_row_s, if_pos h]
      exact Or.inr ⟨c, by omega, h.1.1, h.1.2, rfl⟩
    · rw [dm_row_s, if_neg h]
      rcases ih with ih | ⟨d, hd, h1, h2, h3⟩
      · exact Or.inl ih
      · exact Or.inr ⟨d, by omega, h1, h2, h3⟩
theorem dm_row_0 (t : Nat → Nat) (S : Nat) : ∀ c, dm_row 0 t S c = t S := by
  intro c
  induction c with
  | zero => rfl
  | succ c ih =>
    rw [dm_row_s, if_neg, ih]
    intro h
    have h1 := h.1.1
    rw [Nat.zero_testBit] at h1
    exact absurd h1 (by decide)
theorem dm_f_le (E : Nat → Nat) : ∀ k S T, dm_sub T S → dm_cn E k T → dm_ct T ≤ dm_f E k S := by
  intro k
  induction k with
  | zero =>
    intro S T _ h
    have h0 : T = 0 := h
    subst h0
    show dm_ct 0 ≤ 0
    decide
  | succ k ih =>
    intro S T hs h
    have hr := dm_row_ge (E k) (dm_f E k) S 7
    have hT := dm_cn_lt h
    show dm_ct T ≤ dm_row (E k) (dm_f E k) S 7
    rcases h with h | ⟨c, hc, h1, h2, h3⟩
    · exact Nat.le_trans (ih S T hs h) hr.1
    · have hsub : dm_sub (dm_x T c) (dm_x S c) := by
        intro d hd
        by_cases hcd : c = d
        · subst hcd
          rw [dm_x_self, h2] at hd
          exact absurd hd (by decide)
        · rw [dm_x_ne hcd] at hd ⊢
          exact hs d hd
      have h4 := ih (dm_x S c) (dm_x T c) hsub h3
      have h5 := hr.2 c hc h1 (hs c h2)
      have h6 := dm_ct_x T hT c hc h2
      omega
theorem dm_f_at (E : Nat → Nat) : ∀ k S, ∃ T, dm_sub T S ∧ dm_cn E k T ∧ dm_ct T = dm_f E k S := by
  intro k
  induction k with
  | zero =>
    intro S
    refine ⟨0, fun c hc => ?_, rfl, rfl⟩
    rw [Nat.zero_testBit] at hc
    exact absurd hc (by decide)
  | succ k ih =>
    intro S
    rcases dm_row_at (E k) (dm_f E k) S 7 with h | ⟨c, hc, h1, h2, h3⟩
    · obtain ⟨T, a, b, e⟩ := ih S
      exact ⟨T, a, Or.inl b, e.trans h.symm⟩
    · obtain ⟨T, a, b, e⟩ := ih (dm_x S c)
      have hcT : T.testBit c = false := by
        cases hh : T.testBit c with
        | false => rfl
        | true =>
          have h4 := a c hh
          rw [dm_x_self, h2] at h4
          exact absurd h4 (by decide)
      have hb : (dm_x T c).testBit c = true := by
        rw [dm_x_self, hcT]
        rfl
      refine ⟨dm_x T c, fun d hd => ?_, Or.inr ⟨c, hc, h1, hb, ?_⟩, ?_⟩
      · by_cases hcd : c = d
        · subst hcd
          exact h2
        · rw [dm_x_ne hcd] at hd
          have h4 := a d hd
          rw [dm_x_ne hcd] at h4
          exact h4
      · rw [dm_x_x]
        exact b
      · have h4 := dm_ct_x (dm_x T c) (dm_x_lt (dm_cn_lt b) hc) c hc hb
        rw [dm_x_x] at h4
        show dm_ct (dm_x T c) = dm_row (E k) (dm_f E k) S 7
        omega
theorem dm_f_7 (E : Nat → Nat) (k S : Nat) : dm_f E k S ≤ 7 := by
  obtain ⟨T, _, _, e⟩ := dm_f_at E k S
  rw [← e]
  exact dm_ct_7 T
/-! the size of a largest matching -/
def dm_nu (E : Nat → Nat) : Nat := dm_f E 7 127
theorem dm_nu_le {E : Nat → Nat} {T : Nat} (h : dm_cn E 7 T) : dm_ct T ≤ dm_nu E := dm_f_le E 7 127 T (dm_127 (dm_cn_lt h)) h
theorem dm_nu_at (E : Nat → Nat) : ∃ T, dm_cn E 7 T ∧ dm_ct T = dm_nu E := by
  obtain ⟨T, _, b, e⟩ := dm_f_at E 7 127
  exact ⟨T, b, e⟩
theorem dm_nu_7 (E : Nat → Nat) : dm_nu E ≤ 7 := dm_f_7 E 7 127
theorem dm_nu_eq {E : Nat → Nat} {v : Nat} (h1 : ∃ T, dm_cn E 7 T ∧ dm_ct T = v) (h2 : ∀ T, dm_cn E 7 T → dm_ct T ≤ v) : v = dm_nu E := by
  obtain ⟨T, a, e⟩ := h1
  obtain ⟨T', a', e'⟩ := dm_nu_at E
  have h3 := dm_nu_le a
  have h4 := h2 T' a'
  omega
theorem dm_nu_congr {E E' : Nat → Nat} (h : ∀ j, j < 7 → ∀ c, c < 7 → (E j).testBit c = (E' j).testBit c) : dm_nu E = dm_nu E' := by
  apply dm_nu_eq
  · obtain ⟨T, a, e⟩ := dm_nu_at E
    exact ⟨T, dm_cn_congr 7 h T a, e⟩
  · intro T a
    exact dm_nu_le (dm_cn_congr 7 (fun j hj c hc => (h j hj c hc).symm) T a)
/-! without a column -/
theorem dm_col {E E' : Nat → Nat} {c : Nat} (hE : ∀ k d, d < 7 → (E' k).testBit d = ((E k).testBit d && decide (c ≠ d))) : ∀ k T, dm_cn E' k T ↔ (dm_cn E k T ∧ T.testBit c = false) := by
  intro k
  induction k with
  | zero =>
    intro T
    constructor
    · intro h
      have h0 : T = 0 := h
      subst h0
      exact ⟨rfl, Nat.zero_testBit c⟩
    · exact fun h => h.1
  | succ k ih =>
    intro T
    constructor
    · rintro (h | ⟨d, hd, h1, h2, h3⟩)
      · exact ⟨Or.inl ((ih T).1 h).1, ((ih T).1 h).2⟩
      · rw [hE k d hd, Bool.and_eq_true, decide_eq_true_eq] at h1
        obtain ⟨a, b⟩ := (ih _).1 h3
        rw [dm_x_ne (Ne.symm h1.2)] at b
        exact ⟨Or.inr ⟨d, hd, h1.1, h2, a⟩, b⟩
    · rintro ⟨h | ⟨d, hd, h1, h2, h3⟩, hc⟩
      · exact Or.inl ((ih T).2 ⟨h, hc⟩)
      · have hcd : c ≠ d := by
          intro e
          subst e
          rw [hc] at h2
          exact absurd h2 (by decide)
        refine Or.inr ⟨d, hd, ?_, h2, (ih _).2 ⟨h3, ?_⟩⟩
        · rw [hE k d hd, h1, decide_eq_true hcd]
          rfl
        · rw [dm_x_ne (Ne.symm hcd)]
          exact hc
theorem dm_colf {E E' : Nat → Nat} {c : Nat} (hc : c < 7) (hE : ∀ k d, d < 7 → (E' k).testBit d = ((E k).testBit d && decide (c ≠ d))) : dm_f E 7 (dm_x 127 c) = dm_nu E' := by
  apply dm_nu_eq
  · obtain ⟨T, a, b, e⟩ := dm_f_at E 7 (dm_x 127 c)
    refine ⟨T, (dm_col hE 7 T).2 ⟨b, ?_⟩, e⟩
    cases hh : T.testBit c with
    | false => rfl
    | true =>
      have h4 := a c hh
      rw [dm_x_self, dm_b127 c hc] at h4
      exact absurd h4 (by decide)
  · intro T h
    obtain ⟨a, b⟩ := (dm_col hE 7 T).1 h
    refine dm_f_le E 7 _ T (fun d hd => ?_) a
    have hcd : c ≠ d := by
      intro e
      subst e
      rw [b] at hd
      exact absurd hd (by decide)
    rw [dm_x_ne hcd]
    exact dm_127 (dm_cn_lt a) d hd
/-! by what a row does -/
theorem dm_dec {E E0 : Nat → Nat} {r : Nat} (hne : ∀ k, k ≠ r → ∀ d, d < 7 → (E0 k).testBit d = (E k).testBit d) (h0 : ∀ d, d < 7 → (E0 r).testBit d = false) :
    ∀ k T, dm_cn E k T ↔ (dm_cn E0 k T ∨ (r < k ∧ ∃ c, c < 7 ∧ (E r).testBit c = true ∧ T.testBit c = true ∧ dm_cn E0 k (dm_x T c))) := by
  intro k
  induction k with
  | zero => exact fun T => ⟨fun h => Or.inl h, fun h => h.elim id (fun h => absurd h.1 (by omega))⟩
  | succ k ih =>
    intro T
    constructor
    · rintro (h | ⟨d, hd, h1, h2, h3⟩)
      · rcases (ih T).1 h with h | ⟨hr, c, hc, a1, a2, a3⟩
        · exact Or.inl (Or.inl h)
        · exact Or.inr ⟨by omega, c, hc, a1, a2, Or.inl a3⟩
      · by_cases hkr : k = r
        · rcases (ih (dm_x T d)).1 h3 with h | ⟨hr, _⟩
          · rw [hkr] at h1
            exact Or.inr ⟨by omega, d, hd, h1, h2, Or.inl h⟩
          · exact absurd hr (by omega)
        · have h1' : (E0 k).testBit d = true := by
            rw [hne k hkr d hd]
            exact h1
          rcases (ih (dm_x T d)).1 h3 with h | ⟨hr, c, hc, a1, a2, a3⟩
          · exact Or.inl (Or.inr ⟨d, hd, h1', h2, h⟩)
          · have hdc : d ≠ c := by
              intro e
              subst e
              rw [dm_x_self, h2] at a2
              exact absurd a2 (by decide)
            rw [dm_x_ne hdc] at a2
            rw [dm_x_comm] at a3
            refine Or.inr ⟨by omega, c, hc, a1, a2, Or.inr ⟨d, hd, h1', ?_, a3⟩⟩
            rw [dm_x_ne (Ne.symm hdc)]
            exact h2
    · rintro ((h | ⟨d, hd, h1, h2, h3⟩) | ⟨hr, c, hc, a1, a2, a3⟩)
      · exact Or.inl ((ih T).2 (Or.inl h))
      · have hkr : k ≠ r := by
          intro e
          rw [e, h0 d hd] at h1
          exact absurd h1 (by decide)
        exact Or.inr ⟨d, hd, by rw [← hne k hkr d hd]; exact h1, h2, (ih _).2 (Or.inl h3)⟩
      · rcases a3 with a3 | ⟨d, hd, h1, h2, h3⟩
        · by_cases hkr : k = r
          · refine Or.inr ⟨c, hc, ?_, a2, (ih _).2 (Or.inl a3)⟩
            rw [hkr]
            exact a1
          · exact Or.inl ((ih T).2 (Or.inr ⟨by omega, c, hc, a1, a2, a3⟩))
        · have hkr : k ≠ r := by
            intro e
            rw [e, h0 d hd] at h1
            exact absurd h1 (by decide)
          have hcd : c ≠ d := by
            intro e
            subst e
            rw [dm_x_self, a2] at h2
            exact absurd h2 (by decide)
          rw [dm_x_ne hcd] at h2
          refine Or.inr ⟨d, hd, by rw [← hne k hkr d hd]; exact h1, h2, (ih _).2 (Or.inr ⟨by omega, c, hc, a1, ?_, ?_⟩)⟩
          · rw [dm_x_ne (Ne.symm hcd)]
            exact a2
          · rw [dm_x_comm]
            exact h3
theorem dm_up {E E0 : Nat → Nat} {r : Nat} (hne : ∀ k, k ≠ r → ∀ d, d < 7 → (E0 k).testBit d = (E k).testBit d) (h0 : ∀ d, d < 7 → (E0 r).testBit d = false) : dm_nu E0 ≤ dm_nu E := by
  obtain ⟨T, a, e⟩ := dm_nu_at E0
  rw [← e]
  exact dm_nu_le ((dm_dec hne h0 7 T).2 (Or.inl a))
theorem dm_up1 {E E0 Ec : Nat → Nat} {r c : Nat} (hr : r < 7) (hc : c < 7) (hne : ∀ k, k ≠ r → ∀ d, d < 7 → (E0 k).testBit d = (E k).testBit d) (h0 : ∀ d, d < 7 → (E0 r).testBit d = false) (hE : ∀ k d, d < 7 → (Ec k).testBit d = ((E0 k).testBit d && decide (c ≠ d))) (hb : (E r).testBit c = true) : dm_nu Ec + 1 ≤ dm_nu E := by
  obtain ⟨T, a, e⟩ := dm_nu_at Ec
  obtain ⟨a1, a2⟩ := (dm_col hE 7 T).1 a
  have hb' : (dm_x T c).testBit c = true := by
    rw [dm_x_self, a2]
    rfl
  have h1 := dm_ct_x (dm_x T c) (dm_x_lt (dm_cn_lt a1) hc) c hc hb'
  rw [dm_x_x] at h1
  have h2 : dm_cn E 7 (dm_x T c) := (dm_dec hne h0 7 _).2 (Or.inr ⟨hr, c, hc, hb, hb', by rw [dm_x_x]; exact a1⟩)
  have h3 := dm_nu_le h2
  omega
theorem dm_down {E E0 : Nat → Nat} {Ec : Nat → Nat → Nat} {r : Nat} (hr : r < 7) (hne : ∀ k, k ≠ r → ∀ d, d < 7 → (E0 k).testBit d = (E k).testBit d) (h0 : ∀ d, d < 7 → (E0 r).testBit d = false) (hE : ∀ c, c < 7 → ∀ k d, d < 7 → (Ec c k).testBit d = ((E0 k).testBit d && decide (c ≠ d))) :
    dm_nu E = dm_nu E0 ∨ ∃ c, c < 7 ∧ (E r).testBit c = true ∧ dm_nu E = dm_nu (Ec c) + 1 := by
  obtain ⟨T, a, e⟩ := dm_nu_at E
  rcases (dm_dec hne h0 7 T).1 a with h | ⟨_, c, hc, h1, h2, h3⟩
  · have h4 := dm_nu_le h
    have h5 := dm_up hne h0
    exact Or.inl (by omega)
  · refine Or.inr ⟨c, hc, h1, ?_⟩
    have h4 := dm_up1 hr hc hne h0 (hE c hc) h1
    have h5 := dm_ct_x T (dm_cn_lt a) c hc h2
    have h6 : dm_cn (Ec c) 7 (dm_x T c) := (dm_col (hE c hc) 7 _).2 ⟨h3, by rw [dm_x_self, h2]; rfl⟩
    have h7 := dm_nu_le h6
    omega
end
section
/-! the edges that the two sides look at. The reference: without a row, a column, an edge (7: without none) -/
def dm_wo (g : Nat → Nat) (w h r c : Nat) : Nat → Nat := fun k =>
  if k = w ∨ 7 ≤ k then 0 else if k = r then dm_an (dm_an (g k) h) c else dm_an (g k) h
def dm_xe (g : Nat → Nat) (R : Nat) : Nat → Nat := fun k => if R.testBit k = true then g k else 0
theorem dm_wo_bit (g : Nat → Nat) (w h r c k : Nat) {d : Nat} (hd : d < 7) :
    (dm_wo g w h r c k).testBit d = true ↔ (k ≠ w ∧ k < 7 ∧ (g k).testBit d = true ∧ h ≠ d ∧ (k = r → c ≠ d)) := by
  unfold dm_wo
  by_cases hk : k = w ∨ 7 ≤ k
  · rw [if_pos hk, Nat.zero_testBit]
    constructor
    · exact fun z => absurd z (by decide)
    · intro z
      rcases hk with hk | hk
      · exact absurd hk z.1
      · exact absurd z.2.1 (by omega)
  · rw [if_neg hk]
    have h1 : k ≠ w := fun e => hk (Or.inl e)
    have h2 : k < 7 := by omega
    by_cases hr : k = r
    · rw [if_pos hr, dm_an_bit hd, dm_an_bit hd, Bool.and_eq_true, Bool.and_eq_true, decide_eq_true_eq, decide_eq_true_eq]
      exact ⟨fun z => ⟨h1, h2, z.1.1, z.1.2, fun _ => z.2⟩, fun z => ⟨⟨z.2.2.1, z.2.2.2.1⟩, z.2.2.2.2 hr⟩⟩
    · rw [if_neg hr, dm_an_bit hd, Bool.and_eq_true, decide_eq_true_eq]
      exact ⟨fun z => ⟨h1, h2, z.1, z.2, fun e => absurd e hr⟩, fun z => ⟨z.2.2.1, z.2.2.2.1⟩⟩
theorem dm_xe_bit (g : Nat → Nat) (R k d : Nat) : (dm_xe g R k).testBit d = true ↔ (R.testBit k = true ∧ (g k).testBit d = true) := by
  unfold dm_xe
  by_cases h : R.testBit k = true
  · rw [if_pos h]
    exact ⟨fun z => ⟨h, z⟩, fun z => z.2⟩
  · rw [if_neg h, Nat.zero_testBit]
    exact ⟨fun z => absurd z (by decide), fun z => absurd z.1 h⟩
theorem dm_bool {a b : Bool} (h : a = true ↔ b = true) : a = b := by
  cases a <;> cases b <;> simp_all
def dm_L (g : Nat → Nat) : Nat := dm_nu (dm_wo g 7 7 7 7)
def dm_R (g : Nat → Nat) (r : Nat) : Nat := dm_nu (dm_wo g r 7 7 7)
def dm_C (g : Nat → Nat) (c : Nat) : Nat := dm_nu (dm_wo g 7 c 7 7)
def dm_RC (g : Nat → Nat) (r c : Nat) : Nat := dm_nu (dm_wo g r c 7 7)
def dm_Ed (g : Nat → Nat) (r c : Nat) : Nat := dm_nu (dm_wo g 7 7 r c)
theorem dm_b127i {k : Nat} : (127 : Nat).testBit k = true ↔ k < 7 := ⟨fun h => dm_bit_lt (by decide) h, fun h => dm_b127 k h⟩
theorem dm_b127x {k r : Nat} : (dm_x 127 r).testBit k = true → k < 7 → k ≠ r := by
  intro h hk e
  subst e
  rw [dm_x_self, dm_b127 k hk] at h
  exact absurd h (by decide)
theorem dm_b127y {k r : Nat} (hk : k < 7) (h : k ≠ r) : (dm_x 127 r).testBit k = true := by
  rw [dm_x_ne (Ne.symm h)]
  exact dm_b127 k hk
theorem dm_s1 (g : Nat → Nat) : dm_f (dm_xe g 127) 7 127 = dm_L g := by
  show dm_nu (dm_xe g 127) = dm_nu (dm_wo g 7 7 7 7)
  apply dm_nu_congr
  intro j hj c hc
  apply dm_bool
  rw [dm_xe_bit, dm_wo_bit _ _ _ _ _ _ hc]
  exact ⟨fun z => ⟨by omega, hj, z.2, by omega, fun e => absurd e (by omega)⟩, fun z => ⟨dm_b127 j hj, z.2.2.1⟩⟩
theorem dm_s2 (g : Nat → Nat) (r : Nat) : dm_f (dm_xe g (dm_x 127 r)) 7 127 = dm_R g r := by
  show dm_nu (dm_xe g (dm_x 127 r)) = dm_nu (dm_wo g r 7 7 7)
  apply dm_nu_congr
  intro j hj c hc
  apply dm_bool
  rw [dm_xe_bit, dm_wo_bit _ _ _ _ _ _ hc]
  exact ⟨fun z => ⟨dm_b127x z.1 hj, hj, z.2, by omega, fun e => absurd e (by omega)⟩, fun z => ⟨dm_b127y hj z.1, z.2.2.1⟩⟩
theorem dm_s3 (g : Nat → Nat) {c : Nat} (hc : c < 7) : dm_f (dm_xe g 127) 7 (dm_x 127 c) = dm_C g c := by
  apply dm_colf hc
  intro k d hd
  apply dm_bool
  rw [dm_wo_bit _ _ _ _ _ _ hd, Bool.and_eq_true, dm_xe_bit, decide_eq_true_eq, dm_b127i]
  exact ⟨fun z => ⟨⟨z.2.1, z.2.2.1⟩, z.2.2.2.1⟩, fun z => ⟨by omega, z.1.1, z.1.2, z.2, fun e => absurd e (by omega)⟩⟩
theorem dm_s4 (g : Nat → Nat) {r c : Nat} (hr : r < 7) (hc : c < 7) : dm_f (dm_xe g (dm_x 127 r)) 7 (dm_x 127 c) = dm_RC g r c := by
  apply dm_colf hc
  intro k d hd
  apply dm_bool
  rw [dm_wo_bit _ _ _ _ _ _ hd, Bool.and_eq_true, dm_xe_bit, decide_eq_true_eq]
  constructor
  · exact fun z => ⟨⟨dm_b127y z.2.1 z.1, z.2.2.1⟩, z.2.2.2.1⟩
  · intro z
    have hk : k < 7 := dm_bit_lt (dm_x_lt (by decide) hr) z.1.1
    exact ⟨dm_b127x z.1.1 hk, hk, z.1.2, z.2, fun e => absurd e (by omega)⟩
/-! forced edges -/
theorem dm_fne (g : Nat → Nat) (r c : Nat) : ∀ k, k ≠ r → ∀ d, d < 7 → (dm_wo g r 7 7 7 k).testBit d = (dm_wo g 7 7 r c k).testBit d := by
  intro k hk d hd
  apply dm_bool
  rw [dm_wo_bit _ _ _ _ _ _ hd, dm_wo_bit _ _ _ _ _ _ hd]
  exact ⟨fun z => ⟨by omega, z.2.1, z.2.2.1, by omega, fun e => absurd e hk⟩, fun z => ⟨hk, z.2.1, z.2.2.1, by omega, fun e => absurd e (by omega)⟩⟩
theorem dm_fnl (g : Nat → Nat) (r : Nat) : ∀ k, k ≠ r → ∀ d, d < 7 → (dm_wo g r 7 7 7 k).testBit d = (dm_wo g 7 7 7 7 k).testBit d := by
  intro k hk d hd
  apply dm_bool
  rw [dm_wo_bit _ _ _ _ _ _ hd, dm_wo_bit _ _ _ _ _ _ hd]
  exact ⟨fun z => ⟨by omega, z.2.1, z.2.2.1, by omega, fun e => absurd e (by omega)⟩, fun z => ⟨hk, z.2.1, z.2.2.1, by omega, fun e => absurd e (by omega)⟩⟩
theorem dm_f0 (g : Nat → Nat) (r : Nat) : ∀ d, d < 7 → (dm_wo g r 7 7 7 r).testBit d = false := by
  intro d hd
  cases h : (dm_wo g r 7 7 7 r).testBit d with
  | false => rfl
  | true => exact absurd rfl ((dm_wo_bit _ _ _ _ _ _ hd).1 h).1
theorem dm_fc (g : Nat → Nat) (r : Nat) : ∀ c, c < 7 → ∀ k d, d < 7 → (dm_wo g r c 7 7 k).testBit d = ((dm_wo g r 7 7 7 k).testBit d && decide (c ≠ d)) := by
  intro c hc k d hd
  apply dm_bool
  rw [Bool.and_eq_true, decide_eq_true_eq, dm_wo_bit _ _ _ _ _ _ hd, dm_wo_bit _ _ _ _ _ _ hd]
  exact ⟨fun z => ⟨⟨z.1, z.2.1, z.2.2.1, by omega, fun e => absurd e (by omega)⟩, z.2.2.2.1⟩, fun z => ⟨z.1.1, z.1.2.1, z.1.2.2.1, z.2, fun e => absurd e (by omega)⟩⟩
theorem dm_R_le (g : Nat → Nat) (r : Nat) : dm_R g r ≤ dm_L g := dm_up (dm_fnl g r) (dm_f0 g r)
theorem dm_RC_le (g : Nat → Nat) {r c : Nat} (hr : r < 7) (hc : c < 7) (hb : (g r).testBit c = true) : dm_RC g r c + 1 ≤ dm_L g :=
  dm_up1 hr hc (dm_fnl g r) (dm_f0 g r) (dm_fc g r c hc) ((dm_wo_bit _ _ _ _ _ _ hc).2 ⟨by omega, hr, hb, by omega, fun e => absurd e (by omega)⟩)
theorem dm_L_ex (g : Nat → Nat) {r : Nat} (hr : r < 7) (h : dm_R g r ≠ dm_L g) : ∃ c, c < 7 ∧ (g r).testBit c = true ∧ dm_RC g r c + 1 = dm_L g := by
  rcases dm_down hr (dm_fnl g r) (dm_f0 g r) (dm_fc g r) with e | ⟨c, hc, hb, e⟩
  · exact absurd e.symm h
  · exact ⟨c, hc, ((dm_wo_bit _ _ _ _ _ _ hc).1 hb).2.2.1, e.symm⟩
theorem dm_forced (g : Nat → Nat) {r c : Nat} (hr : r < 7) (hc : c < 7) :
    dm_Ed g r c < dm_L g ↔ (dm_R g r ≠ dm_L g ∧ ∀ c', c' < 7 → (g r).testBit c' = true → dm_RC g r c' + 1 = dm_L g → c' = c) := by
  constructor
  · intro h
    have h1 : dm_R g r ≤ dm_Ed g r c := dm_up (dm_fne g r c) (dm_f0 g r)
    refine ⟨by omega, fun c' hc' hb he => ?_⟩
    apply Classical.byContradiction
    intro hn
    have h2 : dm_RC g r c' + 1 ≤ dm_Ed g r c :=
      dm_up1 hr hc' (dm_fne g r c) (dm_f0 g r) (dm_fc g r c' hc') ((dm_wo_bit _ _ _ _ _ _ hc').2 ⟨by omega, hr, hb, by omega, fun _ => Ne.symm hn⟩)
    omega
  · intro h
    have h1 := dm_R_le g r
    have h1' := h.1
    rcases dm_down hr (dm_fne g r c) (dm_f0 g r) (dm_fc g r) with e | ⟨c', hc', hb, e⟩
    · have e' : dm_Ed g r c = dm_R g r := e
      omega
    · have e' : dm_Ed g r c = dm_RC g r c' + 1 := e
      have hb' := (dm_wo_bit _ _ _ _ _ _ hc').1 hb
      have h2 := dm_RC_le g hr hc' hb'.2.2.1
      have h3 : dm_RC g r c' + 1 ≠ dm_L g := fun z => hb'.2.2.2.2 rfl (h.2 c' hc' hb'.2.2.1 z).symm
      omega
/-! the answers as sets -/
def dm_us (g : Nat → Nat) (r : Nat) : Nat := dm_bs (fun c => (g r).testBit c && decide (dm_RC g r c + 1 = dm_L g)) 7
def dm_fo (g : Nat → Nat) (r : Nat) : Nat := dm_bs (fun c => (g r).testBit c && decide (dm_Ed g r c < dm_L g)) 7
theorem dm_us_lt (g : Nat → Nat) (r : Nat) : dm_us g r < 128 := dm_bs_lt _ 7 (by decide)
theorem dm_fo_lt (g : Nat → Nat) (r : Nat) : dm_fo g r < 128 := dm_bs_lt _ 7 (by decide)
theorem dm_us_bit (g : Nat → Nat) (r : Nat) {c : Nat} (hc : c < 7) : (dm_us g r).testBit c = true ↔ ((g r).testBit c = true ∧ dm_RC g r c + 1 = dm_L g) := by
  unfold dm_us
  rw [dm_bs_bit, Bool.and_eq_true, Bool.and_eq_true, decide_eq_true_eq, decide_eq_true_eq]
  exact ⟨fun z => z.2, fun z => ⟨hc, z⟩⟩
theorem dm_fo_bit (g : Nat → Nat) (r : Nat) {c : Nat} (hc : c < 7) : (dm_fo g r).testBit c = true ↔ ((g r).testBit c = true ∧ dm_Ed g r c < dm_L g) := by
  unfold dm_fo
  rw [dm_bs_bit, Bool.and_eq_true, Bool.and_eq_true, decide_eq_true_eq, decide_eq_true_eq]
  exact ⟨fun z => z.2, fun z => ⟨hc, z⟩⟩
theorem dm_fo_eq (g : Nat → Nat) {r : Nat} (hr : r < 7) : dm_fo g r = if dm_R g r = dm_L g then 0 else if dm_ct (dm_us g r) = 1 then dm_us g r else 0 := by
  have key : ∀ c, c < 7 → (dm_fo g r).testBit c = true → dm_R g r ≠ dm_L g ∧ dm_us g r = 2 ^ c := by
    intro c hc hb
    rw [dm_fo_bit g r hc, dm_forced g hr hc] at hb
    obtain ⟨h1, h2, h3⟩ := hb
    refine ⟨h2, ?_⟩
    obtain ⟨u, hu, hu1, hu2⟩ := dm_L_ex g hr h2
    have huc := h3 u hu hu1 hu2
    subst huc
    apply dm_ext (dm_us_lt g r) (dm_p2 hu)
    intro d hd
    apply dm_bool
    rw [dm_us_bit g r hd, Nat.testBit_two_pow, decide_eq_true_eq]
    constructor
    · exact fun z => (h3 d hd z.1 z.2).symm
    · intro z
      subst z
      exact ⟨hu1, hu2⟩
  have zero : (∀ c, c < 7 → (dm_fo g r).testBit c = true → False) → dm_fo g r = 0 := by
    intro h
    apply dm_ext (dm_fo_lt g r) (by decide)
    intro d hd
    rw [Nat.zero_testBit]
    cases hh : (dm_fo g r).testBit d with
    | false => rfl
    | true => exact absurd hh (fun z => h d hd z)
  by_cases h1 : dm_R g r = dm_L g
  · rw [if_pos h1]
    exact zero (fun c hc hb => (key c hc hb).1 h1)
  · rw [if_neg h1]
    by_cases h2 : dm_ct (dm_us g r) = 1
    · rw [if_pos h2]
      obtain ⟨u, hu, e⟩ := dm_one _ (dm_us_lt g r) h2
      have hbu : (dm_us g r).testBit u = true := by
        rw [e]
        exact Nat.testBit_two_pow_self
      rw [dm_us_bit g r hu] at hbu
      have hall : ∀ c', c' < 7 → (g r).testBit c' = true → dm_RC g r c' + 1 = dm_L g → c' = u := by
        intro c' hc' a b
        have z := (dm_us_bit g r hc').2 ⟨a, b⟩
        rw [e, Nat.testBit_two_pow, decide_eq_true_eq] at z
        exact z.symm
      apply dm_ext (dm_fo_lt g r) (dm_us_lt g r)
      intro d hd
      apply dm_bool
      constructor
      · intro z
        rw [(key d hd z).2]
        exact Nat.testBit_two_pow_self
      · intro z
        rw [dm_us_bit g r hd] at z
        have hdu := hall d hd z.1 z.2
        subst hdu
        rw [dm_fo_bit g r hd, dm_forced g hr hd]
        exact ⟨z.1, h1, hall⟩
    · rw [if_neg h2]
      apply zero
      intro c hc hb
      apply h2
      rw [(key c hc hb).2]
      exact dm_ct_p c hc
end
section
/-! passes that only add: after seven of them nothing is added -/
def dm_ps (st : Nat → Nat → Nat) : Nat → Nat → Nat
  | 0 => fun R => R
  | i + 1 => fun R => st i (dm_ps st i R)
def dm_it (F : Nat → Nat) : Nat → Nat → Nat
  | 0 => fun R => R
  | p + 1 => fun R => F (dm_it F p R)
theorem dm_ps_in {st : Nat → Nat → Nat} {n : Nat} (hin : ∀ i R, i < n → R < 128 → st i R < 128 ∧ dm_sub R (st i R)) {R : Nat} (hR : R < 128) : ∀ i, i ≤ n → dm_ps st i R < 128 ∧ dm_sub R (dm_ps st i R) := by
  intro i
  induction i with
  | zero => exact fun _ => ⟨hR, dm_sub_r R⟩
  | succ i ih =>
    intro hi
    obtain ⟨a, b⟩ := ih (by omega)
    obtain ⟨c, d⟩ := hin i _ (by omega) a
    exact ⟨c, dm_sub_t b d⟩
theorem dm_ps_up {st : Nat → Nat → Nat} {n : Nat} (hin : ∀ i R, i < n → R < 128 → st i R < 128 ∧ dm_sub R (st i R)) {R : Nat} (hR : R < 128) : ∀ d i, i + d ≤ n → dm_sub (dm_ps st i R) (dm_ps st (i + d) R) := by
  intro d
  induction d with
  | zero => exact fun i _ => dm_sub_r _
  | succ d ih =>
    intro i hi
    exact dm_sub_t (ih i (by omega)) (hin (i + d) _ (by omega) (dm_ps_in hin hR (i + d) (by omega)).1).2
theorem dm_ps_fix {st : Nat → Nat → Nat} {n : Nat} (hin : ∀ i R, i < n → R < 128 → st i R < 128 ∧ dm_sub R (st i R)) {R : Nat} (hR : R < 128) (hf : dm_ps st n R = R) : ∀ i, i < n → st i R = R := by
  have h1 : ∀ i, i ≤ n → dm_ps st i R = R := by
    intro i hi
    have a := dm_ps_up hin hR (n - i) i (by omega)
    rw [show i + (n - i) = n from by omega, hf] at a
    exact dm_antis a (dm_ps_in hin hR i hi).2
  intro i hi
  have a := h1 (i + 1) (by omega)
  have b : dm_ps st (i + 1) R = st i (dm_ps st i R) := rfl
  rw [b, h1 i (by omega)] at a
  exact a
theorem dm_it_lt {F : Nat → Nat} (hF : ∀ R, R < 128 → F R < 128) {R : Nat} (hR : R < 128) : ∀ p, dm_it F p R < 128 := by
  intro p
  induction p with
  | zero => exact hR
  | succ p ih => exact hF _ ih
theorem dm_it_fix {F : Nat → Nat} (hF : ∀ R, R < 128 → F R < 128 ∧ dm_sub R (F R)) {R : Nat} (hR : R < 128) : F (dm_it F 7 R) = dm_it F 7 R := by
  have hl := dm_it_lt (fun R h => (hF R h).1) hR
  have h : ∀ p, F (dm_it F p R) = dm_it F p R ∨ p ≤ dm_ct (dm_it F p R) := by
    intro p
    induction p with
    | zero => exact Or.inr (Nat.zero_le _)
    | succ p ih =>
      have e : dm_it F (p + 1) R = F (dm_it F p R) := rfl
      rcases ih with ih | ih
      · left
        rw [e, ih, ih]
      · by_cases hz : dm_it F p R = F (dm_it F p R)
        · left
          rw [e, ← hz, ← hz]
        · right
          have a := dm_ct_lt (hF _ (hl p)).1 (hF _ (hl p)).2 hz
          rw [e]
          omega
  rcases h 7 with h | h
  · exact h
  · have a := dm_full _ (hl 7) h
    have b := hF _ (hl 7)
    rw [a] at b ⊢
    exact dm_antis (dm_127 b.1) b.2
theorem dm_ps_in2 {st : Nat → Nat → Nat} {n : Nat} {P : Nat → Prop} (hP : ∀ i R, i < n → P R → P (st i R)) {R : Nat} (hR : P R) : ∀ i, i ≤ n → P (dm_ps st i R) := by
  intro i
  induction i with
  | zero => exact fun _ => hR
  | succ i ih => exact fun hi => hP i _ (by omega) (ih (by omega))
theorem dm_it_in2 {F : Nat → Nat} {P : Nat → Prop} (hP : ∀ R, P R → P (F R)) {R : Nat} (hR : P R) : ∀ p, P (dm_it F p R) := by
  intro p
  induction p with
  | zero => exact hR
  | succ p ih => exact hP _ ih
/-! the sets that no touching edge leaves -/
def dm_cls (U : Nat → Nat) (D : Nat) : Prop := ∀ a b, a < 7 → b < 7 → D.testBit a = true → U a &&& U b ≠ 0 → D.testBit b = true
def dm_lst (U : Nat → Nat) (r C : Nat) : Prop := C < 128 ∧ dm_cls U C ∧ C.testBit r = true ∧ ∀ D, D < 128 → dm_cls U D → D.testBit r = true → dm_sub C D
theorem dm_lst_u {U : Nat → Nat} {r C D : Nat} (h1 : dm_lst U r C) (h2 : dm_lst U r D) : C = D :=
  dm_antis (h1.2.2.2 D h2.1 h2.2.1 h2.2.2.1) (h2.2.2.2 C h1.1 h1.2.1 h1.2.2.1)
theorem dm_and_ne {s t : Nat} : s &&& t ≠ 0 ↔ ∃ c, s.testBit c = true ∧ t.testBit c = true := by
  constructor
  · intro h
    apply Classical.byContradiction
    intro hn
    apply h
    apply Nat.eq_of_testBit_eq
    intro i
    rw [Nat.testBit_and, Nat.zero_testBit]
    cases h1 : s.testBit i <;> cases h2 : t.testBit i
    · rfl
    · rfl
    · rfl
    · exact absurd ⟨i, h1, h2⟩ hn
  · rintro ⟨c, h1, h2⟩ e
    have h3 : (s &&& t).testBit c = true := by
      rw [Nat.testBit_and, h1, h2]
      rfl
    rw [e, Nat.zero_testBit] at h3
    exact absurd h3 (by decide)
theorem dm_ne0 {s : Nat} : s ≠ 0 ↔ ∃ c, s.testBit c = true := by
  have h := dm_and_ne (s := s) (t := s)
  rw [Nat.and_self] at h
  rw [h]
  exact ⟨fun ⟨c, h, _⟩ => ⟨c, h⟩, fun ⟨c, h⟩ => ⟨c, h, h⟩⟩
/-! the component: rows R, and the columns of row r and of the rows in R -/
def dm_cu (U : Nat → Nat) (r R : Nat) : Nat → Nat
  | 0 => U r
  | a + 1 => if R.testBit a = true then dm_cu U r R a ||| U a else dm_cu U r R a
theorem dm_cu_bit (U : Nat → Nat) (r R c : Nat) : ∀ n, (dm_cu U r R n).testBit c = true ↔ ((U r).testBit c = true ∨ ∃ a, a < n ∧ R.testBit a = true ∧ (U a).testBit c = true) := by
  intro n
  induction n with
  | zero => exact ⟨fun h => Or.inl h, fun h => h.elim id (fun ⟨a, ha, _⟩ => absurd ha (by omega))⟩
  | succ n ih =>
    have e : dm_cu U r R (n + 1) = if R.testBit n = true then dm_cu U r R n ||| U n else dm_cu U r R n := rfl
    by_cases h : R.testBit n = true
    · rw [e, if_pos h, Nat.testBit_or, Bool.or_eq_true, ih]
      constructor
      · rintro ((z | ⟨a, ha, z1, z2⟩) | z)
        · exact Or.inl z
        · exact Or.inr ⟨a, by omega, z1, z2⟩
        · exact Or.inr ⟨n, by omega, h, z⟩
      · rintro (z | ⟨a, ha, z1, z2⟩)
        · exact Or.inl (Or.inl z)
        · by_cases hn : a = n
          · subst hn
            exact Or.inr z2
          · exact Or.inl (Or.inr ⟨a, by omega, z1, z2⟩)
    · rw [e, if_neg h, ih]
      constructor
      · rintro (z | ⟨a, ha, z1, z2⟩)
        · exact Or.inl z
        · exact Or.inr ⟨a, by omega, z1, z2⟩
      · rintro (z | ⟨a, ha, z1, z2⟩)
        · exact Or.inl z
        · by_cases hn : a = n
          · subst hn
            exact absurd z1 h
          · exact Or.inr ⟨a, by omega, z1, z2⟩
theorem dm_cu_lt {U : Nat → Nat} (hU : ∀ k, k < 7 → U k < 128) {r R : Nat} (hr : r < 7) : ∀ n, n ≤ 7 → dm_cu U r R n < 128 := by
  intro n
  induction n with
  | zero => exact fun _ => hU r hr
  | succ n ih =>
    intro hn
    have e : dm_cu U r R (n + 1) = if R.testBit n = true then dm_cu U r R n ||| U n else dm_cu U r R n := rfl
    by_cases h : R.testBit n = true
    · rw [e, if_pos h]
      exact dm_or_lt (ih (by omega)) (hU n (by omega))
    · rw [e, if_neg h]
      exact ih (by omega)
theorem dm_cu_0 (U : Nat → Nat) (r : Nat) : dm_cu U r 0 7 = U r := by
  apply dm_antis
  · intro c h
    rw [dm_cu_bit] at h
    rcases h with h | ⟨a, _, h, _⟩
    · exact h
    · rw [Nat.zero_testBit] at h
      exact absurd h (by decide)
  · intro c h
    rw [dm_cu_bit]
    exact Or.inl h
theorem dm_cu_or (U : Nat → Nat) (r R : Nat) {o : Nat} (ho : o < 7) : dm_cu U r (R ||| 2 ^ o) 7 = dm_cu U r R 7 ||| U o := by
  apply dm_antis
  · intro c h
    rw [Nat.testBit_or, Bool.or_eq_true, dm_cu_bit]
    rw [dm_cu_bit] at h
    rcases h with h | ⟨a, ha, h1, h2⟩
    · exact Or.inl (Or.inl h)
    · rw [Nat.testBit_or, Bool.or_eq_true, Nat.testBit_two_pow, decide_eq_true_eq] at h1
      rcases h1 with h1 | h1
      · exact Or.inl (Or.inr ⟨a, ha, h1, h2⟩)
      · subst h1
        exact Or.inr h2
  · intro c h
    rw [Nat.testBit_or, Bool.or_eq_true, dm_cu_bit] at h
    rw [dm_cu_bit]
    rcases h with (h | ⟨a, ha, h1, h2⟩) | h
    · exact Or.inl h
    · exact Or.inr ⟨a, ha, by rw [Nat.testBit_or, h1]; rfl, h2⟩
    · refine Or.inr ⟨o, ho, ?_, h⟩
      rw [Nat.testBit_or, Nat.testBit_two_pow_self, Bool.or_true]
def dm_xs (U : Nat → Nat) (r : Nat) : Nat → Nat → Nat := fun o R => if U o &&& dm_cu U r R 7 ≠ 0 then R ||| 2 ^ o else R
def dm_xr (U : Nat → Nat) (r : Nat) : Nat := dm_it (dm_ps (dm_xs U r) 7) 7 0
theorem dm_st_in {c : Prop} [Decidable c] {R o : Nat} (ho : o < 7) (hR : R < 128) : (if c then R ||| 2 ^ o else R) < 128 ∧ dm_sub R (if c then R ||| 2 ^ o else R) := by
  by_cases h : c
  · rw [if_pos h]
    exact ⟨dm_or_lt hR (dm_p2 ho), fun d hd => by rw [Nat.testBit_or, hd]; rfl⟩
  · rw [if_neg h]
    exact ⟨hR, dm_sub_r R⟩
theorem dm_st_fix {c : Prop} [Decidable c] {R o : Nat} (h : (if c then R ||| 2 ^ o else R) = R) (hc : c) : R.testBit o = true := by
  rw [if_pos hc] at h
  rw [← h, Nat.testBit_or, Nat.testBit_two_pow_self, Bool.or_true]
theorem dm_st_sub {c : Prop} [Decidable c] {R o D : Nat} (hR : dm_sub R D) (h : c → D.testBit o = true) : dm_sub (if c then R ||| 2 ^ o else R) D := by
  by_cases hc : c
  · rw [if_pos hc]
    intro d hd
    rw [Nat.testBit_or, Bool.or_eq_true, Nat.testBit_two_pow, decide_eq_true_eq] at hd
    rcases hd with hd | hd
    · exact hR d hd
    · subst hd
      exact h hc
  · rw [if_neg hc]
    exact hR
theorem dm_xs_in (U : Nat → Nat) (r : Nat) : ∀ o R, o < 7 → R < 128 → dm_xs U r o R < 128 ∧ dm_sub R (dm_xs U r o R) := fun _ _ ho hR => dm_st_in ho hR
theorem dm_xr_lt (U : Nat → Nat) (r : Nat) : dm_xr U r < 128 :=
  dm_it_lt (fun R h => (dm_ps_in (dm_xs_in U r) h 7 (Nat.le_refl 7)).1) (by decide) 7
theorem dm_xr_lst {U : Nat → Nat} (hU : ∀ k, k < 7 → U k < 128) {r : Nat} (hr : r < 7) (h0 : U r ≠ 0) : dm_lst U r (dm_xr U r) := by
  have hl := dm_xr_lt U r
  have hfix := dm_ps_fix (dm_xs_in U r) hl (dm_it_fix (fun R h => dm_ps_in (dm_xs_in U r) h 7 (Nat.le_refl 7)) (by decide : (0 : Nat) < 128))
  have hcl : ∀ o, o < 7 → U o &&& dm_cu U r (dm_xr U r) 7 ≠ 0 → (dm_xr U r).testBit o = true := fun o ho hne => dm_st_fix (hfix o ho) hne
  refine ⟨hl, ?_, ?_, ?_⟩
  · intro a b ha hb hab hne
    apply hcl b hb
    rw [dm_and_ne] at hne ⊢
    obtain ⟨c, h1, h2⟩ := hne
    refine ⟨c, h2, ?_⟩
    rw [dm_cu_bit]
    exact Or.inr ⟨a, ha, hab, h1⟩
  · apply hcl r hr
    rw [dm_and_ne]
    obtain ⟨c, hc⟩ := dm_ne0.1 h0
    refine ⟨c, hc, ?_⟩
    rw [dm_cu_bit]
    exact Or.inl hc
  · intro D hD hcD hrD
    refine dm_it_in2 (P := fun R => dm_sub R D) (fun R hR => dm_ps_in2 (P := fun R => dm_sub R D) (n := 7) (fun o R ho hR => dm_st_sub hR ?_) hR 7 (Nat.le_refl 7)) ?_ 7
    · intro hne
      rw [dm_and_ne] at hne
      obtain ⟨c, h1, h2⟩ := hne
      rw [dm_cu_bit] at h2
      rcases h2 with h2 | ⟨a, ha, h3, h4⟩
      · exact hcD r o hr ho hrD (dm_and_ne.2 ⟨c, h2, h1⟩)
      · exact hcD a o ha ho (hR a h3) (dm_and_ne.2 ⟨c, h4, h1⟩)
    · intro c hc
      rw [Nat.zero_testBit] at hc
      exact absurd hc (by decide)
theorem dm_xr_0 {U : Nat → Nat} {r : Nat} (h0 : U r = 0) : dm_xr U r = 0 := by
  refine dm_it_in2 (P := fun R => R = 0) (fun R hR => dm_ps_in2 (P := fun R => R = 0) (n := 7) (fun o R ho hR => ?_) hR 7 (Nat.le_refl 7)) rfl 7
  have hR' : R = 0 := hR
  subst hR'
  show (if U o &&& dm_cu U r 0 7 ≠ 0 then 0 ||| 2 ^ o else 0) = 0
  rw [dm_cu_0, h0, Nat.and_zero, if_neg (fun h => h rfl)]
/-! the reference: pairs of rows -/
def dm_ys (U : Nat → Nat) : Nat → Nat → Nat := fun q R => if R.testBit (q / 7) = true ∧ U (q / 7) &&& U (q % 7) ≠ 0 then R ||| 2 ^ (q % 7) else R
def dm_yr (U : Nat → Nat) (r : Nat) : Nat := dm_it (dm_ps (dm_ys U) 49) 7 (2 ^ r)
theorem dm_ys_in (U : Nat → Nat) : ∀ q R, q < 49 → R < 128 → dm_ys U q R < 128 ∧ dm_sub R (dm_ys U q R) := fun _ _ _ hR => dm_st_in (by omega) hR
theorem dm_yr_lt (U : Nat → Nat) {r : Nat} (hr : r < 7) : dm_yr U r < 128 :=
  dm_it_lt (fun R h => (dm_ps_in (dm_ys_in U) h 49 (Nat.le_refl 49)).1) (dm_p2 hr) 7
theorem dm_yr_lst {U : Nat → Nat} {r : Nat} (hr : r < 7) : dm_lst U r (dm_yr U r) := by
  have hl := dm_yr_lt U hr
  have hfix := dm_ps_fix (dm_ys_in U) hl (dm_it_fix (fun R h => dm_ps_in (dm_ys_in U) h 49 (Nat.le_refl 49)) (dm_p2 hr))
  refine ⟨hl, ?_, ?_, ?_⟩
  · intro a b ha hb hab hne
    have h1 := hfix (7 * a + b) (by omega)
    have e1 : (7 * a + b) / 7 = a := by omega
    have e2 : (7 * a + b) % 7 = b := by omega
    unfold dm_ys at h1
    rw [e1, e2] at h1
    exact dm_st_fix h1 ⟨hab, hne⟩
  · refine dm_it_in2 (P := fun R => R.testBit r = true) (fun R hR => dm_ps_in2 (P := fun R => R.testBit r = true) (n := 49) (fun q R hq hR => ?_) hR 49 (Nat.le_refl 49)) Nat.testBit_two_pow_self 7
    have hR' : R.testBit r = true := hR
    show (if R.testBit (q / 7) = true ∧ U (q / 7) &&& U (q % 7) ≠ 0 then R ||| 2 ^ (q % 7) else R).testBit r = true
    by_cases h : R.testBit (q / 7) = true ∧ U (q / 7) &&& U (q % 7) ≠ 0
    · rw [if_pos h, Nat.testBit_or, hR']
      rfl
    · rw [if_neg h]
      exact hR'
  · intro D hD hcD hrD
    refine dm_it_in2 (P := fun R => dm_sub R D) (fun R hR => dm_ps_in2 (P := fun R => dm_sub R D) (n := 49) (fun q R hq hR => dm_st_sub hR ?_) hR 49 (Nat.le_refl 49)) ?_ 7
    · intro h
      exact hcD (q / 7) (q % 7) (by omega) (by omega) (hR _ h.1) h.2
    · intro c hc
      rw [Nat.testBit_two_pow, decide_eq_true_eq] at hc
      subst hc
      exact hrD
theorem dm_xy {U : Nat → Nat} (hU : ∀ k, k < 7 → U k < 128) {r : Nat} (hr : r < 7) (h0 : U r ≠ 0) : dm_xr U r = dm_yr U r := dm_lst_u (dm_xr_lst hU hr h0) (dm_yr_lst hr)
/-! one block holds two rows from both sides -/
theorem dm_yr_sym {U : Nat → Nat} {a b : Nat} (ha : a < 7) (hb : b < 7) (h : (dm_yr U a).testBit b = true) : (dm_yr U b).testBit a = true := by
  cases hh : (dm_yr U b).testBit a with
  | true => rfl
  | false =>
    have hA := dm_yr_lst (U := U) ha
    have hB := dm_yr_lst (U := U) hb
    have hcl : dm_cls U (127 ^^^ dm_yr U b) := by
      intro c d hc hd h1 h2
      rw [Nat.testBit_xor, dm_b127 c hc] at h1
      rw [Nat.testBit_xor, dm_b127 d hd]
      cases h3 : (dm_yr U b).testBit d with
      | false => rfl
      | true =>
        have h4 := hB.2.1 d c hd hc h3 (by rw [Nat.and_comm]; exact h2)
        rw [h4] at h1
        exact absurd h1 (by decide)
    have h5 := hA.2.2.2 (127 ^^^ dm_yr U b) (Nat.xor_lt_two_pow (n := 7) (by decide) hB.1) hcl (by rw [Nat.testBit_xor, dm_b127 a ha, hh]; rfl) b h
    rw [Nat.testBit_xor, dm_b127 b hb, hB.2.2.1] at h5
    exact absurd h5 (by decide)
theorem dm_yr_tr {U : Nat → Nat} {a b c : Nat} (ha : a < 7) (hb : b < 7) (h : (dm_yr U a).testBit b = true) (h2 : (dm_yr U b).testBit c = true) : (dm_yr U a).testBit c = true := by
  have hA := dm_yr_lst (U := U) ha
  exact (dm_yr_lst (U := U) hb).2.2.2 _ hA.1 hA.2.1 h c h2
/-! a row with edges has only rows with edges in its block -/
theorem dm_yr_ne {U : Nat → Nat} {a b : Nat} (ha : a < 7) (hb : b < 7) (h0 : U a ≠ 0) (h : (dm_yr U a).testBit b = true) : U b ≠ 0 := by
  intro hz
  have hA := dm_yr_sym ha hb h
  have hB := dm_yr_lst (U := U) hb
  have hcl : dm_cls U (2 ^ b) := by
    intro c d hc hd h1 h2
    rw [Nat.testBit_two_pow, decide_eq_true_eq] at h1
    subst h1
    rw [hz, Nat.zero_and] at h2
    exact absurd rfl h2
  have h3 := hB.2.2.2 (2 ^ b) (dm_p2 hb) hcl Nat.testBit_two_pow_self a hA
  rw [Nat.testBit_two_pow, decide_eq_true_eq] at h3
  subst h3
  exact h0 hz
/-! the blocks, counted -/
def dm_sn (U : Nat → Nat) : Nat → Nat
  | 0 => 0
  | r + 1 => if U r ≠ 0 ∧ (dm_sn U r).testBit r = false then dm_sn U r ||| dm_xr U r else dm_sn U r
theorem dm_sn_s (U : Nat → Nat) (r : Nat) : dm_sn U (r + 1) = if U r ≠ 0 ∧ (dm_sn U r).testBit r = false then dm_sn U r ||| dm_xr U r else dm_sn U r := rfl
theorem dm_sn_lt (U : Nat → Nat) : ∀ n, dm_sn U n < 128 := by
  intro n
  induction n with
  | zero => exact (by decide : (0 : Nat) < 128)
  | succ n ih =>
    by_cases h : U n ≠ 0 ∧ (dm_sn U n).testBit n = false
    · rw [dm_sn_s, if_pos h]
      exact dm_or_lt ih (dm_xr_lt U n)
    · rw [dm_sn_s, if_neg h]
      exact ih
theorem dm_sn_bit {U : Nat → Nat} (hU : ∀ k, k < 7 → U k < 128) : ∀ n, n ≤ 7 → ∀ b, b < 7 → ((dm_sn U n).testBit b = true ↔ ∃ a, a < n ∧ U a ≠ 0 ∧ (dm_yr U a).testBit b = true) := by
  intro n
  induction n with
  | zero =>
    intro _ b _
    have e : dm_sn U 0 = 0 := rfl
    rw [e, Nat.zero_testBit]
    exact ⟨fun h => absurd h (by decide), fun ⟨a, ha, _⟩ => absurd ha (by omega)⟩
  | succ n ih =>
    intro hn b hb
    have ih' := ih (by omega)
    by_cases h : U n ≠ 0 ∧ (dm_sn U n).testBit n = false
    · rw [dm_sn_s, if_pos h, Nat.testBit_or, Bool.or_eq_true, ih' b hb, dm_xy hU (by omega) h.1]
      constructor
      · rintro (⟨a, ha, z⟩ | z)
        · exact ⟨a, by omega, z⟩
        · exact ⟨n, by omega, h.1, z⟩
      · rintro ⟨a, ha, z1, z2⟩
        by_cases hn2 : a = n
        · subst hn2
          exact Or.inr z2
        · exact Or.inl ⟨a, by omega, z1, z2⟩
    · rw [dm_sn_s, if_neg h, ih' b hb]
      constructor
      · exact fun ⟨a, ha, z⟩ => ⟨a, by omega, z⟩
      · rintro ⟨a, ha, z1, z2⟩
        by_cases hn2 : a = n
        · subst hn2
          have hs : (dm_sn U a).testBit a = true := by
            cases hh : (dm_sn U a).testBit a with
            | true => rfl
            | false => exact absurd ⟨z1, hh⟩ h
          rw [ih' a (by omega)] at hs
          obtain ⟨a', ha', y1, y2⟩ := hs
          exact ⟨a', ha', y1, dm_yr_tr (by omega) (by omega) y2 z2⟩
        · exact ⟨a, by omega, z1, z2⟩
theorem dm_low (s r : Nat) : s &&& (2 ^ r - 1) ≠ 0 ↔ ∃ a, a < r ∧ s.testBit a = true := by
  rw [dm_and_ne]
  constructor
  · rintro ⟨c, h1, h2⟩
    rw [Nat.testBit_two_pow_sub_one, decide_eq_true_eq] at h2
    exact ⟨c, h2, h1⟩
  · rintro ⟨a, ha, h⟩
    refine ⟨a, h, ?_⟩
    rw [Nat.testBit_two_pow_sub_one, decide_eq_true_eq]
    exact ha
theorem dm_blk {U : Nat → Nat} (hU : ∀ k, k < 7 → U k < 128) {r : Nat} (hr : r < 7) : (U r ≠ 0 ∧ (dm_sn U r).testBit r = false) ↔ (U r ≠ 0 ∧ dm_yr U r &&& (2 ^ r - 1) = 0) := by
  have key : U r ≠ 0 → ((dm_sn U r).testBit r = true ↔ dm_yr U r &&& (2 ^ r - 1) ≠ 0) := by
    intro h0
    rw [dm_sn_bit hU r (by omega) r hr, dm_low]
    constructor
    · exact fun ⟨a, ha, _, z⟩ => ⟨a, ha, dm_yr_sym (by omega) hr z⟩
    · exact fun ⟨a, ha, z⟩ => ⟨a, ha, dm_yr_ne hr (by omega) h0 z, dm_yr_sym hr (by omega) z⟩
  constructor
  · rintro ⟨h0, h1⟩
    refine ⟨h0, Classical.byContradiction fun z => ?_⟩
    rw [(key h0).2 z] at h1
    exact absurd h1 (by decide)
  · rintro ⟨h0, h1⟩
    refine ⟨h0, ?_⟩
    cases hh : (dm_sn U r).testBit r with
    | false => rfl
    | true => exact absurd h1 ((key h0).1 hh)
end
section
/-! rows of kit/rows that serve here -/
theorem pk_us {f : Nat → Int32} {k : Nat} {x : Int32} : upd f k x k = x := if_pos rfl
theorem pk_un {f : Nat → Int32} {k j : Nat} {x : Int32} (h : j ≠ k) : upd f k x j = f j := if_neg h
theorem pk_sub {a b : Nat} (h : b ≤ a) : nI a - nI b = nI (a - b) := by
  obtain ⟨c, rfl⟩ : ∃ c, a = c + b := ⟨a - b, by omega⟩
  rw [← nI_add, Int32.add_sub_cancel, Nat.add_sub_cancel]
theorem pk_m1 (n : Nat) : nI (n + 1) + (-1) = nI n := by
  rw [← nI_1, Int32.add_assoc, show (1 : Int32) + (-1) = 0 from rfl, Int32.add_zero]
theorem pk_mul (a b : Nat) : nI a * nI b = nI (a * b) := (Int32.ofNat_mul a b).symm
theorem pk_div {a d : Nat} (ha : a < 2 ^ 31) (h0 : 0 < d) (hd : d < 2 ^ 31) : nI a / nI d = nI (a / d) := by
  apply Int32.toInt_inj.mp
  rw [lg_idiv_nonneg (by rw [nI_toInt ha]; omega) (by rw [nI_toInt hd]; omega), nI_toInt ha, nI_toInt hd, nI_toInt (Nat.lt_of_le_of_lt (Nat.div_le_self a d) ha)]
  first | rfl | exact (Int.natCast_ediv _ _).symm
theorem pk_rem {a d : Nat} (ha : a < 2 ^ 31) (h0 : 0 < d) (hd : d < 2 ^ 31) : nI a - nI a / nI d * nI d = nI (a % d) := by
  rw [pk_div ha h0 hd, pk_mul, pk_sub (Nat.div_mul_le_self a d)]
  exact congrArg nI (by have := Nat.div_add_mod' a d; omega)
theorem pk_ix (x : Int32) {n : Nat} (hn : n < 2 ^ 31) : x < 0 ∨ nI n ≤ x ∨ ∃ j : Nat, j < n ∧ x = nI j := by
  by_cases h : x < 0
  · exact Or.inl h
  · obtain ⟨j, hj, rfl⟩ := nI_of h
    by_cases h2 : j < n
    · exact Or.inr (Or.inr ⟨j, h2, rfl⟩)
    · exact Or.inr (Or.inl (nI_le (by omega) hj))
theorem pk_le {x y : Int32} {A B : Prop} (a b : Nat) (f : a ≤ b → A) (g : b < a → B) (hx : x = nI a := by rfl) (hy : y = nI b := by rfl) (ha : a < 2 ^ 31 := by omega) (hb : b < 2 ^ 31 := by omega) : (x ≤ y → A) ∧ (¬ x ≤ y → B) := by
  subst hx hy
  rw [nI_leI ha hb]
  exact ⟨f, fun z => g (by omega)⟩
theorem pk_lt {x y : Int32} {A B : Prop} (a b : Nat) (f : a < b → A) (g : b ≤ a → B) (hx : x = nI a := by rfl) (hy : y = nI b := by rfl) (ha : a < 2 ^ 31 := by omega) (hb : b < 2 ^ 31 := by omega) : (x < y → A) ∧ (¬ x < y → B) := by
  subst hx hy
  rw [nI_ltI ha hb]
  exact ⟨f, fun z => g (by omega)⟩
theorem pk_eq {x y : Int32} {A B : Prop} (a b : Nat) (f : a = b → A) (g : a ≠ b → B) (hx : x = nI a := by rfl) (hy : y = nI b := by rfl) (ha : a < 2 ^ 31 := by omega) (hb : b < 2 ^ 31 := by omega) : (x = y → A) ∧ (¬ x = y → B) := by
  subst hx hy
  rw [nI_eq ha hb]
  exact ⟨f, g⟩
theorem nx_and (a b : Nat) : nI a &&& nI b = nI (a &&& b) := by
  apply Int32.toBitVec_inj.1
  show BitVec.ofNat 32 a &&& BitVec.ofNat 32 b = BitVec.ofNat 32 (a &&& b)
  apply BitVec.eq_of_getLsbD_eq
  intro i hi
  simp [hi]
theorem nx_xor (a b : Nat) : nI a ^^^ nI b = nI (a ^^^ b) := by
  apply Int32.toBitVec_inj.1
  show BitVec.ofNat 32 a ^^^ BitVec.ofNat 32 b = BitVec.ofNat 32 (a ^^^ b)
  apply BitVec.eq_of_getLsbD_eq
  intro i hi
  simp [hi]
/-! own rows -/
theorem dm_or (a b : Nat) : nI a ||| nI b = nI (a ||| b) := by
  apply Int32.toBitVec_inj.1
  show BitVec.ofNat 32 a ||| BitVec.ofNat 32 b = BitVec.ofNat 32 (a ||| b)
  apply BitVec.eq_of_getLsbD_eq
  intro i hi
  simp [hi]
theorem dm_sh : ∀ c, c < 8 → (1 : Int32) <<< (nI c &&& 31) = nI (2 ^ c) := by decide +kernel
theorem dm_sor {s c : Nat} (hc : c < 7) : nI s ||| ((1 : Int32) <<< (nI c &&& 31)) = nI (s ||| 2 ^ c) := by
  rw [dm_sh c (by omega), dm_or]
theorem dm_sxr {s c : Nat} (hc : c < 7) : nI s ^^^ ((1 : Int32) <<< (nI c &&& 31)) = nI (dm_x s c) := by
  rw [dm_sh c (by omega), nx_xor]
  rfl
theorem dm_san : ∀ c, c < 8 → ∀ s, s < 128 → nI s &&& (((1 : Int32) <<< (nI c &&& 31)) ^^^ (-1)) = nI (dm_an s c) := by decide +kernel
theorem dm_sbt : ∀ c, c < 7 → ∀ s, s < 128 → ((nI s >>> (nI c &&& 31)) &&& 1) = if s.testBit c = true then 1 else 0 := by decide +kernel
theorem dm_xlt : ∀ c, c < 7 → ∀ s, s < 128 → s.testBit c = true → dm_x s c < s := by decide +kernel
theorem dm_slo : ∀ c, c < 7 → ∀ s, s < 128 → nI s &&& (((1 : Int32) <<< (nI c &&& 31)) - 1) = nI (s &&& (2 ^ c - 1)) := by decide +kernel
theorem dm_orx : ∀ c, c < 7 → ∀ s, s < 128 → s.testBit c = false → s ||| 2 ^ c = dm_x s c := by decide +kernel
theorem dm_vn (x : Int32) : vp_nar .boolean x = x &&& 1 := rfl
theorem dm_cl {n : Nat} (h : n < 128) : (nI n).toNatClampNeg = n := nI_clamp (by omega)
theorem dm_eq0 {A B : Prop} {n : Nat} (hn : n < 2 ^ 31) (f : n = 0 → A) (g : n ≠ 0 → B) : (nI n = 0 → A) ∧ (¬ nI n = 0 → B) := pk_eq n 0 f g rfl rfl hn
theorem dm_l7 {A B : Prop} {i : Nat} (hi : i < 7) (b : B) : ((7 : Int32) ≤ nI i → A) ∧ (¬ (7 : Int32) ≤ nI i → B) := br_f (nI_ge (b := 7) hi (by decide)) b
theorem dm_g7 {A B : Prop} (a : A) : ((7 : Int32) ≤ nI 7 → A) ∧ (¬ (7 : Int32) ≤ nI 7 → B) := br_t (nI_le (a := 7) (Nat.le_refl 7) (by decide)) a
theorem dm_l128 {A B : Prop} {i : Nat} (hi : i < 128) (b : B) : ((128 : Int32) ≤ nI i → A) ∧ (¬ (128 : Int32) ≤ nI i → B) := br_f (nI_ge (b := 128) hi (by decide)) b
theorem dm_g128 {A B : Prop} (a : A) : ((128 : Int32) ≤ nI 128 → A) ∧ (¬ (128 : Int32) ≤ nI 128 → B) := br_t (nI_le (a := 128) (Nat.le_refl 128) (by decide)) a
theorem dm_l49 {A B : Prop} {i : Nat} (hi : i < 49) (b : B) : ((49 : Int32) ≤ nI i → A) ∧ (¬ (49 : Int32) ≤ nI i → B) := br_f (nI_ge (b := 49) hi (by decide)) b
theorem dm_g49 {A B : Prop} (a : A) : ((49 : Int32) ≤ nI 49 → A) ∧ (¬ (49 : Int32) ≤ nI 49 → B) := br_t (nI_le (a := 49) (Nat.le_refl 49) (by decide)) a
theorem dm_i7 {i : Nat} (h : i < 7) : vp_in (nI i) 7 := vp_in_nI h (by decide)
theorem dm_i128 {i : Nat} (h : i < 128) : vp_in (nI i) 128 := vp_in_nI h (by decide)
/-! the two tests of a member -/
theorem dm_has {A B : Prop} {s c : Nat} (hs : s < 128) (hc : c < 7) (f : s.testBit c = false → A) (t : s.testBit c = true → B) : wpX_has (fun r => (r = 0 → A) ∧ (¬ r = 0 → B)) (nI s) (nI c) := by
  unfold wpX_has
  rw [dm_sbt c hc s hs]
  cases h : s.testBit c with
  | false => exact br_t rfl (br_t rfl (f h))
  | true => exact br_f (by decide) (br_f (by decide) (t h))
theorem dm_in {A B : Prop} {u : SY} {s c : Nat} (hs : s < 128) (hc : c < 7) (f : s.testBit c = false → A) (t : s.testBit c = true → B) : wpY_in (fun r => (r = 0 → A) ∧ (¬ r = 0 → B)) u (nI s) (nI c) := by
  obtain ⟨a, b, c', d⟩ := u
  unfold wpY_in
  dsimp only
  rw [dm_sbt c hc s hs]
  cases h : s.testBit c with
  | false => exact br_f (by decide) (br_t rfl (f h))
  | true => exact br_t rfl (br_f (by decide) (t h))
/-! a set that grows -/
theorem dm_bs_t {p : Nat → Bool} {k : Nat} (hk : k < 7) (h : p k = true) : nI (dm_bs p k) ||| ((1 : Int32) <<< (nI k &&& 31)) = nI (dm_bs p (k + 1)) := by
  rw [dm_sor hk]
  show _ = nI (if p k = true then dm_bs p k ||| 2 ^ k else dm_bs p k)
  rw [if_pos h]
theorem dm_bs_f {p : Nat → Bool} {k : Nat} (h : p k = false) : dm_bs p (k + 1) = dm_bs p k := by
  show (if p k = true then dm_bs p k ||| 2 ^ k else dm_bs p k) = _
  rw [if_neg (by rw [h]; decide)]
theorem dm_nb_t {p : Nat → Bool} {k : Nat} (h : p k = true) : dm_nb p (k + 1) = dm_nb p k + 1 := by
  show (if p k = true then dm_nb p k + 1 else dm_nb p k) = _
  rw [if_pos h]
theorem dm_nb_f {p : Nat → Bool} {k : Nat} (h : p k = false) : dm_nb p (k + 1) = dm_nb p k := by
  show (if p k = true then dm_nb p k + 1 else dm_nb p k) = _
  rw [if_neg (by rw [h]; decide)]
/-! numbers within -/
theorem dm_ix (x : Int32) : x < 0 ∨ (7 : Int32) ≤ x ∨ ∃ j : Nat, j < 7 ∧ x = nI j := pk_ix x (n := 7) (by decide)
theorem dm_out {A B : Prop} {x : Int32} (h : x < 0 ∨ (7 : Int32) ≤ x) (b : B) : wpX_isOutside (fun r => (r = 0 → A) ∧ (¬ r = 0 → B)) x := by
  unfold wpX_isOutside
  by_cases h0 : x < 0
  · exact br_t h0 (br_f (by decide) b)
  · rcases h with h | h
    · exact absurd h h0
    · exact br_f h0 (br_f (Int32.not_lt.mpr h) (br_f (by decide) b))
theorem dm_ins {A B : Prop} {j : Nat} (h : j < 7) (a : A) : wpX_isOutside (fun r => (r = 0 → A) ∧ (¬ r = 0 → B)) (nI j) := by
  unfold wpX_isOutside
  exact br_f (nI_pos (by omega)) (br_t (nI_lt (b := 7) h (by decide)) (br_t rfl a))
theorem dm_outY {A B : Prop} {u : SY} {x : Int32} (h : x < 0 ∨ (7 : Int32) ≤ x) (a : A) : wpY_isPlace (fun r => (r = 0 → A) ∧ (¬ r = 0 → B)) u x := by
  obtain ⟨u1, u2, u3, u4⟩ := u
  unfold wpY_isPlace
  dsimp only
  by_cases h0 : x < 0
  · exact br_t h0 (br_t rfl a)
  · rcases h with h | h
    · exact absurd h h0
    · exact br_f h0 (br_t (Int32.lt_of_lt_of_le (by decide) h) (br_t rfl a))
theorem dm_insY {A B : Prop} {u : SY} {j : Nat} (h : j < 7) (b : B) : wpY_isPlace (fun r => (r = 0 → A) ∧ (¬ r = 0 → B)) u (nI j) := by
  obtain ⟨u1, u2, u3, u4⟩ := u
  unfold wpY_isPlace
  dsimp only
  exact br_f (nI_pos (by omega)) (br_f (nI_nlt (a := 6) (by omega) (by decide)) (br_f (by decide) b))
end
section
/-! the component: the size of a largest matching -/
theorem dm_row_8 {e : Nat} {m : Nat → Nat} {S : Nat} (hm : ∀ T, m T ≤ 7) (c : Nat) : dm_row e m S c ≤ 8 := by
  rcases dm_row_at e m S c with h | ⟨d, _, _, _, h⟩
  · rw [h]
    have := hm S
    omega
  · rw [h]
    have := hm (dm_x S d)
    omega
theorem dm_row_cg {e : Nat} {t m : Nat → Nat} {S : Nat} (h0 : t S = m S) (h1 : ∀ c, c < 7 → S.testBit c = true → t (dm_x S c) = m (dm_x S c)) : ∀ c, c ≤ 7 → dm_row e t S c = dm_row e m S c := by
  intro c
  induction c with
  | zero => exact fun _ => h0
  | succ c ih =>
    intro hc
    rw [dm_row_s, dm_row_s, ih (by omega)]
    by_cases hb : S.testBit c = true
    · rw [h1 c (by omega) hb]
    · rw [if_neg (fun z => hb z.1.2), if_neg (fun z => hb z.1.2)]
theorem dm_x_ns (S c : Nat) : dm_x S c ≠ S := by
  intro h
  have h1 := dm_x_self S c
  rw [h] at h1
  cases hb : S.testBit c <;> rw [hb] at h1 <;> exact absurd h1 (by decide)
theorem dm_ar19 {post : SX → Prop} {J3 : Int32 → (Nat → Int32) → (Nat → Int32) → (Nat → Int32) → Prop} {x1 : Int32} {S e : Nat} {m : Nat → Nat} {cols usab : Nat → Int32} (hS : S < 128) (hm : ∀ T, m T ≤ 7)
    (K : ∀ most, (∀ T, T < 128 → most T = nI (if T = S then dm_row e m S 7 else m T)) → ∀ x, x = nI S + (-1) → J3 x cols most usab) :
    ∀ d c most, c + d = 7 → (∀ T, T < 128 → most T = nI (if T = S then dm_row e m S c else m T)) → wX_allowRow_19 post J3 x1 (nI S) (nI (e &&& S)) (d + 1) (nI c) cols most usab := by
  intro d
  induction d with
  | zero =>
    intro c most hc hI
    obtain rfl : c = 7 := by omega
    exact dm_g7 (K most hI)
  | succ d ih =>
    intro c most hc hI
    have hc7 : c < 7 := by omega
    have hx : dm_x S c < 128 := dm_x_lt hS hc7
    have hxn : dm_x S c ≠ S := dm_x_ns S c
    have e1 : most S = nI (dm_row e m S c) := by rw [hI S hS, if_pos rfl]
    have e2 : most (dm_x S c) = nI (m (dm_x S c)) := by rw [hI _ hx, if_neg hxn]
    have b1 := dm_row_8 (e := e) (S := S) hm c
    have b2 := hm (dm_x S c)
    have c1 : most (nI S).toNatClampNeg = nI (dm_row e m S c) := by rw [dm_cl hS, e1]
    have c2 : most ((nI S) ^^^ ((1 : Int32) <<< (nI c &&& 31))).toNatClampNeg = nI (m (dm_x S c)) := by rw [dm_sxr hc7, dm_cl hx, e2]
    have i2 : vp_in ((nI S) ^^^ ((1 : Int32) <<< (nI c &&& 31))) 128 := by rw [dm_sxr hc7]; exact dm_i128 hx
    have hskip : ¬ ((e.testBit c = true ∧ S.testBit c = true) ∧ dm_row e m S c ≤ m (dm_x S c)) → ∀ x, x = nI c + 1 → wX_allowRow_19 post J3 x1 (nI S) (nI (e &&& S)) (d + 1) x cols most usab := by
      intro hn
      refine nm_r (nI_1 c) (ih (c + 1) most (by omega) (fun T hT => ?_))
      rw [hI T hT, dm_row_s, if_neg hn]
    refine dm_l7 hc7 (dm_has (dm_and_lt e hS) hc7 (fun hb => hskip (fun z => ?_)) (fun hb => ⟨i2, dm_i128 hS, ?_⟩))
    · rw [Nat.testBit_and, z.1.1, z.1.2] at hb
      exact absurd hb (by decide)
    · rw [Nat.testBit_and, Bool.and_eq_true] at hb
      refine pk_lt (m (dm_x S c)) (dm_row e m S c) (fun hlt => hskip (fun z => ?_)) (fun hge => ⟨i2, dm_i128 hS, nm_r (e' := upd most S (nI (m (dm_x S c) + 1))) ?_ (nm_r (nI_1 c) (ih (c + 1) _ (by omega) (fun T hT => ?_)))⟩) c2 c1
      · have := z.2
        omega
      · rw [c2, nI_1, dm_cl hS]
      · by_cases hTS : T = S
        · subst hTS
          rw [pk_us, if_pos rfl, dm_row_s, if_pos ⟨hb, hge⟩]
        · rw [pk_un hTS, hI T hT, if_neg hTS, if_neg hTS]
theorem dm_ar3 {post : SX → Prop} {r e : Nat} {t : Nat → Nat} {cols usab : Nat → Int32} (hr : r < 7) (hc : cols r = nI e) (ht : ∀ T, t T ≤ 7) (ht' : ∀ T, dm_row e t T 7 ≤ 7)
    (K : ∀ most, (∀ T, T < 128 → most T = nI (dm_row e t T 7)) → post (cols, most, usab)) :
    ∀ S most, S < 128 → (∀ T, T < 128 → most T = nI (if T ≤ S then t T else dm_row e t T 7)) → wX_allowRow_3 post (nI r) (S + 1) (nI S) cols most usab := by
  intro S
  induction S with
  | zero =>
    intro most _ hI
    refine br_t (by rw [nI_0]; decide) (K most (fun T hT => ?_))
    rw [hI T hT]
    by_cases h : T ≤ 0
    · obtain rfl : T = 0 := by omega
      rw [if_pos h]
      rcases dm_row_at e t 0 7 with z | ⟨d, _, _, z, _⟩
      · rw [z]
      · rw [Nat.zero_testBit] at z
        exact absurd z (by decide)
    · rw [if_neg h]
  | succ S ih =>
    intro most hS hI
    refine br_f (nI_nle (by omega) (by omega)) ⟨dm_i7 hr, nm_r (e' := nI (e &&& (S + 1))) (by rw [dm_cl (by omega), hc, nx_and]) ⟨7 + 1, ?_⟩⟩
    refine dm_ar19 (m := fun T => if T ≤ S + 1 then t T else dm_row e t T 7) hS (fun T => ?_) (fun most' hI' x hx => ?_) 7 0 most (by omega) (fun T hT => ?_)
    · by_cases h : T ≤ S + 1
      · rw [if_pos h]; exact ht T
      · rw [if_neg h]; exact ht' T
    · rw [hx, pk_m1]
      refine ih most' (by omega) (fun T hT => ?_)
      rw [hI' T hT]
      by_cases h : T = S + 1
      · subst h
        rw [if_pos rfl, if_neg (by omega)]
        refine congrArg nI (dm_row_cg ?_ (fun c hc hb => ?_) 7 (Nat.le_refl 7)).symm
        · rw [if_pos (Nat.le_refl _)]
        · rw [if_pos (Nat.le_of_lt (dm_xlt c hc _ hS hb))]
      · rw [if_neg h]
        by_cases h2 : T ≤ S
        · rw [if_pos h2, if_pos (by omega)]
        · rw [if_neg h2, if_neg (by omega)]
    · rw [hI T hT]
      by_cases h : T = S + 1
      · subst h
        rw [if_pos rfl]
        rfl
      · rw [if_neg h]
theorem dm_ar {post : SX → Prop} {r e : Nat} {t : Nat → Nat} {cols most usab : Nat → Int32} (hr : r < 7) (hc : cols r = nI e) (ht : ∀ T, t T ≤ 7) (ht' : ∀ T, dm_row e t T 7 ≤ 7)
    (hI : ∀ T, T < 128 → most T = nI (t T)) (K : ∀ most, (∀ T, T < 128 → most T = nI (dm_row e t T 7)) → post (cols, most, usab)) : wpX_allowRow post (cols, most, usab) (nI r) := by
  refine ⟨127 + 1, dm_ar3 hr hc ht ht' K 127 most (by decide) (fun T hT => ?_)⟩
  rw [hI T hT, if_pos (by omega)]
def dm_G (g : Nat → Nat) (a : Nat → Int32) : Prop := ∀ j, j < 7 → a j = nI (g j) ∧ g j < 128
theorem dm_ms24 {post : Int32 → SX → Prop} {g : Nat → Nat} {R C : Nat} {cols usab : Nat → Int32} (hg : dm_G g cols) (hR : R < 128) (hC : C < 128)
    (K : ∀ most, post (nI (dm_f (dm_xe g R) 7 C)) (cols, most, usab)) :
    ∀ d k most, k + d = 7 → (∀ T, T < 128 → most T = nI (dm_f (dm_xe g R) k T)) → wX_matchingSize_24 post (nI R) (nI C) (d + 1) (nI k) cols most usab := by
  intro d
  induction d with
  | zero =>
    intro k most hk hI
    obtain rfl : k = 7 := by omega
    refine dm_g7 ⟨dm_i128 hC, ?_⟩
    rw [dm_cl hC, hI C hC]
    exact K most
  | succ d ih =>
    intro k most hk hI
    have hk7 : k < 7 := by omega
    have ef : ∀ T, dm_f (dm_xe g R) (k + 1) T = dm_row (dm_xe g R k) (dm_f (dm_xe g R) k) T 7 := fun T => rfl
    refine dm_l7 hk7 (dm_has hR hk7 (fun hb => nm_r (nI_1 k) (ih (k + 1) most (by omega) (fun T hT => ?_))) (fun hb => ?_))
    · have e0 : dm_xe g R k = 0 := by
        unfold dm_xe
        rw [if_neg (by rw [hb]; decide)]
      rw [hI T hT, ef, e0, dm_row_0]
    · have e1 : dm_xe g R k = g k := by
        unfold dm_xe
        rw [if_pos hb]
      refine dm_ar (e := g k) (t := dm_f (dm_xe g R) k) hk7 (hg k hk7).1 (dm_f_7 _ k) (fun T => ?_) hI (fun most' hI' => nm_r (nI_1 k) (ih (k + 1) most' (by omega) (fun T hT => ?_)))
      · have h := dm_f_7 (dm_xe g R) (k + 1) T
        rw [ef, e1] at h
        exact h
      · rw [hI' T hT, ef, e1]
theorem dm_ms2 {post : Int32 → SX → Prop} {g : Nat → Nat} {R C : Nat} {cols usab : Nat → Int32} (hg : dm_G g cols) (hR : R < 128) (hC : C < 128)
    (K : ∀ most, post (nI (dm_f (dm_xe g R) 7 C)) (cols, most, usab)) :
    ∀ d i most, i + d = 128 → (∀ T, T < i → most T = 0) → wX_matchingSize_2 post (nI R) (nI C) (d + 1) (nI i) cols most usab := by
  intro d
  induction d with
  | zero =>
    intro i most hi hI
    obtain rfl : i = 128 := by omega
    exact dm_g128 ⟨7 + 1, dm_ms24 hg hR hC K 7 0 most rfl (fun T hT => hI T hT)⟩
  | succ d ih =>
    intro i most hi hI
    have hi' : i < 128 := by omega
    refine dm_l128 hi' ⟨dm_i128 hi', nm_e (nm_r (nI_1 i) (ih (i + 1) _ (by omega) (fun T hT => ?_)))⟩
    rw [dm_cl hi']
    by_cases h : T = i
    · rw [h, pk_us]
    · rw [pk_un h]
      exact hI T (by omega)
theorem dm_ms {post : Int32 → SX → Prop} {g : Nat → Nat} {R C : Nat} {cols most usab : Nat → Int32} {p0 p1 : Int32} (hg : dm_G g cols) (h0 : p0 = nI R) (h1 : p1 = nI C) (hR : R < 128) (hC : C < 128)
    (K : ∀ most, post (nI (dm_f (dm_xe g R) 7 C)) (cols, most, usab)) : wpX_matchingSize post (cols, most, usab) p0 p1 := by
  subst h0 h1
  exact ⟨128 + 1, dm_ms2 hg hR hC K 128 0 most rfl (fun T hT => absurd hT (by omega))⟩
/-! the four sizes that are asked for -/
theorem dm_127x {r : Nat} (hr : r < 7) : (127 : Int32) ^^^ ((1 : Int32) <<< (nI r &&& 31)) = nI (dm_x 127 r) := dm_sxr (s := 127) hr
theorem dm_x127 {r : Nat} (hr : r < 7) : dm_x 127 r < 128 := dm_x_lt (by decide) hr
theorem dm_m1 {post : Int32 → SX → Prop} {g : Nat → Nat} {cols most usab : Nat → Int32} (hg : dm_G g cols) (K : ∀ most, post (nI (dm_L g)) (cols, most, usab)) : wpX_matchingSize post (cols, most, usab) 127 127 := by
  refine dm_ms (R := 127) (C := 127) hg rfl rfl (by decide) (by decide) (fun most => ?_)
  rw [dm_s1]
  exact K most
theorem dm_m2 {post : Int32 → SX → Prop} {g : Nat → Nat} {cols most usab : Nat → Int32} {r : Nat} (hg : dm_G g cols) (hr : r < 7) (K : ∀ most, post (nI (dm_R g r)) (cols, most, usab)) : wpX_matchingSize post (cols, most, usab) (127 ^^^ ((1 : Int32) <<< (nI r &&& 31))) 127 := by
  refine dm_ms (R := dm_x 127 r) (C := 127) hg (dm_127x hr) rfl (dm_x127 hr) (by decide) (fun most => ?_)
  rw [dm_s2]
  exact K most
theorem dm_m3 {post : Int32 → SX → Prop} {g : Nat → Nat} {cols most usab : Nat → Int32} {c : Nat} (hg : dm_G g cols) (hc : c < 7) (K : ∀ most, post (nI (dm_C g c)) (cols, most, usab)) : wpX_matchingSize post (cols, most, usab) 127 (127 ^^^ ((1 : Int32) <<< (nI c &&& 31))) := by
  refine dm_ms (R := 127) (C := dm_x 127 c) hg rfl (dm_127x hc) (by decide) (dm_x127 hc) (fun most => ?_)
  rw [dm_s3 g hc]
  exact K most
theorem dm_m4 {post : Int32 → SX → Prop} {g : Nat → Nat} {cols most usab : Nat → Int32} {r c : Nat} (hg : dm_G g cols) (hr : r < 7) (hc : c < 7) (K : ∀ most, post (nI (dm_RC g r c)) (cols, most, usab)) : wpX_matchingSize post (cols, most, usab) (127 ^^^ ((1 : Int32) <<< (nI r &&& 31))) (127 ^^^ ((1 : Int32) <<< (nI c &&& 31))) := by
  refine dm_ms (R := dm_x 127 r) (C := dm_x 127 c) hg (dm_127x hr) (dm_127x hc) (dm_x127 hr) (dm_x127 hc) (fun most => ?_)
  rw [dm_s4 g hr hc]
  exact K most
end
section
/-! the reference: how many, one more row, the size of a largest matching -/
theorem dm_sz4 {post : Int32 → Prop} {s : Nat} {r c t g : Nat → Int32} (hs : s < 128) (K : post (nI (dm_ct s))) :
    ∀ d k, k + d = 7 → wY_sizeOf_4 post (nI s) r c t g (d + 1) (nI (dm_nb (fun i => s.testBit i) k)) (nI k) := by
  intro d
  induction d with
  | zero =>
    intro k hk
    obtain rfl : k = 7 := by omega
    rw [dm_nb_ct s hs]
    exact dm_g7 K
  | succ d ih =>
    intro k hk
    have hk7 : k < 7 := by omega
    have h := ih (k + 1) (by omega)
    refine dm_l7 hk7 (dm_in hs hk7 (fun hb => nm_r (nI_1 k) ?_) (fun hb => nm_r (nI_1 _) (nm_r (nI_1 k) ?_)))
    · rw [dm_nb_f (p := fun i => s.testBit i) hb] at h
      exact h
    · rw [dm_nb_t (p := fun i => s.testBit i) hb] at h
      exact h
theorem dm_sz {post : Int32 → Prop} {s : Nat} {u : SY} (hs : s < 128) (K : post (nI (dm_ct s))) : wpY_sizeOf post u (nI s) := by
  obtain ⟨r, c, t, g⟩ := u
  exact ⟨7 + 1, dm_sz4 hs K 7 0 rfl⟩
/-! an answer that is 1 just where P holds -/
def dm_b1 (x : Int32) (P : Prop) : Prop := (P ∧ x = 1) ∨ (¬ P ∧ x = 0)
theorem dm_b1_cg {x : Int32} {P Q : Prop} (h : P ↔ Q) (a : dm_b1 x P) : dm_b1 x Q := by
  rcases a with ⟨a, b⟩ | ⟨a, b⟩
  · exact Or.inl ⟨h.1 a, b⟩
  · exact Or.inr ⟨fun z => a (h.2 z), b⟩
theorem dm_b1_n {x : Int32} {P : Prop} (a : dm_b1 x P) : vp_nar .boolean x = x := by
  rw [dm_vn]
  rcases a with ⟨_, b⟩ | ⟨_, b⟩ <;> rw [b] <;> decide
theorem dm_b1_b {x : Int32} {P A B : Prop} (a : dm_b1 x P) (f : ¬ P → A) (g : P → B) : (x = 0 → A) ∧ (¬ x = 0 → B) := by
  rcases a with ⟨a, b⟩ | ⟨a, b⟩
  · exact br_f (by rw [b]; decide) (g a)
  · exact br_t b (f a)
/-! the sets that a new row reaches, by pairs of a set and a column in the walk's order -/
def dm_Q (P : Nat → Prop) (e q T : Nat) : Prop := P T ∨ ∃ d, d < 7 ∧ e.testBit d = true ∧ T.testBit d = true ∧ P (dm_x T d) ∧ 7 * dm_x T d + d < q
theorem dm_Q_0 (P : Nat → Prop) (e T : Nat) : P T ↔ dm_Q P e 0 T := ⟨fun h => Or.inl h, fun h => h.elim id (fun ⟨_, _, _, _, _, z⟩ => absurd z (by omega))⟩
theorem dm_Q_s (P : Nat → Prop) (e T : Nat) {s c : Nat} (hc : c < 7) : dm_Q P e (7 * s + c + 1) T ↔ (dm_Q P e (7 * s + c) T ∨ (P s ∧ e.testBit c = true ∧ s.testBit c = false ∧ T = dm_x s c)) := by
  constructor
  · rintro (h | ⟨d, hd, h1, h2, h3, h4⟩)
    · exact Or.inl (Or.inl h)
    · by_cases hl : 7 * dm_x T d + d < 7 * s + c
      · exact Or.inl (Or.inr ⟨d, hd, h1, h2, h3, hl⟩)
      · obtain rfl : d = c := by omega
        have e1 : dm_x T d = s := by omega
        rw [e1] at h3
        refine Or.inr ⟨h3, h1, ?_, ?_⟩
        · rw [← e1, dm_x_self, h2]
          rfl
        · rw [← e1, dm_x_x]
  · rintro ((h | ⟨d, hd, h1, h2, h3, h4⟩) | ⟨h1, h2, h3, h4⟩)
    · exact Or.inl h
    · exact Or.inr ⟨d, hd, h1, h2, h3, by omega⟩
    · subst h4
      refine Or.inr ⟨c, hc, h2, ?_, ?_, ?_⟩
      · rw [dm_x_self, h3]
        rfl
      · rw [dm_x_x]
        exact h1
      · rw [dm_x_x]
        omega
theorem dm_tk96 {post : SY → Prop} {rows thn good : Nat → Int32} {Q : Nat → Prop} (ht : ∀ T, T < 128 → dm_b1 (thn T) (Q T)) (K : ∀ can, (∀ T, T < 128 → dm_b1 (can T) (Q T)) → post (rows, can, thn, good)) :
    ∀ d i can, i + d = 128 → (∀ T, T < i → can T = thn T) → wY_takeRow_96 post (d + 1) (nI i) rows can thn good := by
  intro d
  induction d with
  | zero =>
    intro i can hi hI
    obtain rfl : i = 128 := by omega
    refine dm_g128 (K can (fun T hT => ?_))
    rw [hI T hT]
    exact ht T hT
  | succ d ih =>
    intro i can hi hI
    have hi' : i < 128 := by omega
    refine dm_l128 hi' ⟨dm_i128 hi', dm_i128 hi', nm_e (nm_r (nI_1 i) (ih (i + 1) _ (by omega) (fun T hT => ?_)))⟩
    rw [dm_cl hi']
    by_cases h : T = i
    · rw [h, pk_us]
      exact dm_b1_n (ht i hi')
    · rw [pk_un h]
      exact hI T (by omega)
theorem dm_tk38 {post : SY → Prop} {J29 : Int32 → (Nat → Int32) → (Nat → Int32) → (Nat → Int32) → (Nat → Int32) → Prop} {rows can good : Nat → Int32} {P : Nat → Prop} {e s : Nat} (he : e < 128) (hs : s < 128) (hc : ∀ T, T < 128 → dm_b1 (can T) (P T))
    (K : ∀ thn, (∀ T, T < 128 → dm_b1 (thn T) (dm_Q P e (7 * (s + 1)) T)) → J29 (nI (s + 1)) rows can thn good) :
    ∀ d c thn, c + d = 7 → (∀ T, T < 128 → dm_b1 (thn T) (dm_Q P e (7 * s + c) T)) → wY_takeRow_38 post J29 (nI e) (nI s) (d + 1) (nI c) rows can thn good := by
  intro d
  induction d with
  | zero =>
    intro c thn hd hI
    obtain rfl : c = 7 := by omega
    exact dm_g7 (nm_r (nI_1 s) (K thn (fun T hT => by rw [show 7 * (s + 1) = 7 * s + 7 from by omega]; exact hI T hT)))
  | succ d ih =>
    intro c thn hd hI
    have hc7 : c < 7 := by omega
    have hskip : ¬ (P s ∧ e.testBit c = true ∧ s.testBit c = false) → ∀ x, x = nI c + 1 → wY_takeRow_38 post J29 (nI e) (nI s) (d + 1) x rows can thn good := by
      intro hn
      refine nm_r (nI_1 c) (ih (c + 1) thn (by omega) (fun T hT => dm_b1_cg ?_ (hI T hT)))
      rw [show 7 * s + (c + 1) = 7 * s + c + 1 from by omega, dm_Q_s P e T hc7]
      exact ⟨fun z => Or.inl z, fun z => z.elim id (fun y => absurd ⟨y.1, y.2.1, y.2.2.1⟩ hn)⟩
    have hcs : dm_b1 (can (nI s).toNatClampNeg) (P s) := by rw [dm_cl hs]; exact hc s hs
    refine dm_l7 hc7 ⟨dm_i128 hs, dm_b1_b hcs (fun hp => hskip (fun z => hp z.1)) (fun hp => dm_in he hc7 (fun hb => hskip (fun z => ?_)) (fun hb => dm_in hs hc7 (fun hb2 => ?_) (fun hb2 => hskip (fun z => ?_))))⟩
    · rw [hb] at z
      exact absurd z.2.1 (by decide)
    · have ex : nI s ||| ((1 : Int32) <<< (nI c &&& 31)) = nI (dm_x s c) := by rw [dm_sor hc7, dm_orx c hc7 s hs hb2]
      have hx : dm_x s c < 128 := dm_x_lt hs hc7
      rw [ex]
      refine ⟨dm_i128 hx, nm_r (e' := upd thn (dm_x s c) 1) (by rw [dm_cl hx]; rfl) (nm_r (nI_1 c) (ih (c + 1) _ (by omega) (fun T hT => ?_)))⟩
      rw [show 7 * s + (c + 1) = 7 * s + c + 1 from by omega]
      by_cases hT2 : T = dm_x s c
      · rw [hT2, pk_us]
        exact Or.inl ⟨(dm_Q_s P e _ hc7).2 (Or.inr ⟨hp, hb, hb2, rfl⟩), rfl⟩
      · rw [pk_un hT2]
        refine dm_b1_cg ?_ (hI T hT)
        rw [dm_Q_s P e T hc7]
        exact ⟨fun z => Or.inl z, fun z => z.elim id (fun y => absurd y.2.2.2 hT2)⟩
    · rw [hb2] at z
      exact absurd z.2.2 (by decide)
theorem dm_tk29 {post : SY → Prop} {rows can good : Nat → Int32} {P : Nat → Prop} {e : Nat} (he : e < 128) (hc : ∀ T, T < 128 → dm_b1 (can T) (P T))
    (K : ∀ can thn, (∀ T, T < 128 → dm_b1 (can T) (dm_Q P e (7 * 128) T)) → post (rows, can, thn, good)) :
    ∀ d s thn, s + d = 128 → (∀ T, T < 128 → dm_b1 (thn T) (dm_Q P e (7 * s) T)) → wY_takeRow_29 post (nI e) (d + 1) (nI s) rows can thn good := by
  intro d
  induction d with
  | zero =>
    intro s thn hd hI
    obtain rfl : s = 128 := by omega
    exact dm_g128 ⟨128 + 1, dm_tk96 hI (fun can' h => K can' thn h) 128 0 can rfl (fun T hT => absurd hT (by omega))⟩
  | succ d ih =>
    intro s thn hd hI
    have hs : s < 128 := by omega
    exact dm_l128 hs ⟨7 + 1, dm_tk38 he hs hc (fun thn' h => ih (s + 1) thn' (by omega) h) 7 0 thn rfl hI⟩
theorem dm_tk2 {post : SY → Prop} {rows can good : Nat → Int32} {P : Nat → Prop} {e : Nat} (he : e < 128) (hc : ∀ T, T < 128 → dm_b1 (can T) (P T))
    (K : ∀ can thn, (∀ T, T < 128 → dm_b1 (can T) (dm_Q P e (7 * 128) T)) → post (rows, can, thn, good)) :
    ∀ d i thn, i + d = 128 → (∀ T, T < i → thn T = can T) → wY_takeRow_2 post (nI e) (d + 1) (nI i) rows can thn good := by
  intro d
  induction d with
  | zero =>
    intro i thn hi hI
    obtain rfl : i = 128 := by omega
    refine dm_g128 ⟨128 + 1, dm_tk29 he hc K 128 0 thn rfl (fun T hT => ?_)⟩
    rw [hI T hT]
    exact dm_b1_cg (dm_Q_0 P e T) (hc T hT)
  | succ d ih =>
    intro i thn hi hI
    have hi' : i < 128 := by omega
    refine dm_l128 hi' ⟨dm_i128 hi', dm_i128 hi', nm_e (nm_r (nI_1 i) (ih (i + 1) _ (by omega) (fun T hT => ?_)))⟩
    rw [dm_cl hi']
    by_cases h : T = i
    · rw [h, pk_us]
      exact dm_b1_n (hc i hi')
    · rw [pk_un h]
      exact hI T (by omega)
theorem dm_tk {post : SY → Prop} {rows can thn good : Nat → Int32} {E : Nat → Nat} {k : Nat} (he : E k < 128) (hc : ∀ T, T < 128 → dm_b1 (can T) (dm_cn E k T))
    (K : ∀ can thn, (∀ T, T < 128 → dm_b1 (can T) (dm_cn E (k + 1) T)) → post (rows, can, thn, good)) : wpY_takeRow post (rows, can, thn, good) (nI (E k)) := by
  refine ⟨128 + 1, dm_tk2 he hc (fun can' thn' h => K can' thn' (fun T hT => dm_b1_cg ?_ (h T hT))) 128 0 thn rfl (fun T hT => absurd hT (by omega))⟩
  constructor
  · rintro (z | ⟨d, hd, h1, h2, h3, _⟩)
    · exact Or.inl z
    · exact Or.inr ⟨d, hd, h1, h2, h3⟩
  · rintro (z | ⟨d, hd, h1, h2, h3⟩)
    · exact Or.inl z
    · refine Or.inr ⟨d, hd, h1, h2, h3, ?_⟩
      have := dm_x_lt hT hd
      omega
/-! the largest among the sets that can be covered -/
theorem dm_sw105 {post : Int32 → SY → Prop} {rows can thn good : Nat → Int32} {E : Nat → Nat} (hc : ∀ T, T < 128 → dm_b1 (can T) (dm_cn E 7 T)) (K : post (nI (dm_nu E)) (rows, can, thn, good)) :
    ∀ d i b, i + d = 128 → (∃ T, dm_cn E 7 T ∧ dm_ct T = b) → (∀ T, T < i → dm_cn E 7 T → dm_ct T ≤ b) → wY_sizeWithout_105 post rows can thn good (d + 1) (nI b) (nI i) := by
  intro d
  induction d with
  | zero =>
    intro i b hi h1 h2
    obtain rfl : i = 128 := by omega
    refine dm_g128 ?_
    rw [dm_nu_eq h1 (fun T hT => h2 T (dm_cn_lt hT) hT)]
    exact K
  | succ d ih =>
    intro i b hi h1 h2
    have hi' : i < 128 := by omega
    have hb : b ≤ 7 := by
      obtain ⟨T, _, e⟩ := h1
      rw [← e]
      exact dm_ct_7 T
    have hci : dm_b1 (can (nI i).toNatClampNeg) (dm_cn E 7 i) := by rw [dm_cl hi']; exact hc i hi'
    have hskip : (dm_cn E 7 i → dm_ct i ≤ b) → ∀ x, x = nI i + 1 → wY_sizeWithout_105 post rows can thn good (d + 1) (nI b) x := by
      intro hn
      refine nm_r (nI_1 i) (ih (i + 1) b (by omega) h1 (fun T hT hcn => ?_))
      by_cases h : T = i
      · subst h
        exact hn hcn
      · exact h2 T (by omega) hcn
    refine dm_l128 hi' ⟨dm_i128 hi', dm_b1_b hci (fun hn => br_t (nI_pos' (by omega)) (hskip (fun z => absurd z hn))) (fun hp => dm_sz hi' ?_)⟩
    have h7 := dm_ct_7 i
    refine pk_le (dm_ct i) b (fun hle => hskip (fun _ => hle)) (fun hlt => nm_r (nI_1 i) (ih (i + 1) (dm_ct i) (by omega) ⟨i, hp, rfl⟩ (fun T hT hcn => ?_)))
    by_cases h : T = i
    · subst h
      exact Nat.le_refl _
    · have := h2 T (by omega) hcn
      omega
theorem dm_cn_0 (E : Nat → Nat) : ∀ k, dm_cn E k 0 := by
  intro k
  induction k with
  | zero => exact rfl
  | succ k ih => exact Or.inl ih
theorem dm_cn_z {E : Nat → Nat} {k T : Nat} (h : E k = 0) : dm_cn E k T ↔ dm_cn E (k + 1) T := by
  constructor
  · exact fun z => Or.inl z
  · rintro (z | ⟨c, _, z, _⟩)
    · exact z
    · rw [h, Nat.zero_testBit] at z
      exact absurd z (by decide)
theorem dm_sw76 {post : Int32 → SY → Prop} {J37 : Int32 → (Nat → Int32) → (Nat → Int32) → (Nat → Int32) → (Nat → Int32) → Prop} {x2 x3 x4 : Int32} {rows can thn good : Nat → Int32} {E : Nat → Nat} {w k col : Nat} (hw : w < 8) (hk : k < 7) (hcol : col < 128)
    (h0 : k = w → E k = 0) (h1 : k ≠ w → E k = col) (hc : ∀ T, T < 128 → dm_b1 (can T) (dm_cn E k T))
    (K : ∀ can thn, (∀ T, T < 128 → dm_b1 (can T) (dm_cn E (k + 1) T)) → J37 (nI (k + 1)) rows can thn good) :
    wY_sizeWithout_76 post J37 (nI w) x2 x3 x4 (nI k) (nI col) rows can thn good := by
  have hz : E k = 0 → ∀ x, x = nI k + 1 → J37 x rows can thn good := fun z => nm_r (nI_1 k) (K can thn (fun T hT => dm_b1_cg (dm_cn_z z) (hc T hT)))
  refine pk_eq k w (fun z => hz (h0 z)) (fun z => dm_eq0 (by omega) (fun y => hz ((h1 z).trans y)) (fun y => ?_))
  have e := h1 z
  rw [← e]
  exact dm_tk (by rw [e]; exact hcol) hc (fun can' thn' h => nm_r (nI_1 k) (K can' thn' h))
theorem dm_sw37 {post : Int32 → SY → Prop} {rows good : Nat → Int32} {g : Nat → Nat} {w h r c : Nat} (hg : dm_G g rows) (hw : w < 8) (hh : h < 8) (hr : r < 8) (hc8 : c < 8)
    (K : ∀ can thn, post (nI (dm_nu (dm_wo g w h r c))) (rows, can, thn, good)) :
    ∀ d k can thn, k + d = 7 → (∀ T, T < 128 → dm_b1 (can T) (dm_cn (dm_wo g w h r c) k T)) → wY_sizeWithout_37 post (nI w) (nI h) (nI r) (nI c) (d + 1) (nI k) rows can thn good := by
  intro d
  induction d with
  | zero =>
    intro k can thn hk hI
    obtain rfl : k = 7 := by omega
    exact dm_g7 ⟨128 + 1, dm_sw105 hI (K can thn) 128 0 0 rfl ⟨0, dm_cn_0 _ 7, rfl⟩ (fun T hT => absurd hT (by omega))⟩
  | succ d ih =>
    intro k can thn hk hI
    have hk7 : k < 7 := by omega
    obtain ⟨ga, gb⟩ := hg k hk7
    have hl1 : dm_an (g k) h < 128 := dm_an_lt gb
    have hl2 : dm_an (dm_an (g k) h) c < 128 := dm_an_lt hl1
    have h0 : k = w → dm_wo g w h r c k = 0 := by
      intro z
      unfold dm_wo
      rw [if_pos (Or.inl z)]
    have hnw : k ≠ w → ¬ (k = w ∨ 7 ≤ k) := by
      intro z y
      rcases y with y | y
      · exact z y
      · omega
    refine dm_l7 hk7 ⟨dm_i7 hk7, nm_r (e' := nI (dm_an (g k) h)) (by rw [dm_cl (by omega), ga, dm_san h hh _ gb]) (pk_eq k r (fun z => ?_) (fun z => ?_))⟩
    · refine nm_r (e' := nI (dm_an (dm_an (g k) h) c)) (dm_san c hc8 _ hl1) (dm_sw76 hw hk7 hl2 h0 (fun y => ?_) hI (fun can' thn' hI' => ih (k + 1) can' thn' (by omega) hI'))
      unfold dm_wo
      rw [if_neg (hnw y), if_pos z]
    · refine dm_sw76 hw hk7 hl1 h0 (fun y => ?_) hI (fun can' thn' hI' => ih (k + 1) can' thn' (by omega) hI')
      unfold dm_wo
      rw [if_neg (hnw y), if_neg z]
theorem dm_sw3 {post : Int32 → SY → Prop} {rows good : Nat → Int32} {g : Nat → Nat} {w h r c : Nat} (hg : dm_G g rows) (hw : w < 8) (hh : h < 8) (hr : r < 8) (hc8 : c < 8)
    (K : ∀ can thn, post (nI (dm_nu (dm_wo g w h r c))) (rows, can, thn, good)) :
    ∀ d i can thn, i + d = 128 → (∀ T, T < i → dm_b1 (can T) (T = 0)) → wY_sizeWithout_3 post (nI w) (nI h) (nI r) (nI c) (d + 1) (nI i) rows can thn good := by
  intro d
  induction d with
  | zero =>
    intro i can thn hi hI
    obtain rfl : i = 128 := by omega
    exact dm_g128 ⟨7 + 1, dm_sw37 hg hw hh hr hc8 K 7 0 can thn rfl hI⟩
  | succ d ih =>
    intro i can thn hi hI
    have hi' : i < 128 := by omega
    refine dm_l128 hi' (dm_eq0 (by omega) (fun z => ⟨dm_i128 hi', nm_e (nm_r (nI_1 i) (ih (i + 1) _ thn (by omega) (fun T hT => ?_)))⟩) (fun z => ⟨dm_i128 hi', nm_e (nm_r (nI_1 i) (ih (i + 1) _ thn (by omega) (fun T hT => ?_)))⟩))
    · rw [dm_cl hi']
      by_cases y : T = i
      · rw [y, pk_us]
        exact Or.inl ⟨z, rfl⟩
      · rw [pk_un y]
        exact hI T (by omega)
    · rw [dm_cl hi']
      by_cases y : T = i
      · rw [y, pk_us]
        exact Or.inr ⟨z, rfl⟩
      · rw [pk_un y]
        exact hI T (by omega)
theorem dm_sw {post : Int32 → SY → Prop} {rows can thn good : Nat → Int32} {g : Nat → Nat} {w h r c : Nat} (hg : dm_G g rows) (hw : w < 8) (hh : h < 8) (hr : r < 8) (hc8 : c < 8)
    (K : ∀ can thn, post (nI (dm_nu (dm_wo g w h r c))) (rows, can, thn, good)) : wpY_sizeWithout post (rows, can, thn, good) (nI w) (nI h) (nI r) (nI c) :=
  ⟨128 + 1, dm_sw3 hg hw hh hr hc8 K 128 0 can thn rfl (fun T hT => absurd hT (by omega))⟩
end
section
/-! the component's other methods -/
def dm_lr (g : Nat → Nat) : Nat → Bool := fun r => decide (dm_R g r = dm_L g)
def dm_lc (g : Nat → Nat) : Nat → Bool := fun c => decide (dm_C g c = dm_L g)
def dm_up8 (g : Nat → Nat) (r : Nat) : Nat → Bool := fun c => (g r).testBit c && decide (dm_RC g r c + 1 = dm_L g)
def dm_fp8 (g : Nat → Nat) (r : Nat) : Nat → Bool := fun c => (g r).testBit c && decide (dm_Ed g r c < dm_L g)
theorem dm_bs_e {p : Nat → Bool} {k : Nat} {x : Int32} (hx : x = nI (dm_bs p k)) (h : p k = false) : x = nI (dm_bs p (k + 1)) := by
  rw [dm_bs_f h]
  exact hx
theorem dm_bs_i {p : Nat → Bool} {k : Nat} {x : Int32} (hk : k < 7) (hx : x = nI (dm_bs p k)) (h : p k = true) : x ||| ((1 : Int32) <<< (nI k &&& 31)) = nI (dm_bs p (k + 1)) := by
  rw [hx]
  exact dm_bs_t hk h
theorem dm_hasE {A B : Prop} {x : Int32} {s c : Nat} (hx : x = nI s) (hs : s < 128) (hc : c < 7) (f : s.testBit c = false → A) (t : s.testBit c = true → B) : wpX_has (fun r => (r = 0 → A) ∧ (¬ r = 0 → B)) x (nI c) := by
  subst hx
  exact dm_has hs hc f t
theorem dm_xlr {post : Int32 → SX → Prop} {g : Nat → Nat} {cols usab : Nat → Int32} (hg : dm_G g cols) (K : ∀ most, post (nI (dm_bs (dm_lr g) 7)) (cols, most, usab)) :
    ∀ d k x2 most, k + d = 7 → x2 = nI (dm_bs (dm_lr g) k) → wX_looseRows_13 post (nI (dm_L g)) (d + 1) x2 (nI k) cols most usab := by
  intro d
  induction d with
  | zero =>
    intro k x2 most hk hx
    obtain rfl : k = 7 := by omega
    subst hx
    exact dm_g7 (K most)
  | succ d ih =>
    intro k x2 most hk hx
    have hk7 : k < 7 := by omega
    have b1 : dm_R g k ≤ 7 := dm_nu_7 _
    have b2 : dm_L g ≤ 7 := dm_nu_7 _
    exact dm_l7 hk7 (dm_m2 hg hk7 (fun most' => pk_eq (dm_R g k) (dm_L g)
      (fun z => nm_r (dm_bs_i hk7 hx (decide_eq_true z)) (nm_r (nI_1 k) (ih (k + 1) _ most' (by omega) rfl)))
      (fun z => nm_r (nI_1 k) (ih (k + 1) x2 most' (by omega) (dm_bs_e hx (decide_eq_false z))))))
theorem dm_xlc {post : Int32 → SX → Prop} {g : Nat → Nat} {cols usab : Nat → Int32} (hg : dm_G g cols) (K : ∀ most, post (nI (dm_bs (dm_lc g) 7)) (cols, most, usab)) :
    ∀ d k x2 most, k + d = 7 → x2 = nI (dm_bs (dm_lc g) k) → wX_looseColumns_13 post (nI (dm_L g)) (d + 1) x2 (nI k) cols most usab := by
  intro d
  induction d with
  | zero =>
    intro k x2 most hk hx
    obtain rfl : k = 7 := by omega
    subst hx
    exact dm_g7 (K most)
  | succ d ih =>
    intro k x2 most hk hx
    have hk7 : k < 7 := by omega
    have b1 : dm_C g k ≤ 7 := dm_nu_7 _
    have b2 : dm_L g ≤ 7 := dm_nu_7 _
    exact dm_l7 hk7 (dm_m3 hg hk7 (fun most' => pk_eq (dm_C g k) (dm_L g)
      (fun z => nm_r (dm_bs_i hk7 hx (decide_eq_true z)) (nm_r (nI_1 k) (ih (k + 1) _ most' (by omega) rfl)))
      (fun z => nm_r (nI_1 k) (ih (k + 1) x2 most' (by omega) (dm_bs_e hx (decide_eq_false z))))))
theorem dm_xu14 {post : Int32 → SX → Prop} {g : Nat → Nat} {r : Nat} {cols usab : Nat → Int32} (hg : dm_G g cols) (hr : r < 7) (K : ∀ most, post (nI (dm_us g r)) (cols, most, usab)) :
    ∀ d k x3 most, k + d = 7 → x3 = nI (dm_bs (dm_up8 g r) k) → wX_usableColumns_14 post (nI r) (nI (dm_L g)) (d + 1) x3 (nI k) cols most usab := by
  intro d
  induction d with
  | zero =>
    intro k x3 most hk hx
    obtain rfl : k = 7 := by omega
    subst hx
    exact dm_g7 (K most)
  | succ d ih =>
    intro k x3 most hk hx
    have hk7 : k < 7 := by omega
    have b1 : dm_RC g r k ≤ 7 := dm_nu_7 _
    have b2 : dm_L g ≤ 7 := dm_nu_7 _
    have ec : cols (nI r).toNatClampNeg = nI (g r) := by rw [dm_cl (by omega), (hg r hr).1]
    refine dm_l7 hk7 ⟨dm_i7 hr, dm_hasE ec (hg r hr).2 hk7 (fun hb => nm_r (nI_1 k) (ih (k + 1) x3 most (by omega) (dm_bs_e hx ?_))) (fun hb => dm_m4 hg hr hk7 (fun most' => ?_))⟩
    · show ((g r).testBit k && _) = false
      rw [hb]
      rfl
    · have h1 := dm_RC_le g hr hk7 hb
      refine pk_eq (dm_RC g r k) (dm_L g - 1) (fun z => nm_r (dm_bs_i hk7 hx ?_) (nm_r (nI_1 k) (ih (k + 1) _ most' (by omega) rfl))) (fun z => nm_r (nI_1 k) (ih (k + 1) x3 most' (by omega) (dm_bs_e hx ?_))) rfl (pk_sub (b := 1) (by omega))
      · show ((g r).testBit k && _) = true
        rw [hb, decide_eq_true (by omega)]
        rfl
      · show ((g r).testBit k && _) = false
        rw [hb, decide_eq_false (by omega)]
        rfl
theorem dm_xu {post : Int32 → SX → Prop} {g : Nat → Nat} {r : Nat} {cols most usab : Nat → Int32} (hg : dm_G g cols) (hr : r < 7) (K : ∀ most, post (nI (dm_us g r)) (cols, most, usab)) : wpX_usableColumns post (cols, most, usab) (nI r) := by
  unfold wpX_usableColumns
  dsimp only
  exact dm_m1 hg (fun most' => ⟨7 + 1, dm_xu14 hg hr K 7 0 0 most' rfl rfl⟩)
theorem dm_co4 {post : Int32 → Prop} {s : Nat} (hs : s < 128) (K : post (nI (dm_ct s))) :
    ∀ d k, k + d = 7 → wX_countOf_4 post (nI s) (d + 1) (nI (dm_nb (fun i => s.testBit i) k)) (nI k) := by
  intro d
  induction d with
  | zero =>
    intro k hk
    obtain rfl : k = 7 := by omega
    rw [dm_nb_ct s hs]
    exact dm_g7 K
  | succ d ih =>
    intro k hk
    have hk7 : k < 7 := by omega
    refine dm_l7 hk7 (nm_r (e' := nI (dm_nb (fun i => s.testBit i) (k + 1))) ?_ (nm_r (nI_1 k) (ih (k + 1) (by omega))))
    rw [dm_sbt k hk7 s hs]
    by_cases hb : s.testBit k = true
    · rw [if_pos hb, dm_nb_t (p := fun i => s.testBit i) hb, nI_1]
    · rw [if_neg hb, dm_nb_f (p := fun i => s.testBit i) (by cases h : s.testBit k with | false => rfl | true => exact absurd h hb), Int32.add_zero]
theorem dm_co {post : Int32 → Prop} {s : Nat} (hs : s < 128) (K : post (nI (dm_ct s))) : wpX_countOf post (nI s) := ⟨7 + 1, dm_co4 hs K 7 0 rfl⟩
theorem dm_xfo {post : Int32 → SX → Prop} {g : Nat → Nat} {r : Nat} {cols most usab : Nat → Int32} (hg : dm_G g cols) (hr : r < 7) (K : ∀ most, post (nI (dm_fo g r)) (cols, most, usab)) : wpX_forced post (cols, most, usab) (nI r) := by
  have b1 : dm_R g r ≤ 7 := dm_nu_7 _
  have b2 : dm_L g ≤ 7 := dm_nu_7 _
  have h7 := dm_ct_7 (dm_us g r)
  rw [dm_fo_eq g hr] at K
  unfold wpX_forced
  dsimp only
  refine dm_ins hr (dm_m2 hg hr (fun most' => dm_m1 hg (fun most2 => pk_eq (dm_R g r) (dm_L g) (fun z => ?_) (fun z => dm_xu hg hr (fun most3 => dm_co (dm_us_lt g r) (pk_eq (dm_ct (dm_us g r)) 1 (fun y => ?_) (fun y => ?_)))))))
  · rw [if_pos z] at K
    exact K most2
  · rw [if_neg z, if_pos y] at K
    exact K most3
  · rw [if_neg z, if_neg y] at K
    exact K most3
theorem dm_fu2 {post : SX → Prop} {g : Nat → Nat} {cols : Nat → Int32} (hg : dm_G g cols) (K : ∀ most usab, dm_G (dm_us g) usab → post (cols, most, usab)) :
    ∀ d k most usab, k + d = 7 → (∀ j, j < k → usab j = nI (dm_us g j)) → wX_findUsable_2 post (d + 1) (nI k) cols most usab := by
  intro d
  induction d with
  | zero =>
    intro k most usab hk hI
    obtain rfl : k = 7 := by omega
    exact dm_g7 (K most usab (fun j hj => ⟨hI j hj, dm_us_lt g j⟩))
  | succ d ih =>
    intro k most usab hk hI
    have hk7 : k < 7 := by omega
    refine dm_l7 hk7 (dm_xu hg hk7 (fun most' => ⟨dm_i7 hk7, nm_e (nm_r (nI_1 k) (ih (k + 1) most' _ (by omega) (fun j hj => ?_)))⟩))
    rw [dm_cl (by omega)]
    by_cases h : j = k
    · rw [h, pk_us]
    · rw [pk_un h]
      exact hI j (by omega)
theorem dm_fu {post : SX → Prop} {g : Nat → Nat} {cols most usab : Nat → Int32} (hg : dm_G g cols) (K : ∀ most usab, dm_G (dm_us g) usab → post (cols, most, usab)) : wpX_findUsable post (cols, most, usab) :=
  ⟨7 + 1, dm_fu2 hg K 7 0 most usab rfl (fun j hj => absurd hj (by omega))⟩
/-! rows joined to row r -/
theorem dm_G_lt {U : Nat → Nat} {a : Nat → Int32} (h : dm_G U a) : ∀ k, k < 7 → U k < 128 := fun k hk => (h k hk).2
theorem dm_rj22 {post : Int32 → Prop} {J12 : Int32 → Int32 → Int32 → Prop} {U : Nat → Nat} {r p R0 : Nat} {cols most usab : Nat → Int32} (hU : dm_G U usab)
    (K : J12 (nI (dm_ps (dm_xs U r) 7 R0)) (nI (dm_cu U r (dm_ps (dm_xs U r) 7 R0) 7)) (nI (p + 1))) :
    ∀ d o R, o + d = 7 → dm_ps (dm_xs U r) o R0 = R → wX_rowsJoinedTo_22 post J12 (nI p) cols most usab (d + 1) (nI R) (nI (dm_cu U r R 7)) (nI o) := by
  intro d
  induction d with
  | zero =>
    intro o R ho hR
    obtain rfl : o = 7 := by omega
    subst hR
    exact dm_g7 (nm_r (nI_1 p) K)
  | succ d ih =>
    intro o R ho hR
    have ho7 : o < 7 := by omega
    have eu : usab (nI o).toNatClampNeg = nI (U o) := by rw [dm_cl (by omega), (hU o ho7).1]
    have hl : U o &&& dm_cu U r R 7 < 128 := Nat.lt_of_le_of_lt Nat.and_le_left (hU o ho7).2
    have es : dm_ps (dm_xs U r) (o + 1) R0 = if U o &&& dm_cu U r R 7 ≠ 0 then R ||| 2 ^ o else R := by rw [← hR]; rfl
    refine dm_l7 ho7 ⟨dm_i7 ho7, pk_eq (U o &&& dm_cu U r R 7) 0 (fun z => nm_r (nI_1 o) (ih (o + 1) R (by omega) ?_)) (fun z => nm_r (dm_sor ho7) ⟨dm_i7 ho7, nm_r (e' := nI (dm_cu U r (R ||| 2 ^ o) 7)) ?_ (nm_r (nI_1 o) (ih (o + 1) (R ||| 2 ^ o) (by omega) ?_))⟩) (by rw [eu, nx_and])⟩
    · rw [es, if_neg (fun y => y z)]
    · rw [eu, dm_or, dm_cu_or U r R ho7]
    · rw [es, if_pos z]
theorem dm_rj12 {post : Int32 → Prop} {U : Nat → Nat} {r : Nat} {cols most usab : Nat → Int32} (hU : dm_G U usab) (K : post (nI (dm_xr U r))) :
    ∀ d p R, p + d = 7 → dm_it (dm_ps (dm_xs U r) 7) p 0 = R → wX_rowsJoinedTo_12 post cols most usab (d + 1) (nI R) (nI (dm_cu U r R 7)) (nI p) := by
  intro d
  induction d with
  | zero =>
    intro p R hp hR
    obtain rfl : p = 7 := by omega
    subst hR
    exact dm_g7 K
  | succ d ih =>
    intro p R hp hR
    have hp7 : p < 7 := by omega
    refine dm_l7 hp7 ⟨7 + 1, dm_rj22 hU (ih (p + 1) _ (by omega) ?_) 7 0 R rfl rfl⟩
    rw [← hR]
    rfl
theorem dm_rj {post : Int32 → Prop} {U : Nat → Nat} {r : Nat} {cols most usab : Nat → Int32} (hU : dm_G U usab) (hr : r < 7) (K : post (nI (dm_xr U r))) : wpX_rowsJoinedTo post (cols, most, usab) (nI r) := by
  refine ⟨dm_i7 hr, nm_r (e' := nI (dm_cu U r 0 7)) ?_ ⟨7 + 1, dm_rj12 hU K 7 0 0 rfl rfl⟩⟩
  rw [dm_cl (by omega), (hU r hr).1, dm_cu_0]
def dm_xq (U : Nat → Nat) : Nat → Bool := fun k => decide (U k ≠ 0 ∧ (dm_sn U k).testBit k = false)
theorem dm_xb10 {post : Int32 → SX → Prop} {U : Nat → Nat} {cols most usab : Nat → Int32} (hU : dm_G U usab) (K : post (nI (dm_nb (dm_xq U) 7)) (cols, most, usab)) :
    ∀ d k, k + d = 7 → wX_blocks_10 post cols most usab (d + 1) (nI (dm_nb (dm_xq U) k)) (nI (dm_sn U k)) (nI k) := by
  intro d
  induction d with
  | zero =>
    intro k hk
    obtain rfl : k = 7 := by omega
    exact dm_g7 K
  | succ d ih =>
    intro k hk
    have hk7 : k < 7 := by omega
    have eu : usab (nI k).toNatClampNeg = nI (U k) := by rw [dm_cl (by omega), (hU k hk7).1]
    have hl := (hU k hk7).2
    have hskip : ¬ (U k ≠ 0 ∧ (dm_sn U k).testBit k = false) → ∀ x, x = nI k + 1 → wX_blocks_10 post cols most usab (d + 1) (nI (dm_nb (dm_xq U) k)) (nI (dm_sn U k)) x := by
      intro hn
      refine nm_r (nI_1 k) ?_
      have h := ih (k + 1) (by omega)
      rw [dm_nb_f (p := dm_xq U) (decide_eq_false hn), dm_sn_s, if_neg hn] at h
      exact h
    refine dm_l7 hk7 ⟨dm_i7 hk7, pk_eq (U k) 0 (fun z => hskip (fun y => y.1 z)) (fun z => dm_has (dm_sn_lt U k) hk7 (fun hb => ?_) (fun hb => hskip (fun y => ?_))) eu⟩
    · refine nm_r (nI_1 _) (dm_rj hU hk7 (nm_r (dm_or _ _) (nm_r (nI_1 k) ?_)))
      have h := ih (k + 1) (by omega)
      rw [dm_nb_t (p := dm_xq U) (decide_eq_true ⟨z, hb⟩), dm_sn_s, if_pos ⟨z, hb⟩] at h
      exact h
    · rw [hb] at y
      exact absurd y.2 (by decide)
/-! covers -/
def dm_oc (g : Nat → Nat) (s : Nat) : Nat → Nat
  | 0 => 0
  | k + 1 => if s.testBit k = true then dm_oc g s k else dm_oc g s k ||| g k
theorem dm_oc_s (g : Nat → Nat) (s k : Nat) : dm_oc g s (k + 1) = if s.testBit k = true then dm_oc g s k else dm_oc g s k ||| g k := rfl
theorem dm_oc_lt {g : Nat → Nat} (hg : ∀ k, k < 7 → g k < 128) (s : Nat) : ∀ k, k ≤ 7 → dm_oc g s k < 128 := by
  intro k
  induction k with
  | zero => exact fun _ => (by decide : (0 : Nat) < 128)
  | succ k ih =>
    intro hk
    rw [dm_oc_s]
    by_cases h : s.testBit k = true
    · rw [if_pos h]
      exact ih (by omega)
    · rw [if_neg h]
      exact dm_or_lt (ih (by omega)) (hg k (by omega))
def dm_cv (g : Nat → Nat) : Nat → Nat
  | 0 => 7
  | k + 1 => if dm_cv g k ≤ dm_ct k + dm_ct (dm_oc g k 7) then dm_cv g k else dm_ct k + dm_ct (dm_oc g k 7)
theorem dm_cv_s (g : Nat → Nat) (k : Nat) : dm_cv g (k + 1) = if dm_cv g k ≤ dm_ct k + dm_ct (dm_oc g k 7) then dm_cv g k else dm_ct k + dm_ct (dm_oc g k 7) := rfl
theorem dm_cv_7 (g : Nat → Nat) : ∀ k, dm_cv g k ≤ 7 := by
  intro k
  induction k with
  | zero => exact Nat.le_refl 7
  | succ k ih =>
    rw [dm_cv_s]
    by_cases h : dm_cv g k ≤ dm_ct k + dm_ct (dm_oc g k 7)
    · rw [if_pos h]
      exact ih
    · rw [if_neg h]
      omega
theorem dm_xo4 {post : Int32 → Prop} {g : Nat → Nat} {s : Nat} {cols most usab : Nat → Int32} (hg : dm_G g cols) (hs : s < 128) (K : post (nI (dm_oc g s 7))) :
    ∀ d k, k + d = 7 → wX_columnsOutside_4 post (nI s) cols most usab (d + 1) (nI (dm_oc g s k)) (nI k) := by
  intro d
  induction d with
  | zero =>
    intro k hk
    obtain rfl : k = 7 := by omega
    exact dm_g7 K
  | succ d ih =>
    intro k hk
    have hk7 : k < 7 := by omega
    have h := ih (k + 1) (by omega)
    rw [dm_oc_s] at h
    refine dm_l7 hk7 (dm_has hs hk7 (fun hb => ⟨dm_i7 hk7, nm_r (e' := nI (dm_oc g s k ||| g k)) ?_ (nm_r (nI_1 k) ?_)⟩) (fun hb => nm_r (nI_1 k) ?_))
    · rw [dm_cl (by omega), (hg k hk7).1, dm_or]
    · rw [if_neg (by rw [hb]; decide)] at h
      exact h
    · rw [if_pos hb] at h
      exact h
theorem dm_xc5 {post : Int32 → Prop} {g : Nat → Nat} {cols most usab : Nat → Int32} (hg : dm_G g cols) (K : post (nI (dm_cv g 128))) :
    ∀ d k, k + d = 128 → wX_cover_5 post cols most usab (d + 1) (nI (dm_cv g k)) (nI k) := by
  intro d
  induction d with
  | zero =>
    intro k hk
    obtain rfl : k = 128 := by omega
    exact dm_g128 K
  | succ d ih =>
    intro k hk
    have hk' : k < 128 := by omega
    have h := ih (k + 1) (by omega)
    rw [dm_cv_s] at h
    have hlt := dm_oc_lt (dm_G_lt hg) k 7 (Nat.le_refl 7)
    have b0 := dm_cv_7 g k
    have b1 := dm_ct_7 k
    have b2 := dm_ct_7 (dm_oc g k 7)
    refine dm_l128 hk' ⟨7 + 1, dm_xo4 hg hk' ?_ 7 0 rfl⟩
    refine dm_co hk' ?_
    refine dm_co hlt ?_
    refine nm_r (nI_add _ _) (pk_le (dm_cv g k) (dm_ct k + dm_ct (dm_oc g k 7)) (fun z => nm_r (nI_1 k) ?_) (fun z => nm_r (nI_1 k) ?_))
    · rw [if_pos z] at h
      exact h
    · rw [if_neg (by omega)] at h
      exact h
end
section
/-! the reference's other methods -/
theorem dm_inE {A B : Prop} {u : SY} {x y : Int32} {s c : Nat} (hx : x = nI s) (hy : y = nI c) (hs : s < 128) (hc : c < 7) (f : s.testBit c = false → A) (t : s.testBit c = true → B) : wpY_in (fun r => (r = 0 → A) ∧ (¬ r = 0 → B)) u x y := by
  subst hx hy
  exact dm_in hs hc f t
theorem dm_yL {post : Int32 → SY → Prop} {g : Nat → Nat} {rows can thn good : Nat → Int32} (hg : dm_G g rows) (K : ∀ can thn, post (nI (dm_L g)) (rows, can, thn, good)) : wpY_largest post (rows, can, thn, good) := by
  unfold wpY_largest
  dsimp only
  exact dm_sw (w := 7) (h := 7) (r := 7) (c := 7) hg (by decide) (by decide) (by decide) (by decide) (fun can' thn' => K can' thn')
theorem dm_ylr {post : Int32 → SY → Prop} {g : Nat → Nat} {rows good : Nat → Int32} (hg : dm_G g rows) (K : ∀ can thn, post (nI (dm_bs (dm_lr g) 7)) (rows, can, thn, good)) :
    ∀ d k x2 can thn, k + d = 7 → x2 = nI (dm_bs (dm_lr g) k) → wY_looseRows_9 post (nI (dm_L g)) (d + 1) x2 (nI k) rows can thn good := by
  intro d
  induction d with
  | zero =>
    intro k x2 can thn hk hx
    obtain rfl : k = 7 := by omega
    subst hx
    exact dm_g7 (K can thn)
  | succ d ih =>
    intro k x2 can thn hk hx
    have hk7 : k < 7 := by omega
    have b1 : dm_R g k ≤ 7 := dm_nu_7 _
    have b2 : dm_L g ≤ 7 := dm_nu_7 _
    exact dm_l7 hk7 (dm_sw (w := k) (h := 7) (r := 7) (c := 7) hg (by omega) (by decide) (by decide) (by decide) (fun can' thn' => pk_eq (dm_R g k) (dm_L g)
      (fun z => nm_r (dm_bs_i hk7 hx (decide_eq_true z)) (nm_r (nI_1 k) (ih (k + 1) _ can' thn' (by omega) rfl)))
      (fun z => nm_r (nI_1 k) (ih (k + 1) x2 can' thn' (by omega) (dm_bs_e hx (decide_eq_false z))))))
theorem dm_ylc {post : Int32 → SY → Prop} {g : Nat → Nat} {rows good : Nat → Int32} (hg : dm_G g rows) (K : ∀ can thn, post (nI (dm_bs (dm_lc g) 7)) (rows, can, thn, good)) :
    ∀ d k x2 can thn, k + d = 7 → x2 = nI (dm_bs (dm_lc g) k) → wY_looseColumns_9 post (nI (dm_L g)) (d + 1) x2 (nI k) rows can thn good := by
  intro d
  induction d with
  | zero =>
    intro k x2 can thn hk hx
    obtain rfl : k = 7 := by omega
    subst hx
    exact dm_g7 (K can thn)
  | succ d ih =>
    intro k x2 can thn hk hx
    have hk7 : k < 7 := by omega
    have b1 : dm_C g k ≤ 7 := dm_nu_7 _
    have b2 : dm_L g ≤ 7 := dm_nu_7 _
    exact dm_l7 hk7 (dm_sw (w := 7) (h := k) (r := 7) (c := 7) hg (by decide) (by omega) (by decide) (by decide) (fun can' thn' => pk_eq (dm_C g k) (dm_L g)
      (fun z => nm_r (dm_bs_i hk7 hx (decide_eq_true z)) (nm_r (nI_1 k) (ih (k + 1) _ can' thn' (by omega) rfl)))
      (fun z => nm_r (nI_1 k) (ih (k + 1) x2 can' thn' (by omega) (dm_bs_e hx (decide_eq_false z))))))
theorem dm_yu5 {post : Int32 → SY → Prop} {g : Nat → Nat} {r : Nat} {rows good : Nat → Int32} (hg : dm_G g rows) (hr : r < 7) (K : ∀ can thn, post (nI (dm_us g r)) (rows, can, thn, good)) :
    ∀ d k x3 can thn, k + d = 7 → x3 = nI (dm_bs (dm_up8 g r) k) → wY_usableOf_5 post (nI r) (nI (dm_L g)) (d + 1) x3 (nI k) rows can thn good := by
  intro d
  induction d with
  | zero =>
    intro k x3 can thn hk hx
    obtain rfl : k = 7 := by omega
    subst hx
    exact dm_g7 (K can thn)
  | succ d ih =>
    intro k x3 can thn hk hx
    have hk7 : k < 7 := by omega
    have b1 : dm_RC g r k ≤ 7 := dm_nu_7 _
    have b2 : dm_L g ≤ 7 := dm_nu_7 _
    have ec : rows (nI r).toNatClampNeg = nI (g r) := by rw [dm_cl (by omega), (hg r hr).1]
    refine dm_l7 hk7 ⟨dm_i7 hr, dm_inE ec rfl (hg r hr).2 hk7 (fun hb => nm_r (nI_1 k) (ih (k + 1) x3 can thn (by omega) (dm_bs_e hx ?_))) (fun hb => dm_sw (w := r) (h := k) (r := 7) (c := 7) hg (by omega) (by omega) (by decide) (by decide) (fun can' thn' => ?_))⟩
    · show ((g r).testBit k && _) = false
      rw [hb]
      rfl
    · refine pk_eq (dm_RC g r k + 1) (dm_L g) (fun z => nm_r (dm_bs_i hk7 hx ?_) (nm_r (nI_1 k) (ih (k + 1) _ can' thn' (by omega) rfl))) (fun z => nm_r (nI_1 k) (ih (k + 1) x3 can' thn' (by omega) (dm_bs_e hx ?_))) (nI_1 _)
      · show ((g r).testBit k && _) = true
        rw [hb, decide_eq_true z]
        rfl
      · show ((g r).testBit k && _) = false
        rw [hb, decide_eq_false z]
        rfl
theorem dm_yu {post : Int32 → SY → Prop} {g : Nat → Nat} {r : Nat} {rows can thn good : Nat → Int32} (hg : dm_G g rows) (hr : r < 7) (K : ∀ can thn, post (nI (dm_us g r)) (rows, can, thn, good)) : wpY_usableOf post (rows, can, thn, good) (nI r) (nI (dm_L g)) :=
  ⟨7 + 1, dm_yu5 hg hr K 7 0 0 can thn rfl rfl⟩
theorem dm_yf20 {post : Int32 → SY → Prop} {g : Nat → Nat} {r : Nat} {rows good : Nat → Int32} (hg : dm_G g rows) (hr : r < 7) (K : ∀ can thn, post (nI (dm_fo g r)) (rows, can, thn, good)) :
    ∀ d k x3 can thn, k + d = 7 → x3 = nI (dm_bs (dm_fp8 g r) k) → wY_forced_20 post (nI r) (nI (dm_L g)) (d + 1) x3 (nI k) rows can thn good := by
  intro d
  induction d with
  | zero =>
    intro k x3 can thn hk hx
    obtain rfl : k = 7 := by omega
    subst hx
    exact dm_g7 (K can thn)
  | succ d ih =>
    intro k x3 can thn hk hx
    have hk7 : k < 7 := by omega
    have b1 : dm_Ed g r k ≤ 7 := dm_nu_7 _
    have b2 : dm_L g ≤ 7 := dm_nu_7 _
    have ec : rows (nI r).toNatClampNeg = nI (g r) := by rw [dm_cl (by omega), (hg r hr).1]
    refine dm_l7 hk7 ⟨dm_i7 hr, dm_inE ec rfl (hg r hr).2 hk7 (fun hb => nm_r (nI_1 k) (ih (k + 1) x3 can thn (by omega) (dm_bs_e hx ?_))) (fun hb => dm_sw (w := 7) (h := 7) (r := r) (c := k) hg (by decide) (by decide) (by omega) (by omega) (fun can' thn' => ?_))⟩
    · show ((g r).testBit k && _) = false
      rw [hb]
      rfl
    · refine pk_le (dm_L g) (dm_Ed g r k) (fun z => nm_r (nI_1 k) (ih (k + 1) x3 can' thn' (by omega) (dm_bs_e hx ?_))) (fun z => nm_r (dm_bs_i hk7 hx ?_) (nm_r (nI_1 k) (ih (k + 1) _ can' thn' (by omega) rfl)))
      · show ((g r).testBit k && _) = false
        rw [hb, decide_eq_false (by omega)]
        rfl
      · show ((g r).testBit k && _) = true
        rw [hb, decide_eq_true z]
        rfl
theorem dm_yg7 {post : SY → Prop} {g : Nat → Nat} {rows : Nat → Int32} (hg : dm_G g rows) (K : ∀ can thn good, dm_G (dm_us g) good → post (rows, can, thn, good)) :
    ∀ d k can thn good, k + d = 7 → (∀ j, j < k → good j = nI (dm_us g j)) → wY_findGood_7 post (nI (dm_L g)) (d + 1) (nI k) rows can thn good := by
  intro d
  induction d with
  | zero =>
    intro k can thn good hk hI
    obtain rfl : k = 7 := by omega
    exact dm_g7 (K can thn good (fun j hj => ⟨hI j hj, dm_us_lt g j⟩))
  | succ d ih =>
    intro k can thn good hk hI
    have hk7 : k < 7 := by omega
    refine dm_l7 hk7 (dm_yu hg hk7 (fun can' thn' => ⟨dm_i7 hk7, nm_e (nm_r (nI_1 k) (ih (k + 1) can' thn' _ (by omega) (fun j hj => ?_)))⟩))
    rw [dm_cl (by omega)]
    by_cases h : j = k
    · rw [h, pk_us]
    · rw [pk_un h]
      exact hI j (by omega)
theorem dm_yg {post : SY → Prop} {g : Nat → Nat} {rows can thn good : Nat → Int32} (hg : dm_G g rows) (K : ∀ can thn good, dm_G (dm_us g) good → post (rows, can, thn, good)) : wpY_findGood post (rows, can, thn, good) := by
  unfold wpY_findGood
  dsimp only
  exact dm_yL hg (fun can' thn' => ⟨7 + 1, dm_yg7 hg K 7 0 can' thn' good rfl (fun j hj => absurd hj (by omega))⟩)
/-! the block of row r -/
theorem dm_bo15 {post : Int32 → Prop} {J6 : Int32 → Int32 → Prop} {U : Nat → Nat} {p R0 : Nat} {rows can thn good : Nat → Int32} (hU : dm_G U good) (hR0 : R0 < 128)
    (K : J6 (nI (dm_ps (dm_ys U) 49 R0)) (nI (p + 1))) :
    ∀ d q R, q + d = 49 → dm_ps (dm_ys U) q R0 = R → wY_blockOf_15 post J6 (nI p) rows can thn good (d + 1) (nI R) (nI q) := by
  intro d
  induction d with
  | zero =>
    intro q R hq hR
    obtain rfl : q = 49 := by omega
    subst hR
    exact dm_g49 (nm_r (nI_1 p) K)
  | succ d ih =>
    intro q R hq hR
    have hq49 : q < 49 := by omega
    have hRl : R < 128 := by
      rw [← hR]
      exact (dm_ps_in (dm_ys_in U) hR0 q (by omega)).1
    have ha : q / 7 < 7 := by omega
    have hb : q % 7 < 7 := by omega
    have ed : nI q / 7 = nI (q / 7) := pk_div (d := 7) (by omega) (by decide) (by decide)
    have em : nI q - nI q / 7 * 7 = nI (q % 7) := pk_rem (d := 7) (by omega) (by decide) (by decide)
    have ia : vp_in (nI q / 7) 7 := by rw [ed]; exact dm_i7 ha
    have ib : vp_in (nI q - nI q / 7 * 7) 7 := by rw [em]; exact dm_i7 hb
    have ea : good (nI q / 7).toNatClampNeg = nI (U (q / 7)) := by rw [ed, dm_cl (by omega), (hU _ ha).1]
    have eb : good (nI q - nI q / 7 * 7).toNatClampNeg = nI (U (q % 7)) := by rw [em, dm_cl (by omega), (hU _ hb).1]
    have n7 : ¬ (7 : Int32) = 0 := by decide
    have hl : U (q / 7) &&& U (q % 7) < 128 := Nat.lt_of_le_of_lt Nat.and_le_left (hU _ ha).2
    have es : dm_ps (dm_ys U) (q + 1) R0 = if R.testBit (q / 7) = true ∧ U (q / 7) &&& U (q % 7) ≠ 0 then R ||| 2 ^ (q % 7) else R := by rw [← hR]; rfl
    have hskip : ¬ (R.testBit (q / 7) = true ∧ U (q / 7) &&& U (q % 7) ≠ 0) → ∀ x, x = nI q + 1 → wY_blockOf_15 post J6 (nI p) rows can thn good (d + 1) (nI R) x := by
      intro hn
      refine nm_r (nI_1 q) (ih (q + 1) R (by omega) ?_)
      rw [es, if_neg hn]
    refine dm_l49 hq49 ⟨n7, dm_inE rfl ed hRl ha (fun hz => hskip (fun y => ?_)) (fun hz => ⟨n7, ia, n7, ib, pk_eq (U (q / 7) &&& U (q % 7)) 0 (fun z => hskip (fun y => y.2 z)) (fun z => ⟨n7, nm_r (e' := nI (R ||| 2 ^ (q % 7))) ?_ (nm_r (nI_1 q) (ih (q + 1) _ (by omega) ?_))⟩) (by rw [ea, eb, nx_and])⟩)⟩
    · rw [hz] at y
      exact absurd y.1 (by decide)
    · rw [em, dm_sor hb]
    · rw [es, if_pos ⟨hz, z⟩]
theorem dm_bo6 {post : Int32 → Prop} {U : Nat → Nat} {r : Nat} {rows can thn good : Nat → Int32} (hU : dm_G U good) (hr : r < 7) (K : post (nI (dm_yr U r))) :
    ∀ d p R, p + d = 7 → dm_it (dm_ps (dm_ys U) 49) p (2 ^ r) = R → wY_blockOf_6 post rows can thn good (d + 1) (nI R) (nI p) := by
  intro d
  induction d with
  | zero =>
    intro p R hp hR
    obtain rfl : p = 7 := by omega
    subst hR
    exact dm_g7 K
  | succ d ih =>
    intro p R hp hR
    have hp7 : p < 7 := by omega
    have hRl : R < 128 := by
      rw [← hR]
      exact dm_it_lt (fun R h => (dm_ps_in (dm_ys_in U) h 49 (Nat.le_refl 49)).1) (dm_p2 hr) p
    refine dm_l7 hp7 ⟨49 + 1, dm_bo15 hU hRl (ih (p + 1) _ (by omega) ?_) 49 0 R rfl rfl⟩
    rw [← hR]
    rfl
theorem dm_bo {post : Int32 → Prop} {U : Nat → Nat} {r : Nat} {rows can thn good : Nat → Int32} (hU : dm_G U good) (hr : r < 7) (K : post (nI (dm_yr U r))) : wpY_blockOf post (rows, can, thn, good) (nI r) :=
  nm_r (dm_sh r (by omega)) ⟨7 + 1, dm_bo6 hU hr K 7 0 _ rfl rfl⟩
def dm_yq (U : Nat → Nat) : Nat → Bool := fun k => decide (U k ≠ 0 ∧ dm_yr U k &&& (2 ^ k - 1) = 0)
theorem dm_xyq {U : Nat → Nat} (hU : ∀ k, k < 7 → U k < 128) : dm_nb (dm_yq U) 7 = dm_nb (dm_xq U) 7 := by
  refine dm_nb_congr 7 (fun i hi => ?_)
  show decide _ = decide _
  exact decide_eq_decide.2 (dm_blk hU hi).symm
theorem dm_yb8 {post : Int32 → SY → Prop} {U : Nat → Nat} {rows can thn good : Nat → Int32} (hU : dm_G U good) (K : post (nI (dm_nb (dm_yq U) 7)) (rows, can, thn, good)) :
    ∀ d k, k + d = 7 → wY_blocks_8 post rows can thn good (d + 1) (nI (dm_nb (dm_yq U) k)) (nI k) := by
  intro d
  induction d with
  | zero =>
    intro k hk
    obtain rfl : k = 7 := by omega
    exact dm_g7 K
  | succ d ih =>
    intro k hk
    have hk7 : k < 7 := by omega
    have eu : good (nI k).toNatClampNeg = nI (U k) := by rw [dm_cl (by omega), (hU k hk7).1]
    have hl := (hU k hk7).2
    have hyl := dm_yr_lt U hk7
    have hal : dm_yr U k &&& (2 ^ k - 1) < 128 := Nat.lt_of_le_of_lt Nat.and_le_left hyl
    have hskip : ¬ (U k ≠ 0 ∧ dm_yr U k &&& (2 ^ k - 1) = 0) → ∀ x, x = nI k + 1 → wY_blocks_8 post rows can thn good (d + 1) (nI (dm_nb (dm_yq U) k)) x := by
      intro hn
      refine nm_r (nI_1 k) ?_
      have h := ih (k + 1) (by omega)
      rw [dm_nb_f (p := dm_yq U) (decide_eq_false hn)] at h
      exact h
    refine dm_l7 hk7 (dm_bo hU hk7 ⟨dm_i7 hk7, pk_eq (U k) 0 (fun z => hskip (fun y => y.1 z)) (fun z => pk_eq (dm_yr U k &&& (2 ^ k - 1)) 0 (fun y => nm_r (nI_1 _) (nm_r (nI_1 k) ?_)) (fun y => hskip (fun x => y x.2)) (dm_slo k hk7 _ hyl)) eu⟩)
    have h := ih (k + 1) (by omega)
    rw [dm_nb_t (p := dm_yq U) (decide_eq_true ⟨z, y⟩)] at h
    exact h
/-! covers -/
theorem dm_yc17 {post : Int32 → Prop} {J5 : Int32 → Int32 → Prop} {g : Nat → Nat} {s : Nat} {rows can thn good : Nat → Int32} (hg : dm_G g rows) (hs : s < 128) (K : J5 (nI (dm_cv g (s + 1))) (nI (s + 1))) :
    ∀ d k, k + d = 7 → wY_cover_17 post J5 (nI (dm_cv g s)) (nI s) rows can thn good (d + 1) (nI (dm_oc g s k)) (nI k) := by
  intro d
  induction d with
  | zero =>
    intro k hk
    obtain rfl : k = 7 := by omega
    have hlt := dm_oc_lt (dm_G_lt hg) s 7 (Nat.le_refl 7)
    have b0 := dm_cv_7 g s
    have b1 := dm_ct_7 s
    have b2 := dm_ct_7 (dm_oc g s 7)
    rw [dm_cv_s] at K
    refine dm_g7 ?_
    refine dm_sz hs ?_
    refine dm_sz hlt ?_
    refine nm_r (nI_add _ _) (pk_le (dm_cv g s) (dm_ct s + dm_ct (dm_oc g s 7)) (fun z => nm_r (nI_1 s) ?_) (fun z => nm_r (nI_1 s) ?_))
    · rw [if_pos z] at K
      exact K
    · rw [if_neg (by omega)] at K
      exact K
  | succ d ih =>
    intro k hk
    have hk7 : k < 7 := by omega
    have h := ih (k + 1) (by omega)
    rw [dm_oc_s] at h
    refine dm_l7 hk7 (dm_in hs hk7 (fun hb => ⟨dm_i7 hk7, nm_r (e' := nI (dm_oc g s k ||| g k)) ?_ (nm_r (nI_1 k) ?_)⟩) (fun hb => nm_r (nI_1 k) ?_))
    · rw [dm_cl (by omega), (hg k hk7).1, dm_or]
    · rw [if_neg (by rw [hb]; decide)] at h
      exact h
    · rw [if_pos hb] at h
      exact h
theorem dm_yc5 {post : Int32 → Prop} {g : Nat → Nat} {rows can thn good : Nat → Int32} (hg : dm_G g rows) (K : post (nI (dm_cv g 128))) :
    ∀ d k, k + d = 128 → wY_cover_5 post rows can thn good (d + 1) (nI (dm_cv g k)) (nI k) := by
  intro d
  induction d with
  | zero =>
    intro k hk
    obtain rfl : k = 128 := by omega
    exact dm_g128 K
  | succ d ih =>
    intro k hk
    have hk' : k < 128 := by omega
    exact dm_l128 hk' ⟨7 + 1, dm_yc17 hg hk' (ih (k + 1) (by omega)) 7 0 rfl⟩
end
section
/-! the relation: both keep the same sets of columns, all below 128; the work arrays are free -/
def i_Rel (k : Nat) (u : SX) (v : SY) : Prop := u.1 = v.1 ∧ ∃ g, dm_G g u.1
theorem dm_rel {k : Nat} {g : Nat → Nat} {cols most usab can thn good : Nat → Int32} (hg : dm_G g cols) : i_Rel k (cols, most, usab) (cols, can, thn, good) := ⟨rfl, g, hg⟩
theorem dm_G_u {g : Nat → Nat} {a : Nat → Int32} {r s : Nat} (hs : s < 128) (hg : dm_G g a) : dm_G (fun j => if j = r then s else g j) (upd a r (nI s)) := by
  intro j hj
  dsimp only
  by_cases h : j = r
  · rw [h, pk_us, if_pos rfl]
    exact ⟨rfl, hs⟩
  · rw [pk_un h, if_neg h]
    exact hg j hj
theorem dm_cases (x : Int32) : (x < 0 ∨ (7 : Int32) ≤ x) ∨ ∃ j : Nat, j < 7 ∧ x = nI j := by
  rcases dm_ix x with h | h | h
  · exact Or.inl (Or.inl h)
  · exact Or.inl (Or.inr h)
  · exact Or.inr h
theorem i_up {k : Nat} {u : SX} {v : SY} (h : i_Rel k u v) : i_Rel (k + 4) u v := h
theorem i_vc0 : wpX_init (fun u => wpY_init (fun v => i_Rel 0 u v)) := by
  exact ⟨rfl, fun _ => 0, fun j _ => ⟨rfl, (by decide : (0 : Nat) < 128)⟩⟩
theorem i_vc_edge {k : Nat} {u : SX} {v : SY} (I : i_Rel k u v) (hk : k + 4 ≤ 2048) (v1 : Int32) (v2 : Int32) (v3 : Int32) : wpX_edge (fun r u' => wpY_edge (fun r' v' => r' = r ∧ i_Rel (k + 4) u' v') v v1 v2 (lw_bz v3)) u v1 v2 (lw_bz v3) := by
  obtain ⟨cols, most, usab⟩ := u
  obtain ⟨rows, can, thn, good⟩ := v
  obtain ⟨h, g, hg⟩ := I
  cases (h : cols = rows)
  have hg : dm_G g cols := hg
  rcases dm_cases v1 with h1 | ⟨r, hr, rfl⟩
  · unfold wpX_edge
    dsimp only
    refine dm_out h1 ?_
    unfold wpY_edge
    dsimp only
    exact dm_outY h1 ⟨rfl, dm_rel hg⟩
  rcases dm_cases v2 with h2 | ⟨c, hc, rfl⟩
  · unfold wpX_edge
    dsimp only
    refine dm_ins hr (dm_out h2 ?_)
    unfold wpY_edge
    dsimp only
    exact dm_insY hr (dm_outY h2 ⟨rfl, dm_rel hg⟩)
  have hl := (hg r hr).2
  rcases lw_bz_01 v3 with e | e
  · have eu : upd cols (nI r).toNatClampNeg ((cols (nI r).toNatClampNeg) &&& (((1 : Int32) <<< (nI c &&& 31)) ^^^ (-1))) = upd cols r (nI (dm_an (g r) c)) := by rw [dm_cl (by omega), (hg r hr).1, dm_san c (by omega) _ hl]
    unfold wpX_edge
    dsimp only
    refine dm_ins hr (dm_ins hc (br_t e ⟨dm_i7 hr, dm_i7 hr, nm_r eu ?_⟩))
    unfold wpY_edge
    dsimp only
    exact dm_insY hr (dm_insY hc (br_t e ⟨dm_i7 hr, dm_i7 hr, nm_r eu ⟨rfl, dm_rel (dm_G_u (dm_an_lt hl) hg)⟩⟩))
  · have e0 : ¬ lw_bz v3 = 0 := by rw [e]; decide
    have eu : upd cols (nI r).toNatClampNeg ((cols (nI r).toNatClampNeg) ||| ((1 : Int32) <<< (nI c &&& 31))) = upd cols r (nI (g r ||| 2 ^ c)) := by rw [dm_cl (by omega), (hg r hr).1, dm_sor hc]
    unfold wpX_edge
    dsimp only
    refine dm_ins hr (dm_ins hc (br_f e0 ⟨dm_i7 hr, dm_i7 hr, nm_r eu ?_⟩))
    unfold wpY_edge
    dsimp only
    exact dm_insY hr (dm_insY hc (br_f e0 ⟨dm_i7 hr, dm_i7 hr, nm_r eu ⟨rfl, dm_rel (dm_G_u (dm_or_lt hl (dm_p2 hc)) hg)⟩⟩))
theorem i_vc_row {k : Nat} {u : SX} {v : SY} (I : i_Rel k u v) (hk : k + 4 ≤ 2048) (v1 : Int32) (v2 : Int32) : wpX_row (fun r u' => wpY_row (fun r' v' => r' = r ∧ i_Rel (k + 4) u' v') v v1 v2) u v1 v2 := by
  obtain ⟨cols, most, usab⟩ := u
  obtain ⟨rows, can, thn, good⟩ := v
  obtain ⟨h, g, hg⟩ := I
  cases (h : cols = rows)
  have hg : dm_G g cols := hg
  rcases dm_cases v1 with h1 | ⟨r, hr, rfl⟩
  · unfold wpX_row
    dsimp only
    refine dm_out h1 ?_
    unfold wpY_row
    dsimp only
    exact dm_outY h1 ⟨rfl, dm_rel hg⟩
  unfold wpX_row
  dsimp only
  rcases pk_ix v2 (n := 128) (by decide) with h2 | h2 | ⟨s, hs, rfl⟩
  · refine dm_ins hr (br_t h2 ?_)
    unfold wpY_row
    dsimp only
    exact dm_insY hr (br_t h2 ⟨rfl, dm_rel hg⟩)
  · have h0 : ¬ v2 < 0 := Int32.not_lt.mpr (Int32.le_trans (by decide : (0 : Int32) ≤ nI 128) h2)
    have h3 : ¬ v2 ≤ 127 := Int32.not_le.mpr (Int32.lt_of_lt_of_le (by decide : (127 : Int32) < nI 128) h2)
    refine dm_ins hr (br_f h0 (br_f h3 ?_))
    unfold wpY_row
    dsimp only
    exact dm_insY hr (br_f h0 (br_f h3 ⟨rfl, dm_rel hg⟩))
  · have h0 : ¬ nI s < 0 := nI_pos (by omega)
    have h3 : nI s ≤ 127 := nI_le (b := 127) (by omega) (by decide)
    have eu : upd cols (nI r).toNatClampNeg (nI s) = upd cols r (nI s) := by rw [dm_cl (by omega)]
    refine dm_ins hr (br_f h0 (br_t h3 ⟨dm_i7 hr, nm_r eu ?_⟩))
    unfold wpY_row
    dsimp only
    exact dm_insY hr (br_f h0 (br_t h3 ⟨dm_i7 hr, nm_r eu ⟨rfl, dm_rel (dm_G_u hs hg)⟩⟩))
theorem i_vc_columnsOf {k : Nat} {u : SX} {v : SY} (I : i_Rel k u v) (hk : k + 4 ≤ 2048) (v1 : Int32) : wpX_columnsOf (fun r => wpY_columnsOf (fun r' => r' = r ∧ i_Rel (k + 4) u v) v v1) u v1 := by
  obtain ⟨cols, most, usab⟩ := u
  obtain ⟨rows, can, thn, good⟩ := v
  obtain ⟨h, g, hg⟩ := I
  cases (h : cols = rows)
  have hg : dm_G g cols := hg
  rcases dm_cases v1 with h1 | ⟨r, hr, rfl⟩
  · unfold wpX_columnsOf
    dsimp only
    refine dm_out h1 ?_
    unfold wpY_columnsOf
    dsimp only
    exact dm_outY h1 ⟨rfl, dm_rel hg⟩
  · unfold wpX_columnsOf
    dsimp only
    refine dm_ins hr ⟨dm_i7 hr, ?_⟩
    unfold wpY_columnsOf
    dsimp only
    exact dm_insY hr ⟨dm_i7 hr, rfl, dm_rel hg⟩
theorem i_vc_largest {k : Nat} {u : SX} {v : SY} (I : i_Rel k u v) (hk : k + 4 ≤ 2048) : wpX_largest (fun r u' => wpY_largest (fun r' v' => r' = r ∧ i_Rel (k + 4) u' v') v) u := by
  obtain ⟨cols, most, usab⟩ := u
  obtain ⟨rows, can, thn, good⟩ := v
  obtain ⟨h, g, hg⟩ := I
  cases (h : cols = rows)
  have hg : dm_G g cols := hg
  unfold wpX_largest
  dsimp only
  refine dm_m1 hg (fun most' => ?_)
  dsimp only
  exact dm_yL hg (fun can' thn' => ⟨rfl, dm_rel hg⟩)
theorem i_vc_looseRows {k : Nat} {u : SX} {v : SY} (I : i_Rel k u v) (hk : k + 4 ≤ 2048) : wpX_looseRows (fun r u' => wpY_looseRows (fun r' v' => r' = r ∧ i_Rel (k + 4) u' v') v) u := by
  obtain ⟨cols, most, usab⟩ := u
  obtain ⟨rows, can, thn, good⟩ := v
  obtain ⟨h, g, hg⟩ := I
  cases (h : cols = rows)
  have hg : dm_G g cols := hg
  unfold wpX_looseRows
  dsimp only
  refine dm_m1 hg (fun most' => ⟨7 + 1, dm_xlr hg (fun most2 => ?_) 7 0 0 most' rfl rfl⟩)
  unfold wpY_looseRows
  dsimp only
  exact dm_yL hg (fun can' thn' => ⟨7 + 1, dm_ylr hg (fun can2 thn2 => ⟨rfl, dm_rel hg⟩) 7 0 0 can' thn' rfl rfl⟩)
theorem i_vc_looseColumns {k : Nat} {u : SX} {v : SY} (I : i_Rel k u v) (hk : k + 4 ≤ 2048) : wpX_looseColumns (fun r u' => wpY_looseColumns (fun r' v' => r' = r ∧ i_Rel (k + 4) u' v') v) u := by
  obtain ⟨cols, most, usab⟩ := u
  obtain ⟨rows, can, thn, good⟩ := v
  obtain ⟨h, g, hg⟩ := I
  cases (h : cols = rows)
  have hg : dm_G g cols := hg
  unfold wpX_looseColumns
  dsimp only
  refine dm_m1 hg (fun most' => ⟨7 + 1, dm_xlc hg (fun most2 => ?_) 7 0 0 most' rfl rfl⟩)
  unfold wpY_looseColumns
  dsimp only
  exact dm_yL hg (fun can' thn' => ⟨7 + 1, dm_ylc hg (fun can2 thn2 => ⟨rfl, dm_rel hg⟩) 7 0 0 can' thn' rfl rfl⟩)
theorem i_vc_usable {k : Nat} {u : SX} {v : SY} (I : i_Rel k u v) (hk : k + 4 ≤ 2048) (v1 : Int32) : wpX_usable (fun r u' => wpY_usable (fun r' v' => r' = r ∧ i_Rel (k + 4) u' v') v v1) u v1 := by
  obtain ⟨cols, most, usab⟩ := u
  obtain ⟨rows, can, thn, good⟩ := v
  obtain ⟨h, g, hg⟩ := I
  cases (h : cols = rows)
  have hg : dm_G g cols := hg
  rcases dm_cases v1 with h1 | ⟨r, hr, rfl⟩
  · unfold wpX_usable
    dsimp only
    refine dm_out h1 ?_
    unfold wpY_usable
    dsimp only
    exact dm_outY h1 ⟨rfl, dm_rel hg⟩
  unfold wpX_usable
  dsimp only
  refine dm_ins hr (dm_xu hg hr (fun most' => ?_))
  dsimp only
  unfold wpY_usable
  dsimp only
  refine dm_insY hr (dm_yL hg (fun can' thn' => ?_))
  dsimp only
  exact dm_yu hg hr (fun can2 thn2 => ⟨rfl, dm_rel hg⟩)
theorem i_vc_forced {k : Nat} {u : SX} {v : SY} (I : i_Rel k u v) (hk : k + 4 ≤ 2048) (v1 : Int32) : wpX_forced (fun r u' => wpY_forced (fun r' v' => r' = r ∧ i_Rel (k + 4) u' v') v v1) u v1 := by
  obtain ⟨cols, most, usab⟩ := u
  obtain ⟨rows, can, thn, good⟩ := v
  obtain ⟨h, g, hg⟩ := I
  cases (h : cols = rows)
  have hg : dm_G g cols := hg
  rcases dm_cases v1 with h1 | ⟨r, hr, rfl⟩
  · unfold wpX_forced
    dsimp only
    refine dm_out h1 ?_
    unfold wpY_forced
    dsimp only
    exact dm_outY h1 ⟨rfl, dm_rel hg⟩
  refine dm_xfo hg hr (fun most' => ?_)
  unfold wpY_forced
  dsimp only
  refine dm_insY hr (dm_yL hg (fun can' thn' => ?_))
  exact ⟨7 + 1, dm_yf20 hg hr (fun can2 thn2 => ⟨rfl, dm_rel hg⟩) 7 0 0 can' thn' rfl rfl⟩
theorem i_vc_blocks {k : Nat} {u : SX} {v : SY} (I : i_Rel k u v) (hk : k + 4 ≤ 2048) : wpX_blocks (fun r u' => wpY_blocks (fun r' v' => r' = r ∧ i_Rel (k + 4) u' v') v) u := by
  obtain ⟨cols, most, usab⟩ := u
  obtain ⟨rows, can, thn, good⟩ := v
  obtain ⟨h, g, hg⟩ := I
  cases (h : cols = rows)
  have hg : dm_G g cols := hg
  unfold wpX_blocks
  dsimp only
  refine dm_fu hg (fun most' usab' hU => ?_)
  refine ⟨7 + 1, dm_xb10 hU ?_ 7 0 rfl⟩
  unfold wpY_blocks
  dsimp only
  refine dm_yg hg (fun can' thn' good' hV => ?_)
  refine ⟨7 + 1, dm_yb8 hV ?_ 7 0 rfl⟩
  exact ⟨congrArg nI (dm_xyq (dm_G_lt hU)), dm_rel hg⟩
theorem i_vc_blockRows {k : Nat} {u : SX} {v : SY} (I : i_Rel k u v) (hk : k + 4 ≤ 2048) (v1 : Int32) : wpX_blockRows (fun r u' => wpY_blockRows (fun r' v' => r' = r ∧ i_Rel (k + 4) u' v') v v1) u v1 := by
  obtain ⟨cols, most, usab⟩ := u
  obtain ⟨rows, can, thn, good⟩ := v
  obtain ⟨h, g, hg⟩ := I
  cases (h : cols = rows)
  have hg : dm_G g cols := hg
  rcases dm_cases v1 with h1 | ⟨r, hr, rfl⟩
  · unfold wpX_blockRows
    dsimp only
    refine dm_out h1 ?_
    unfold wpY_blockRows
    dsimp only
    exact dm_outY h1 ⟨rfl, dm_rel hg⟩
  unfold wpX_blockRows
  dsimp only
  refine dm_ins hr (dm_fu hg (fun most' usab' hU => ?_))
  dsimp only
  refine dm_rj hU hr ?_
  unfold wpY_blockRows
  dsimp only
  refine dm_insY hr (dm_yg hg (fun can' thn' good' hV => ?_))
  have eg : good' (nI r).toNatClampNeg = nI (dm_us g r) := by rw [dm_cl (by omega), (hV r hr).1]
  have hl := dm_us_lt g r
  refine ⟨dm_i7 hr, pk_eq (dm_us g r) 0 (fun z => ?_) (fun z => ?_) eg⟩
  · rw [dm_xr_0 z]
    exact ⟨rfl, dm_rel hg⟩
  · refine dm_bo hV hr ?_
    rw [dm_xy (dm_G_lt hU) hr z]
    exact ⟨rfl, dm_rel hg⟩
theorem i_vc_cover {k : Nat} {u : SX} {v : SY} (I : i_Rel k u v) (hk : k + 4 ≤ 2048) : wpX_cover (fun r => wpY_cover (fun r' => r' = r ∧ i_Rel (k + 4) u v) v) u := by
  obtain ⟨cols, most, usab⟩ := u
  obtain ⟨rows, can, thn, good⟩ := v
  obtain ⟨h, g, hg⟩ := I
  cases (h : cols = rows)
  have hg : dm_G g cols := hg
  exact ⟨128 + 1, dm_xc5 hg ⟨128 + 1, dm_yc5 hg ⟨rfl, dm_rel hg⟩ 128 0 rfl⟩ 128 0 rfl⟩
end
