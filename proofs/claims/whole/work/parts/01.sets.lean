/-! sets of at most seven members as numbers below 128 -/
def dm_x (s c : Nat) : Nat := s ^^^ 2 ^ c
def dm_ct (s : Nat) : Nat := s % 2 + s / 2 % 2 + s / 4 % 2 + s / 8 % 2 + s / 16 % 2 + s / 32 % 2 + s / 64 % 2
def dm_sub (T S : Nat) : Prop := ∀ c, T.testBit c = true → S.testBit c = true
theorem dm_x_bit (s c d : Nat) : (dm_x s c).testBit d = (s.testBit d ^^ decide (c = d)) := by
  unfold dm_x
  rw [Nat.testBit_xor, Nat.testBit_two_pow]
theorem dm_x_self (s c : Nat) : (dm_x s c).testBit c = !s.testBit c := by
  rw [dm_x_bit]
  simp
theorem dm_x_ne {s c d : Nat} (h : c ≠ d) : (dm_x s c).testBit d = s.testBit d := by
  rw [dm_x_bit]
  simp [h]
theorem dm_x_x (s c : Nat) : dm_x (dm_x s c) c = s := by
  unfold dm_x
  rw [Nat.xor_assoc, Nat.xor_self, Nat.xor_zero]
theorem dm_x_comm (s c d : Nat) : dm_x (dm_x s c) d = dm_x (dm_x s d) c := by
  unfold dm_x
  rw [Nat.xor_assoc, Nat.xor_assoc, Nat.xor_comm (2 ^ c)]
theorem dm_p2 {c : Nat} (hc : c < 7) : 2 ^ c < 128 := Nat.pow_lt_pow_right (a := 2) (by decide) hc
theorem dm_x_lt {s c : Nat} (hs : s < 128) (hc : c < 7) : dm_x s c < 128 := Nat.xor_lt_two_pow (n := 7) hs (dm_p2 hc)
theorem dm_or_lt {s t : Nat} (hs : s < 128) (ht : t < 128) : s ||| t < 128 := Nat.or_lt_two_pow (n := 7) hs ht
theorem dm_and_lt {s : Nat} (t : Nat) (hs : s < 128) : t &&& s < 128 := Nat.and_lt_two_pow (n := 7) t hs
theorem dm_hi {s c : Nat} (hs : s < 128) (hc : 7 ≤ c) : s.testBit c = false :=
  Nat.testBit_lt_two_pow (Nat.lt_of_lt_of_le hs (Nat.pow_le_pow_right (n := 2) (by decide) hc))
theorem dm_bit_lt {s c : Nat} (hs : s < 128) (h : s.testBit c = true) : c < 7 := by
  apply Classical.byContradiction
  intro hc
  rw [dm_hi hs (by omega)] at h
  exact absurd h (by decide)
theorem dm_ext {s t : Nat} (hs : s < 128) (ht : t < 128) (h : ∀ d, d < 7 → s.testBit d = t.testBit d) : s = t := by
  apply Nat.eq_of_testBit_eq
  intro d
  by_cases hd : d < 7
  · exact h d hd
  · rw [dm_hi hs (by omega), dm_hi ht (by omega)]
theorem dm_ct_x : ∀ s, s < 128 → ∀ c, c < 7 → s.testBit c = true → dm_ct (dm_x s c) + 1 = dm_ct s := by decide +kernel
theorem dm_b127 : ∀ c, c < 7 → (127 : Nat).testBit c = true := by decide
theorem dm_127 {T : Nat} (h : T < 128) : dm_sub T 127 := fun c hc => dm_b127 c (dm_bit_lt h hc)
theorem dm_ct_7 (s : Nat) : dm_ct s ≤ 7 := by
  unfold dm_ct
  omega
theorem dm_full : ∀ s, s < 128 → 7 ≤ dm_ct s → s = 127 := by decide +kernel
theorem dm_one : ∀ s, s < 128 → dm_ct s = 1 → ∃ u, u < 7 ∧ s = 2 ^ u := by decide +kernel
theorem dm_ct_p : ∀ u, u < 7 → dm_ct (2 ^ u) = 1 := by decide +kernel
theorem dm_antis {s t : Nat} (h1 : dm_sub s t) (h2 : dm_sub t s) : s = t := by
  apply Nat.eq_of_testBit_eq
  intro d
  have a := h1 d
  have b := h2 d
  cases hs : s.testBit d <;> cases ht : t.testBit d <;> simp_all
theorem dm_sub_r (s : Nat) : dm_sub s s := fun _ h => h
theorem dm_sub_t {s t u : Nat} (h1 : dm_sub s t) (h2 : dm_sub t u) : dm_sub s u := fun c h => h2 c (h1 c h)
theorem dm_bit_div (s i : Nat) : s.testBit i = true ↔ s / 2 ^ i % 2 = 1 := by
  rw [Nat.testBit_eq_decide_div_mod_eq, decide_eq_true_eq]
theorem dm_ct_mono {s t : Nat} (h : dm_sub s t) : dm_ct s ≤ dm_ct t := by
  have e : ∀ i, s / 2 ^ i % 2 ≤ t / 2 ^ i % 2 := by
    intro i
    have a := h i
    rw [dm_bit_div, dm_bit_div] at a
    omega
  have e0 := e 0
  have e1 := e 1
  have e2 := e 2
  have e3 := e 3
  have e4 := e 4
  have e5 := e 5
  have e6 := e 6
  simp only [Nat.reducePow, Nat.div_one] at e0 e1 e2 e3 e4 e5 e6
  unfold dm_ct
  omega
theorem dm_ct_lt {s t : Nat} (ht : t < 128) (h : dm_sub s t) (hn : s ≠ t) : dm_ct s + 1 ≤ dm_ct t := by
  have hb : ∃ b, t.testBit b = true ∧ s.testBit b = false := by
    apply Classical.byContradiction
    intro hne
    apply hn
    apply dm_antis h
    intro c hc
    cases hs : s.testBit c with
    | true => rfl
    | false => exact absurd ⟨c, hc, hs⟩ hne
  obtain ⟨b, h1, h2⟩ := hb
  have h3 := dm_ct_x t ht b (dm_bit_lt ht h1) h1
  have h4 : dm_sub s (dm_x t b) := by
    intro c hc
    have hbc : b ≠ c := by
      intro e
      subst e
      rw [h2] at hc
      exact absurd hc (by decide)
    rw [dm_x_ne hbc]
    exact h c hc
  have := dm_ct_mono h4
  omega
/-! a set without one member: c may be 7, and then nothing is taken -/
def dm_an (s c : Nat) : Nat := s &&& (255 ^^^ 2 ^ c)
theorem dm_an_bit {s c d : Nat} (hd : d < 7) : (dm_an s c).testBit d = (s.testBit d && decide (c ≠ d)) := by
  unfold dm_an
  rw [Nat.testBit_and, Nat.testBit_xor, Nat.testBit_two_pow, (by decide : ∀ d, d < 7 → (255 : Nat).testBit d = true) d hd]
  by_cases h : c = d <;> simp [h]
theorem dm_an_lt {s c : Nat} (hs : s < 128) : dm_an s c < 128 := by
  unfold dm_an
  exact Nat.lt_of_le_of_lt Nat.and_le_left hs
/-! the set of those below n of which p speaks -/
def dm_bs (p : Nat → Bool) : Nat → Nat
  | 0 => 0
  | c + 1 => if p c = true then dm_bs p c ||| 2 ^ c else dm_bs p c
theorem dm_bs_bit (p : Nat → Bool) (d : Nat) : ∀ n, (dm_bs p n).testBit d = (decide (d < n) && p d) := by
  intro n
  induction n with
  | zero => simp [dm_bs]
  | succ n ih =>
    have hu : dm_bs p (n + 1) = if p n = true then dm_bs p n ||| 2 ^ n else dm_bs p n := rfl
    by_cases h : p n = true
    · rw [hu, if_pos h, Nat.testBit_or, ih, Nat.testBit_two_pow]
      by_cases hd : n = d
      · subst hd
        simp [h]
      · have e : (d < n + 1) ↔ (d < n) := by omega
        simp [hd, e]
    · rw [hu, if_neg h, ih]
      by_cases hd : n = d
      · subst hd
        simp [h]
      · have e : (d < n + 1) ↔ (d < n) := by omega
        simp [e]
theorem dm_bs_lt (p : Nat → Bool) : ∀ n, n ≤ 7 → dm_bs p n < 128 := by
  intro n
  induction n with
  | zero => exact fun _ => (by decide : (0 : Nat) < 128)
  | succ n ih =>
    intro hn
    have hu : dm_bs p (n + 1) = if p n = true then dm_bs p n ||| 2 ^ n else dm_bs p n := rfl
    by_cases h : p n = true
    · rw [hu, if_pos h]
      exact dm_or_lt (ih (by omega)) (dm_p2 (by omega))
    · rw [hu, if_neg h]
      exact ih (by omega)
theorem dm_bs_congr {p q : Nat → Bool} : ∀ n, (∀ i, i < n → p i = q i) → dm_bs p n = dm_bs q n := by
  intro n
  induction n with
  | zero => intro _; rfl
  | succ n ih =>
    intro h
    have hu : dm_bs p (n + 1) = if p n = true then dm_bs p n ||| 2 ^ n else dm_bs p n := rfl
    have hv : dm_bs q (n + 1) = if q n = true then dm_bs q n ||| 2 ^ n else dm_bs q n := rfl
    rw [hu, hv, ih (fun i hi => h i (by omega)), h n (by omega)]
/-! how many below n -/
def dm_nb (p : Nat → Bool) : Nat → Nat
  | 0 => 0
  | c + 1 => if p c = true then dm_nb p c + 1 else dm_nb p c
theorem dm_nb_le (p : Nat → Bool) : ∀ n, dm_nb p n ≤ n := by
  intro n
  induction n with
  | zero => exact Nat.le_refl _
  | succ n ih =>
    have hu : dm_nb p (n + 1) = if p n = true then dm_nb p n + 1 else dm_nb p n := rfl
    by_cases h : p n = true
    · rw [hu, if_pos h]
      omega
    · rw [hu, if_neg h]
      omega
theorem dm_nb_congr {p q : Nat → Bool} : ∀ n, (∀ i, i < n → p i = q i) → dm_nb p n = dm_nb q n := by
  intro n
  induction n with
  | zero => intro _; rfl
  | succ n ih =>
    intro h
    have hu : dm_nb p (n + 1) = if p n = true then dm_nb p n + 1 else dm_nb p n := rfl
    have hv : dm_nb q (n + 1) = if q n = true then dm_nb q n + 1 else dm_nb q n := rfl
    rw [hu, hv, ih (fun i hi => h i (by omega)), h n (by omega)]
theorem dm_nb_ct : ∀ s, s < 128 → dm_nb (fun i => s.testBit i) 7 = dm_ct s := by decide +kernel
