/-! passes that only add: after seven of them nothing is added -/
def dm_ps (st : Nat → Nat → Nat) : Nat → Nat → Nat
  | 0 => fun R => R
  | i + 1 => fun R => st i (dm_ps st i R)
def dm_it (F : Nat → Nat) : Nat → Nat → Nat
  | 0 => fun R => R
  | p + 1 => fun R => F (dm_it F p R)
theorem dm_ps_in {st : Nat → Nat → Nat} {n : Nat} (hin : ∀ i R, i < n → R < 128 → st i R < 128 ∧ dm_sub R (st i R)) {R : Nat} (hR : R < 128) : ∀ i, i ≤ n → dm_ps st i R < 128 ∧ dm_sub R (dm_ps st i R) := by
  intro i
  induction i with
  | zero => exact fun _ => ⟨hR, dm_sub_r R⟩
  | succ i ih =>
    intro hi
    obtain ⟨a, b⟩ := ih (by omega)
    obtain ⟨c, d⟩ := hin i _ (by omega) a
    exact ⟨c, dm_sub_t b d⟩
theorem dm_ps_up {st : Nat → Nat → Nat} {n : Nat} (hin : ∀ i R, i < n → R < 128 → st i R < 128 ∧ dm_sub R (st i R)) {R : Nat} (hR : R < 128) : ∀ d i, i + d ≤ n → dm_sub (dm_ps st i R) (dm_ps st (i + d) R) := by
  intro d
  induction d with
  | zero => exact fun i _ => dm_sub_r _
  | succ d ih =>
    intro i hi
    exact dm_sub_t (ih i (by omega)) (hin (i + d) _ (by omega) (dm_ps_in hin hR (i + d) (by omega)).1).2
theorem dm_ps_fix {st : Nat → Nat → Nat} {n : Nat} (hin : ∀ i R, i < n → R < 128 → st i R < 128 ∧ dm_sub R (st i R)) {R : Nat} (hR : R < 128) (hf : dm_ps st n R = R) : ∀ i, i < n → st i R = R := by
  have h1 : ∀ i, i ≤ n → dm_ps st i R = R := by
    intro i hi
    have a := dm_ps_up hin hR (n - i) i (by omega)
    rw [show i + (n - i) = n from by omega, hf] at a
    exact dm_antis a (dm_ps_in hin hR i hi).2
  intro i hi
  have a := h1 (i + 1) (by omega)
  have b : dm_ps st (i + 1) R = st i (dm_ps st i R) := rfl
  rw [b, h1 i (by omega)] at a
  exact a
theorem dm_it_lt {F : Nat → Nat} (hF : ∀ R, R < 128 → F R < 128) {R : Nat} (hR : R < 128) : ∀ p, dm_it F p R < 128 := by
  intro p
  induction p with
  | zero => exact hR
  | succ p ih => exact hF _ ih
theorem dm_it_fix {F : Nat → Nat} (hF : ∀ R, R < 128 → F R < 128 ∧ dm_sub R (F R)) {R : Nat} (hR : R < 128) : F (dm_it F 7 R) = dm_it F 7 R := by
  have hl := dm_it_lt (fun R h => (hF R h).1) hR
  have h : ∀ p, F (dm_it F p R) = dm_it F p R ∨ p ≤ dm_ct (dm_it F p R) := by
    intro p
    induction p with
    | zero => exact Or.inr (Nat.zero_le _)
    | succ p ih =>
      have e : dm_it F (p + 1) R = F (dm_it F p R) := rfl
      rcases ih with ih | ih
      · left
        rw [e, ih, ih]
      · by_cases hz : dm_it F p R = F (dm_it F p R)
        · left
          rw [e, ← hz, ← hz]
        · right
          have a := dm_ct_lt (hF _ (hl p)).1 (hF _ (hl p)).2 hz
          rw [e]
          omega
  rcases h 7 with h | h
  · exact h
  · have a := dm_full _ (hl 7) h
    have b := hF _ (hl 7)
    rw [a] at b ⊢
    exact dm_antis (dm_127 b.1) b.2
theorem dm_ps_in2 {st : Nat → Nat → Nat} {n : Nat} {P : Nat → Prop} (hP : ∀ i R, i < n → P R → P (st i R)) {R : Nat} (hR : P R) : ∀ i, i ≤ n → P (dm_ps st i R) := by
  intro i
  induction i with
  | zero => exact fun _ => hR
  | succ i ih => exact fun hi => hP i _ (by omega) (ih (by omega))
theorem dm_it_in2 {F : Nat → Nat} {P : Nat → Prop} (hP : ∀ R, P R → P (F R)) {R : Nat} (hR : P R) : ∀ p, P (dm_it F p R) := by
  intro p
  induction p with
  | zero => exact hR
  | succ p ih => exact hP _ ih
/-! the sets that no touching edge leaves -/
def dm_cls (U : Nat → Nat) (D : Nat) : Prop := ∀ a b, a < 7 → b < 7 → D.testBit a = true → U a &&& U b ≠ 0 → D.testBit b = true
def dm_lst (U : Nat → Nat) (r C : Nat) : Prop := C < 128 ∧ dm_cls U C ∧ C.testBit r = true ∧ ∀ D, D < 128 → dm_cls U D → D.testBit r = true → dm_sub C D
theorem dm_lst_u {U : Nat → Nat} {r C D : Nat} (h1 : dm_lst U r C) (h2 : dm_lst U r D) : C = D :=
  dm_antis (h1.2.2.2 D h2.1 h2.2.1 h2.2.2.1) (h2.2.2.2 C h1.1 h1.2.1 h1.2.2.1)
theorem dm_and_ne {s t : Nat} : s &&& t ≠ 0 ↔ ∃ c, s.testBit c = true ∧ t.testBit c = true := by
  constructor
  · intro h
    apply Classical.byContradiction
    intro hn
    apply h
    apply Nat.eq_of_testBit_eq
    intro i
    rw [Nat.testBit_and, Nat.zero_testBit]
    cases h1 : s.testBit i <;> cases h2 : t.testBit i
    · rfl
    · rfl
    · rfl
    · exact absurd ⟨i, h1, h2⟩ hn
  · rintro ⟨c, h1, h2⟩ e
    have h3 : (s &&& t).testBit c = true := by
      rw [Nat.testBit_and, h1, h2]
      rfl
    rw [e, Nat.zero_testBit] at h3
    exact absurd h3 (by decide)
theorem dm_ne0 {s : Nat} : s ≠ 0 ↔ ∃ c, s.testBit c = true := by
  have h := dm_and_ne (s := s) (t := s)
  rw [Nat.and_self] at h
  rw [h]
  exact ⟨fun ⟨c, h, _⟩ => ⟨c, h⟩, fun ⟨c, h⟩ => ⟨c, h, h⟩⟩
/-! the component: rows R, and the columns of row r and of the rows in R -/
def dm_cu (U : Nat → Nat) (r R : Nat) : Nat → Nat
  | 0 => U r
  | a + 1 => if R.testBit a = true then dm_cu U r R a ||| U a else dm_cu U r R a
theorem dm_cu_bit (U : Nat → Nat) (r R c : Nat) : ∀ n, (dm_cu U r R n).testBit c = true ↔ ((U r).testBit c = true ∨ ∃ a, a < n ∧ R.testBit a = true ∧ (U a).testBit c = true) := by
  intro n
  induction n with
  | zero => exact ⟨fun h => Or.inl h, fun h => h.elim id (fun ⟨a, ha, _⟩ => absurd ha (by omega))⟩
  | succ n ih =>
    have e : dm_cu U r R (n + 1) = if R.testBit n = true then dm_cu U r R n ||| U n else dm_cu U r R n := rfl
    by_cases h : R.testBit n = true
    · rw [e, if_pos h, Nat.testBit_or, Bool.or_eq_true, ih]
      constructor
      · rintro ((z | ⟨a, ha, z1, z2⟩) | z)
        · exact Or.inl z
        · exact Or.inr ⟨a, by omega, z1, z2⟩
        · exact Or.inr ⟨n, by omega, h, z⟩
      · rintro (z | ⟨a, ha, z1, z2⟩)
        · exact Or.inl (Or.inl z)
        · by_cases hn : a = n
          · subst hn
            exact Or.inr z2
          · exact Or.inl (Or.inr ⟨a, by omega, z1, z2⟩)
    · rw [e, if_neg h, ih]
      constructor
      · rintro (z | ⟨a, ha, z1, z2⟩)
        · exact Or.inl z
        · exact Or.inr ⟨a, by omega, z1, z2⟩
      · rintro (z | ⟨a, ha, z1, z2⟩)
        · exact Or.inl z
        · by_cases hn : a = n
          · subst hn
            exact absurd z1 h
          · exact Or.inr ⟨a, by omega, z1, z2⟩
theorem dm_cu_lt {U : Nat → Nat} (hU : ∀ k, k < 7 → U k < 128) {r R : Nat} (hr : r < 7) : ∀ n, n ≤ 7 → dm_cu U r R n < 128 := by
  intro n
  induction n with
  | zero => exact fun _ => hU r hr
  | succ n ih =>
    intro hn
    have e : dm_cu U r R (n + 1) = if R.testBit n = true then dm_cu U r R n ||| U n else dm_cu U r R n := rfl
    by_cases h : R.testBit n = true
    · rw [e, if_pos h]
      exact dm_or_lt (ih (by omega)) (hU n (by omega))
    · rw [e, if_neg h]
      exact ih (by omega)
theorem dm_cu_0 (U : Nat → Nat) (r : Nat) : dm_cu U r 0 7 = U r := by
  apply dm_antis
  · intro c h
    rw [dm_cu_bit] at h
    rcases h with h | ⟨a, _, h, _⟩
    · exact h
    · rw [Nat.zero_testBit] at h
      exact absurd h (by decide)
  · intro c h
    rw [dm_cu_bit]
    exact Or.inl h
theorem dm_cu_or (U : Nat → Nat) (r R : Nat) {o : Nat} (ho : o < 7) : dm_cu U r (R ||| 2 ^ o) 7 = dm_cu U r R 7 ||| U o := by
  apply dm_antis
  · intro c h
    rw [Nat.testBit_or, Bool.or_eq_true, dm_cu_bit]
    rw [dm_cu_bit] at h
    rcases h with h | ⟨a, ha, h1, h2⟩
    · exact Or.inl (Or.inl h)
    · rw [Nat.testBit_or, Bool.or_eq_true, Nat.testBit_two_pow, decide_eq_true_eq] at h1
      rcases h1 with h1 | h1
      · exact Or.inl (Or.inr ⟨a, ha, h1, h2⟩)
      · subst h1
        exact Or.inr h2
  · intro c h
    rw [Nat.testBit_or, Bool.or_eq_true, dm_cu_bit] at h
    rw [dm_cu_bit]
    rcases h with (h | ⟨a, ha, h1, h2⟩) | h
    · exact Or.inl h
    · exact Or.inr ⟨a, ha, by rw [Nat.testBit_or, h1]; rfl, h2⟩
    · refine Or.inr ⟨o, ho, ?_, h⟩
      rw [Nat.testBit_or, Nat.testBit_two_pow_self, Bool.or_true]
def dm_xs (U : Nat → Nat) (r : Nat) : Nat → Nat → Nat := fun o R => if U o &&& dm_cu U r R 7 ≠ 0 then R ||| 2 ^ o else R
def dm_xr (U : Nat → Nat) (r : Nat) : Nat := dm_it (dm_ps (dm_xs U r) 7) 7 0
theorem dm_st_in {c : Prop} [Decidable c] {R o : Nat} (ho : o < 7) (hR : R < 128) : (if c then R ||| 2 ^ o else R) < 128 ∧ dm_sub R (if c then R ||| 2 ^ o else R) := by
  by_cases h : c
  · rw [if_pos h]
    exact ⟨dm_or_lt hR (dm_p2 ho), fun d hd => by rw [Nat.testBit_or, hd]; rfl⟩
  · rw [if_neg h]
    exact ⟨hR, dm_sub_r R⟩
theorem dm_st_fix {c : Prop} [Decidable c] {R o : Nat} (h : (if c then R ||| 2 ^ o else R) = R) (hc : c) : R.testBit o = true := by
  rw [if_pos hc] at h
  rw [← h, Nat.testBit_or, Nat.testBit_two_pow_self, Bool.or_true]
theorem dm_st_sub {c : Prop} [Decidable c] {R o D : Nat} (hR : dm_sub R D) (h : c → D.testBit o = true) : dm_sub (if c then R ||| 2 ^ o else R) D := by
  by_cases hc : c
  · rw [if_pos hc]
    intro d hd
    rw [Nat.testBit_or, Bool.or_eq_true, Nat.testBit_two_pow, decide_eq_true_eq] at hd
    rcases hd with hd | hd
    · exact hR d hd
    · subst hd
      exact h hc
  · rw [if_neg hc]
    exact hR
theorem dm_xs_in (U : Nat → Nat) (r : Nat) : ∀ o R, o < 7 → R < 128 → dm_xs U r o R < 128 ∧ dm_sub R (dm_xs U r o R) := fun _ _ ho hR => dm_st_in ho hR
theorem dm_xr_lt (U : Nat → Nat) (r : Nat) : dm_xr U r < 128 :=
  dm_it_lt (fun R h => (dm_ps_in (dm_xs_in U r) h 7 (Nat.le_refl 7)).1) (by decide) 7
theorem dm_xr_lst {U : Nat → Nat} (hU : ∀ k, k < 7 → U k < 128) {r : Nat} (hr : r < 7) (h0 : U r ≠ 0) : dm_lst U r (dm_xr U r) := by
  have hl := dm_xr_lt U r
  have hfix := dm_ps_fix (dm_xs_in U r) hl (dm_it_fix (fun R h => dm_ps_in (dm_xs_in U r) h 7 (Nat.le_refl 7)) (by decide : (0 : Nat) < 128))
  have hcl : ∀ o, o < 7 → U o &&& dm_cu U r (dm_xr U r) 7 ≠ 0 → (dm_xr U r).testBit o = true := fun o ho hne => dm_st_fix (hfix o ho) hne
  refine ⟨hl, ?_, ?_, ?_⟩
  · intro a b ha hb hab hne
    apply hcl b hb
    rw [dm_and_ne] at hne ⊢
    obtain ⟨c, h1, h2⟩ := hne
    refine ⟨c, h2, ?_⟩
    rw [dm_cu_bit]
    exact Or.inr ⟨a, ha, hab, h1⟩
  · apply hcl r hr
    rw [dm_and_ne]
    obtain ⟨c, hc⟩ := dm_ne0.1 h0
    refine ⟨c, hc, ?_⟩
    rw [dm_cu_bit]
    exact Or.inl hc
  · intro D hD hcD hrD
    refine dm_it_in2 (P := fun R => dm_sub R D) (fun R hR => dm_ps_in2 (P := fun R => dm_sub R D) (n := 7) (fun o R ho hR => dm_st_sub hR ?_) hR 7 (Nat.le_refl 7)) ?_ 7
    · intro hne
      rw [dm_and_ne] at hne
      obtain ⟨c, h1, h2⟩ := hne
      rw [dm_cu_bit] at h2
      rcases h2 with h2 | ⟨a, ha, h3, h4⟩
      · exact hcD r o hr ho hrD (dm_and_ne.2 ⟨c, h2, h1⟩)
      · exact hcD a o ha ho (hR a h3) (dm_and_ne.2 ⟨c, h4, h1⟩)
    · intro c hc
      rw [Nat.zero_testBit] at hc
      exact absurd hc (by decide)
theorem dm_xr_0 {U : Nat → Nat} {r : Nat} (h0 : U r = 0) : dm_xr U r = 0 := by
  refine dm_it_in2 (P := fun R => R = 0) (fun R hR => dm_ps_in2 (P := fun R => R = 0) (n := 7) (fun o R ho hR => ?_) hR 7 (Nat.le_refl 7)) rfl 7
  have hR' : R = 0 := hR
  subst hR'
  show (if U o &&& dm_cu U r 0 7 ≠ 0 then 0 ||| 2 ^ o else 0) = 0
  rw [dm_cu_0, h0, Nat.and_zero, if_neg (fun h => h rfl)]
/-! the reference: pairs of rows -/
def dm_ys (U : Nat → Nat) : Nat → Nat → Nat := fun q R => if R.testBit (q / 7) = true ∧ U (q / 7) &&& U (q % 7) ≠ 0 then R ||| 2 ^ (q % 7) else R
def dm_yr (U : Nat → Nat) (r : Nat) : Nat := dm_it (dm_ps (dm_ys U) 49) 7 (2 ^ r)
theorem dm_ys_in (U : Nat → Nat) : ∀ q R, q < 49 → R < 128 → dm_ys U q R < 128 ∧ dm_sub R (dm_ys U q R) := fun _ _ _ hR => dm_st_in (by omega) hR
theorem dm_yr_lt (U : Nat → Nat) {r : Nat} (hr : r < 7) : dm_yr U r < 128 :=
  dm_it_lt (fun R h => (dm_ps_in (dm_ys_in U) h 49 (Nat.le_refl 49)).1) (dm_p2 hr) 7
theorem dm_yr_lst {U : Nat → Nat} {r : Nat} (hr : r < 7) : dm_lst U r (dm_yr U r) := by
  have hl := dm_yr_lt U hr
  have hfix := dm_ps_fix (dm_ys_in U) hl (dm_it_fix (fun R h => dm_ps_in (dm_ys_in U) h 49 (Nat.le_refl 49)) (dm_p2 hr))
  refine ⟨hl, ?_, ?_, ?_⟩
  · intro a b ha hb hab hne
    have h1 := hfix (7 * a + b) (by omega)
    have e1 : (7 * a + b) / 7 = a := by omega
    have e2 : (7 * a + b) % 7 = b := by omega
    unfold dm_ys at h1
    rw [e1, e2] at h1
    exact dm_st_fix h1 ⟨hab, hne⟩
  · refine dm_it_in2 (P := fun R => R.testBit r = true) (fun R hR => dm_ps_in2 (P := fun R => R.testBit r = true) (n := 49) (fun q R hq hR => ?_) hR 49 (Nat.le_refl 49)) Nat.testBit_two_pow_self 7
    have hR' : R.testBit r = true := hR
    show (if R.testBit (q / 7) = true ∧ U (q / 7) &&& U (q % 7) ≠ 0 then R ||| 2 ^ (q % 7) else R).testBit r = true
    by_cases h : R.testBit (q / 7) = true ∧ U (q / 7) &&& U (q % 7) ≠ 0
    · rw [if_pos h, Nat.testBit_or, hR']
      rfl
    · rw [if_neg h]
      exact hR'
  · intro D hD hcD hrD
    refine dm_it_in2 (P := fun R => dm_sub R D) (fun R hR => dm_ps_in2 (P := fun R => dm_sub R D) (n := 49) (fun q R hq hR => dm_st_sub hR ?_) hR 49 (Nat.le_refl 49)) ?_ 7
    · intro h
      exact hcD (q / 7) (q % 7) (by omega) (by omega) (hR _ h.1) h.2
    · intro c hc
      rw [Nat.testBit_two_pow, decide_eq_true_eq] at hc
      subst hc
      exact hrD
theorem dm_xy {U : Nat → Nat} (hU : ∀ k, k < 7 → U k < 128) {r : Nat} (hr : r < 7) (h0 : U r ≠ 0) : dm_xr U r = dm_yr U r := dm_lst_u (dm_xr_lst hU hr h0) (dm_yr_lst hr)
/-! one block holds two rows from both sides -/
theorem dm_yr_sym {U : Nat → Nat} {a b : Nat} (ha : a < 7) (hb : b < 7) (h : (dm_yr U a).testBit b = true) : (dm_yr U b).testBit a = true := by
  cases hh : (dm_yr U b).testBit a with
  | true => rfl
  | false =>
    have hA := dm_yr_lst (U := U) ha
    have hB := dm_yr_lst (U := U) hb
    have hcl : dm_cls U (127 ^^^ dm_yr U b) := by
      intro c d hc hd h1 h2
      rw [Nat.testBit_xor, dm_b127 c hc] at h1
      rw [Nat.testBit_xor, dm_b127 d hd]
      cases h3 : (dm_yr U b).testBit d with
      | false => rfl
      | true =>
        have h4 := hB.2.1 d c hd hc h3 (by rw [Nat.and_comm]; exact h2)
        rw [h4] at h1
        exact absurd h1 (by decide)
    have h5 := hA.2.2.2 (127 ^^^ dm_yr U b) (Nat.xor_lt_two_pow (n := 7) (by decide) hB.1) hcl (by rw [Nat.testBit_xor, dm_b127 a ha, hh]; rfl) b h
    rw [Nat.testBit_xor, dm_b127 b hb, hB.2.2.1] at h5
    exact absurd h5 (by decide)
theorem dm_yr_tr {U : Nat → Nat} {a b c : Nat} (ha : a < 7) (hb : b < 7) (h : (dm_yr U a).testBit b = true) (h2 : (dm_yr U b).testBit c = true) : (dm_yr U a).testBit c = true := by
  have hA := dm_yr_lst (U := U) ha
  exact (dm_yr_lst (U := U) hb).2.2.2 _ hA.1 hA.2.1 h c h2
/-! a row with edges has only rows with edges in its block -/
theorem dm_yr_ne {U : Nat → Nat} {a b : Nat} (ha : a < 7) (hb : b < 7) (h0 : U a ≠ 0) (h : (dm_yr U a).testBit b = true) : U b ≠ 0 := by
  intro hz
  have hA := dm_yr_sym ha hb h
  have hB := dm_yr_lst (U := U) hb
  have hcl : dm_cls U (2 ^ b) := by
    intro c d hc hd h1 h2
    rw [Nat.testBit_two_pow, decide_eq_true_eq] at h1
    subst h1
    rw [hz, Nat.zero_and] at h2
    exact absurd rfl h2
  have h3 := hB.2.2.2 (2 ^ b) (dm_p2 hb) hcl Nat.testBit_two_pow_self a hA
  rw [Nat.testBit_two_pow, decide_eq_true_eq] at h3
  subst h3
  exact h0 hz
/-! the blocks, counted -/
def dm_sn (U : Nat → Nat) : Nat → Nat
  | 0 => 0
  | r + 1 => if U r ≠ 0 ∧ (dm_sn U r).testBit r = false then dm_sn U r ||| dm_xr U r else dm_sn U r
theorem dm_sn_s (U : Nat → Nat) (r : Nat) : dm_sn U (r + 1) = if U r ≠ 0 ∧ (dm_sn U r).testBit r = false then dm_sn U r ||| dm_xr U r else dm_sn U r := rfl
theorem dm_sn_lt (U : Nat → Nat) : ∀ n, dm_sn U n < 128 := by
  intro n
  induction n with
  | zero => exact (by decide : (0 : Nat) < 128)
  | succ n ih =>
    by_cases h : U n ≠ 0 ∧ (dm_sn U n).testBit n = false
    · rw [dm_sn_s, if_pos h]
      exact dm_or_lt ih (dm_xr_lt U n)
    · rw [dm_sn_s, if_neg h]
      exact ih
theorem dm_sn_bit {U : Nat → Nat} (hU : ∀ k, k < 7 → U k < 128) : ∀ n, n ≤ 7 → ∀ b, b < 7 → ((dm_sn U n).testBit b = true ↔ ∃ a, a < n ∧ U a ≠ 0 ∧ (dm_yr U a).testBit b = true) := by
  intro n
  induction n with
  | zero =>
    intro _ b _
    have e : dm_sn U 0 = 0 := rfl
    rw [e, Nat.zero_testBit]
    exact ⟨fun h => absurd h (by decide), fun ⟨a, ha, _⟩ => absurd ha (by omega)⟩
  | succ n ih =>
    intro hn b hb
    have ih' := ih (by omega)
    by_cases h : U n ≠ 0 ∧ (dm_sn U n).testBit n = false
    · rw [dm_sn_s, if_pos h, Nat.testBit_or, Bool.or_eq_true, ih' b hb, dm_xy hU (by omega) h.1]
      constructor
      · rintro (⟨a, ha, z⟩ | z)
        · exact ⟨a, by omega, z⟩
        · exact ⟨n, by omega, h.1, z⟩
      · rintro ⟨a, ha, z1, z2⟩
        by_cases hn2 : a = n
        · subst hn2
          exact Or.inr z2
        · exact Or.inl ⟨a, by omega, z1, z2⟩
    · rw [dm_sn_s, if_neg h, ih' b hb]
      constructor
      · exact fun ⟨a, ha, z⟩ => ⟨a, by omega, z⟩
      · rintro ⟨a, ha, z1, z2⟩
        by_cases hn2 : a = n
        · subst hn2
          have hs : (dm_sn U a).testBit a = true := by
            cases hh : (dm_sn U a).testBit a with
            | true => rfl
            | false => exact absurd ⟨z1, hh⟩ h
          rw [ih' a (by omega)] at hs
          obtain ⟨a', ha', y1, y2⟩ := hs
          exact ⟨a', ha', y1, dm_yr_tr (by omega) (by omega) y2 z2⟩
        · exact ⟨a, by omega, z1, z2⟩
theorem dm_low (s r : Nat) : s &&& (2 ^ r - 1) ≠ 0 ↔ ∃ a, a < r ∧ s.testBit a = true := by
  rw [dm_and_ne]
  constructor
  · rintro ⟨c, h1, h2⟩
    rw [Nat.testBit_two_pow_sub_one, decide_eq_true_eq] at h2
    exact ⟨c, h2, h1⟩
  · rintro ⟨a, ha, h⟩
    refine ⟨a, h, ?_⟩
    rw [Nat.testBit_two_pow_sub_one, decide_eq_true_eq]
    exact ha
theorem dm_blk {U : Nat → Nat} (hU : ∀ k, k < 7 → U k < 128) {r : Nat} (hr : r < 7) : (U r ≠ 0 ∧ (dm_sn U r).testBit r = false) ↔ (U r ≠ 0 ∧ dm_yr U r &&& (2 ^ r - 1) = 0) := by
  have key : U r ≠ 0 → ((dm_sn U r).testBit r = true ↔ dm_yr U r &&& (2 ^ r - 1) ≠ 0) := by
    intro h0
    rw [dm_sn_bit hU r (by omega) r hr, dm_low]
    constructor
    · exact fun ⟨a, ha, _, z⟩ => ⟨a, ha, dm_yr_sym (by omega) hr z⟩
    · exact fun ⟨a, ha, z⟩ => ⟨a, ha, dm_yr_ne hr (by omega) h0 z, dm_yr_sym hr (by omega) z⟩
  constructor
  · rintro ⟨h0, h1⟩
    refine ⟨h0, Classical.byContradiction fun z => ?_⟩
    rw [(key h0).2 z] at h1
    exact absurd h1 (by decide)
  · rintro ⟨h0, h1⟩
    refine ⟨h0, ?_⟩
    cases hh : (dm_sn U r).testBit r with
    | false => rfl
    | true => exact absurd h1 ((key h0).1 hh)
