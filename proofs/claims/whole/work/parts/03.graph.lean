/-! the edges that the two sides look at. The reference: without a row, a column, an edge (7: without none) -/
def dm_wo (g : Nat → Nat) (w h r c : Nat) : Nat → Nat := fun k =>
  if k = w ∨ 7 ≤ k then 0 else if k = r then dm_an (dm_an (g k) h) c else dm_an (g k) h
def dm_xe (g : Nat → Nat) (R : Nat) : Nat → Nat := fun k => if R.testBit k = true then g k else 0
theorem dm_wo_bit (g : Nat → Nat) (w h r c k : Nat) {d : Nat} (hd : d < 7) :
    (dm_wo g w h r c k).testBit d = true ↔ (k ≠ w ∧ k < 7 ∧ (g k).testBit d = true ∧ h ≠ d ∧ (k = r → c ≠ d)) := by
  unfold dm_wo
  by_cases hk : k = w ∨ 7 ≤ k
  · rw [if_pos hk, Nat.zero_testBit]
    constructor
    · exact fun z => absurd z (by decide)
    · intro z
      rcases hk with hk | hk
      · exact absurd hk z.1
      · exact absurd z.2.1 (by omega)
  · rw [if_neg hk]
    have h1 : k ≠ w := fun e => hk (Or.inl e)
    have h2 : k < 7 := by omega
    by_cases hr : k = r
    · rw [if_pos hr, dm_an_bit hd, dm_an_bit hd, Bool.and_eq_true, Bool.and_eq_true, decide_eq_true_eq, decide_eq_true_eq]
      exact ⟨fun z => ⟨h1, h2, z.1.1, z.1.2, fun _ => z.2⟩, fun z => ⟨⟨z.2.2.1, z.2.2.2.1⟩, z.2.2.2.2 hr⟩⟩
    · rw [if_neg hr, dm_an_bit hd, Bool.and_eq_true, decide_eq_true_eq]
      exact ⟨fun z => ⟨h1, h2, z.1, z.2, fun e => absurd e hr⟩, fun z => ⟨z.2.2.1, z.2.2.2.1⟩⟩
theorem dm_xe_bit (g : Nat → Nat) (R k d : Nat) : (dm_xe g R k).testBit d = true ↔ (R.testBit k = true ∧ (g k).testBit d = true) := by
  unfold dm_xe
  by_cases h : R.testBit k = true
  · rw [if_pos h]
    exact ⟨fun z => ⟨h, z⟩, fun z => z.2⟩
  · rw [if_neg h, Nat.zero_testBit]
    exact ⟨fun z => absurd z (by decide), fun z => absurd z.1 h⟩
theorem dm_bool {a b : Bool} (h : a = true ↔ b = true) : a = b := by
  cases a <;> cases b <;> simp_all
def dm_L (g : Nat → Nat) : Nat := dm_nu (dm_wo g 7 7 7 7)
def dm_R (g : Nat → Nat) (r : Nat) : Nat := dm_nu (dm_wo g r 7 7 7)
def dm_C (g : Nat → Nat) (c : Nat) : Nat := dm_nu (dm_wo g 7 c 7 7)
def dm_RC (g : Nat → Nat) (r c : Nat) : Nat := dm_nu (dm_wo g r c 7 7)
def dm_Ed (g : Nat → Nat) (r c : Nat) : Nat := dm_nu (dm_wo g 7 7 r c)
theorem dm_b127i {k : Nat} : (127 : Nat).testBit k = true ↔ k < 7 := ⟨fun h => dm_bit_lt (by decide) h, fun h => dm_b127 k h⟩
theorem dm_b127x {k r : Nat} : (dm_x 127 r).testBit k = true → k < 7 → k ≠ r := by
  intro h hk e
  subst e
  rw [dm_x_self, dm_b127 k hk] at h
  exact absurd h (by decide)
theorem dm_b127y {k r : Nat} (hk : k < 7) (h : k ≠ r) : (dm_x 127 r).testBit k = true := by
  rw [dm_x_ne (Ne.symm h)]
  exact dm_b127 k hk
theorem dm_s1 (g : Nat → Nat) : dm_f (dm_xe g 127) 7 127 = dm_L g := by
  show dm_nu (dm_xe g 127) = dm_nu (dm_wo g 7 7 7 7)
  apply dm_nu_congr
  intro j hj c hc
  apply dm_bool
  rw [dm_xe_bit, dm_wo_bit _ _ _ _ _ _ hc]
  exact ⟨fun z => ⟨by omega, hj, z.2, by omega, fun e => absurd e (by omega)⟩, fun z => ⟨dm_b127 j hj, z.2.2.1⟩⟩
theorem dm_s2 (g : Nat → Nat) (r : Nat) : dm_f (dm_xe g (dm_x 127 r)) 7 127 = dm_R g r := by
  show dm_nu (dm_xe g (dm_x 127 r)) = dm_nu (dm_wo g r 7 7 7)
  apply dm_nu_congr
  intro j hj c hc
  apply dm_bool
  rw [dm_xe_bit, dm_wo_bit _ _ _ _ _ _ hc]
  exact ⟨fun z => ⟨dm_b127x z.1 hj, hj, z.2, by omega, fun e => absurd e (by omega)⟩, fun z => ⟨dm_b127y hj z.1, z.2.2.1⟩⟩
theorem dm_s3 (g : Nat → Nat) {c : Nat} (hc : c < 7) : dm_f (dm_xe g 127) 7 (dm_x 127 c) = dm_C g c := by
  apply dm_colf hc
  intro k d hd
  apply dm_bool
  rw [dm_wo_bit _ _ _ _ _ _ hd, Bool.and_eq_true, dm_xe_bit, decide_eq_true_eq, dm_b127i]
  exact ⟨fun z => ⟨⟨z.2.1, z.2.2.1⟩, z.2.2.2.1⟩, fun z => ⟨by omega, z.1.1, z.1.2, z.2, fun e => absurd e (by omega)⟩⟩
theorem dm_s4 (g : Nat → Nat) {r c : Nat} (hr : r < 7) (hc : c < 7) : dm_f (dm_xe g (dm_x 127 r)) 7 (dm_x 127 c) = dm_RC g r c := by
  apply dm_colf hc
  intro k d hd
  apply dm_bool
  rw [dm_wo_bit _ _ _ _ _ _ hd, Bool.and_eq_true, dm_xe_bit, decide_eq_true_eq]
  constructor
  · exact fun z => ⟨⟨dm_b127y z.2.1 z.1, z.2.2.1⟩, z.2.2.2.1⟩
  · intro z
    have hk : k < 7 := dm_bit_lt (dm_x_lt (by decide) hr) z.1.1
    exact ⟨dm_b127x z.1.1 hk, hk, z.1.2, z.2, fun e => absurd e (by omega)⟩
/-! forced edges -/
theorem dm_fne (g : Nat → Nat) (r c : Nat) : ∀ k, k ≠ r → ∀ d, d < 7 → (dm_wo g r 7 7 7 k).testBit d = (dm_wo g 7 7 r c k).testBit d := by
  intro k hk d hd
  apply dm_bool
  rw [dm_wo_bit _ _ _ _ _ _ hd, dm_wo_bit _ _ _ _ _ _ hd]
  exact ⟨fun z => ⟨by omega, z.2.1, z.2.2.1, by omega, fun e => absurd e hk⟩, fun z => ⟨hk, z.2.1, z.2.2.1, by omega, fun e => absurd e (by omega)⟩⟩
theorem dm_fnl (g : Nat → Nat) (r : Nat) : ∀ k, k ≠ r → ∀ d, d < 7 → (dm_wo g r 7 7 7 k).testBit d = (dm_wo g 7 7 7 7 k).testBit d := by
  intro k hk d hd
  apply dm_bool
  rw [dm_wo_bit _ _ _ _ _ _ hd, dm_wo_bit _ _ _ _ _ _ hd]
  exact ⟨fun z => ⟨by omega, z.2.1, z.2.2.1, by omega, fun e => absurd e (by omega)⟩, fun z => ⟨hk, z.2.1, z.2.2.1, by omega, fun e => absurd e (by omega)⟩⟩
theorem dm_f0 (g : Nat → Nat) (r : Nat) : ∀ d, d < 7 → (dm_wo g r 7 7 7 r).testBit d = false := by
  intro d hd
  cases h : (dm_wo g r 7 7 7 r).testBit d with
  | false => rfl
  | true => exact absurd rfl ((dm_wo_bit _ _ _ _ _ _ hd).1 h).1
theorem dm_fc (g : Nat → Nat) (r : Nat) : ∀ c, c < 7 → ∀ k d, d < 7 → (dm_wo g r c 7 7 k).testBit d = ((dm_wo g r 7 7 7 k).testBit d && decide (c ≠ d)) := by
  intro c hc k d hd
  apply dm_bool
  rw [Bool.and_eq_true, decide_eq_true_eq, dm_wo_bit _ _ _ _ _ _ hd, dm_wo_bit _ _ _ _ _ _ hd]
  exact ⟨fun z => ⟨⟨z.1, z.2.1, z.2.2.1, by omega, fun e => absurd e (by omega)⟩, z.2.2.2.1⟩, fun z => ⟨z.1.1, z.1.2.1, z.1.2.2.1, z.2, fun e => absurd e (by omega)⟩⟩
theorem dm_R_le (g : Nat → Nat) (r : Nat) : dm_R g r ≤ dm_L g := dm_up (dm_fnl g r) (dm_f0 g r)
theorem dm_RC_le (g : Nat → Nat) {r c : Nat} (hr : r < 7) (hc : c < 7) (hb : (g r).testBit c = true) : dm_RC g r c + 1 ≤ dm_L g :=
  dm_up1 hr hc (dm_fnl g r) (dm_f0 g r) (dm_fc g r c hc) ((dm_wo_bit _ _ _ _ _ _ hc).2 ⟨by omega, hr, hb, by omega, fun e => absurd e (by omega)⟩)
theorem dm_L_ex (g : Nat → Nat) {r : Nat} (hr : r < 7) (h : dm_R g r ≠ dm_L g) : ∃ c, c < 7 ∧ (g r).testBit c = true ∧ dm_RC g r c + 1 = dm_L g := by
  rcases dm_down hr (dm_fnl g r) (dm_f0 g r) (dm_fc g r) with e | ⟨c, hc, hb, e⟩
  · exact absurd e.symm h
  · exact ⟨c, hc, ((dm_wo_bit _ _ _ _ _ _ hc).1 hb).2.2.1, e.symm⟩
theorem dm_forced (g : Nat → Nat) {r c : Nat} (hr : r < 7) (hc : c < 7) :
    dm_Ed g r c < dm_L g ↔ (dm_R g r ≠ dm_L g ∧ ∀ c', c' < 7 → (g r).testBit c' = true → dm_RC g r c' + 1 = dm_L g → c' = c) := by
  constructor
  · intro h
    have h1 : dm_R g r ≤ dm_Ed g r c := dm_up (dm_fne g r c) (dm_f0 g r)
    refine ⟨by omega, fun c' hc' hb he => ?_⟩
    apply Classical.byContradiction
    intro hn
    have h2 : dm_RC g r c' + 1 ≤ dm_Ed g r c :=
      dm_up1 hr hc' (dm_fne g r c) (dm_f0 g r) (dm_fc g r c' hc') ((dm_wo_bit _ _ _ _ _ _ hc').2 ⟨by omega, hr, hb, by omega, fun _ => Ne.symm hn⟩)
    omega
  · intro h
    have h1 := dm_R_le g r
    have h1' := h.1
    rcases dm_down hr (dm_fne g r c) (dm_f0 g r) (dm_fc g r) with e | ⟨c', hc', hb, e⟩
    · have e' : dm_Ed g r c = dm_R g r := e
      omega
    · have e' : dm_Ed g r c = dm_RC g r c' + 1 := e
      have hb' := (dm_wo_bit _ _ _ _ _ _ hc').1 hb
      have h2 := dm_RC_le g hr hc' hb'.2.2.1
      have h3 : dm_RC g r c' + 1 ≠ dm_L g := fun z => hb'.2.2.2.2 rfl (h.2 c' hc' hb'.2.2.1 z).symm
      omega
/-! the answers as sets -/
def dm_us (g : Nat → Nat) (r : Nat) : Nat := dm_bs (fun c => (g r).testBit c && decide (dm_RC g r c + 1 = dm_L g)) 7
def dm_fo (g : Nat → Nat) (r : Nat) : Nat := dm_bs (fun c => (g r).testBit c && decide (dm_Ed g r c < dm_L g)) 7
theorem dm_us_lt (g : Nat → Nat) (r : Nat) : dm_us g r < 128 := dm_bs_lt _ 7 (by decide)
theorem dm_fo_lt (g : Nat → Nat) (r : Nat) : dm_fo g r < 128 := dm_bs_lt _ 7 (by decide)
theorem dm_us_bit (g : Nat → Nat) (r : Nat) {c : Nat} (hc : c < 7) : (dm_us g r).testBit c = true ↔ ((g r).testBit c = true ∧ dm_RC g r c + 1 = dm_L g) := by
  unfold dm_us
  rw [dm_bs_bit, Bool.and_eq_true, Bool.and_eq_true, decide_eq_true_eq, decide_eq_true_eq]
  exact ⟨fun z => z.2, fun z => ⟨hc, z⟩⟩
theorem dm_fo_bit (g : Nat → Nat) (r : Nat) {c : Nat} (hc : c < 7) : (dm_fo g r).testBit c = true ↔ ((g r).testBit c = true ∧ dm_Ed g r c < dm_L g) := by
  unfold dm_fo
  rw [dm_bs_bit, Bool.and_eq_true, Bool.and_eq_true, decide_eq_true_eq, decide_eq_true_eq]
  exact ⟨fun z => z.2, fun z => ⟨hc, z⟩⟩
theorem dm_fo_eq (g : Nat → Nat) {r : Nat} (hr : r < 7) : dm_fo g r = if dm_R g r = dm_L g then 0 else if dm_ct (dm_us g r) = 1 then dm_us g r else 0 := by
  have key : ∀ c, c < 7 → (dm_fo g r).testBit c = true → dm_R g r ≠ dm_L g ∧ dm_us g r = 2 ^ c := by
    intro c hc hb
    rw [dm_fo_bit g r hc, dm_forced g hr hc] at hb
    obtain ⟨h1, h2, h3⟩ := hb
    refine ⟨h2, ?_⟩
    obtain ⟨u, hu, hu1, hu2⟩ := dm_L_ex g hr h2
    have huc := h3 u hu hu1 hu2
    subst huc
    apply dm_ext (dm_us_lt g r) (dm_p2 hu)
    intro d hd
    apply dm_bool
    rw [dm_us_bit g r hd, Nat.testBit_two_pow, decide_eq_true_eq]
    constructor
    · exact fun z => (h3 d hd z.1 z.2).symm
    · intro z
      subst z
      exact ⟨hu1, hu2⟩
  have zero : (∀ c, c < 7 → (dm_fo g r).testBit c = true → False) → dm_fo g r = 0 := by
    intro h
    apply dm_ext (dm_fo_lt g r) (by decide)
    intro d hd
    rw [Nat.zero_testBit]
    cases hh : (dm_fo g r).testBit d with
    | false => rfl
    | true => exact absurd hh (fun z => h d hd z)
  by_cases h1 : dm_R g r = dm_L g
  · rw [if_pos h1]
    exact zero (fun c hc hb => (key c hc hb).1 h1)
  · rw [if_neg h1]
    by_cases h2 : dm_ct (dm_us g r) = 1
    · rw [if_pos h2]
      obtain ⟨u, hu, e⟩ := dm_one _ (dm_us_lt g r) h2
      have hbu : (dm_us g r).testBit u = true := by
        rw [e]
        exact Nat.testBit_two_pow_self
      rw [dm_us_bit g r hu] at hbu
      have hall : ∀ c', c' < 7 → (g r).testBit c' = true → dm_RC g r c' + 1 = dm_L g → c' = u := by
        intro c' hc' a b
        have z := (dm_us_bit g r hc').2 ⟨a, b⟩
        rw [e, Nat.testBit_two_pow, decide_eq_true_eq] at z
        exact z.symm
      apply dm_ext (dm_fo_lt g r) (dm_us_lt g r)
      intro d hd
      apply dm_bool
      constructor
      · intro z
        rw [(key d hd z).2]
        exact Nat.testBit_two_pow_self
      · intro z
        rw [dm_us_bit g r hd] at z
        have hdu := hall d hd z.1 z.2
        subst hdu
        rw [dm_fo_bit g r hd, dm_forced g hr hd]
        exact ⟨z.1, h1, hall⟩
    · rw [if_neg h2]
      apply zero
      intro c hc hb
      apply h2
      rw [(key c hc hb).2]
      exact dm_ct_p c hc
